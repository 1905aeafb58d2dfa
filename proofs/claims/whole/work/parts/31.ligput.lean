theorem gd_lup {lg : Nat → Nat} {i : Nat} {x : Int32} (h : -1 ≤ x.toInt ∧ x.toInt ≤ 9) : upd (gd_lI lg) i x = gd_lI (gd_un lg i (if x.toInt < 0 then 10 else x.toInt.toNat)) := by
  funext j
  by_cases e : j = i
  · rw [e, pk_us, gd_lI, gd_un, if_pos rfl]
    by_cases z : x.toInt < 0
    · rw [if_pos z, if_neg (by omega)]
      apply Int32.toInt_inj.mp
      rw [show (-1 : Int32).toInt = -1 from by decide]
      omega
    · rw [if_neg z, if_pos (by omega)]
      exact wi_n (by omega)
  · rw [pk_un e, gd_lI, gd_lI, gd_un, if_neg e]
theorem wi_sub1 {x : Int32} (h : -10000 ≤ x.toInt) : (x - 1).toInt = x.toInt - 1 := by
  have := x.toInt_lt
  rw [Int32.toInt_sub, show (1 : Int32).toInt = 1 from by decide]
  exact Int.bmod_eq_of_le (by omega) (by omega)
theorem wi_add1 {x : Int32} (h : -10000 ≤ x.toInt ∧ x.toInt ≤ 10000) : (x + 1).toInt = x.toInt + 1 := by
  rw [Int32.toInt_add, show (1 : Int32).toInt = 1 from by decide]
  exact Int.bmod_eq_of_le (by omega) (by omega)
theorem i_vc_ligature {k : Nat} {u : SX} {v : SY} (I : i_Rel k u v) (hk : k + 5 ≤ 2560) (v1 : Int32) (v2 : Int32) (v3 : Int32) : wpX_ligature (fun r u' => wpY_ligature (fun r' v' => r' = r ∧ i_Rel (k + 5) u' v') v v1 v2 v3) u v1 v2 v3 := by
  refine rl_elim (Q := fun u v => wpX_ligature (fun r u' => wpY_ligature (fun r' v' => r' = r ∧ i_Rel (k + 5) u' v') v v1 v2 v3) u v1 v2 v3) I ?_
  intro n lc pc fw rw fl sw ss sk ba hyc ph t w lg kn P pa pb pq pd x_breakCount x_lineCount x_paragraphCount x_stale a_heads a_glyphs a_breakEnd a_breakNext a_breakHyphen a_breakTaken a_wayDemerits a_wayBefore a_lineFacts a_paragraphDemerits y_ready y_glyphCount y_breaks y_natural y_spaces y_lineCount y_paragraphs b_patA b_patB b_patC b_patDigits b_glyphs b_glyphOf b_bEnd b_bNext b_bHyphen b_least b_before b_way b_lFrom b_lTo b_lNumber b_lParagraph b_lPage b_lHyphen b_lLast b_best B
  have B' : i_Rel (k + 5) ((nI n), (nI lc), (nI pc), (nI fw), (nI rw), (nI fl), (nI sw), (nI ss), (nI sk), (nI ba), (nI hyc), (nI ph), x_breakCount, x_lineCount, x_paragraphCount, x_stale, (gd_tI t), (gd_tI w), (gd_lI lg), (gd_kI kn), (gd_tI P), a_heads, a_glyphs, a_breakEnd, a_breakNext, a_breakHyphen, a_breakTaken, a_wayDemerits, a_wayBefore, a_lineFacts, a_paragraphDemerits) ((nI n), (nI lc), (nI pc), (nI fw), (nI rw), (nI fl), (nI sw), (nI ss), (nI sk), (nI ba), (nI hyc), (nI ph), y_ready, y_glyphCount, y_breaks, y_natural, y_spaces, y_lineCount, y_paragraphs, (gd_tI t), (gd_tI w), (gd_lI lg), (gd_kI kn), b_patA, b_patB, b_patC, b_patDigits, b_glyphs, b_glyphOf, b_bEnd, b_bNext, b_bHyphen, b_least, b_before, b_way, b_lFrom, b_lTo, b_lNumber, b_lParagraph, b_lPage, b_lHyphen, b_lLast, b_best) := rl_ok B (by omega)
  obtain ⟨C, L, R, F⟩ := B
  unfold wpX_ligature
  have no : ¬ ((0 ≤ v1.toInt ∧ v1.toInt ≤ 9 ∧ 0 ≤ v2.toInt ∧ v2.toInt ≤ 9) ∧ (-1 ≤ v3.toInt ∧ v3.toInt ≤ 9)) → wpY_ligature (fun r' v' => r' = 0 ∧ i_Rel (k + 5) ((nI n), (nI lc), (nI pc), (nI fw), (nI rw), (nI fl), (nI sw), (nI ss), (nI sk), (nI ba), (nI hyc), (nI ph), x_breakCount, x_lineCount, x_paragraphCount, x_stale, (gd_tI t), (gd_tI w), (gd_lI lg), (gd_kI kn), (gd_tI P), a_heads, a_glyphs, a_breakEnd, a_breakNext, a_breakHyphen, a_breakTaken, a_wayDemerits, a_wayBefore, a_lineFacts, a_paragraphDemerits) v') ((nI n), (nI lc), (nI pc), (nI fw), (nI rw), (nI fl), (nI sw), (nI ss), (nI sk), (nI ba), (nI hyc), (nI ph), y_ready, y_glyphCount, y_breaks, y_natural, y_spaces, y_lineCount, y_paragraphs, (gd_tI t), (gd_tI w), (gd_lI lg), (gd_kI kn), b_patA, b_patB, b_patC, b_patDigits, b_glyphs, b_glyphOf, b_bEnd, b_bNext, b_bHyphen, b_least, b_before, b_way, b_lFrom, b_lTo, b_lNumber, b_lParagraph, b_lPage, b_lHyphen, b_lLast, b_best) v1 v2 v3 := by
    intro h
    unfold wpY_ligature
    refine wy_let (gd_bt (fun z => ⟨rfl, B'⟩) (fun z => wy_let (gd_bt (fun z2 => ⟨rfl, B'⟩) (fun z2 => ?_))))
    have z := of_decide_eq_true z
    have z2 := of_decide_eq_true z2
    exact wi_lt (-1) (fun y => ⟨rfl, B'⟩) (fun y => wi_le 9 (fun y2 => absurd ⟨⟨z.1, z.2, z2⟩, y, y2⟩ h) (fun y2 => ⟨rfl, B'⟩))
  refine wx_pair (gd_bt (fun z => no (fun h => (of_decide_eq_false z) h.1)) (fun z => ?_))
  refine wx_in (-1) 9 (gd_bt (fun z2 => no (fun h => (of_decide_eq_false z2) h.2)) (fun z2 => ?_))
  have z := of_decide_eq_true z
  have z2 := of_decide_eq_true z2
  clear no
  obtain ⟨a, rfl, a1, a2, a3⟩ := wi_c ⟨z.1, z.2.1⟩ (Int.le_refl 0)
  obtain ⟨b, rfl, b1, b2, b3⟩ := wi_c z.2.2 (Int.le_refl 0)
  have ix : nI a * 10 + nI b = nI (10 * a + b) := by rw [show (10 : Int32) = nI 10 from rfl, pk_mul, nI_add, Nat.mul_comm]
  have iy : 10 * nI a + nI b = nI (10 * a + b) := by rw [show (10 : Int32) = nI 10 from rfl, pk_mul, nI_add]
  refine nm_r ix ⟨vp_in_nI (by omega) (by omega), ?_⟩
  have hrd : gd_lI lg (nI (10 * a + b)).toNatClampNeg = gd_lI lg (10 * a + b) := by rw [nI_clamp (by omega)]
  have L1 := wi_sub1 (x := nI lc) (by omega)
  -- both sides with the number of the others
  have key : ∀ o zy : Int32, nI lc - zy = o → o.toInt ≤ 8 → -(k : Int) - 1 ≤ o.toInt →
      (∀ Q : Int32 → SY → Prop, wY_ligature_52 Q (nI a) (nI b) v3 zy (nI lc) (nI n) (nI lc) (nI pc) (nI fw) (nI rw) (nI fl) (nI sw) (nI ss) (nI sk) (nI ba) (nI hyc) (nI ph) y_ready y_glyphCount y_breaks y_natural y_spaces y_lineCount y_paragraphs (gd_tI t) (gd_tI w) (gd_lI lg) (gd_kI kn) b_patA b_patB b_patC b_patDigits b_glyphs b_glyphOf b_bEnd b_bNext b_bHyphen b_least b_before b_way b_lFrom b_lTo b_lNumber b_lParagraph b_lPage b_lHyphen b_lLast b_best → wpY_ligature Q ((nI n), (nI lc), (nI pc), (nI fw), (nI rw), (nI fl), (nI sw), (nI ss), (nI sk), (nI ba), (nI hyc), (nI ph), y_ready, y_glyphCount, y_breaks, y_natural, y_spaces, y_lineCount, y_paragraphs, (gd_tI t), (gd_tI w), (gd_lI lg), (gd_kI kn), b_patA, b_patB, b_patC, b_patDigits, b_glyphs, b_glyphOf, b_bEnd, b_bNext, b_bHyphen, b_least, b_before, b_way, b_lFrom, b_lTo, b_lNumber, b_lParagraph, b_lPage, b_lHyphen, b_lLast, b_best) (nI a) (nI b) v3) → wX_ligature_52 (fun r u' => wpY_ligature (fun r' v' => r' = r ∧ i_Rel (k + 5) u' v') ((nI n), (nI lc), (nI pc), (nI fw), (nI rw), (nI fl), (nI sw), (nI ss), (nI sk), (nI ba), (nI hyc), (nI ph), y_ready, y_glyphCount, y_breaks, y_natural, y_spaces, y_lineCount, y_paragraphs, (gd_tI t), (gd_tI w), (gd_lI lg), (gd_kI kn), b_patA, b_patB, b_patC, b_patDigits, b_glyphs, b_glyphOf, b_bEnd, b_bNext, b_bHyphen, b_least, b_before, b_way, b_lFrom, b_lTo, b_lNumber, b_lParagraph, b_lPage, b_lHyphen, b_lLast, b_best) (nI a) (nI b) v3) v3 (nI (10 * a + b)) o (nI n) (nI lc) (nI pc) (nI fw) (nI rw) (nI fl) (nI sw) (nI ss) (nI sk) (nI ba) (nI hyc) (nI ph) x_breakCount x_lineCount x_paragraphCount x_stale (gd_tI t) (gd_tI w) (gd_lI lg) (gd_kI kn) (gd_tI P) a_heads a_glyphs a_breakEnd a_breakNext a_breakHyphen a_breakTaken a_wayDemerits a_wayBefore a_lineFacts a_paragraphDemerits := by
    intro o zy ho h8 hlo enter
    refine wi_lt 8 (fun y => ⟨vp_in_nI (by omega) (by omega), nm_r (e' := gd_lI (gd_un lg (10 * a + b) (if v3.toInt < 0 then 10 else v3.toInt.toNat))) (by rw [nI_clamp (by omega), gd_lup z2]) ?_⟩) (fun y => ?_)
    · have O1 := wi_add1 (x := o) (by omega)
      refine wi_eq (-1) (fun e => ?_) (fun e => nm_e ?_)
      · refine enter _ (nm_r ho (wi_eq 8 (fun y2 => absurd y2 (by omega)) (fun y2 => ⟨pk_in _ 100 (by omega) iy, nm_r (e' := gd_lI (gd_un lg (10 * a + b) (if v3.toInt < 0 then 10 else v3.toInt.toNat))) (by rw [iy, nI_clamp (by omega), gd_lup z2]) (wi_ge 0 (fun y3 => absurd y3 (by omega)) (fun y3 => nm_r (Int32.add_zero o) ⟨rfl, ?_⟩))⟩)))
        obtain ⟨lc', rfl⟩ := wi_any o
        exact rl_st C ⟨by omega, h8⟩ R
      · refine enter _ (nm_r ho (wi_eq 8 (fun y2 => absurd y2 (by omega)) (fun y2 => ⟨pk_in _ 100 (by omega) iy, nm_r (e' := gd_lI (gd_un lg (10 * a + b) (if v3.toInt < 0 then 10 else v3.toInt.toNat))) (by rw [iy, nI_clamp (by omega), gd_lup z2]) (wi_ge 0 (fun y3 => nm_e ⟨rfl, ?_⟩) (fun y3 => absurd y3 (by omega)))⟩)))
        obtain ⟨lc', hlc'⟩ := wi_any (o + 1)
        rw [hlc'] at O1 ⊢
        exact rl_st C ⟨by omega, by omega⟩ R
    · exact enter _ (nm_r ho (wi_eq 8 (fun y2 => ⟨rfl, B'⟩) (fun y2 => absurd y2 (by omega))))
  have enter : ∀ zy : Int32, ((0 ≤ gd_lI lg (10 * a + b) ∧ zy = 1) ∨ (¬ 0 ≤ gd_lI lg (10 * a + b) ∧ zy = 0)) → ∀ Q : Int32 → SY → Prop, wY_ligature_52 Q (nI a) (nI b) v3 zy (nI lc) (nI n) (nI lc) (nI pc) (nI fw) (nI rw) (nI fl) (nI sw) (nI ss) (nI sk) (nI ba) (nI hyc) (nI ph) y_ready y_glyphCount y_breaks y_natural y_spaces y_lineCount y_paragraphs (gd_tI t) (gd_tI w) (gd_lI lg) (gd_kI kn) b_patA b_patB b_patC b_patDigits b_glyphs b_glyphOf b_bEnd b_bNext b_bHyphen b_least b_before b_way b_lFrom b_lTo b_lNumber b_lParagraph b_lPage b_lHyphen b_lLast b_best → wpY_ligature Q ((nI n), (nI lc), (nI pc), (nI fw), (nI rw), (nI fl), (nI sw), (nI ss), (nI sk), (nI ba), (nI hyc), (nI ph), y_ready, y_glyphCount, y_breaks, y_natural, y_spaces, y_lineCount, y_paragraphs, (gd_tI t), (gd_tI w), (gd_lI lg), (gd_kI kn), b_patA, b_patB, b_patC, b_patDigits, b_glyphs, b_glyphOf, b_bEnd, b_bNext, b_bHyphen, b_least, b_before, b_way, b_lFrom, b_lTo, b_lNumber, b_lParagraph, b_lPage, b_lHyphen, b_lLast, b_best) (nI a) (nI b) v3 := by
    intro zy hz Q hQ
    unfold wpY_ligature
    refine wy_let (gd_bt (fun y => absurd ⟨z.1, z.2.1⟩ (of_decide_eq_false y)) (fun y => wy_let (gd_bt (fun y => absurd z.2.2 (of_decide_eq_false y)) (fun y => ?_))))
    refine wi_lt (-1) (fun y2 => absurd y2 (by omega)) (fun y2 => wi_le 9 (fun y3 => ⟨pk_in (10 * a + b) 100 (by omega) iy, ?_⟩) (fun y3 => absurd y3 (by omega)))
    rw [iy, hrd]
    rcases hz with ⟨h1, rfl⟩ | ⟨h1, rfl⟩
    · exact br_t h1 hQ
    · exact br_f h1 hQ
  by_cases hl : lg (10 * a + b) < 10
  · refine br_f (by rw [hrd, gd_li hl]; exact gd_nm1 (by omega)) (key (nI lc - 1) 1 rfl (by omega) (by omega) (enter 1 (Or.inl ⟨?_, rfl⟩)))
    rw [gd_li hl]; exact nI_pos' (by omega)
  · refine br_t (by rw [hrd, gd_lo hl]) (key (nI lc) 0 (Int32.sub_zero _) (by omega) (by omega) (enter 0 (Or.inr ⟨?_, rfl⟩)))
    rw [gd_lo hl]; decide
/-! put -/
def ad_c (n : Nat) (x : Int32) : Bool := decide (0 ≤ x.toInt ∧ x.toInt ≤ 11 ∧ n < 48)
def ad_n (n : Nat) (x : Int32) : Nat := if ad_c n x = true then n + 1 else n
def ad_t (t : Nat → Nat) (n : Nat) (x : Int32) : Nat → Nat := if ad_c n x = true then gd_un t n x.toInt.toNat else t
def ad_s (n : Nat) (x b d : Int32) : Int32 := if ad_c n x = true then b else d
section
variable {n lc pc fw rw fl sw ss sk ba hyc ph : Nat} {t w lg : Nat → Nat} {kn : Nat → Int}
variable {P pa pb pq pd : Nat → Nat} {k : Nat}
variable {x_breakCount x_lineCount x_paragraphCount x_stale : Int32} {a_patterns a_heads a_glyphs a_breakEnd a_breakNext a_breakHyphen a_breakTaken a_wayBefore a_lineFacts : Nat → Int32} {a_wayDemerits a_paragraphDemerits : Nat → Int64}
variable {y_ready y_glyphCount y_breaks y_natural y_spaces y_lineCount y_paragraphs : Int32} {b_patA b_patB b_patC b_patDigits b_glyphs b_glyphOf b_bEnd b_bNext b_bHyphen b_before b_way b_lFrom b_lTo b_lNumber b_lParagraph b_lPage b_lHyphen b_lLast : Nat → Int32} {b_least b_best : Nat → Int64}
theorem ad_x {post : SX → Prop} {x : Int32} (hn : n ≤ 48) (hp : post ((nI (ad_n n x)), (nI lc), (nI pc), (nI fw), (nI rw), (nI fl), (nI sw), (nI ss), (nI sk), (nI ba), (nI hyc), (nI ph), x_breakCount, x_lineCount, x_paragraphCount, (ad_s n x 1 x_stale), (gd_tI (ad_t t n x)), (gd_tI w), (gd_lI lg), (gd_kI kn), a_patterns, a_heads, a_glyphs, a_breakEnd, a_breakNext, a_breakHyphen, a_breakTaken, a_wayDemerits, a_wayBefore, a_lineFacts, a_paragraphDemerits)) : wpX_addCode post ((nI n), (nI lc), (nI pc), (nI fw), (nI rw), (nI fl), (nI sw), (nI ss), (nI sk), (nI ba), (nI hyc), (nI ph), x_breakCount, x_lineCount, x_paragraphCount, x_stale, (gd_tI t), (gd_tI w), (gd_lI lg), (gd_kI kn), a_patterns, a_heads, a_glyphs, a_breakEnd, a_breakNext, a_breakHyphen, a_breakTaken, a_wayDemerits, a_wayBefore, a_lineFacts, a_paragraphDemerits) x := by
  have no : ¬ (0 ≤ x.toInt ∧ x.toInt ≤ 11 ∧ n < 48) → post ((nI n), (nI lc), (nI pc), (nI fw), (nI rw), (nI fl), (nI sw), (nI ss), (nI sk), (nI ba), (nI hyc), (nI ph), x_breakCount, x_lineCount, x_paragraphCount, x_stale, (gd_tI t), (gd_tI w), (gd_lI lg), (gd_kI kn), a_patterns, a_heads, a_glyphs, a_breakEnd, a_breakNext, a_breakHyphen, a_breakTaken, a_wayDemerits, a_wayBefore, a_lineFacts, a_paragraphDemerits) := by
    intro h
    rw [ad_n, ad_t, ad_s, if_neg (by rw [ad_c, decide_eq_true_eq]; exact h), if_neg (by rw [ad_c, decide_eq_true_eq]; exact h), if_neg (by rw [ad_c, decide_eq_true_eq]; exact h)] at hp
    exact hp
  refine wi_lt 0 (fun y => no (by omega)) (fun y => wi_gt 11 (fun y2 => no (by omega)) (fun y2 => pk_lt n 48 (fun y3 => ⟨vp_in_nI y3 (by omega), ?_⟩) (fun y3 => no (by omega))))
  have e : ad_c n x = true := decide_eq_true ⟨y, y2, y3⟩
  rw [ad_n, ad_t, ad_s, if_pos e, if_pos e, if_pos e] at hp
  refine nm_r (e' := gd_tI (gd_un t n x.toInt.toNat)) ?_ (nm_r (nI_1 n) hp)
  rw [nI_clamp (by omega), ← gd_tup, ← wi_n y]
theorem ad_y {post : SY → Prop} {x : Int32} (hn : n ≤ 48) (hp : post ((nI (ad_n n x)), (nI lc), (nI pc), (nI fw), (nI rw), (nI fl), (nI sw), (nI ss), (nI sk), (nI ba), (nI hyc), (nI ph), (ad_s n x 0 y_ready), y_glyphCount, y_breaks, y_natural, y_spaces, y_lineCount, y_paragraphs, (gd_tI (ad_t t n x)), (gd_tI w), (gd_lI lg), (gd_kI kn), b_patA, b_patB, b_patC, b_patDigits, b_glyphs, b_glyphOf, b_bEnd, b_bNext, b_bHyphen, b_least, b_before, b_way, b_lFrom, b_lTo, b_lNumber, b_lParagraph, b_lPage, b_lHyphen, b_lLast, b_best)) : wpY_add post ((nI n), (nI lc), (nI pc), (nI fw), (nI rw), (nI fl), (nI sw), (nI ss), (nI sk), (nI ba), (nI hyc), (nI ph), y_ready, y_glyphCount, y_breaks, y_natural, y_spaces, y_lineCount, y_paragraphs, (gd_tI t), (gd_tI w), (gd_lI lg), (gd_kI kn), b_patA, b_patB, b_patC, b_patDigits, b_glyphs, b_glyphOf, b_bEnd, b_bNext, b_bHyphen, b_least, b_before, b_way, b_lFrom, b_lTo, b_lNumber, b_lParagraph, b_lPage, b_lHyphen, b_lLast, b_best) x := by
  have no : ¬ (0 ≤ x.toInt ∧ x.toInt ≤ 11 ∧ n < 48) → post ((nI n), (nI lc), (nI pc), (nI fw), (nI rw), (nI fl), (nI sw), (nI ss), (nI sk), (nI ba), (nI hyc), (nI ph), y_ready, y_glyphCount, y_breaks, y_natural, y_spaces, y_lineCount, y_paragraphs, (gd_tI t), (gd_tI w), (gd_lI lg), (gd_kI kn), b_patA, b_patB, b_patC, b_patDigits, b_glyphs, b_glyphOf, b_bEnd, b_bNext, b_bHyphen, b_least, b_before, b_way, b_lFrom, b_lTo, b_lNumber, b_lParagraph, b_lPage, b_lHyphen, b_lLast, b_best) := by
    intro h
    rw [ad_n, ad_t, ad_s, if_neg (by rw [ad_c, decide_eq_true_eq]; exact h), if_neg (by rw [ad_c, decide_eq_true_eq]; exact h), if_neg (by rw [ad_c, decide_eq_true_eq]; exact h)] at hp
    exact hp
  refine wi_lt 0 (fun y => no (by omega)) (fun y => wi_gt 11 (fun y2 => no (by omega)) (fun y2 => pk_eq n 48 (fun y3 => no (by omega)) (fun y3 => ?_)))
  have e : ad_c n x = true := decide_eq_true ⟨y, y2, by omega⟩
  rw [ad_n, ad_t, ad_s, if_pos e, if_pos e, if_pos e] at hp
  refine nm_r (nI_1 n) ⟨vp_in_nI (by omega) (by omega), nm_r (e' := gd_tI (gd_un t n x.toInt.toNat)) ?_ hp⟩
  rw [nI_clamp (by omega), ← gd_tup, ← wi_n y]
theorem ad_B {x : Int32} (h : rl_B k n lc pc fw rw fl sw ss sk ba hyc ph t w lg kn P pa pb pq pd x_lineCount x_paragraphCount x_stale a_lineFacts a_paragraphDemerits y_ready y_lineCount y_paragraphs b_patA b_patB b_patC b_patDigits b_lFrom b_lTo b_lNumber b_lParagraph b_lPage b_lHyphen b_lLast b_best) : rl_B k (ad_n n x) lc pc fw rw fl sw ss sk ba hyc ph (ad_t t n x) w lg kn P pa pb pq pd x_lineCount x_paragraphCount (ad_s n x 1 x_stale) a_lineFacts a_paragraphDemerits (ad_s n x 0 y_ready) y_lineCount y_paragraphs b_patA b_patB b_patC b_patDigits b_lFrom b_lTo b_lNumber b_lParagraph b_lPage b_lHyphen b_lLast b_best := by
  by_cases e : ad_c n x = true
  · rw [ad_n, ad_t, ad_s, ad_s, if_pos e, if_pos e, if_pos e, if_pos e]
    have e' := of_decide_eq_true e
    obtain ⟨C, L, R, F⟩ := h
    refine ⟨⟨by omega, fun i => ?_, C.2.2⟩, L, R, Or.inl ⟨rfl, rfl⟩⟩
    rw [gd_un]
    split
    · omega
    · exact C.2.1 i
  · rw [ad_n, ad_t, ad_s, ad_s, if_neg e, if_neg e, if_neg e, if_neg e]
    exact h
end
theorem i_vc_put {k : Nat} {u : SX} {v : SY} (I : i_Rel k u v) (hk : k + 5 ≤ 2560) (v1 : Int32) (v2 : Int32) (v3 : Int32) (v4 : Int32) : wpX_put (fun r u' => wpY_put (fun r' v' => r' = r ∧ i_Rel (k + 5) u' v') v v1 v2 v3 v4) u v1 v2 v3 v4 := by
  refine rl_elim (Q := fun u v => wpX_put (fun r u' => wpY_put (fun r' v' => r' = r ∧ i_Rel (k + 5) u' v') v v1 v2 v3 v4) u v1 v2 v3 v4) I ?_
  intro n lc pc fw rw fl sw ss sk ba hyc ph t w lg kn P pa pb pq pd x_breakCount x_lineCount x_paragraphCount x_stale a_heads a_glyphs a_breakEnd a_breakNext a_breakHyphen a_breakTaken a_wayDemerits a_wayBefore a_lineFacts a_paragraphDemerits y_ready y_glyphCount y_breaks y_natural y_spaces y_lineCount y_paragraphs b_patA b_patB b_patC b_patDigits b_glyphs b_glyphOf b_bEnd b_bNext b_bHyphen b_least b_before b_way b_lFrom b_lTo b_lNumber b_lParagraph b_lPage b_lHyphen b_lLast b_best B
  have B1 := ad_B (x := v1) B
  have B2 := ad_B (x := v2) B1
  have B3 := ad_B (x := v3) B2
  have B4 := ad_B (x := v4) B3
  unfold wpX_put
  refine ad_x B.1.1 (ad_x B1.1.1 (ad_x B2.1.1 (ad_x B3.1.1 ?_)))
  unfold wpY_put
  refine ad_y B.1.1 (ad_y B1.1.1 (ad_y B2.1.1 (ad_y B3.1.1 ?_)))
  exact ⟨rfl, rl_ok B4 (by omega)⟩
