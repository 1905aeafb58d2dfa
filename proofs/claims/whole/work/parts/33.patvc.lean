section
variable {n lc pc fw rw fl sw ss sk ba hyc ph : Nat} {t w lg : Nat → Nat} {kn : Nat → Int}
variable {P pa pb pq pd : Nat → Nat}
variable {y_ready y_glyphCount y_breaks y_natural y_spaces y_lineCount y_paragraphs : Int32} {b_patA b_patB b_patC b_patDigits b_glyphs b_glyphOf b_bEnd b_bNext b_bHyphen b_before b_way b_lFrom b_lTo b_lNumber b_lParagraph b_lPage b_lHyphen b_lLast : Nat → Int32} {b_least b_best : Nat → Int64}
theorem ps_find (post : Int32 → SY → Prop) {a b c : Nat} {d : Int32} (hv : a ≤ 10 ∧ b ≤ 11 ∧ c ≤ 11) (h : pt_ok P pc b_patA b_patB b_patC b_patDigits pa pb pq pd)
    (hf : ∀ p, p < pc → pa p = a → pb p = b → pq p = c → wY_pattern_192 post (nI a) (gd_iI ((b : Int) - 1)) (gd_iI ((c : Int) - 1)) d (nI p) (nI n) (nI lc) (nI pc) (nI fw) (nI rw) (nI fl) (nI sw) (nI ss) (nI sk) (nI ba) (nI hyc) (nI ph) y_ready y_glyphCount y_breaks y_natural y_spaces y_lineCount y_paragraphs (gd_tI t) (gd_tI w) (gd_lI lg) (gd_kI kn) b_patA b_patB b_patC b_patDigits b_glyphs b_glyphOf b_bEnd b_bNext b_bHyphen b_least b_before b_way b_lFrom b_lTo b_lNumber b_lParagraph b_lPage b_lHyphen b_lLast b_best)
    (hn : (∀ p, p < pc → pt_key (pa p) (pb p) (pq p) ≠ pt_key a b c) → wY_pattern_192 post (nI a) (gd_iI ((b : Int) - 1)) (gd_iI ((c : Int) - 1)) d (nI pc) (nI n) (nI lc) (nI pc) (nI fw) (nI rw) (nI fl) (nI sw) (nI ss) (nI sk) (nI ba) (nI hyc) (nI ph) y_ready y_glyphCount y_breaks y_natural y_spaces y_lineCount y_paragraphs (gd_tI t) (gd_tI w) (gd_lI lg) (gd_kI kn) b_patA b_patB b_patC b_patDigits b_glyphs b_glyphOf b_bEnd b_bNext b_bHyphen b_least b_before b_way b_lFrom b_lTo b_lNumber b_lParagraph b_lPage b_lHyphen b_lLast b_best) :
    ∀ f p, p + f = pc → (∀ q, q < p → pt_key (pa q) (pb q) (pq q) ≠ pt_key a b c) → wY_pattern_144 post (nI a) (gd_iI ((b : Int) - 1)) (gd_iI ((c : Int) - 1)) d (nI n) (nI lc) (nI pc) (nI fw) (nI rw) (nI fl) (nI sw) (nI ss) (nI sk) (nI ba) (nI hyc) (nI ph) y_ready y_glyphCount y_breaks y_natural y_spaces y_lineCount y_paragraphs (gd_tI t) (gd_tI w) (gd_lI lg) (gd_kI kn) b_patA b_patB b_patC b_patDigits b_glyphs b_glyphOf b_bEnd b_bNext b_bHyphen b_least b_before b_way b_lFrom b_lTo b_lNumber b_lParagraph b_lPage b_lHyphen b_lLast b_best (f + 1) (nI p) := by
  have h10 := h.1
  intro f
  induction f with
  | zero =>
    intro p hp hq
    have : p = pc := by omega
    subst this
    exact br_t (nI_le (Nat.le_refl _) (by omega)) (hn hq)
  | succ f ih =>
    intro p hp hq
    obtain ⟨r1, r2, r3, r4, r5, r6, r7⟩ := h.2.1 p (by omega)
    have next : pt_key (pa p) (pb p) (pq p) ≠ pt_key a b c → wY_pattern_144 post (nI a) (gd_iI ((b : Int) - 1)) (gd_iI ((c : Int) - 1)) d (nI n) (nI lc) (nI pc) (nI fw) (nI rw) (nI fl) (nI sw) (nI ss) (nI sk) (nI ba) (nI hyc) (nI ph) y_ready y_glyphCount y_breaks y_natural y_spaces y_lineCount y_paragraphs (gd_tI t) (gd_tI w) (gd_lI lg) (gd_kI kn) b_patA b_patB b_patC b_patDigits b_glyphs b_glyphOf b_bEnd b_bNext b_bHyphen b_least b_before b_way b_lFrom b_lTo b_lNumber b_lParagraph b_lPage b_lHyphen b_lLast b_best (f + 1) (nI p + 1) := by
      intro e
      rw [nI_1]
      refine ih (p + 1) (by omega) (fun q hq2 => ?_)
      by_cases z : q = p
      · rw [z]; exact e
      · exact hq q (by omega)
    have vi : vp_in (nI p) 10 := vp_in_nI (by omega) (by omega)
    refine br_f (nI_ge (by omega) (by omega)) ⟨vi, ?_⟩
    refine pk_eq (pa p) a (fun e1 => ⟨vi, ?_⟩) (fun e1 => nm_e (next (fun z => e1 (pt_inj r5.2.1 r5.2.2.1 hv.2.1 hv.2.2 z).1))) (by rw [nI_clamp (by omega), r1]) rfl (by omega) (by omega)
    refine gd_zeq ((pb p : Int) - 1) ((b : Int) - 1) (fun e2 => ⟨vi, ?_⟩) (fun e2 => nm_e (next (fun z => e2 (by rw [(pt_inj r5.2.1 r5.2.2.1 hv.2.1 hv.2.2 z).2.1])))) (by rw [nI_clamp (by omega), r2]) rfl (by omega) (by omega)
    refine gd_zeq ((pq p : Int) - 1) ((c : Int) - 1) (fun e3 => ?_) (fun e3 => nm_e (next (fun z => e3 (by rw [(pt_inj r5.2.1 r5.2.2.1 hv.2.1 hv.2.2 z).2.2])))) (by rw [nI_clamp (by omega), r3]) rfl (by omega) (by omega)
    exact hf p (by omega) e1 (by omega) (by omega)
end
theorem i_vc_pattern {k : Nat} {u : SX} {v : SY} (I : i_Rel k u v) (hk : k + 5 ≤ 2560) (v1 : Int32) (v2 : Int32) (v3 : Int32) (v4 : Int32) : wpX_pattern (fun r u' => wpY_pattern (fun r' v' => r' = r ∧ i_Rel (k + 5) u' v') v v1 v2 v3 v4) u v1 v2 v3 v4 := by
  refine rl_elim (Q := fun u v => wpX_pattern (fun r u' => wpY_pattern (fun r' v' => r' = r ∧ i_Rel (k + 5) u' v') v v1 v2 v3 v4) u v1 v2 v3 v4) I ?_
  intro n lc pc fw rw fl sw ss sk ba hyc ph t w lg kn P pa pb pq pd x_breakCount x_lineCount x_paragraphCount x_stale a_heads a_glyphs a_breakEnd a_breakNext a_breakHyphen a_breakTaken a_wayDemerits a_wayBefore a_lineFacts a_paragraphDemerits y_ready y_glyphCount y_breaks y_natural y_spaces y_lineCount y_paragraphs b_patA b_patB b_patC b_patDigits b_glyphs b_glyphOf b_bEnd b_bNext b_bHyphen b_least b_before b_way b_lFrom b_lTo b_lNumber b_lParagraph b_lPage b_lHyphen b_lLast b_best B
  have B' : i_Rel (k + 5) ((nI n), (nI lc), (nI pc), (nI fw), (nI rw), (nI fl), (nI sw), (nI ss), (nI sk), (nI ba), (nI hyc), (nI ph), x_breakCount, x_lineCount, x_paragraphCount, x_stale, (gd_tI t), (gd_tI w), (gd_lI lg), (gd_kI kn), (gd_tI P), a_heads, a_glyphs, a_breakEnd, a_breakNext, a_breakHyphen, a_breakTaken, a_wayDemerits, a_wayBefore, a_lineFacts, a_paragraphDemerits) ((nI n), (nI lc), (nI pc), (nI fw), (nI rw), (nI fl), (nI sw), (nI ss), (nI sk), (nI ba), (nI hyc), (nI ph), y_ready, y_glyphCount, y_breaks, y_natural, y_spaces, y_lineCount, y_paragraphs, (gd_tI t), (gd_tI w), (gd_lI lg), (gd_kI kn), b_patA, b_patB, b_patC, b_patDigits, b_glyphs, b_glyphOf, b_bEnd, b_bNext, b_bHyphen, b_least, b_before, b_way, b_lFrom, b_lTo, b_lNumber, b_lParagraph, b_lPage, b_lHyphen, b_lLast, b_best) := rl_ok B (by omega)
  obtain ⟨C, L, R, F⟩ := B
  have L' : -((k + 5 : Nat) : Int) ≤ (nI lc).toInt ∧ (nI lc).toInt ≤ 8 := ⟨by have := L.1; omega, L.2⟩
  have h10 := R.1
  have hs3 := ps_le v1.toInt v2.toInt v3.toInt
  unfold wpX_pattern
  refine ps_x (ps_gx hs3 ?_)
  have no : ¬ (ps_v v1.toInt v2.toInt v3.toInt ≠ 0 ∧ 0 ≤ v4.toInt ∧ v4.toInt ≤ ps_g (ps_v v1.toInt v2.toInt v3.toInt)) → wpY_pattern (fun r' v' => r' = 0 ∧ i_Rel (k + 5) ((nI n), (nI lc), (nI pc), (nI fw), (nI rw), (nI fl), (nI sw), (nI ss), (nI sk), (nI ba), (nI hyc), (nI ph), x_breakCount, x_lineCount, x_paragraphCount, x_stale, (gd_tI t), (gd_tI w), (gd_lI lg), (gd_kI kn), (gd_tI P), a_heads, a_glyphs, a_breakEnd, a_breakNext, a_breakHyphen, a_breakTaken, a_wayDemerits, a_wayBefore, a_lineFacts, a_paragraphDemerits) v') ((nI n), (nI lc), (nI pc), (nI fw), (nI rw), (nI fl), (nI sw), (nI ss), (nI sk), (nI ba), (nI hyc), (nI ph), y_ready, y_glyphCount, y_breaks, y_natural, y_spaces, y_lineCount, y_paragraphs, (gd_tI t), (gd_tI w), (gd_lI lg), (gd_kI kn), b_patA, b_patB, b_patC, b_patDigits, b_glyphs, b_glyphOf, b_bEnd, b_bNext, b_bHyphen, b_least, b_before, b_way, b_lFrom, b_lTo, b_lNumber, b_lParagraph, b_lPage, b_lHyphen, b_lLast, b_best) v1 v2 v3 v4 := fun h => ps_y (fun _ => ⟨rfl, B'⟩) (fun q => absurd q h)
  refine pk_eq (ps_v v1.toInt v2.toInt v3.toInt) 0 (fun z => no (fun q => q.1 z)) (fun z => ?_)
  have hg : ps_g (ps_v v1.toInt v2.toInt v3.toInt) ≤ 9999 := by
    rw [ps_g]; split
    · omega
    · split
      · omega
      · split <;> omega
  refine wx_in 0 (ps_g (ps_v v1.toInt v2.toInt v3.toInt)) (gd_bt (fun y => no (fun q => of_decide_eq_false y q.2)) (fun y => ?_)) (by decide) (nI_toInt (by omega))
  have y := of_decide_eq_true y
  have good : ps_v v1.toInt v2.toInt v3.toInt ≠ 0 ∧ 0 ≤ v4.toInt ∧ v4.toInt ≤ ps_g (ps_v v1.toInt v2.toInt v3.toInt) := ⟨z, y⟩
  have hin : (0 ≤ v1.toInt ∧ v1.toInt ≤ 10) ∧ (-1 ≤ v2.toInt ∧ v2.toInt ≤ 10) ∧ (-1 ≤ v3.toInt ∧ v3.toInt ≤ 10) := by
    by_cases q : (0 ≤ v1.toInt ∧ v1.toInt ≤ 10) ∧ (-1 ≤ v2.toInt ∧ v2.toInt ≤ 10) ∧ (-1 ≤ v3.toInt ∧ v3.toInt ≤ 10)
    · exact q
    · exact absurd (by rw [ps_v, if_neg q]) z
  have hbc : v2.toInt = -1 → v3.toInt = -1 := by
    intro e
    by_cases q : v3.toInt = -1
    · exact q
    · exact absurd (by rw [ps_v, if_pos hin, if_pos e, if_neg (fun w => q w.1)]) z
  have enter : ∀ Q : Int32 → SY → Prop, (∃ n144 : Nat, wY_pattern_144 Q v1 v2 v3 v4 (nI n) (nI lc) (nI pc) (nI fw) (nI rw) (nI fl) (nI sw) (nI ss) (nI sk) (nI ba) (nI hyc) (nI ph) y_ready y_glyphCount y_breaks y_natural y_spaces y_lineCount y_paragraphs (gd_tI t) (gd_tI w) (gd_lI lg) (gd_kI kn) b_patA b_patB b_patC b_patDigits b_glyphs b_glyphOf b_bEnd b_bNext b_bHyphen b_least b_before b_way b_lFrom b_lTo b_lNumber b_lParagraph b_lPage b_lHyphen b_lLast b_best n144 0) → wpY_pattern Q ((nI n), (nI lc), (nI pc), (nI fw), (nI rw), (nI fl), (nI sw), (nI ss), (nI sk), (nI ba), (nI hyc), (nI ph), y_ready, y_glyphCount, y_breaks, y_natural, y_spaces, y_lineCount, y_paragraphs, (gd_tI t), (gd_tI w), (gd_lI lg), (gd_kI kn), b_patA, b_patB, b_patC, b_patDigits, b_glyphs, b_glyphOf, b_bEnd, b_bNext, b_bHyphen, b_least, b_before, b_way, b_lFrom, b_lTo, b_lNumber, b_lParagraph, b_lPage, b_lHyphen, b_lLast, b_best) v1 v2 v3 v4 := fun Q h => ps_y (fun q => absurd good q) (fun _ => h)
  have hg9 := y.2
  clear no good
  obtain ⟨a, rfl, a1, a2, a3⟩ := wi_c hin.1 (Int.le_refl 0)
  obtain ⟨d, rfl, d1, d2, d3⟩ := wi_c y (Int.le_refl 0)
  obtain ⟨b, hb⟩ : ∃ b : Nat, v2.toInt = (b : Int) - 1 := ⟨(v2.toInt + 1).toNat, by omega⟩
  obtain ⟨c, hc⟩ : ∃ c : Nat, v3.toInt = (c : Int) - 1 := ⟨(v3.toInt + 1).toNat, by omega⟩
  have e2 : v2 = gd_iI ((b : Int) - 1) := by rw [← hb]; exact wi_z
  have e3 : v3 = gd_iI ((c : Int) - 1) := by rw [← hc]; exact wi_z
  have hv : a ≤ 10 ∧ b ≤ 11 ∧ c ≤ 11 ∧ (b = 0 → c = 0) := ⟨by omega, by omega, by omega, fun q => by have := hbc (by omega); omega⟩
  have hd9 : d ≤ 9999 := by omega
  clear hb hc hbc hin hg9 z y hg hs3 d1 d2 a1 a2
  subst e2 e3
  have ekey : (((((nI a + 1) * 12) + gd_iI ((b : Int) - 1)) + 1) * 12 + gd_iI ((c : Int) - 1)) + 1 = nI (pt_key a b c) := by
    rw [gd_nat, gd_nat, show (1 : Int32) = gd_iI 1 from rfl, show (12 : Int32) = gd_iI 12 from rfl, gd_add, gd_mul, gd_add, gd_add, gd_mul, gd_add, gd_add]
    congr 1
    rw [pt_key]
    omega
  have hklt : pt_key a b c < 1728 := by rw [pt_key]; omega
  have hrd : gd_tI P (nI (pt_key a b c)).toNatClampNeg = nI (P (pt_key a b c)) := gd_rt (by omega)
  have hPk := R.2.2.2.2 (pt_key a b c)
  have hup : upd (gd_tI P) (nI (pt_key a b c)).toNatClampNeg (nI d) = gd_tI (gd_un P (pt_key a b c) d) := by rw [nI_clamp (by omega), gd_tup]
  unfold wpX_patternKey
  rw [ekey]
  refine ⟨vp_in_nI hklt (by omega), pk_eq (P (pt_key a b c)) 0 (fun z => ?_) (fun z => ?_) hrd rfl (by omega) (by omega)⟩
  · -- there is no such pattern
    have none : ∀ p, p < pc → pt_key (pa p) (pb p) (pq p) ≠ pt_key a b c := by
      intro p hp e
      obtain ⟨_, _, _, _, _, r6, r7⟩ := R.2.1 p hp
      rw [e, z] at r7
      omega
    have go : ∀ Q : Int32 → SY → Prop, wY_pattern_192 Q (nI a) (gd_iI ((b : Int) - 1)) (gd_iI ((c : Int) - 1)) (nI d) (nI pc) (nI n) (nI lc) (nI pc) (nI fw) (nI rw) (nI fl) (nI sw) (nI ss) (nI sk) (nI ba) (nI hyc) (nI ph) y_ready y_glyphCount y_breaks y_natural y_spaces y_lineCount y_paragraphs (gd_tI t) (gd_tI w) (gd_lI lg) (gd_kI kn) b_patA b_patB b_patC b_patDigits b_glyphs b_glyphOf b_bEnd b_bNext b_bHyphen b_least b_before b_way b_lFrom b_lTo b_lNumber b_lParagraph b_lPage b_lHyphen b_lLast b_best → wpY_pattern Q ((nI n), (nI lc), (nI pc), (nI fw), (nI rw), (nI fl), (nI sw), (nI ss), (nI sk), (nI ba), (nI hyc), (nI ph), y_ready, y_glyphCount, y_breaks, y_natural, y_spaces, y_lineCount, y_paragraphs, (gd_tI t), (gd_tI w), (gd_lI lg), (gd_kI kn), b_patA, b_patB, b_patC, b_patDigits, b_glyphs, b_glyphOf, b_bEnd, b_bNext, b_bHyphen, b_least, b_before, b_way, b_lFrom, b_lTo, b_lNumber, b_lParagraph, b_lPage, b_lHyphen, b_lLast, b_best) (nI a) (gd_iI ((b : Int) - 1)) (gd_iI ((c : Int) - 1)) (nI d) := by
      intro Q h
      exact enter Q ⟨pc + 1, ps_find Q ⟨hv.1, hv.2.1, hv.2.2.1⟩ R (fun p hp q1 q2 q3 => absurd (by rw [q1, q2, q3]) (none p hp)) (fun _ => h) pc 0 (by omega) (fun q hq => absurd hq (by omega))⟩
    refine pk_lt pc 10 (fun y => ⟨vp_in_nI hklt (by omega), nm_r hup ?_⟩) (fun y => ?_)
    · have vi : vp_in (nI pc) 10 := vp_in_nI y (by omega)
      have cl : (nI pc).toNatClampNeg = pc := nI_clamp (by omega)
      refine pk_eq d 0 (fun d0 => ?_) (fun d0 => nm_r (nI_1 pc) ?_)
      · refine go _ (br_t rfl (br_f (fun q => by have := (nI_eq (b := 10) (by omega) (by omega)).mp q; omega) (br_t rfl (nm_r (nI_1 pc) ?_))))
        refine ⟨vi, nm_e ⟨vi, nm_e ⟨vi, nm_e ⟨vi, nm_e (br_t (by rw [d0]; decide) (nm_r (nI_pred pc) ⟨vi, vi, nm_e ⟨vi, vi, nm_e ⟨vi, vi, nm_e ⟨vi, vi, nm_e ⟨rfl, ?_⟩⟩⟩⟩⟩))⟩⟩⟩⟩
        rw [cl]
        refine rl_st (pa := pa) (pb := pb) (pq := pq) (pd := pd) C L' ?_
        rw [d0]
        refine pt_none R z (fun p hp => ?_)
        have e : p ≠ pc := by omega
        rw [pk_un e, pk_un e, pk_un e, pk_un e, pk_un e, pk_un e, pk_un e, pk_un e]
        exact ⟨rfl, rfl, rfl, rfl⟩
      · refine go _ (br_t rfl (br_f (fun q => by have := (nI_eq (b := 10) (by omega) (by omega)).mp q; omega) (br_t rfl (nm_r (nI_1 pc) ?_))))
        refine ⟨vi, nm_e ⟨vi, nm_e ⟨vi, nm_e ⟨vi, nm_e (br_f (nI_nle (by omega) (by omega)) ⟨rfl, ?_⟩)⟩⟩⟩⟩
        rw [cl]
        exact rl_st C L' (pt_add R y hv ⟨by omega, hd9⟩ z)
    · refine go _ (br_t rfl (br_t ?_ ⟨rfl, B'⟩))
      rw [show pc = 10 by omega]; rfl
  · obtain ⟨p0, hp0, ekk⟩ := R.2.2.2.1 _ z
    obtain ⟨_, _, _, _, r5, r6, r7⟩ := R.2.1 p0 hp0
    obtain ⟨ka, kb, kc⟩ := pt_inj r5.2.1 r5.2.2.1 hv.2.1 hv.2.2.1 ekk
    have go : ∀ Q : Int32 → SY → Prop, wY_pattern_192 Q (nI a) (gd_iI ((b : Int) - 1)) (gd_iI ((c : Int) - 1)) (nI d) (nI p0) (nI n) (nI lc) (nI pc) (nI fw) (nI rw) (nI fl) (nI sw) (nI ss) (nI sk) (nI ba) (nI hyc) (nI ph) y_ready y_glyphCount y_breaks y_natural y_spaces y_lineCount y_paragraphs (gd_tI t) (gd_tI w) (gd_lI lg) (gd_kI kn) b_patA b_patB b_patC b_patDigits b_glyphs b_glyphOf b_bEnd b_bNext b_bHyphen b_least b_before b_way b_lFrom b_lTo b_lNumber b_lParagraph b_lPage b_lHyphen b_lLast b_best → wpY_pattern Q ((nI n), (nI lc), (nI pc), (nI fw), (nI rw), (nI fl), (nI sw), (nI ss), (nI sk), (nI ba), (nI hyc), (nI ph), y_ready, y_glyphCount, y_breaks, y_natural, y_spaces, y_lineCount, y_paragraphs, (gd_tI t), (gd_tI w), (gd_lI lg), (gd_kI kn), b_patA, b_patB, b_patC, b_patDigits, b_glyphs, b_glyphOf, b_bEnd, b_bNext, b_bHyphen, b_least, b_before, b_way, b_lFrom, b_lTo, b_lNumber, b_lParagraph, b_lPage, b_lHyphen, b_lLast, b_best) (nI a) (gd_iI ((b : Int) - 1)) (gd_iI ((c : Int) - 1)) (nI d) := by
      intro Q h
      refine enter Q ⟨pc + 1, ps_find Q ⟨hv.1, hv.2.1, hv.2.2.1⟩ R (fun p hp q1 q2 q3 => ?_) (fun q => absurd ekk (q p0 hp0)) pc 0 (by omega) (fun q hq => absurd hq (by omega))⟩
      have : p = p0 := by
        rcases Nat.lt_trichotomy p p0 with w1 | w1 | w1
        · exact absurd (by rw [ekk, q1, q2, q3]) (R.2.2.1 p p0 w1 hp0)
        · exact w1
        · exact absurd (by rw [ekk, q1, q2, q3]) (R.2.2.1 p0 p w1 hp)
      rw [this]
      exact h
    have vi : vp_in (nI p0) 10 := vp_in_nI (by omega) (by omega)
    have cl : (nI p0).toNatClampNeg = p0 := nI_clamp (by omega)
    have hne : ¬ nI p0 = nI pc := fun q => by have := (nI_eq (by omega) (by omega)).mp q; omega
    rw [show nI pc - 1 = nI (pc - 1) from gd_p1 (by omega)]
    refine br_t (nI_lt (b := 10) (by omega) (by decide)) ⟨vp_in_nI hklt (by omega), nm_r hup ?_⟩
    refine pk_eq d 0 (fun d0 => ?_) (fun d0 => ?_)
    · refine go _ (br_f hne (br_f hne ?_))
      have vl : vp_in (nI (pc - 1)) 10 := vp_in_nI (by omega) (by omega)
      have cl2 : (nI (pc - 1)).toNatClampNeg = pc - 1 := nI_clamp (by omega)
      refine ⟨vi, nm_e ⟨vi, nm_e ⟨vi, nm_e ⟨vi, nm_e (br_t (by rw [d0]; decide) (nm_r (gd_p1 (by omega)) ⟨vl, vi, nm_e ⟨vl, vi, nm_e ⟨vl, vi, nm_e ⟨vl, vi, nm_e ⟨rfl, ?_⟩⟩⟩⟩⟩))⟩⟩⟩⟩
      rw [cl, cl2]
      refine rl_st (pa := gd_un pa p0 (pa (pc - 1))) (pb := gd_un pb p0 (pb (pc - 1))) (pq := gd_un pq p0 (pq (pc - 1))) (pd := gd_un pd p0 (pd (pc - 1))) C L' ?_
      rw [d0]
      refine pt_del R hp0 ka kb kc (fun p hp e => ?_) (fun hlt => ?_)
      · rw [pk_un e, pk_un e, pk_un e, pk_un e, pk_un e, pk_un e, pk_un e, pk_un e]
        exact ⟨rfl, rfl, rfl, rfl⟩
      · have e : pc - 1 ≠ p0 := by omega
        rw [pk_us, pk_us, pk_us, pk_us, pk_un e, pk_un e, pk_un e, pk_un e]
        exact ⟨rfl, rfl, rfl, rfl⟩
    · refine nm_r (e' := nI pc) (by rw [nI_1]; congr 1; omega) (go _ (br_f hne (br_f hne ?_)))
      refine ⟨vi, nm_e ⟨vi, nm_e ⟨vi, nm_e ⟨vi, nm_e (br_f (nI_nle (by omega) (by omega)) ⟨rfl, ?_⟩)⟩⟩⟩⟩
      rw [cl]
      exact rl_st C L' (pt_set R hp0 ka kb kc ⟨by omega, hd9⟩)
