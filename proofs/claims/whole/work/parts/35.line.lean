section
variable {t w lg : Nat → Nat} {kn : Nat → Int} {n fw rw fl sw ss sk ba hyc ph : Nat}
theorem lt_dif_b (C : cf_ok t w lg kn n fw rw fl sw ss sk ba hyc ph) {r : lt_R} (hr : r.2.1 ≤ n) : -10000 ≤ lt_dif t lg w kn sw fw rw fl r ∧ lt_dif t lg w kn sw fw rw fl r ≤ 10000 := by
  have h0 := bd_due_b C r.2.2.2.1
  obtain ⟨c1, c2, c3, c4, c5, c6, c7, c8, c9, c10, c11, c12, c13, c14⟩ := C
  have h1 := rn_x_b (t := t) (lg := lg) (s := r.1) (e := r.2.1) c8 c4 c3 r.2.1
  have h2 : (0 : Int) ≤ cond r.2.2.1 5 0 ∧ (cond r.2.2.1 5 0 : Int) ≤ 5 := by cases r.2.2.1 <;> decide
  rw [lt_dif, lt_nat]
  omega
end
section
variable {n lc pc fw rw fl sw ss sk ba hyc ph : Nat} {t w lg : Nat → Nat} {kn : Nat → Int}
variable {P pa pb pq pd : Nat → Nat} {k lnc : Nat} {Λ : lt_T}
variable {y_ready y_glyphCount y_breaks y_natural y_spaces y_lineCount y_paragraphs : Int32} {b_patA b_patB b_patC b_patDigits b_glyphs b_glyphOf b_bEnd b_bNext b_bHyphen b_before b_way b_lFrom b_lTo b_lNumber b_lParagraph b_lPage b_lHyphen b_lLast : Nat → Int32} {b_least b_best : Nat → Int64}
theorem yd_diff {post : Int32 → SY → Prop} {q : Nat} (C : cf_ok t w lg kn n fw rw fl sw ss sk ba hyc ph) (hl : lnc ≤ 48) (hq : q < lnc) (V : lt_val t n (Λ q)) (Y : yl_ok lnc Λ b_lFrom b_lTo b_lNumber b_lParagraph b_lHyphen b_lLast)
    (hp : ∀ y_glyphCount b_glyphs b_glyphOf, post (gd_iI (lt_dif t lg w kn sw fw rw fl (Λ q))) ((nI n), (nI lc), (nI pc), (nI fw), (nI rw), (nI fl), (nI sw), (nI ss), (nI sk), (nI ba), (nI hyc), (nI ph), y_ready, y_glyphCount, y_breaks, (gd_iI (lt_nat t lg w kn sw (Λ q))), (nI (rn_sc t (Λ q).1 (Λ q).2.1)), y_lineCount, y_paragraphs, (gd_tI t), (gd_tI w), (gd_lI lg), (gd_kI kn), b_patA, b_patB, b_patC, b_patDigits, b_glyphs, b_glyphOf, b_bEnd, b_bNext, b_bHyphen, b_least, b_before, b_way, b_lFrom, b_lTo, b_lNumber, b_lParagraph, b_lPage, b_lHyphen, b_lLast, b_best)) : wpY_difference post ((nI n), (nI lc), (nI pc), (nI fw), (nI rw), (nI fl), (nI sw), (nI ss), (nI sk), (nI ba), (nI hyc), (nI ph), y_ready, y_glyphCount, y_breaks, y_natural, y_spaces, y_lineCount, y_paragraphs, (gd_tI t), (gd_tI w), (gd_lI lg), (gd_kI kn), b_patA, b_patB, b_patC, b_patDigits, b_glyphs, b_glyphOf, b_bEnd, b_bNext, b_bHyphen, b_least, b_before, b_way, b_lFrom, b_lTo, b_lNumber, b_lParagraph, b_lPage, b_lHyphen, b_lLast, b_best) (nI q) := by
  obtain ⟨r1, r2, r3, r4, r5, r6⟩ := Y q hq
  obtain ⟨w1, w2, w3, w4, w5, w6⟩ := V
  have vi : vp_in (nI q) 48 := vp_in_nI (by omega) (by omega)
  have cl : (nI q).toNatClampNeg = q := nI_clamp (by omega)
  unfold wpY_difference
  refine ⟨vi, vi, vi, ?_⟩
  rw [cl, r1, r2, r3]
  refine yk_walk C.1 w1 w2 C.2.1 w3 w5 _ (fun y_glyphCount b_glyphs b_glyphOf => ⟨vi, ?_⟩)
  rw [r4]
  refine by_due (by omega) C.2.2.2.2.2.2.1 ?_
  have e : nI (bd_due fw rw fl (Λ q).2.2.2.1) - gd_iI (rn_x t lg w kn sw (Λ q).1 (Λ q).2.1 (Λ q).2.1 + cond (Λ q).2.2.1 5 0) = gd_iI (lt_dif t lg w kn sw fw rw fl (Λ q)) := by rw [gd_nat, gd_sub]; rfl
  rw [e]
  exact hp _ _ _
end
theorem i_vc_line {k : Nat} {u : SX} {v : SY} (I : i_Rel k u v) (hk : k + 5 ≤ 2560) (v1 : Int32) (v2 : Int32) : wpX_line (fun r u' => wpY_line (fun r' v' => r' = r ∧ i_Rel (k + 5) u' v') v v1 v2) u v1 v2 := by
  refine rl_elim (Q := fun u v => wpX_line (fun r u' => wpY_line (fun r' v' => r' = r ∧ i_Rel (k + 5) u' v') v v1 v2) u v1 v2) I ?_
  intro n lc pc fw rw fl sw ss sk ba hyc ph t w lg kn P pa pb pq pd x_breakCount x_lineCount x_paragraphCount x_stale a_heads a_glyphs a_breakEnd a_breakNext a_breakHyphen a_breakTaken a_wayDemerits a_wayBefore a_lineFacts a_paragraphDemerits y_ready y_glyphCount y_breaks y_natural y_spaces y_lineCount y_paragraphs b_patA b_patB b_patC b_patDigits b_glyphs b_glyphOf b_bEnd b_bNext b_bHyphen b_least b_before b_way b_lFrom b_lTo b_lNumber b_lParagraph b_lPage b_lHyphen b_lLast b_best B
  obtain ⟨C, L, R, F⟩ := id B
  obtain ⟨e1, e2, e3, e4, e5⟩ := ly_end (P := P) C
  unfold wpX_line
  refine lo_x B (fun x_breakCount x_lineCount x_paragraphCount a_heads a_glyphs a_breakEnd a_breakNext a_breakHyphen a_breakTaken a_wayDemerits a_wayBefore a_lineFacts a_paragraphDemerits rx => ?_)
  have rx' := rx
  obtain ⟨x1, x2, x3, x4⟩ := rx
  subst x1
  have no : ¬ (0 ≤ v1.toInt ∧ v1.toInt < (ly_at t w lg kn P n sw ss sk fw rw fl ba hyc (n + 1)).1.2.1 ∧ 0 ≤ v2.toInt ∧ v2.toInt ≤ 6) → wpY_line (fun r' v' => r' = -1 ∧ i_Rel (k + 5) ((nI n), (nI lc), (nI pc), (nI fw), (nI rw), (nI fl), (nI sw), (nI ss), (nI sk), (nI ba), (nI hyc), (nI ph), x_breakCount, (nI (ly_at t w lg kn P n sw ss sk fw rw fl ba hyc (n + 1)).1.2.1), x_paragraphCount, 0, (gd_tI t), (gd_tI w), (gd_lI lg), (gd_kI kn), (gd_tI P), a_heads, a_glyphs, a_breakEnd, a_breakNext, a_breakHyphen, a_breakTaken, a_wayDemerits, a_wayBefore, a_lineFacts, a_paragraphDemerits) v') ((nI n), (nI lc), (nI pc), (nI fw), (nI rw), (nI fl), (nI sw), (nI ss), (nI sk), (nI ba), (nI hyc), (nI ph), y_ready, y_glyphCount, y_breaks, y_natural, y_spaces, y_lineCount, y_paragraphs, (gd_tI t), (gd_tI w), (gd_lI lg), (gd_kI kn), b_patA, b_patB, b_patC, b_patDigits, b_glyphs, b_glyphOf, b_bEnd, b_bNext, b_bHyphen, b_least, b_before, b_way, b_lFrom, b_lTo, b_lNumber, b_lParagraph, b_lPage, b_lHyphen, b_lLast, b_best) v1 v2 := by
    intro h
    unfold wpY_line
    refine lo_y B (fun y_glyphCount y_breaks y_natural y_spaces y_lineCount y_paragraphs b_glyphs b_glyphOf b_bEnd b_bNext b_bHyphen b_least b_before b_way b_lFrom b_lTo b_lNumber b_lParagraph b_lPage b_lHyphen b_lLast b_best ry => ?_)
    have ok := rl_set (k := k) (j := k + 5) C L R (by omega) rx' ry (x_breakCount := x_breakCount) (a_heads := a_heads) (a_glyphs := a_glyphs) (a_breakEnd := a_breakEnd) (a_breakNext := a_breakNext) (a_breakHyphen := a_breakHyphen) (a_breakTaken := a_breakTaken) (a_wayDemerits := a_wayDemerits) (a_wayBefore := a_wayBefore) (y_glyphCount := y_glyphCount) (y_breaks := y_breaks) (y_natural := y_natural) (y_spaces := y_spaces) (b_glyphs := b_glyphs) (b_glyphOf := b_glyphOf) (b_bEnd := b_bEnd) (b_bNext := b_bNext) (b_bHyphen := b_bHyphen) (b_least := b_least) (b_before := b_before) (b_way := b_way)
    obtain ⟨y1, y2, y3, y4⟩ := ry
    subst y1
    exact wi_lt 0 (fun _ => ⟨rfl, ok⟩) (fun q1 => wi_ge (ly_at t w lg kn P n sw ss sk fw rw fl ba hyc (n + 1)).1.2.1 (fun _ => ⟨rfl, ok⟩) (fun q2 => wi_lt 0 (fun _ => ⟨rfl, ok⟩) (fun q3 => wi_le 6 (fun q4 => absurd ⟨q1, q2, q3, q4⟩ h) (fun _ => ⟨rfl, ok⟩))) (nI_toInt (by omega)))
  refine wi_lt 0 (fun _ => no (by omega)) (fun q1 => wi_ge (ly_at t w lg kn P n sw ss sk fw rw fl ba hyc (n + 1)).1.2.1 (fun _ => no (by omega)) (fun q2 => wx_in 0 6 (gd_bt (fun y => no (fun h => of_decide_eq_false y h.2.2)) (fun y => ?_))) (nI_toInt (by omega)))
  have y := of_decide_eq_true y
  clear no
  obtain ⟨q, rfl, _, qa, qb⟩ := wi_c (x := v1) (c := 0) (d := 47) ⟨q1, by omega⟩ (Int.le_refl 0)
  obtain ⟨c, rfl, _, ca, cb⟩ := wi_c y (Int.le_refl 0)
  rw [nI_toInt qb] at q2
  have hq : q < (ly_at t w lg kn P n sw ss sk fw rw fl ba hyc (n + 1)).1.2.1 := by omega
  have V := e3 q hq
  have ei : nI q * 8 + nI c = nI (8 * q + c) := by rw [show (8 : Int32) = nI 8 from rfl, pk_mul, nI_add, Nat.mul_comm]
  refine ⟨pk_in (8 * q + c) 384 (by omega) ei, ?_⟩
  rw [ei, nI_clamp (by omega)]
  unfold wpY_line
  refine lo_y B (fun y_glyphCount y_breaks y_natural y_spaces y_lineCount y_paragraphs b_glyphs b_glyphOf b_bEnd b_bNext b_bHyphen b_least b_before b_way b_lFrom b_lTo b_lNumber b_lParagraph b_lPage b_lHyphen b_lLast b_best ry => ?_)
  have ok : ∀ y_glyphCount y_natural y_spaces b_glyphs b_glyphOf, i_Rel (k + 5) ((nI n), (nI lc), (nI pc), (nI fw), (nI rw), (nI fl), (nI sw), (nI ss), (nI sk), (nI ba), (nI hyc), (nI ph), x_breakCount, (nI (ly_at t w lg kn P n sw ss sk fw rw fl ba hyc (n + 1)).1.2.1), x_paragraphCount, 0, (gd_tI t), (gd_tI w), (gd_lI lg), (gd_kI kn), (gd_tI P), a_heads, a_glyphs, a_breakEnd, a_breakNext, a_breakHyphen, a_breakTaken, a_wayDemerits, a_wayBefore, a_lineFacts, a_paragraphDemerits) ((nI n), (nI lc), (nI pc), (nI fw), (nI rw), (nI fl), (nI sw), (nI ss), (nI sk), (nI ba), (nI hyc), (nI ph), 1, y_glyphCount, y_breaks, y_natural, y_spaces, y_lineCount, y_paragraphs, (gd_tI t), (gd_tI w), (gd_lI lg), (gd_kI kn), b_patA, b_patB, b_patC, b_patDigits, b_glyphs, b_glyphOf, b_bEnd, b_bNext, b_bHyphen, b_least, b_before, b_way, b_lFrom, b_lTo, b_lNumber, b_lParagraph, b_lPage, b_lHyphen, b_lLast, b_best) := fun _ _ _ _ _ => rl_set C L R (by omega) rx' ry
  obtain ⟨y1, y2, y3, y4⟩ := ry
  subst y1
  obtain ⟨r1, r2, r3, r4, r5, r6⟩ := y3.1 q hq
  obtain ⟨f0, f1, f2, f3, f4, f5, f7⟩ := x3.1 q hq
  have f6 := x4 q hq
  have p6 := y4 q hq
  have vi : vp_in (nI q) 48 := vp_in_nI (by omega) (by omega)
  have cl : (nI q).toNatClampNeg = q := nI_clamp (by omega)
  have hd := lt_dif_b (r := (ly_at t w lg kn P n sw ss sk fw rw fl ba hyc (n + 1)).1.1 q) C V.2.1
  have hsc := rn_sc_le (t := t) (s := ((ly_at t w lg kn P n sw ss sk fw rw fl ba hyc (n + 1)).1.1 q).1) ((ly_at t w lg kn P n sw ss sk fw rw fl ba hyc (n + 1)).1.1 q).2.1
  have hV1 := V.2.1
  have hn := C.1
  refine br_f (nI_pos (by omega)) (br_f (nI_ge (by omega) (by omega)) (br_f (nI_pos (by omega)) (br_t (nI_le (b := 6) (by omega) (by decide)) ?_)))
  refine yd_diff C e1 hq V y3.1 (fun y_glyphCount b_glyphs b_glyphOf => ?_)
  have hc : c = 0 ∨ c = 1 ∨ c = 2 ∨ c = 3 ∨ c = 4 ∨ c = 5 ∨ c = 6 := by omega
  rcases hc with rfl | rfl | rfl | rfl | rfl | rfl | rfl
  · refine br_f (by decide) (br_f (by decide) (br_t rfl ⟨vi, ?_, ok _ _ _ _ _⟩))
    rw [cl, r1, f0]
  · refine br_f (by decide) (br_f (by decide) (br_f (by decide) (br_t rfl ⟨vi, ?_, ok _ _ _ _ _⟩)))
    rw [cl, r2, f1]
  · refine br_f (by decide) (br_f (by decide) (br_f (by decide) (br_f (by decide) (br_t rfl ⟨?_, ok _ _ _ _ _⟩))))
    rw [f2]
  · refine br_f (by decide) (br_f (by decide) (br_f (by decide) (br_f (by decide) (br_f (by decide) (br_t rfl ⟨vi, ?_⟩)))))
    rw [cl, r5]
    refine by_bad hd C.2.2.2.2.2.2.2.2.1 C.2.2.2.2.2.2.2.2.2.1 (by omega) ⟨?_, ok _ _ _ _ _⟩
    rw [f3]; rfl
  · refine br_f (by decide) (br_f (by decide) (br_f (by decide) (br_f (by decide) (br_f (by decide) (br_f (by decide) (br_t rfl ⟨vi, ?_⟩))))))
    rw [f4]
    exact gd_bx _ (by rw [cl, r3]) (fun z => ⟨by rw [z]; rfl, ok _ _ _ _ _⟩) (fun z => ⟨by rw [z]; rfl, ok _ _ _ _ _⟩)
  · refine br_f (by decide) (br_f (by decide) (br_f (by decide) (br_f (by decide) (br_f (by decide) (br_f (by decide) (br_f (by decide) (br_t rfl ⟨vi, ?_, ok _ _ _ _ _⟩)))))))
    rw [cl, r6, f5]
  · refine br_f (by decide) (br_t (by decide) ⟨vi, ?_, ok _ _ _ _ _⟩)
    rw [cl, p6, f6]
