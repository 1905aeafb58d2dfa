/-! pattern -/
def ps_v (A B C : Int) : Nat := if (0 ≤ A ∧ A ≤ 10) ∧ (-1 ≤ B ∧ B ≤ 10) ∧ (-1 ≤ C ∧ C ≤ 10) then (if B = -1 then (if C = -1 ∧ A ≠ 10 then 1 else 0) else if C = -1 then (if A = 10 ∧ B = 10 then 0 else 2) else if B = 10 then 0 else 3) else 0
theorem ps_le (A B C : Int) : ps_v A B C ≤ 3 := by
  rw [ps_v]
  split
  · split
    · split <;> omega
    · split
      · split <;> omega
      · split <;> omega
  · omega
theorem ps_x {post : Int32 → Prop} {x y z : Int32} (hp : post (nI (ps_v x.toInt y.toInt z.toInt))) : wpX_patternSize post x y z := by
  rw [ps_v] at hp
  unfold wpX_patternSize
  refine wx_in 0 10 (gd_bt (fun h => ?_) (fun h => wx_in (-1) 10 (gd_bt (fun h2 => ?_) (fun h2 => wx_in (-1) 10 (gd_bt (fun h3 => ?_) (fun h3 => ?_))))))
  · rw [if_neg (fun q => of_decide_eq_false h q.1)] at hp; exact hp
  · rw [if_neg (fun q => of_decide_eq_false h2 q.2.1)] at hp; exact hp
  · rw [if_neg (fun q => of_decide_eq_false h3 q.2.2)] at hp; exact hp
  · rw [if_pos ⟨of_decide_eq_true h, of_decide_eq_true h2, of_decide_eq_true h3⟩] at hp
    refine wi_eq (-1) (fun a => wi_eq (-1) (fun b => wi_eq 10 (fun c => ?_) (fun c => ?_)) (fun b => ?_)) (fun a => wi_eq (-1) (fun b => wi_eq 10 (fun c => wi_eq 10 (fun d => ?_) (fun d => ?_)) (fun c => ?_)) (fun b => wi_eq 10 (fun c => ?_) (fun c => ?_)))
    · rw [if_pos a, if_neg (by omega)] at hp; exact hp
    · rw [if_pos a, if_pos ⟨b, c⟩] at hp; exact hp
    · rw [if_pos a, if_neg (by omega)] at hp; exact hp
    · rw [if_neg a, if_pos b, if_pos ⟨c, d⟩] at hp; exact hp
    · rw [if_neg a, if_pos b, if_neg (by omega)] at hp; exact hp
    · rw [if_neg a, if_pos b, if_neg (by omega)] at hp; exact hp
    · rw [if_neg a, if_neg b, if_pos c] at hp; exact hp
    · rw [if_neg a, if_neg b, if_neg c] at hp; exact hp
def ps_g (s : Nat) : Nat := if s = 0 then 9 else if s = 1 then 99 else if s = 2 then 999 else 9999
theorem ps_gx {post : Int32 → Prop} {s : Nat} (hs : s ≤ 3) (hp : post (nI (ps_g s))) : wpX_greatestDigits post (nI s) := by
  have : s = 0 ∨ s = 1 ∨ s = 2 ∨ s = 3 := by omega
  rcases this with rfl | rfl | rfl | rfl
  · exact ⟨1, br_t (by decide) hp⟩
  · exact ⟨2, br_f (by decide) (nm_r (e' := nI 99) (by decide) (nm_r (e' := nI 1) (by decide) (br_t (by decide) hp)))⟩
  · exact ⟨3, br_f (by decide) (nm_r (e' := nI 99) (by decide) (nm_r (e' := nI 1) (by decide) (br_f (by decide) (nm_r (e' := nI 999) (by decide) (nm_r (e' := nI 2) (by decide) (br_t (by decide) hp))))))⟩
  · exact ⟨4, br_f (by decide) (nm_r (e' := nI 99) (by decide) (nm_r (e' := nI 1) (by decide) (br_f (by decide) (nm_r (e' := nI 999) (by decide) (nm_r (e' := nI 2) (by decide) (br_f (by decide) (nm_r (e' := nI 9999) (by decide) (nm_r (e' := nI 3) (by decide) (br_t (by decide) hp)))))))))⟩
section
variable {n lc pc fw rw fl sw ss sk ba hyc ph : Nat} {t w lg : Nat → Nat} {kn : Nat → Int}
variable {y_ready y_glyphCount y_breaks y_natural y_spaces y_lineCount y_paragraphs : Int32} {b_patA b_patB b_patC b_patDigits b_glyphs b_glyphOf b_bEnd b_bNext b_bHyphen b_before b_way b_lFrom b_lTo b_lNumber b_lParagraph b_lPage b_lHyphen b_lLast : Nat → Int32} {b_least b_best : Nat → Int64}
theorem ps_y {post : Int32 → SY → Prop} {x y z d : Int32} (hp0 : ¬ (ps_v x.toInt y.toInt z.toInt ≠ 0 ∧ 0 ≤ d.toInt ∧ d.toInt ≤ ps_g (ps_v x.toInt y.toInt z.toInt)) → post 0 ((nI n), (nI lc), (nI pc), (nI fw), (nI rw), (nI fl), (nI sw), (nI ss), (nI sk), (nI ba), (nI hyc), (nI ph), y_ready, y_glyphCount, y_breaks, y_natural, y_spaces, y_lineCount, y_paragraphs, (gd_tI t), (gd_tI w), (gd_lI lg), (gd_kI kn), b_patA, b_patB, b_patC, b_patDigits, b_glyphs, b_glyphOf, b_bEnd, b_bNext, b_bHyphen, b_least, b_before, b_way, b_lFrom, b_lTo, b_lNumber, b_lParagraph, b_lPage, b_lHyphen, b_lLast, b_best)) (hp1 : (ps_v x.toInt y.toInt z.toInt ≠ 0 ∧ 0 ≤ d.toInt ∧ d.toInt ≤ ps_g (ps_v x.toInt y.toInt z.toInt)) → ∃ n144 : Nat, wY_pattern_144 post x y z d (nI n) (nI lc) (nI pc) (nI fw) (nI rw) (nI fl) (nI sw) (nI ss) (nI sk) (nI ba) (nI hyc) (nI ph) y_ready y_glyphCount y_breaks y_natural y_spaces y_lineCount y_paragraphs (gd_tI t) (gd_tI w) (gd_lI lg) (gd_kI kn) b_patA b_patB b_patC b_patDigits b_glyphs b_glyphOf b_bEnd b_bNext b_bHyphen b_least b_before b_way b_lFrom b_lTo b_lNumber b_lParagraph b_lPage b_lHyphen b_lLast b_best n144 0) : wpY_pattern post ((nI n), (nI lc), (nI pc), (nI fw), (nI rw), (nI fl), (nI sw), (nI ss), (nI sk), (nI ba), (nI hyc), (nI ph), y_ready, y_glyphCount, y_breaks, y_natural, y_spaces, y_lineCount, y_paragraphs, (gd_tI t), (gd_tI w), (gd_lI lg), (gd_kI kn), b_patA, b_patB, b_patC, b_patDigits, b_glyphs, b_glyphOf, b_bEnd, b_bNext, b_bHyphen, b_least, b_before, b_way, b_lFrom, b_lTo, b_lNumber, b_lParagraph, b_lPage, b_lHyphen, b_lLast, b_best) x y z d := by
  have out : ¬ ((0 ≤ x.toInt ∧ x.toInt ≤ 10) ∧ (-1 ≤ y.toInt ∧ y.toInt ≤ 10) ∧ (-1 ≤ z.toInt ∧ z.toInt ≤ 10)) → post 0 ((nI n), (nI lc), (nI pc), (nI fw), (nI rw), (nI fl), (nI sw), (nI ss), (nI sk), (nI ba), (nI hyc), (nI ph), y_ready, y_glyphCount, y_breaks, y_natural, y_spaces, y_lineCount, y_paragraphs, (gd_tI t), (gd_tI w), (gd_lI lg), (gd_kI kn), b_patA, b_patB, b_patC, b_patDigits, b_glyphs, b_glyphOf, b_bEnd, b_bNext, b_bHyphen, b_least, b_before, b_way, b_lFrom, b_lTo, b_lNumber, b_lParagraph, b_lPage, b_lHyphen, b_lLast, b_best) := by
    intro h
    refine hp0 (fun q => q.1 ?_)
    rw [ps_v, if_neg h]
  have bad : ps_v x.toInt y.toInt z.toInt = 0 → post 0 ((nI n), (nI lc), (nI pc), (nI fw), (nI rw), (nI fl), (nI sw), (nI ss), (nI sk), (nI ba), (nI hyc), (nI ph), y_ready, y_glyphCount, y_breaks, y_natural, y_spaces, y_lineCount, y_paragraphs, (gd_tI t), (gd_tI w), (gd_lI lg), (gd_kI kn), b_patA, b_patB, b_patC, b_patDigits, b_glyphs, b_glyphOf, b_bEnd, b_bNext, b_bHyphen, b_least, b_before, b_way, b_lFrom, b_lTo, b_lNumber, b_lParagraph, b_lPage, b_lHyphen, b_lLast, b_best) := fun h => hp0 (fun q => q.1 h)
  refine wi_lt 0 (fun h => out (by omega)) (fun h1 => wi_gt 10 (fun h => out (by omega)) (fun h2 => wi_lt (-1) (fun h => out (by omega)) (fun h3 => wi_gt 10 (fun h => out (by omega)) (fun h4 => wi_lt (-1) (fun h => out (by omega)) (fun h5 => wi_gt 10 (fun h => out (by omega)) (fun h6 => ?_))))))
  have hin : (0 ≤ x.toInt ∧ x.toInt ≤ 10) ∧ (-1 ≤ y.toInt ∧ y.toInt ≤ 10) ∧ (-1 ≤ z.toInt ∧ z.toInt ≤ 10) := ⟨⟨h1, h2⟩, ⟨h3, h4⟩, h5, h6⟩
  have st99 : ∀ s : Nat, 1 ≤ s → s ≤ 3 → ps_v x.toInt y.toInt z.toInt = s → wY_pattern_99 post x y z d (nI s) (nI n) (nI lc) (nI pc) (nI fw) (nI rw) (nI fl) (nI sw) (nI ss) (nI sk) (nI ba) (nI hyc) (nI ph) y_ready y_glyphCount y_breaks y_natural y_spaces y_lineCount y_paragraphs (gd_tI t) (gd_tI w) (gd_lI lg) (gd_kI kn) b_patA b_patB b_patC b_patDigits b_glyphs b_glyphOf b_bEnd b_bNext b_bHyphen b_least b_before b_way b_lFrom b_lTo b_lNumber b_lParagraph b_lPage b_lHyphen b_lLast b_best := by
    intro s s1 s3 hs
    rw [hs] at hp0 hp1
    have go : ∀ g : Int32, g.toInt = ps_g s → wY_pattern_125 post x y z d g (nI n) (nI lc) (nI pc) (nI fw) (nI rw) (nI fl) (nI sw) (nI ss) (nI sk) (nI ba) (nI hyc) (nI ph) y_ready y_glyphCount y_breaks y_natural y_spaces y_lineCount y_paragraphs (gd_tI t) (gd_tI w) (gd_lI lg) (gd_kI kn) b_patA b_patB b_patC b_patDigits b_glyphs b_glyphOf b_bEnd b_bNext b_bHyphen b_least b_before b_way b_lFrom b_lTo b_lNumber b_lParagraph b_lPage b_lHyphen b_lLast b_best := by
      intro g hg
      exact wi_lt 0 (fun q => hp0 (by omega)) (fun q => wi_le (ps_g s) (fun q2 => hp1 ⟨by omega, q, q2⟩) (fun q2 => hp0 (by omega)) hg)
    refine pk_eq s 1 (fun q => go _ (by rw [ps_g, if_neg (by omega), if_pos q]; decide)) (fun q => pk_eq s 2 (fun q2 => go _ (by rw [ps_g, if_neg (by omega), if_neg q, if_pos q2]; decide)) (fun q2 => go _ (by rw [ps_g, if_neg (by omega), if_neg q, if_neg q2]; decide)))
  have e42 : wY_pattern_42 post x y z d (nI n) (nI lc) (nI pc) (nI fw) (nI rw) (nI fl) (nI sw) (nI ss) (nI sk) (nI ba) (nI hyc) (nI ph) y_ready y_glyphCount y_breaks y_natural y_spaces y_lineCount y_paragraphs (gd_tI t) (gd_tI w) (gd_lI lg) (gd_kI kn) b_patA b_patB b_patC b_patDigits b_glyphs b_glyphOf b_bEnd b_bNext b_bHyphen b_least b_before b_way b_lFrom b_lTo b_lNumber b_lParagraph b_lPage b_lHyphen b_lLast b_best ∨ (y.toInt < 0 ∧ 0 ≤ z.toInt) := by
    by_cases yz : y.toInt < 0 ∧ 0 ≤ z.toInt
    · exact Or.inr yz
    · left
      refine wi_ge 0 (fun a => wi_ge 0 (fun b => ?_) (fun b => ?_)) (fun a => ?_)
      · -- three letters
        refine br_t rfl (wi_eq 10 (fun c => bad (by rw [ps_v, if_pos hin, if_neg (by omega), if_neg (by omega), if_pos c])) (fun c => ?_))
        have hs : ps_v x.toInt y.toInt z.toInt = 3 := by rw [ps_v, if_pos hin, if_neg (by omega), if_neg (by omega), if_neg c]
        exact wi_eq 10 (fun _ => br_f (by decide) (br_f (by decide) (st99 3 (by omega) (by omega) hs))) (fun _ => st99 3 (by omega) (by omega) hs)
      · refine br_f (by decide) (wi_eq 10 (fun c => br_f (by decide) (br_t rfl (wi_eq 10 (fun c2 => bad (by rw [ps_v, if_pos hin, if_neg (by omega), if_pos (by omega), if_pos ⟨c, c2⟩])) (fun c2 => ?_)))) (fun c => ?_))
        · exact st99 2 (by omega) (by omega) (by rw [ps_v, if_pos hin, if_neg (by omega), if_pos (by omega), if_neg (by omega)])
        · exact st99 2 (by omega) (by omega) (by rw [ps_v, if_pos hin, if_neg (by omega), if_pos (by omega), if_neg (by omega)])
      · refine br_f (by decide) (wi_eq 10 (fun c => br_t rfl (bad (by rw [ps_v, if_pos hin, if_pos (by omega), if_neg (by omega)]))) (fun c => ?_))
        exact st99 1 (by omega) (by omega) (by rw [ps_v, if_pos hin, if_pos (by omega), if_pos (by omega)])
  refine wi_ge 0 (fun a => ?_) (fun a => wi_lt 0 (fun b => ?_) (fun b => bad (by rw [ps_v, if_pos hin, if_pos (by omega), if_neg (by omega)])))
  · rcases e42 with q | q
    · exact q
    · omega
  · rcases e42 with q | q
    · exact q
    · omega
end
/-! changes of the list of patterns -/
section
variable {P pa pb pq pd : Nat → Nat} {pc : Nat} {A B C G : Nat → Int32}
theorem pt_keep {a b c d x : Nat} {p : Nat} (h : pt_row P (A p) (B p) (C p) (G p) (pa p) (pb p) (pq p) (pd p)) (hne : pt_key (pa p) (pb p) (pq p) ≠ pt_key a b c) : pt_row (gd_un P (pt_key a b c) x) (A p) (B p) (C p) (G p) (pa p) (pb p) (pq p) (pd p) := by
  obtain ⟨r1, r2, r3, r4, r5, r6, r7⟩ := h
  exact ⟨r1, r2, r3, r4, r5, r6, by rw [gd_un, if_neg hne, r7]⟩
theorem pt_un {f : Nat → Nat} {k x : Nat} : gd_un f k x k = x := if_pos rfl
theorem pt_uo {f : Nat → Nat} {k x j : Nat} (h : j ≠ k) : gd_un f k x j = f j := if_neg h
theorem pt_add {a b c d : Nat} (h : pt_ok P pc A B C G pa pb pq pd) (h10 : pc < 10) (hv : a ≤ 10 ∧ b ≤ 11 ∧ c ≤ 11 ∧ (b = 0 → c = 0)) (hd : 0 < d ∧ d ≤ 9999) (hP : P (pt_key a b c) = 0) :
    pt_ok (gd_un P (pt_key a b c) d) (pc + 1) (upd A pc (nI a)) (upd B pc (gd_iI ((b : Int) - 1))) (upd C pc (gd_iI ((c : Int) - 1))) (upd G pc (nI d)) (gd_un pa pc a) (gd_un pb pc b) (gd_un pq pc c) (gd_un pd pc d) := by
  obtain ⟨q1, q2, q3, q4, q5⟩ := h
  have hne : ∀ p, p < pc → pt_key (pa p) (pb p) (pq p) ≠ pt_key a b c := by
    intro p hp e
    obtain ⟨_, _, _, _, _, r6, r7⟩ := q2 p hp
    rw [e, hP] at r7
    omega
  refine ⟨by omega, fun p hp => ?_, fun p q hpq hq => ?_, fun k hk => ?_, fun k => ?_⟩
  · by_cases e : p = pc
    · subst e
      rw [pk_us, pk_us, pk_us, pk_us, pt_un, pt_un, pt_un, pt_un]
      exact ⟨rfl, rfl, rfl, rfl, hv, hd, pt_un⟩
    · rw [pk_un e, pk_un e, pk_un e, pk_un e, pt_uo e, pt_uo e, pt_uo e, pt_uo e]
      exact pt_keep (d := 0) (q2 p (by omega)) (hne p (by omega))
  · have e1 : p ≠ pc := by omega
    rw [pt_uo e1, pt_uo e1, pt_uo e1]
    by_cases e : q = pc
    · subst e
      rw [pt_un, pt_un, pt_un]
      exact hne p hpq
    · rw [pt_uo e, pt_uo e, pt_uo e]
      exact q3 p q hpq (by omega)
  · by_cases e : k = pt_key a b c
    · refine ⟨pc, by omega, ?_⟩
      rw [pt_un, pt_un, pt_un, e]
    · rw [pt_uo e] at hk
      obtain ⟨p, h1, h2⟩ := q4 k hk
      refine ⟨p, by omega, ?_⟩
      have e1 : p ≠ pc := by omega
      rw [pt_uo e1, pt_uo e1, pt_uo e1]
      exact h2
  · rw [gd_un]; split
    · omega
    · exact q5 k
theorem pt_none {a b c : Nat} {A' B' C' G' : Nat → Int32} (h : pt_ok P pc A B C G pa pb pq pd) (hP : P (pt_key a b c) = 0) (hs : ∀ p, p < pc → A' p = A p ∧ B' p = B p ∧ C' p = C p ∧ G' p = G p) : pt_ok (gd_un P (pt_key a b c) 0) pc A' B' C' G' pa pb pq pd := by
  have e : gd_un P (pt_key a b c) 0 = P := by
    funext j
    by_cases e : j = pt_key a b c
    · rw [e, pt_un, hP]
    · rw [pt_uo e]
  rw [e]
  obtain ⟨q1, q2, q3, q4, q5⟩ := h
  refine ⟨q1, fun p hp => ?_, q3, q4, q5⟩
  obtain ⟨s1, s2, s3, s4⟩ := hs p hp
  rw [s1, s2, s3, s4]
  exact q2 p hp
theorem pt_set {a b c d p0 : Nat} (h : pt_ok P pc A B C G pa pb pq pd) (hp0 : p0 < pc) (ha : pa p0 = a) (hb : pb p0 = b) (hc : pq p0 = c) (hd : 0 < d ∧ d ≤ 9999) :
    pt_ok (gd_un P (pt_key a b c) d) pc (upd A p0 (nI a)) (upd B p0 (gd_iI ((b : Int) - 1))) (upd C p0 (gd_iI ((c : Int) - 1))) (upd G p0 (nI d)) pa pb pq (gd_un pd p0 d) := by
  obtain ⟨q1, q2, q3, q4, q5⟩ := h
  subst ha hb hc
  have hne : ∀ p, p < pc → p ≠ p0 → pt_key (pa p) (pb p) (pq p) ≠ pt_key (pa p0) (pb p0) (pq p0) := by
    intro p hp e
    rcases Nat.lt_or_ge p p0 with z | z
    · exact q3 p p0 z hp0
    · exact (q3 p0 p (by omega) hp).symm
  refine ⟨q1, fun p hp => ?_, q3, fun k hk => ?_, fun k => ?_⟩
  · by_cases e : p = p0
    · subst e
      rw [pk_us, pk_us, pk_us, pk_us, pt_un]
      exact ⟨rfl, rfl, rfl, rfl, (q2 p hp).2.2.2.2.1, hd, pt_un⟩
    · rw [pk_un e, pk_un e, pk_un e, pk_un e, pt_uo e]
      exact pt_keep (d := 0) (q2 p hp) (hne p hp e)
  · by_cases e : k = pt_key (pa p0) (pb p0) (pq p0)
    · exact ⟨p0, hp0, e.symm⟩
    · rw [pt_uo e] at hk
      exact q4 k hk
  · rw [gd_un]; split
    · omega
    · exact q5 k
theorem pt_del {a b c p0 : Nat} {A' B' C' G' : Nat → Int32} (h : pt_ok P pc A B C G pa pb pq pd) (hp0 : p0 < pc) (ha : pa p0 = a) (hb : pb p0 = b) (hc : pq p0 = c)
    (hs : ∀ p, p < pc - 1 → p ≠ p0 → A' p = A p ∧ B' p = B p ∧ C' p = C p ∧ G' p = G p) (hl : p0 < pc - 1 → A' p0 = A (pc - 1) ∧ B' p0 = B (pc - 1) ∧ C' p0 = C (pc - 1) ∧ G' p0 = G (pc - 1)) :
    pt_ok (gd_un P (pt_key a b c) 0) (pc - 1) A' B' C' G' (gd_un pa p0 (pa (pc - 1))) (gd_un pb p0 (pb (pc - 1))) (gd_un pq p0 (pq (pc - 1))) (gd_un pd p0 (pd (pc - 1))) := by
  obtain ⟨q1, q2, q3, q4, q5⟩ := h
  subst ha hb hc
  have hne : ∀ p q, p < pc → q < pc → p ≠ q → pt_key (pa p) (pb p) (pq p) ≠ pt_key (pa q) (pb q) (pq q) := by
    intro p q hp hq e
    rcases Nat.lt_or_ge p q with z | z
    · exact q3 p q z hq
    · exact (q3 q p (by omega) hp).symm
  refine ⟨by omega, fun p hp => ?_, fun p q hpq hq => ?_, fun k hk => ?_, fun k => ?_⟩
  · by_cases e : p = p0
    · subst e
      obtain ⟨s1, s2, s3, s4⟩ := hl hp
      rw [s1, s2, s3, s4, pt_un, pt_un, pt_un, pt_un]
      exact pt_keep (d := 0) (q2 (pc - 1) (by omega)) (hne (pc - 1) p (by omega) (by omega) (by omega))
    · obtain ⟨s1, s2, s3, s4⟩ := hs p hp e
      rw [s1, s2, s3, s4, pt_uo e, pt_uo e, pt_uo e, pt_uo e]
      exact pt_keep (d := 0) (q2 p (by omega)) (hne p p0 (by omega) (by omega) e)
  · by_cases e : p = p0
    · have e2 : q ≠ p0 := by omega
      rw [e, pt_un, pt_un, pt_un, pt_uo e2, pt_uo e2, pt_uo e2]
      exact hne (pc - 1) q (by omega) (by omega) (by omega)
    · rw [pt_uo e, pt_uo e, pt_uo e]
      by_cases e2 : q = p0
      · rw [e2, pt_un, pt_un, pt_un]
        exact hne p (pc - 1) (by omega) (by omega) (by omega)
      · rw [pt_uo e2, pt_uo e2, pt_uo e2]
        exact q3 p q hpq (by omega)
  · have e : k ≠ pt_key (pa p0) (pb p0) (pq p0) := fun z => hk (by rw [z, pt_un])
    rw [pt_uo e] at hk
    obtain ⟨p, h1, h2⟩ := q4 k hk
    have e1 : p ≠ p0 := fun z => e (by rw [← h2, z])
    by_cases z : p < pc - 1
    · exact ⟨p, z, by rw [pt_uo e1, pt_uo e1, pt_uo e1]; exact h2⟩
    · refine ⟨p0, by omega, ?_⟩
      rw [pt_un, pt_un, pt_un, ← h2]
      have : p = pc - 1 := by omega
      rw [this]
  · rw [gd_un]; split
    · omega
    · exact q5 k
end
