/-! the reference's list of patterns against the table by keys -/
def pt_key (a b c : Nat) : Nat := ((a + 1) * 12 + b) * 12 + c
def pt_L (b c : Nat) : Nat := if b = 0 then 1 else if c = 0 then 2 else 3
def pt_row (P : Nat → Nat) (A B C G : Int32) (a b c d : Nat) : Prop := A = nI a ∧ B = gd_iI ((b : Int) - 1) ∧ C = gd_iI ((c : Int) - 1) ∧ G = nI d ∧ (a ≤ 10 ∧ b ≤ 11 ∧ c ≤ 11 ∧ (b = 0 → c = 0)) ∧ (0 < d ∧ d ≤ 9999) ∧ P (pt_key a b c) = d
def pt_ok (P : Nat → Nat) (pc : Nat) (b_patA b_patB b_patC b_patDigits : Nat → Int32) (pa pb pq pd : Nat → Nat) : Prop :=
  pc ≤ 10 ∧ (∀ p, p < pc → pt_row P (b_patA p) (b_patB p) (b_patC p) (b_patDigits p) (pa p) (pb p) (pq p) (pd p)) ∧
  (∀ p q, p < q → q < pc → pt_key (pa p) (pb p) (pq p) ≠ pt_key (pa q) (pb q) (pq q)) ∧ (∀ k, P k ≠ 0 → ∃ p, p < pc ∧ pt_key (pa p) (pb p) (pq p) = k) ∧ (∀ k, P k ≤ 9999)
theorem pt_inj {a b c a' b' c' : Nat} (h1 : b ≤ 11) (h2 : c ≤ 11) (h3 : b' ≤ 11) (h4 : c' ≤ 11) (h : pt_key a b c = pt_key a' b' c') : a = a' ∧ b = b' ∧ c = c' := by
  simp only [pt_key] at h; omega
theorem pt_L_b (b c : Nat) : 1 ≤ pt_L b c ∧ pt_L b c ≤ 3 := by
  rw [pt_L]; split
  · omega
  · split <;> omega
def pt_l (a b c k : Nat) : Nat := if k = 0 then a + 1 else if k = 1 then b else c
section
variable {t P : Nat → Nat} {wf wt place : Nat}
theorem hy_keyeq {a b c size idx : Nat} (hl : ∀ j, wf ≤ j → j < wt → t j < 10) (hb : b ≤ 11) (hc : c ≤ 11) : pt_key a b c = hy_key t wf wt place size idx ↔ (hy_cc t wf wt place size idx 0 = a + 1 ∧ hy_cc t wf wt place size idx 1 = b ∧ hy_cc t wf wt place size idx 2 = c) := by
  have c0 := hy_cc_lt (place := place) (size := size) (idx := idx) (i := 0) hl
  have c1 := hy_cc_lt (place := place) (size := size) (idx := idx) (i := 1) hl
  have c2 := hy_cc_lt (place := place) (size := size) (idx := idx) (i := 2) hl
  simp only [pt_key, hy_key]
  omega
theorem hy_keyL {a b c size idx : Nat} (hl : ∀ j, wf ≤ j → j < wt → t j < 10) (hb : b ≤ 11) (hc : c ≤ 11) (h1 : 1 ≤ size) (h3 : size ≤ 3) (h : pt_key a b c = hy_key t wf wt place size idx) : pt_L b c = size := by
  obtain ⟨e0, e1, e2⟩ := (hy_keyeq hl hb hc).mp h
  rw [hy_cc] at e1 e2
  rw [pt_L]
  by_cases s1 : 1 < size
  · rw [if_pos s1] at e1
    rw [if_neg (by omega)]
    by_cases s2 : 2 < size
    · rw [if_pos s2] at e2
      rw [if_neg (by omega)]; omega
    · rw [if_neg s2] at e2
      rw [if_pos (by omega)]; omega
  · rw [if_neg s1] at e1
    rw [if_pos (by omega)]; omega
end
/-- the greatest digit so far: of the patterns before p, and of p before k -/
def yh_inv (t : Nat → Nat) (wf wt place pc : Nat) (pa pb pq pd : Nat → Nat) (p k g : Nat) : Prop :=
  (∀ p' k', p' < pc → k' ≤ pt_L (pb p') (pq p') → (p' < p ∨ p' = p ∧ k' < k) → pt_key (pa p') (pb p') (pq p') = hy_key t wf wt place (pt_L (pb p') (pq p')) k' → pd p' / 10 ^ (pt_L (pb p') (pq p') - k') % 10 ≤ g) ∧
  (g = 0 ∨ ∃ p' k', p' < pc ∧ k' ≤ pt_L (pb p') (pq p') ∧ pt_key (pa p') (pb p') (pq p') = hy_key t wf wt place (pt_L (pb p') (pq p')) k' ∧ pd p' / 10 ^ (pt_L (pb p') (pq p') - k') % 10 = g)
theorem yh_max {t P : Nat → Nat} {wf wt place pc g : Nat} {pa pb pq pd : Nat → Nat} {b_patA b_patB b_patC b_patDigits : Nat → Int32} (hl : ∀ j, wf ≤ j → j < wt → t j < 10) (hpt : pt_ok P pc b_patA b_patB b_patC b_patDigits pa pb pq pd)
    (h : yh_inv t wf wt place pc pa pb pq pd pc 0 g) : g = hy_mx (hy_D t P wf wt place) := by
  obtain ⟨q1, q2, q3, q4, q5⟩ := hpt
  obtain ⟨h1, h2⟩ := h
  obtain ⟨m1, m2⟩ := hy_mx_ok (hy_D t P wf wt place)
  apply Nat.le_antisymm
  · rcases h2 with h2 | ⟨p, k, a, b, c, d⟩
    · omega
    · obtain ⟨_, _, _, _, _, _, e⟩ := q2 p a
      have := m1 (pt_L (pb p) (pq p)) k (pt_L_b _ _).1 (pt_L_b _ _).2 b
      rw [hy_D, ← c, e] at this
      omega
  · rcases m2 with m2 | ⟨size, idx, a, b, c, d⟩
    · omega
    · rw [d]
      by_cases z : P (hy_key t wf wt place size idx) = 0
      · rw [hy_D, z, Nat.zero_div]; exact Nat.zero_le _
      · obtain ⟨p, e1, e2⟩ := q4 _ z
        obtain ⟨_, _, _, _, f, _, e⟩ := q2 p e1
        have hL := hy_keyL hl f.2.1 f.2.2.1 a b e2
        have := h1 p idx e1 (by rw [hL]; exact c) (Or.inl e1) (by rw [hL]; exact e2)
        rw [hL] at this
        rw [hy_D, ← e2, e]
        exact this
section
variable {n lc pc fw rw fl sw ss sk ba hyc ph : Nat} {t w lg : Nat → Nat} {kn : Nat → Int}
variable {P pa pb pq pd : Nat → Nat}
variable {y_ready y_glyphCount y_breaks y_natural y_spaces y_lineCount y_paragraphs : Int32} {b_patA b_patB b_patC b_patDigits b_glyphs b_glyphOf b_bEnd b_bNext b_bHyphen b_before b_way b_lFrom b_lTo b_lNumber b_lParagraph b_lPage b_lHyphen b_lLast : Nat → Int32} {b_least b_best : Nat → Int64}
theorem yh_div (post : Int32 → Prop) {k : Nat} (hk : k < 1000) : ∀ d v, v < 2 ^ 31 → d < 1000 → post (nI (v / 10 ^ d % 10)) → wY_digit_39 post (nI k) (nI n) (nI lc) (nI pc) (nI fw) (nI rw) (nI fl) (nI sw) (nI ss) (nI sk) (nI ba) (nI hyc) (nI ph) y_ready y_glyphCount y_breaks y_natural y_spaces y_lineCount y_paragraphs (gd_tI t) (gd_tI w) (gd_lI lg) (gd_kI kn) b_patA b_patB b_patC b_patDigits b_glyphs b_glyphOf b_bEnd b_bNext b_bHyphen b_least b_before b_way b_lFrom b_lTo b_lNumber b_lParagraph b_lPage b_lHyphen b_lLast b_best (d + 1) (nI v) (nI (k + d)) := by
  intro d
  induction d with
  | zero =>
    intro v hv _ hp
    refine br_t (nI_le (by omega) (by omega)) ⟨by decide, ?_⟩
    rw [show (10 : Int32) = nI 10 from rfl, pk_rem hv (by omega) (by omega)]
    rw [show v / 10 ^ 0 = v by omega] at hp
    exact hp
  | succ d ih =>
    intro v hv hd hp
    refine br_f (nI_ge (by omega) (by omega)) ⟨by decide, nm_r (e' := nI (v / 10)) (pk_div (d := 10) hv (by omega) (by omega)) (nm_r (pk_m1 (k + d)) (ih (v / 10) (by omega) (by omega) ?_))⟩
    rw [Nat.div_div_eq_div_mul, show 10 * 10 ^ d = 10 ^ (d + 1) by rw [Nat.pow_succ, Nat.mul_comm]]
    exact hp
/-- the branch by a pattern's letters -/
theorem yh_br {A B C : Prop} {p : Nat} (hp : p < 10) (h : pt_row P (b_patA p) (b_patB p) (b_patC p) (b_patDigits p) (pa p) (pb p) (pq p) (pd p)) (h3 : pt_L (pb p) (pq p) = 3 → A) (h2 : pt_L (pb p) (pq p) = 2 → B) (h1 : pt_L (pb p) (pq p) = 1 → C) :
    vp_in (nI p) 10 ∧ (((0 ≤ b_patB (nI p).toNatClampNeg → (vp_in (nI p) 10 ∧ ((0 ≤ b_patC (nI p).toNatClampNeg → A) ∧ (¬ 0 ≤ b_patC (nI p).toNatClampNeg → B)))) ∧ (¬ 0 ≤ b_patB (nI p).toNatClampNeg → C))) := by
  obtain ⟨r1, r2, r3, r4, r5, r6, r7⟩ := h
  refine ⟨vp_in_nI hp (by omega), ?_⟩
  refine gd_zle 0 ((pb p : Int) - 1) (fun b1 => ⟨vp_in_nI hp (by omega), ?_⟩) (fun b1 => ?_) rfl (by rw [nI_clamp (by omega), r2]) (by omega) (by omega)
  · refine gd_zle 0 ((pq p : Int) - 1) (fun b2 => ?_) (fun b2 => ?_) rfl (by rw [nI_clamp (by omega), r3]) (by omega) (by omega)
    · exact h3 (by rw [pt_L, if_neg (by omega), if_neg (by omega)])
    · exact h2 (by rw [pt_L, if_neg (by omega), if_pos (by omega)])
  · exact h1 (by rw [pt_L, if_pos (by omega)])
theorem yh_digit {post : Int32 → Prop} {p k : Nat} (hp10 : p < 10) (h : pt_row P (b_patA p) (b_patB p) (b_patC p) (b_patDigits p) (pa p) (pb p) (pq p) (pd p)) (hk : k ≤ pt_L (pb p) (pq p))
    (hp : post (nI (pd p / 10 ^ (pt_L (pb p) (pq p) - k) % 10))) : wpY_digit post ((nI n), (nI lc), (nI pc), (nI fw), (nI rw), (nI fl), (nI sw), (nI ss), (nI sk), (nI ba), (nI hyc), (nI ph), y_ready, y_glyphCount, y_breaks, y_natural, y_spaces, y_lineCount, y_paragraphs, (gd_tI t), (gd_tI w), (gd_lI lg), (gd_kI kn), b_patA, b_patB, b_patC, b_patDigits, b_glyphs, b_glyphOf, b_bEnd, b_bNext, b_bHyphen, b_least, b_before, b_way, b_lFrom, b_lTo, b_lNumber, b_lParagraph, b_lPage, b_lHyphen, b_lLast, b_best) (nI p) (nI k) := by
  have hb := pt_L_b (pb p) (pq p)
  obtain ⟨r1, r2, r3, r4, r5, r6, r7⟩ := id h
  have key : ∀ L, pt_L (pb p) (pq p) = L → wY_digit_27 post (nI p) (nI k) (nI L) (nI n) (nI lc) (nI pc) (nI fw) (nI rw) (nI fl) (nI sw) (nI ss) (nI sk) (nI ba) (nI hyc) (nI ph) y_ready y_glyphCount y_breaks y_natural y_spaces y_lineCount y_paragraphs (gd_tI t) (gd_tI w) (gd_lI lg) (gd_kI kn) b_patA b_patB b_patC b_patDigits b_glyphs b_glyphOf b_bEnd b_bNext b_bHyphen b_least b_before b_way b_lFrom b_lTo b_lNumber b_lParagraph b_lPage b_lHyphen b_lLast b_best := by
    intro L hL
    refine ⟨vp_in_nI hp10 (by omega), nm_r (e' := nI (pd p)) (by rw [nI_clamp (by omega), r4]) ⟨L - k + 1, ?_⟩⟩
    have := yh_div (n := n) (lc := lc) (pc := pc) (fw := fw) (rw := rw) (fl := fl) (sw := sw) (ss := ss) (sk := sk) (ba := ba) (hyc := hyc) (ph := ph) (t := t) (w := w) (lg := lg) (kn := kn) (y_ready := y_ready) (y_glyphCount := y_glyphCount) (y_breaks := y_breaks) (y_natural := y_natural) (y_spaces := y_spaces) (y_lineCount := y_lineCount) (y_paragraphs := y_paragraphs) (b_patA := b_patA) (b_patB := b_patB) (b_patC := b_patC) (b_patDigits := b_patDigits) (b_glyphs := b_glyphs) (b_glyphOf := b_glyphOf) (b_bEnd := b_bEnd) (b_bNext := b_bNext) (b_bHyphen := b_bHyphen) (b_least := b_least) (b_before := b_before) (b_way := b_way) (b_lFrom := b_lFrom) (b_lTo := b_lTo) (b_lNumber := b_lNumber) (b_lParagraph := b_lParagraph) (b_lPage := b_lPage) (b_lHyphen := b_lHyphen) (b_lLast := b_lLast) (b_best := b_best) post (k := k) (by omega) (L - k) (pd p) (by omega) (by omega) (by rw [← hL]; exact hp)
    rw [show k + (L - k) = L by omega] at this
    exact this
  exact yh_br hp10 h (fun e => key 3 e) (fun e => key 2 e) (fun e => key 1 e)
theorem yh_meets {post : Int32 → Prop} {p k wf wt place : Nat} (hp10 : p < 10) (hw : wt ≤ 48) (h1 : wf + 2 ≤ place) (h2 : place + 2 ≤ wt) (hl : ∀ j, wf ≤ j → j < wt → t j < 10) (h : pt_row P (b_patA p) (b_patB p) (b_patC p) (b_patDigits p) (pa p) (pb p) (pq p) (pd p)) (hk : k ≤ pt_L (pb p) (pq p))
    (hp : post (gd_bI (decide (pt_key (pa p) (pb p) (pq p) = hy_key t wf wt place (pt_L (pb p) (pq p)) k)))) : wpY_meets post ((nI n), (nI lc), (nI pc), (nI fw), (nI rw), (nI fl), (nI sw), (nI ss), (nI sk), (nI ba), (nI hyc), (nI ph), y_ready, y_glyphCount, y_breaks, y_natural, y_spaces, y_lineCount, y_paragraphs, (gd_tI t), (gd_tI w), (gd_lI lg), (gd_kI kn), b_patA, b_patB, b_patC, b_patDigits, b_glyphs, b_glyphOf, b_bEnd, b_bNext, b_bHyphen, b_least, b_before, b_way, b_lFrom, b_lTo, b_lNumber, b_lParagraph, b_lPage, b_lHyphen, b_lLast, b_best) (nI p) (nI place - nI k) (nI wf) (nI wt) := by
  have hb := pt_L_b (pb p) (pq p)
  obtain ⟨r1, r2, r3, r4, r5, r6, r7⟩ := id h
  have ke := hy_keyeq (place := place) (a := pa p) (size := pt_L (pb p) (pq p)) (idx := k) hl r5.2.1 r5.2.2.1
  have ho : nI place - nI k = gd_iI ((place : Int) - k) := by rw [gd_nat, gd_nat k, gd_sub]
  have key : ∀ d m, m + d = pt_L (pb p) (pq p) → (∀ j, j < m → hy_cc t wf wt place (pt_L (pb p) (pq p)) k j = pt_l (pa p) (pb p) (pq p) j) → wY_meets_32 post (nI p) (nI place - nI k) (nI wf) (nI wt) (nI (pt_L (pb p) (pq p))) (nI n) (nI lc) (nI pc) (nI fw) (nI rw) (nI fl) (nI sw) (nI ss) (nI sk) (nI ba) (nI hyc) (nI ph) y_ready y_glyphCount y_breaks y_natural y_spaces y_lineCount y_paragraphs (gd_tI t) (gd_tI w) (gd_lI lg) (gd_kI kn) b_patA b_patB b_patC b_patDigits b_glyphs b_glyphOf b_bEnd b_bNext b_bHyphen b_least b_before b_way b_lFrom b_lTo b_lNumber b_lParagraph b_lPage b_lHyphen b_lLast b_best (d + 1) (nI m) := by
    intro d
    induction d with
    | zero =>
      intro m hm hI
      refine br_t (nI_le (by omega) (by omega)) ?_
      have : pt_key (pa p) (pb p) (pq p) = hy_key t wf wt place (pt_L (pb p) (pq p)) k := by
        rw [ke]
        have i0 := hI 0 (by omega)
        refine ⟨i0, ?_, ?_⟩
        · by_cases z : 1 < m
          · exact hI 1 z
          · have : pb p = 0 := by
              rw [pt_L] at hm
              by_cases y : pb p = 0
              · exact y
              · rw [if_neg y] at hm; split at hm <;> omega
            rw [hy_cc, if_neg (by omega), this]
        · by_cases z : 2 < m
          · exact hI 2 z
          · have : pq p = 0 := by
              rw [pt_L] at hm
              by_cases y : pb p = 0
              · exact r5.2.2.2 y
              · rw [if_neg y] at hm
                by_cases y2 : pq p = 0
                · exact y2
                · rw [if_neg y2] at hm; omega
            rw [hy_cc, if_neg (by omega), this]
      rw [decide_eq_true this] at hp
      exact hp
    | succ d ih =>
      intro m hm hI
      refine br_f (nI_ge (by omega) (by omega)) ?_
      -- the pattern's letter
      have hpl : ∀ post' : Int32 → Prop, post' (gd_iI ((pt_l (pa p) (pb p) (pq p) m : Int) - 1)) → wpY_patLetter post' ((nI n), (nI lc), (nI pc), (nI fw), (nI rw), (nI fl), (nI sw), (nI ss), (nI sk), (nI ba), (nI hyc), (nI ph), y_ready, y_glyphCount, y_breaks, y_natural, y_spaces, y_lineCount, y_paragraphs, (gd_tI t), (gd_tI w), (gd_lI lg), (gd_kI kn), b_patA, b_patB, b_patC, b_patDigits, b_glyphs, b_glyphOf, b_bEnd, b_bNext, b_bHyphen, b_least, b_before, b_way, b_lFrom, b_lTo, b_lNumber, b_lParagraph, b_lPage, b_lHyphen, b_lLast, b_best) (nI p) (nI m) := by
        intro post' hp'
        refine pk_eq m 0 (fun e => ⟨vp_in_nI hp10 (by omega), ?_⟩) (fun e => pk_eq m 1 (fun e1 => ⟨vp_in_nI hp10 (by omega), ?_⟩) (fun e1 => ⟨vp_in_nI hp10 (by omega), ?_⟩))
        · rw [nI_clamp (by omega), r1, gd_nat]
          rw [pt_l, if_pos e] at hp'
          rw [show ((pa p + 1 : Nat) : Int) - 1 = (pa p : Int) by omega] at hp'
          exact hp'
        · rw [nI_clamp (by omega), r2]
          rw [pt_l, if_neg e, if_pos e1] at hp'
          exact hp'
        · rw [nI_clamp (by omega), r3]
          rw [pt_l, if_neg e, if_neg e1] at hp'
          exact hp'
      refine hpl _ ?_
      have hsum : nI place - nI k + nI m = gd_iI ((place : Int) - k + m) := by rw [ho, gd_nat m, gd_add]
      have hcm : hy_cc t wf wt place (pt_L (pb p) (pq p)) k m = hy_code t wf wt (place + 1 - k + m) + 1 := by rw [hy_cc, if_pos (by omega)]
      have hcl := hy_cc_lt (place := place) (size := pt_L (pb p) (pq p)) (idx := k) (i := m) hl
      have hlm : pt_l (pa p) (pb p) (pq p) m ≤ 11 := by rw [pt_l]; split; omega; split <;> omega
      have hiw : ∀ post' : Int32 → Prop, post' (gd_iI (hy_code t wf wt (place + 1 - k + m))) → wpY_inWord post' ((nI n), (nI lc), (nI pc), (nI fw), (nI rw), (nI fl), (nI sw), (nI ss), (nI sk), (nI ba), (nI hyc), (nI ph), y_ready, y_glyphCount, y_breaks, y_natural, y_spaces, y_lineCount, y_paragraphs, (gd_tI t), (gd_tI w), (gd_lI lg), (gd_kI kn), b_patA, b_patB, b_patC, b_patDigits, b_glyphs, b_glyphOf, b_bEnd, b_bNext, b_bHyphen, b_least, b_before, b_way, b_lFrom, b_lTo, b_lNumber, b_lParagraph, b_lPage, b_lHyphen, b_lLast, b_best) (nI wf) (nI wt) (nI place - nI k + nI m) := by
        intro post' hp'
        refine gd_zeq ((place : Int) - k + m) ((wf : Int) - 1) (fun e => ?_) (fun e => ?_) hsum (by rw [gd_nat]; exact gd_sub _ 1) (by omega) (by omega)
        · rw [hy_code, if_pos (by omega)] at hp'; exact hp'
        · refine gd_zeq ((place : Int) - k + m) wt (fun e2 => ?_) (fun e2 => ?_) hsum (gd_nat wt) (by omega) (by omega)
          · rw [hy_code, if_pos (by omega)] at hp'; exact hp'
          · refine gd_zlt ((place : Int) - k + m) wf (fun e3 => absurd e3 (by omega)) (fun e3 => ?_) hsum (gd_nat wf) (by omega) (by omega)
            refine gd_zle ((place : Int) - k + m) wt (fun e4 => ?_) (fun e4 => absurd e4 (by omega)) hsum (gd_nat wt) (by omega) (by omega)
            have e1 : nI place - nI k + nI m = nI (place + 1 - k + m - 1) := by rw [hsum, gd_nat]; congr 1; omega
            refine ⟨pk_in _ 48 (by omega) e1, ?_⟩
            rw [hy_code, if_neg (by omega)] at hp'
            rw [e1, gd_rt (by omega), gd_nat]
            exact hp'
      refine hiw _ ?_
      have nx : hy_cc t wf wt place (pt_L (pb p) (pq p)) k m = pt_l (pa p) (pb p) (pq p) m → wY_meets_32 post (nI p) (nI place - nI k) (nI wf) (nI wt) (nI (pt_L (pb p) (pq p))) (nI n) (nI lc) (nI pc) (nI fw) (nI rw) (nI fl) (nI sw) (nI ss) (nI sk) (nI ba) (nI hyc) (nI ph) y_ready y_glyphCount y_breaks y_natural y_spaces y_lineCount y_paragraphs (gd_tI t) (gd_tI w) (gd_lI lg) (gd_kI kn) b_patA b_patB b_patC b_patDigits b_glyphs b_glyphOf b_bEnd b_bNext b_bHyphen b_least b_before b_way b_lFrom b_lTo b_lNumber b_lParagraph b_lPage b_lHyphen b_lLast b_best (d + 1) (nI (m + 1)) := by
        intro e
        refine ih (m + 1) (by omega) (fun j hj => ?_)
        by_cases z : j = m
        · rw [z]; exact e
        · exact hI j (by omega)
      refine gd_zeq (hy_code t wf wt (place + 1 - k + m) : Int) ((pt_l (pa p) (pb p) (pq p) m : Int) - 1) (fun e => ?_) (fun e => ?_) rfl rfl (by omega) (by omega)
      · have e' : hy_cc t wf wt place (pt_L (pb p) (pq p)) k m = pt_l (pa p) (pb p) (pq p) m := by omega
        refine gd_zeq ((pt_l (pa p) (pb p) (pq p) m : Int) - 1) 10 (fun e2 => ?_) (fun e2 => ?_) rfl rfl (by omega) (by omega)
        · have hc10 : hy_code t wf wt (place + 1 - k + m) = 10 := by omega
          have hpos : place + 1 - k + m < wf + 1 ∨ wt + 1 ≤ place + 1 - k + m := by
            rw [hy_code] at hc10
            by_cases z : place + 1 - k + m < wf + 1 ∨ wt + 1 ≤ place + 1 - k + m
            · exact z
            · rw [if_neg z] at hc10
              have := hl (place + 1 - k + m - 1) (by omega) (by omega)
              omega
          refine pk_eq m 0 (fun e3 => ?_) (fun e3 => ?_)
          · refine gd_zeq ((place : Int) - k) ((wf : Int) - 1) (fun e4 => ?_) (fun e4 => False.elim (by omega)) ho (by rw [gd_nat]; exact gd_sub _ 1) (by omega) (by omega)
            exact nm_r (nI_1 m) (nx e')
          · refine gd_zeq ((place : Int) - k + m) wt (fun e4 => ?_) (fun e4 => False.elim (by omega)) hsum (gd_nat wt) (by omega) (by omega)
            exact nm_r (nI_1 m) (nx e')
        · exact nm_r (nI_1 m) (nx e')
      · have : ¬ pt_key (pa p) (pb p) (pq p) = hy_key t wf wt place (pt_L (pb p) (pq p)) k := by
          intro z
          obtain ⟨z0, z1, z2⟩ := ke.mp z
          have hm3 : m = 0 ∨ m = 1 ∨ m = 2 := by omega
          rcases hm3 with rfl | rfl | rfl
          · rw [pt_l, if_pos rfl] at e; omega
          · rw [pt_l, if_neg (by omega), if_pos rfl] at e; omega
          · rw [pt_l, if_neg (by omega), if_neg (by omega)] at e; omega
        rw [decide_eq_false this] at hp
        exact hp
  have fin : ∀ L, pt_L (pb p) (pq p) = L → ∃ n32 : Nat, wY_meets_32 post (nI p) (nI place - nI k) (nI wf) (nI wt) (nI L) (nI n) (nI lc) (nI pc) (nI fw) (nI rw) (nI fl) (nI sw) (nI ss) (nI sk) (nI ba) (nI hyc) (nI ph) y_ready y_glyphCount y_breaks y_natural y_spaces y_lineCount y_paragraphs (gd_tI t) (gd_tI w) (gd_lI lg) (gd_kI kn) b_patA b_patB b_patC b_patDigits b_glyphs b_glyphOf b_bEnd b_bNext b_bHyphen b_least b_before b_way b_lFrom b_lTo b_lNumber b_lParagraph b_lPage b_lHyphen b_lLast b_best n32 0 := by
    intro L e
    subst e
    exact ⟨_, key (pt_L (pb p) (pq p)) 0 (by omega) (fun j hj => absurd hj (by omega))⟩
  exact yh_br hp10 h (fun e => fin 3 e) (fun e => fin 2 e) (fun e => fin 1 e)
theorem yh_inner (post : Int32 → Prop) (J : Int32 → Int32 → Prop) {p wf wt place : Nat} (hpc : p < pc) (hw : wt ≤ 48) (h1 : wf + 2 ≤ place) (h2 : place + 2 ≤ wt) (hl : ∀ j, wf ≤ j → j < wt → t j < 10) (hpt : pt_ok P pc b_patA b_patB b_patC b_patDigits pa pb pq pd)
    (hJ : ∀ g, g < 10 → yh_inv t wf wt place pc pa pb pq pd (p + 1) 0 g → J (nI g) (nI (p + 1))) :
    ∀ d k g, k + d = pt_L (pb p) (pq p) + 1 → g < 10 → yh_inv t wf wt place pc pa pb pq pd p k g → wY_hyphen_87 post J (nI place) (nI wf) (nI wt) (nI p) (nI (pt_L (pb p) (pq p))) (nI n) (nI lc) (nI pc) (nI fw) (nI rw) (nI fl) (nI sw) (nI ss) (nI sk) (nI ba) (nI hyc) (nI ph) y_ready y_glyphCount y_breaks y_natural y_spaces y_lineCount y_paragraphs (gd_tI t) (gd_tI w) (gd_lI lg) (gd_kI kn) b_patA b_patB b_patC b_patDigits b_glyphs b_glyphOf b_bEnd b_bNext b_bHyphen b_least b_before b_way b_lFrom b_lTo b_lNumber b_lParagraph b_lPage b_lHyphen b_lLast b_best (d + 1) (nI g) (nI k) := by
  have hpc10 := hpt.1
  have hrow := hpt.2.1 p hpc
  have hb := pt_L_b (pb p) (pq p)
  intro d
  induction d with
  | zero =>
    intro k g hk hg hI
    refine br_t (nI_lt (by omega) (by omega)) (nm_r (nI_1 p) (hJ g hg ⟨fun p' k' a b c e => hI.1 p' k' a b ?_ e, hI.2⟩))
    rcases c with c | c
    · by_cases z : p' = p
      · subst z; exact Or.inr ⟨rfl, by omega⟩
      · exact Or.inl (by omega)
    · omega
  | succ d ih =>
    intro k g hk hg hI
    refine br_f (nI_nlt (by omega) (by omega)) (yh_digit (by omega) hrow (by omega) ?_)
    have hm : pd p / 10 ^ (pt_L (pb p) (pq p) - k) % 10 < 10 := Nat.mod_lt _ (by omega)
    have same : (pt_key (pa p) (pb p) (pq p) = hy_key t wf wt place (pt_L (pb p) (pq p)) k → pd p / 10 ^ (pt_L (pb p) (pq p) - k) % 10 ≤ g) → yh_inv t wf wt place pc pa pb pq pd p (k + 1) g := by
      intro hx
      refine ⟨fun p' k' a b c e => ?_, hI.2⟩
      by_cases z : p' = p ∧ k' = k
      · obtain ⟨rfl, rfl⟩ := z
        exact hx e
      · exact hI.1 p' k' a b (by omega) e
    refine pk_le _ g (fun z => ?_) (fun z => ?_) rfl rfl (by omega) (by omega)
    · exact nm_r (nI_1 k) (ih (k + 1) g (by omega) hg (same (fun _ => z)))
    · refine yh_meets (by omega) hw h1 h2 hl hrow (by omega) ?_
      refine gd_bt (fun z2 => ?_) (fun z2 => ?_)
      · exact nm_r (nI_1 k) (ih (k + 1) g (by omega) hg (same (fun y => absurd y (of_decide_eq_false z2))))
      · refine nm_r (nI_1 k) (ih (k + 1) _ (by omega) hm ⟨fun p' k' a b c e => ?_, Or.inr ⟨p, k, hpc, by omega, of_decide_eq_true z2, rfl⟩⟩)
        by_cases y : p' = p ∧ k' = k
        · obtain ⟨rfl, rfl⟩ := y
          exact Nat.le_refl _
        · have := hI.1 p' k' a b (by omega) e
          omega
theorem yh_hyphen {post : Int32 → Prop} {i : Nat} (hn : n ≤ 48) (ht : ∀ i, t i ≤ 11) (hpt : pt_ok P pc b_patA b_patB b_patC b_patDigits pa pb pq pd) (hi : i < 2 ^ 31) (hp : post (gd_bI (hy_b t P n i))) : wpY_hyphen post ((nI n), (nI lc), (nI pc), (nI fw), (nI rw), (nI fl), (nI sw), (nI ss), (nI sk), (nI ba), (nI hyc), (nI ph), y_ready, y_glyphCount, y_breaks, y_natural, y_spaces, y_lineCount, y_paragraphs, (gd_tI t), (gd_tI w), (gd_lI lg), (gd_kI kn), b_patA, b_patB, b_patC, b_patDigits, b_glyphs, b_glyphOf, b_bEnd, b_bNext, b_bHyphen, b_least, b_before, b_way, b_lFrom, b_lTo, b_lNumber, b_lParagraph, b_lPage, b_lHyphen, b_lLast, b_best) (nI i) := by
  unfold wpY_hyphen
  dsimp only
  refine yl_is hn hi ht ?_
  refine gd_bt (fun z => ?_) (fun z => ?_)
  · have := of_decide_eq_false z
    rw [hy_b, decide_eq_false (by omega)] at hp; exact hp
  · obtain ⟨h, h1⟩ := of_decide_eq_true z
    refine yl_start hn (by omega) ht (yl_end hn (by omega) ht ?_)
    obtain ⟨w1, w2, w3⟩ := wd_E_ok (t := t) (n := n) i
    have w4 := wd_E_le (t := t) (show i ≤ n by omega)
    obtain ⟨v1, v2, v3⟩ := wd_s_ok (t := t) (n := n) i
    have hpc10 := hpt.1
    refine pk_lt (i - wd_s t n i) 2 (fun h2 => ?_) (fun h2 => ?_) (pk_sub v1) rfl (by omega) (by omega)
    · rw [hy_b, decide_eq_false (by omega)] at hp; exact hp
    · refine pk_le 2 (wd_E t n i - i) (fun h3 => ?_) (fun h3 => ?_) rfl (pk_sub w1) (by omega) (by omega)
      · have hl : ∀ j, wd_s t n i ≤ j → j < wd_E t n i → t j < 10 := by
          intro j a b
          rcases Nat.lt_or_ge j i with y | y
          · exact (v2 j a y).2
          · exact (w2 j y b).2
        have loop : ∀ d p g, p + d = pc → g < 10 → yh_inv t (wd_s t n i) (wd_E t n i) i pc pa pb pq pd p 0 g → wY_hyphen_44 post (nI i) (nI (wd_s t n i)) (nI (wd_E t n i)) (nI n) (nI lc) (nI pc) (nI fw) (nI rw) (nI fl) (nI sw) (nI ss) (nI sk) (nI ba) (nI hyc) (nI ph) y_ready y_glyphCount y_breaks y_natural y_spaces y_lineCount y_paragraphs (gd_tI t) (gd_tI w) (gd_lI lg) (gd_kI kn) b_patA b_patB b_patC b_patDigits b_glyphs b_glyphOf b_bEnd b_bNext b_bHyphen b_least b_before b_way b_lFrom b_lTo b_lNumber b_lParagraph b_lPage b_lHyphen b_lLast b_best (d + 1) (nI g) (nI p) := by
          intro d
          induction d with
          | zero =>
            intro p g hpd hg hI
            have e : p = pc := by omega
            subst e
            have hm := yh_max hl hpt hI
            refine br_t (nI_le (Nat.le_refl _) (by omega)) ⟨by decide, ?_⟩
            refine pk_eq (g % 2) 1 (fun h4 => ?_) (fun h4 => ?_) (pk_rem (d := 2) (by omega) (by omega) (by omega)) rfl (by omega) (by omega)
            · rw [hy_b, decide_eq_true ⟨h, h1, by omega, by omega, by rw [← hm]; exact h4⟩] at hp; exact hp
            · rw [hy_b, decide_eq_false (by rw [← hm]; omega)] at hp; exact hp
          | succ d ih =>
            intro p g hpd hg hI
            refine br_f (nI_ge (by omega) (by omega)) ?_
            have hb := pt_L_b (pb p) (pq p)
            have fin : ∀ L, pt_L (pb p) (pq p) = L → ∃ n87 : Nat, wY_hyphen_87 post (wY_hyphen_44 post (nI i) (nI (wd_s t n i)) (nI (wd_E t n i)) (nI n) (nI lc) (nI pc) (nI fw) (nI rw) (nI fl) (nI sw) (nI ss) (nI sk) (nI ba) (nI hyc) (nI ph) y_ready y_glyphCount y_breaks y_natural y_spaces y_lineCount y_paragraphs (gd_tI t) (gd_tI w) (gd_lI lg) (gd_kI kn) b_patA b_patB b_patC b_patDigits b_glyphs b_glyphOf b_bEnd b_bNext b_bHyphen b_least b_before b_way b_lFrom b_lTo b_lNumber b_lParagraph b_lPage b_lHyphen b_lLast b_best (d + 1)) (nI i) (nI (wd_s t n i)) (nI (wd_E t n i)) (nI p) (nI L) (nI n) (nI lc) (nI pc) (nI fw) (nI rw) (nI fl) (nI sw) (nI ss) (nI sk) (nI ba) (nI hyc) (nI ph) y_ready y_glyphCount y_breaks y_natural y_spaces y_lineCount y_paragraphs (gd_tI t) (gd_tI w) (gd_lI lg) (gd_kI kn) b_patA b_patB b_patC b_patDigits b_glyphs b_glyphOf b_bEnd b_bNext b_bHyphen b_least b_before b_way b_lFrom b_lTo b_lNumber b_lParagraph b_lPage b_lHyphen b_lLast b_best n87 (nI g) 0 := by
              intro L e
              subst e
              exact ⟨_, yh_inner post _ (by omega) (by omega) (by omega) (by omega) hl hpt (fun g' hg' hI' => ih (p + 1) g' (by omega) hg' hI') (pt_L (pb p) (pq p) + 1) 0 g (by omega) hg hI⟩
            exact yh_br (by omega) (hpt.2.1 p (by omega)) (fun e => fin 3 e) (fun e => fin 2 e) (fun e => fin 1 e)
        exact ⟨_, loop pc 0 0 (by omega) (by omega) ⟨fun p' k' a b c e => absurd c (by omega), Or.inl rfl⟩⟩
      · rw [hy_b, decide_eq_false (by omega)] at hp; exact hp
end
