/-! what the two scans leave -/
def bk_xb (m : Nat) (E N : Nat → Nat) (H : Nat → Bool) (a_breakEnd a_breakNext a_breakHyphen : Nat → Int32) : Prop :=
  (∀ k, 1 ≤ k → k ≤ m → a_breakEnd k = nI (E k)) ∧ (∀ k, k < m → a_breakNext k = nI (N k)) ∧ (∀ k, k ≤ m → a_breakHyphen k = gd_bI (H k))
theorem bk_hyok {t P : Nat → Nat} {n fr to : Nat} (hto : to = n ∨ t to = 11) (hton : to ≤ n) (hfr : fr = 0 ∨ t (fr - 1) = 11) : bk_hy t (hy_b t P n) fr to := by
  intro i a b h
  rw [hy_b, decide_eq_true_eq] at h
  obtain ⟨h1, h2, h3, h4, h5⟩ := h
  obtain ⟨w1, w2, w3⟩ := wd_E_ok (t := t) (n := n) i
  obtain ⟨v1, v2, v3⟩ := wd_s_ok (t := t) (n := n) i
  have p1 := v2 (i - 1) (by omega) (by omega)
  have p2 := w2 (i + 1) (by omega) (by omega)
  refine ⟨?_, p1.2, h2, ?_⟩
  · rcases Nat.lt_or_ge fr i with z | z
    · exact z
    · have : i = fr := by omega
      subst this
      rcases hfr with hfr | hfr
      · omega
      · omega
  · rw [bk_w, decide_eq_false_iff_not]
    rintro (z | z)
    · rcases hto with y | y
      · omega
      · rw [z, y] at p2; omega
    · exact z p2.2
section
variable {n lc pc fw rw fl sw ss sk ba hyc ph : Nat} {t w lg : Nat → Nat} {kn : Nat → Int}
variable {P pa pb pq pd : Nat → Nat}
variable {x_breakCount x_lineCount x_paragraphCount x_stale : Int32} {a_patterns a_heads a_glyphs a_breakEnd a_breakNext a_breakHyphen a_breakTaken a_wayBefore a_lineFacts : Nat → Int32} {a_wayDemerits a_paragraphDemerits : Nat → Int64}
theorem cx_collect {post : SX → Prop} {fr to : Nat} (hn : n ≤ 48) (ht : ∀ i, t i ≤ 11) (hP : ∀ k, P k < 2 ^ 31) (hft : fr ≤ to) (hton : to ≤ n) (h11 : ∀ j, fr ≤ j → j < to → t j ≠ 11) (hto : to = n ∨ t to = 11) (hfr : fr = 0 ∨ t (fr - 1) = 11)
    (hp0 : bk_sk t to fr = to → ∀ a_breakEnd a_breakNext a_breakHyphen a_breakTaken, post ((nI n), (nI lc), (nI pc), (nI fw), (nI rw), (nI fl), (nI sw), (nI ss), (nI sk), (nI ba), (nI hyc), (nI ph), 0, x_lineCount, x_paragraphCount, x_stale, (gd_tI t), (gd_tI w), (gd_lI lg), (gd_kI kn), (gd_tI P), a_heads, a_glyphs, a_breakEnd, a_breakNext, a_breakHyphen, a_breakTaken, a_wayDemerits, a_wayBefore, a_lineFacts, a_paragraphDemerits))
    (hp1 : bk_sk t to fr < to → 1 ≤ bk_m t (hy_b t P n) fr to to → ∀ a_breakEnd a_breakNext a_breakHyphen a_breakTaken, bk_xb (bk_m t (hy_b t P n) fr to to) (bk_E t (hy_b t P n) fr to to) (bk_N t (hy_b t P n) fr to to) (bk_H t (hy_b t P n) fr to to) a_breakEnd a_breakNext a_breakHyphen → (∀ k, k ≤ bk_m t (hy_b t P n) fr to to → a_breakTaken k = 0) → post ((nI n), (nI lc), (nI pc), (nI fw), (nI rw), (nI fl), (nI sw), (nI ss), (nI sk), (nI ba), (nI hyc), (nI ph), (nI (bk_m t (hy_b t P n) fr to to + 1)), x_lineCount, x_paragraphCount, x_stale, (gd_tI t), (gd_tI w), (gd_lI lg), (gd_kI kn), (gd_tI P), a_heads, a_glyphs, a_breakEnd, a_breakNext, a_breakHyphen, a_breakTaken, a_wayDemerits, a_wayBefore, a_lineFacts, a_paragraphDemerits)) :
    wpX_collectBreaks post ((nI n), (nI lc), (nI pc), (nI fw), (nI rw), (nI fl), (nI sw), (nI ss), (nI sk), (nI ba), (nI hyc), (nI ph), x_breakCount, x_lineCount, x_paragraphCount, x_stale, (gd_tI t), (gd_tI w), (gd_lI lg), (gd_kI kn), (gd_tI P), a_heads, a_glyphs, a_breakEnd, a_breakNext, a_breakHyphen, a_breakTaken, a_wayDemerits, a_wayBefore, a_lineFacts, a_paragraphDemerits) (nI fr) (nI to) := by
  have hh : bk_hy t (hy_b t P n) fr to := bk_hyok hto hton hfr
  obtain ⟨s1, s2, s3, s4⟩ := bk_sk_ok (t := t) hft
  refine ⟨to - fr + 1, cx_loop post hn ht hP hton h11 hh (fun x_breakCount a_breakEnd a_breakNext a_breakHyphen a_breakTaken I => ?_) (to - fr) fr (by omega) (Nat.le_refl _) _ _ _ _ _ ⟨?_, ?_, ?_, ?_⟩⟩
  · obtain ⟨I1, I2, I3, I4⟩ := I
    by_cases z : bk_sk t to fr < to
    · rw [if_pos z] at I1
      subst I1
      have hm : 1 ≤ bk_m t (hy_b t P n) fr to to := by
        have BI := bk_invA hh (to - fr) (by omega)
        rw [show fr + (to - fr) = to by omega] at BI
        rcases BI.2.2.1 with y | y
        · omega
        · refine (y _ s1 z ?_).1
          have := h11 (bk_sk t to fr) s1 z
          have := ht (bk_sk t to fr)
          omega
      have hok := bk_fin ht hft h11 hh hm
      refine hp1 z hm _ _ _ _ ⟨I2, fun k hk => I4 k (by omega) (Or.inl ?_), fun k hk => (I3 z k hk).1⟩ (fun k hk => (I3 z k hk).2)
      have h1 := (hok.1 k hk).2.1
      have h2 := (hok.2.1 (k + 1) (by omega) (by omega)).1
      omega
    · rw [if_neg z] at I1
      subst I1
      exact hp0 (by omega) _ _ _ _
  · rw [if_neg (by omega)]
  · have e : bk_m t (hy_b t P n) fr to fr = 0 := bk_m0 (fun j a b => absurd a (by omega))
    intro k a b; omega
  · intro h; omega
  · have e : bk_m t (hy_b t P n) fr to fr = 0 := bk_m0 (fun j a b => absurd a (by omega))
    intro k a b
    have k0 : k = 0 := by omega
    subst k0
    rw [bk_N, if_pos rfl] at b ⊢
    omega
end
section
variable {n lc pc fw rw fl sw ss sk ba hyc ph : Nat} {t w lg : Nat → Nat} {kn : Nat → Int}
variable {P pa pb pq pd : Nat → Nat}
variable {y_ready y_glyphCount y_breaks y_natural y_spaces y_lineCount y_paragraphs : Int32} {b_patA b_patB b_patC b_patDigits b_glyphs b_glyphOf b_bEnd b_bNext b_bHyphen b_before b_way b_lFrom b_lTo b_lNumber b_lParagraph b_lPage b_lHyphen b_lLast : Nat → Int32} {b_least b_best : Nat → Int64}
def cy_inv (t : Nat → Nat) (hy : Nat → Bool) (fr to i : Nat) (y_breaks : Int32) (b_bEnd b_bNext b_bHyphen : Nat → Int32) : Prop :=
  y_breaks = nI (bk_m t hy fr to i) ∧ (∀ k, 1 ≤ k → k ≤ bk_m t hy fr to i → b_bEnd k = nI (bk_E t hy fr to i k)) ∧ (∀ k, k ≤ bk_m t hy fr to i → b_bNext k = nI (bk_N t hy fr to i k) ∧ b_bHyphen k = gd_bI (bk_H t hy fr to i k))
theorem cy_loop (post : SY → Prop) {fr to : Nat} (hn : n ≤ 48) (ht : ∀ i, t i ≤ 11) (hpt : pt_ok P pc b_patA b_patB b_patC b_patDigits pa pb pq pd) (hton : to ≤ n) (h11 : ∀ j, fr ≤ j → j < to → t j ≠ 11) (hto : to = n ∨ t to = 11) (hh : bk_hy t (hy_b t P n) fr to)
    (hp : ∀ f y_breaks b_bEnd b_bNext b_bHyphen, cy_inv t (hy_b t P n) fr to to y_breaks b_bEnd b_bNext b_bHyphen → wY_paragraph_52 post (nI to) (f + 1) (nI to) (nI n) (nI lc) (nI pc) (nI fw) (nI rw) (nI fl) (nI sw) (nI ss) (nI sk) (nI ba) (nI hyc) (nI ph) y_ready y_glyphCount y_breaks y_natural y_spaces y_lineCount y_paragraphs (gd_tI t) (gd_tI w) (gd_lI lg) (gd_kI kn) b_patA b_patB b_patC b_patDigits b_glyphs b_glyphOf b_bEnd b_bNext b_bHyphen b_least b_before b_way b_lFrom b_lTo b_lNumber b_lParagraph b_lPage b_lHyphen b_lLast b_best) :
    ∀ d i, i + d = to → fr ≤ i → ∀ y_breaks b_bEnd b_bNext b_bHyphen, cy_inv t (hy_b t P n) fr to i y_breaks b_bEnd b_bNext b_bHyphen → wY_paragraph_52 post (nI to) (d + 1) (nI i) (nI n) (nI lc) (nI pc) (nI fw) (nI rw) (nI fl) (nI sw) (nI ss) (nI sk) (nI ba) (nI hyc) (nI ph) y_ready y_glyphCount y_breaks y_natural y_spaces y_lineCount y_paragraphs (gd_tI t) (gd_tI w) (gd_lI lg) (gd_kI kn) b_patA b_patB b_patC b_patDigits b_glyphs b_glyphOf b_bEnd b_bNext b_bHyphen b_least b_before b_way b_lFrom b_lTo b_lNumber b_lParagraph b_lPage b_lHyphen b_lLast b_best := by
  intro d
  induction d with
  | zero =>
    intro i hi hfr y_breaks b_bEnd b_bNext b_bHyphen I
    have : i = to := by omega
    subst this
    exact hp 0 _ _ _ _ I
  | succ d ih =>
    intro i hi hfr y_breaks b_bEnd b_bNext b_bHyphen I
    have hmle := bk_mle (t := t) (hy := hy_b t P n) (fr := fr) (to := to) (i := i)
    have old : ∀ k, k ≤ bk_m t (hy_b t P n) fr to i → bk_E t (hy_b t P n) fr to (i + 1) k = bk_E t (hy_b t P n) fr to i k ∧ bk_H t (hy_b t P n) fr to (i + 1) k = bk_H t (hy_b t P n) fr to i k := fun k h => bk_old h
    obtain ⟨I1, I2, I3⟩ := I
    subst I1
    refine br_f (nI_ge (by omega) (by omega)) ⟨vp_in_nI (by omega) (by omega), ?_⟩
    refine pk_eq (t i) 10 (fun hl => ?_) (fun hl => ?_) (gd_rt (by omega)) rfl (by have := ht i; omega) (by omega)
    · have nn : bk_m t (hy_b t P n) fr to (i + 1) = bk_m t (hy_b t P n) fr to i := bk_non (by omega)
      refine nm_r (nI_1 i) (ih (i + 1) (by omega) (by omega) _ _ _ _ ⟨by rw [nn], ?_, ?_⟩)
      · rw [nn]; intro k a b; rw [(old k b).1]; exact I2 k a b
      · rw [nn]; intro k b; rw [(old k b).2, bk_oldN b]; exact I3 k b
    · have hl10 : t i < 10 := by
        have := h11 i hfr (by omega)
        have := ht i
        omega
      have tail : ∀ m' b_bEnd b_bNext b_bHyphen, (hy_b t P n i = true → m' = bk_m t (hy_b t P n) fr to i + 1 ∧ bk_w t to i = false) → (hy_b t P n i = false → m' = bk_m t (hy_b t P n) fr to i) →
          (∀ k, 1 ≤ k → k ≤ m' → b_bEnd k = nI (bk_E t (hy_b t P n) fr to (i + 1) k)) →
          (∀ k, k ≤ m' → b_bNext k = nI (bk_N t (hy_b t P n) fr to (i + 1) k) ∧ b_bHyphen k = gd_bI (bk_H t (hy_b t P n) fr to (i + 1) k)) →
          wY_paragraph_91 post (wY_paragraph_52 post (nI to) (d + 1)) (nI to) (nI i) (nI n) (nI lc) (nI pc) (nI fw) (nI rw) (nI fl) (nI sw) (nI ss) (nI sk) (nI ba) (nI hyc) (nI ph) y_ready y_glyphCount (nI m') y_natural y_spaces y_lineCount y_paragraphs (gd_tI t) (gd_tI w) (gd_lI lg) (gd_kI kn) b_patA b_patB b_patC b_patDigits b_glyphs b_glyphOf b_bEnd b_bNext b_bHyphen b_least b_before b_way b_lFrom b_lTo b_lNumber b_lParagraph b_lPage b_lHyphen b_lLast b_best := by
        intro m' b_bEnd b_bNext b_bHyphen hyt hyf hE hNH
        unfold wY_paragraph_91
        rw [nI_1]
        refine yl_is hn (by omega) ht (gd_bt (fun z => ?_) (fun z => ?_))
        · have z := of_decide_eq_false z
          have hw : bk_w t to i = true := decide_eq_true (by omega)
          have hyi : hy_b t P n i = false := by
            cases z : hy_b t P n i
            · rfl
            · rw [(hyt z).2] at hw; exact absurd hw (by decide)
          have hm' := hyf hyi
          obtain ⟨n1, n2, n3⟩ := bk_new (t := t) (hy := hy_b t P n) (fr := fr) (to := to) ⟨hfr, hl10, Or.inr hw⟩
          rw [if_neg (by rw [hyi]; decide)] at n2
          have fin : wY_paragraph_135 post (wY_paragraph_52 post (nI to) (d + 1)) (nI to) (nI i) (nI (bk_sk t to (i + 1))) (nI n) (nI lc) (nI pc) (nI fw) (nI rw) (nI fl) (nI sw) (nI ss) (nI sk) (nI ba) (nI hyc) (nI ph) y_ready y_glyphCount (nI m') y_natural y_spaces y_lineCount y_paragraphs (gd_tI t) (gd_tI w) (gd_lI lg) (gd_kI kn) b_patA b_patB b_patC b_patDigits b_glyphs b_glyphOf b_bEnd b_bNext b_bHyphen b_least b_before b_way b_lFrom b_lTo b_lNumber b_lParagraph b_lPage b_lHyphen b_lLast b_best := by
            unfold wY_paragraph_135
            refine nm_r (nI_1 m') ⟨vp_in_nI (by omega) (by omega), nm_r (e' := upd b_bEnd (m' + 1) (nI (i + 1))) (by rw [nI_clamp (by omega), nI_1]) ⟨vp_in_nI (by omega) (by omega), nm_r (e' := upd b_bNext (m' + 1) (nI (bk_sk t to (i + 1)))) (by rw [nI_clamp (by omega)]) ⟨vp_in_nI (by omega) (by omega), nm_r (e' := upd b_bHyphen (m' + 1) 0) (by rw [nI_clamp (by omega), gd_b0]) (nm_r (nI_1 i) (ih (i + 1) (by omega) (by omega) _ _ _ _ ⟨?_, ?_, ?_⟩))⟩⟩⟩
            · rw [n1, hm']
            · intro k a b
              rw [n1] at b
              by_cases z : k = m' + 1
              · subst z; rw [pk_us, hm', n2]
              · rw [pk_un z]; exact hE k a (by omega)
            · intro k b
              rw [n1] at b
              by_cases z : k = m' + 1
              · subst z
                rw [pk_us, pk_us, hm', n3, hyi, bk_N, if_neg (by omega), n3, hyi, n2]
                exact ⟨rfl, rfl⟩
              · rw [pk_un z, pk_un z]; exact hNH k (by omega)
          have skip : ∀ f j, j + f = to → i + 1 ≤ j → (∀ q, i + 1 ≤ q → q < j → t q = 10) → wY_paragraph_111 post (wY_paragraph_52 post (nI to) (d + 1)) (nI to) (nI i) (nI n) (nI lc) (nI pc) (nI fw) (nI rw) (nI fl) (nI sw) (nI ss) (nI sk) (nI ba) (nI hyc) (nI ph) y_ready y_glyphCount (nI m') y_natural y_spaces y_lineCount y_paragraphs (gd_tI t) (gd_tI w) (gd_lI lg) (gd_kI kn) b_patA b_patB b_patC b_patDigits b_glyphs b_glyphOf b_bEnd b_bNext b_bHyphen b_least b_before b_way b_lFrom b_lTo b_lNumber b_lParagraph b_lPage b_lHyphen b_lLast b_best (f + 1) (nI j) := by
            intro f
            induction f with
            | zero =>
              intro j hj h1 h2
              have e : bk_sk t to (i + 1) = j := bk_sk_eq (by omega) h1 (by omega) h2 (Or.inl (by omega))
              rw [e] at fin
              exact br_t (nI_le (by omega) (by omega)) fin
            | succ f ihf =>
              intro j hj h1 h2
              refine br_f (nI_ge (by omega) (by omega)) ⟨vp_in_nI (by omega) (by omega), ?_⟩
              refine pk_eq (t j) 10 (fun y => ?_) (fun y => ?_) (gd_rt (by omega)) rfl (by have := ht j; omega) (by omega)
              · refine nm_r (nI_1 j) (ihf (j + 1) (by omega) (by omega) (fun q a b => ?_))
                by_cases q1 : q = j
                · rw [q1]; exact y
                · exact h2 q a (by omega)
              · have e : bk_sk t to (i + 1) = j := bk_sk_eq (by omega) h1 (by omega) h2 (Or.inr y)
                rw [e] at fin
                exact fin
          refine nm_e ⟨to - (i + 1) + 1, skip (to - (i + 1)) (i + 1) (by omega) (Nat.le_refl _) (fun q a b => absurd a (by omega))⟩
        · have z := of_decide_eq_true z
          have hw : bk_w t to i = false := decide_eq_false (by
            rintro (y | y)
            · rcases hto with q | q
              · omega
              · rw [← y] at q; omega
            · exact y z.2)
          have hm' : m' = bk_m t (hy_b t P n) fr to (i + 1) := by
            cases z : hy_b t P n i
            · rw [bk_non (by rw [z, hw]; simp), hyf z]
            · rw [(bk_new ⟨hfr, hl10, Or.inl z⟩).1, (hyt z).1]
          subst hm'
          exact nm_e (ih (i + 1) (by omega) (by omega) _ _ _ _ ⟨rfl, hE, hNH⟩)
      refine yh_hyphen hn ht hpt (by omega) (gd_bt (fun hyi => ?_) (fun hyi => ?_))
      · refine tail (bk_m t (hy_b t P n) fr to i) _ _ _ (fun y => by rw [hyi] at y; exact absurd y (by decide)) (fun _ => rfl) ?_ ?_
        · intro k a b; rw [(old k b).1]; exact I2 k a b
        · intro k b; rw [(old k b).2, bk_oldN b]; exact I3 k b
      · obtain ⟨n1, n2, n3⟩ := bk_new (t := t) (hy := hy_b t P n) (fr := fr) (to := to) ⟨hfr, hl10, Or.inl hyi⟩
        rw [if_pos hyi] at n2
        have hw := (hh i hfr (by omega) hyi).2.2.2
        have oldN : ∀ k, k ≤ bk_m t (hy_b t P n) fr to i → bk_N t (hy_b t P n) fr to (i + 1) k = bk_N t (hy_b t P n) fr to i k := fun k h => bk_oldN h
        generalize hmm : bk_m t (hy_b t P n) fr to i = mm at *
        refine nm_r (nI_1 mm) ⟨vp_in_nI (by omega) (by omega), nm_r (e' := upd b_bEnd (mm + 1) (nI i)) (by rw [nI_clamp (by omega)]) ⟨vp_in_nI (by omega) (by omega), nm_r (e' := upd b_bNext (mm + 1) (nI i)) (by rw [nI_clamp (by omega)]) ⟨vp_in_nI (by omega) (by omega), nm_r (e' := upd b_bHyphen (mm + 1) 1) (by rw [nI_clamp (by omega), gd_b1]) (tail (mm + 1) _ _ _ (fun _ => ⟨rfl, hw⟩) (fun y => by rw [hyi] at y; exact absurd y (by decide)) ?_ ?_)⟩⟩⟩
        · intro k a b
          by_cases z : k = mm + 1
          · subst z; rw [pk_us, n2]
          · rw [pk_un z, (old k (by omega)).1]; exact I2 k a (by omega)
        · intro k b
          by_cases z : k = mm + 1
          · subst z
            rw [pk_us, pk_us, n3, hyi, bk_N, if_neg (by omega), n3, if_pos hyi, n2]
            exact ⟨rfl, rfl⟩
          · rw [pk_un z, pk_un z, (old k (by omega)).2, oldN k (by omega)]; exact I3 k (by omega)
/-- Y's paragraph up to the ways -/
theorem cy_para {post : SY → Prop} {fr to : Nat} (hn : n ≤ 48) (ht : ∀ i, t i ≤ 11) (hpt : pt_ok P pc b_patA b_patB b_patC b_patDigits pa pb pq pd) (hft : fr ≤ to) (hton : to ≤ n) (h11 : ∀ j, fr ≤ j → j < to → t j ≠ 11) (hto : to = n ∨ t to = 11) (hfr : fr = 0 ∨ t (fr - 1) = 11)
    (hp0 : bk_sk t to fr = to → post ((nI n), (nI lc), (nI pc), (nI fw), (nI rw), (nI fl), (nI sw), (nI ss), (nI sk), (nI ba), (nI hyc), (nI ph), y_ready, y_glyphCount, y_breaks, y_natural, y_spaces, y_lineCount, y_paragraphs, (gd_tI t), (gd_tI w), (gd_lI lg), (gd_kI kn), b_patA, b_patB, b_patC, b_patDigits, b_glyphs, b_glyphOf, b_bEnd, b_bNext, b_bHyphen, b_least, b_before, b_way, b_lFrom, b_lTo, b_lNumber, b_lParagraph, b_lPage, b_lHyphen, b_lLast, b_best))
    (hp1 : bk_sk t to fr < to → 1 ≤ bk_m t (hy_b t P n) fr to to → ∀ f b_bEnd b_bNext b_bHyphen, bk_xb (bk_m t (hy_b t P n) fr to to) (bk_E t (hy_b t P n) fr to to) (bk_N t (hy_b t P n) fr to to) (bk_H t (hy_b t P n) fr to to) b_bEnd b_bNext b_bHyphen → wY_paragraph_52 post (nI to) (f + 1) (nI to) (nI n) (nI lc) (nI pc) (nI fw) (nI rw) (nI fl) (nI sw) (nI ss) (nI sk) (nI ba) (nI hyc) (nI ph) y_ready y_glyphCount (nI (bk_m t (hy_b t P n) fr to to)) y_natural y_spaces y_lineCount y_paragraphs (gd_tI t) (gd_tI w) (gd_lI lg) (gd_kI kn) b_patA b_patB b_patC b_patDigits b_glyphs b_glyphOf b_bEnd b_bNext b_bHyphen b_least b_before b_way b_lFrom b_lTo b_lNumber b_lParagraph b_lPage b_lHyphen b_lLast b_best) :
    wpY_paragraph post ((nI n), (nI lc), (nI pc), (nI fw), (nI rw), (nI fl), (nI sw), (nI ss), (nI sk), (nI ba), (nI hyc), (nI ph), y_ready, y_glyphCount, y_breaks, y_natural, y_spaces, y_lineCount, y_paragraphs, (gd_tI t), (gd_tI w), (gd_lI lg), (gd_kI kn), b_patA, b_patB, b_patC, b_patDigits, b_glyphs, b_glyphOf, b_bEnd, b_bNext, b_bHyphen, b_least, b_before, b_way, b_lFrom, b_lTo, b_lNumber, b_lParagraph, b_lPage, b_lHyphen, b_lLast, b_best) (nI fr) (nI to) := by
  have hh : bk_hy t (hy_b t P n) fr to := bk_hyok hto hton hfr
  obtain ⟨s1, s2, s3, s4⟩ := bk_sk_ok (t := t) hft
  have fin : wY_paragraph_24 post (nI to) (nI (bk_sk t to fr)) (nI n) (nI lc) (nI pc) (nI fw) (nI rw) (nI fl) (nI sw) (nI ss) (nI sk) (nI ba) (nI hyc) (nI ph) y_ready y_glyphCount y_breaks y_natural y_spaces y_lineCount y_paragraphs (gd_tI t) (gd_tI w) (gd_lI lg) (gd_kI kn) b_patA b_patB b_patC b_patDigits b_glyphs b_glyphOf b_bEnd b_bNext b_bHyphen b_least b_before b_way b_lFrom b_lTo b_lNumber b_lParagraph b_lPage b_lHyphen b_lLast b_best := by
    refine pk_eq (bk_sk t to fr) to (fun e => hp0 e) (fun e => ?_)
    refine nm_r (e' := upd b_bNext 0 (nI (bk_sk t to fr))) rfl (nm_r (e' := upd b_bHyphen 0 0) rfl ⟨to - bk_sk t to fr + 1, ?_⟩)
    have hm0 : bk_m t (hy_b t P n) fr to (bk_sk t to fr) = 0 := bk_m0 (fun j a b => by rw [s3 j a b]; omega)
    refine cy_loop post hn ht hpt hton h11 hto hh (fun f y_breaks b_bEnd b_bNext b_bHyphen I => ?_) (to - bk_sk t to fr) (bk_sk t to fr) (by omega) s1 _ _ _ _ ⟨by rw [hm0]; rfl, fun k a b => ?_, fun k b => ?_⟩
    · obtain ⟨I1, I2, I3⟩ := I
      subst I1
      have hm : 1 ≤ bk_m t (hy_b t P n) fr to to := by
        have BI := bk_invA hh (to - fr) (by omega)
        rw [show fr + (to - fr) = to by omega] at BI
        rcases BI.2.2.1 with y | y
        · omega
        · refine (y _ s1 (by omega) ?_).1
          have := h11 (bk_sk t to fr) s1 (by omega)
          have := ht (bk_sk t to fr)
          omega
      exact hp1 (by omega) hm f _ _ _ ⟨I2, fun k hk => (I3 k (by omega)).1, fun k hk => (I3 k hk).2⟩
    · omega
    · have k0 : k = 0 := by omega
      subst k0
      rw [pk_us, pk_us, bk_N, if_pos rfl, bk_H0]
      exact ⟨rfl, rfl⟩
  have skip : ∀ f j, j + f = to → fr ≤ j → (∀ q, fr ≤ q → q < j → t q = 10) → wY_paragraph_2 post (nI to) (nI n) (nI lc) (nI pc) (nI fw) (nI rw) (nI fl) (nI sw) (nI ss) (nI sk) (nI ba) (nI hyc) (nI ph) y_ready y_glyphCount y_breaks y_natural y_spaces y_lineCount y_paragraphs (gd_tI t) (gd_tI w) (gd_lI lg) (gd_kI kn) b_patA b_patB b_patC b_patDigits b_glyphs b_glyphOf b_bEnd b_bNext b_bHyphen b_least b_before b_way b_lFrom b_lTo b_lNumber b_lParagraph b_lPage b_lHyphen b_lLast b_best (f + 1) (nI j) := by
    intro f
    induction f with
    | zero =>
      intro j hj h1 h2
      have e : bk_sk t to fr = j := bk_sk_eq (by omega) h1 (by omega) h2 (Or.inl (by omega))
      rw [e] at fin
      exact br_t (nI_le (by omega) (by omega)) fin
    | succ f ihf =>
      intro j hj h1 h2
      refine br_f (nI_ge (by omega) (by omega)) ⟨vp_in_nI (by omega) (by omega), ?_⟩
      refine pk_eq (t j) 10 (fun y => ?_) (fun y => ?_) (gd_rt (by omega)) rfl (by have := ht j; omega) (by omega)
      · refine nm_r (nI_1 j) (ihf (j + 1) (by omega) (by omega) (fun q a b => ?_))
        by_cases q1 : q = j
        · rw [q1]; exact y
        · exact h2 q a (by omega)
      · have e : bk_sk t to fr = j := bk_sk_eq (by omega) h1 (by omega) h2 (Or.inr y)
        rw [e] at fin
        exact fin
  exact ⟨to - fr + 1, skip (to - fr) fr (by omega) (Nat.le_refl _) (fun q a b => absurd a (by omega))⟩
end
