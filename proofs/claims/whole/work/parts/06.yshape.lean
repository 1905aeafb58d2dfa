def ys_ok (t lg : Nat → Nat) (s e : Nat) (b_glyphs b_glyphOf : Nat → Int32) : Prop := ∀ j, s ≤ j → j < e → b_glyphOf j = nI (sh_od t lg s j) ∧ b_glyphs (sh_od t lg s j) = nI (sh_fe t lg s e j)
/-- the next head behind i0 -/
theorem ys_next {t lg w : Nat → Nat} {kn : Nat → Int} {sw s e i0 : Nat} (hl : ∀ i, s ≤ i → i < e → t i < 10) (hs : s ≤ i0) : ∀ d k, k + d = e → i0 < k → sh_od t lg s (k - 1) = sh_od t lg s i0 →
    ∃ i1, k ≤ i1 ∧ i1 ≤ e ∧ rn_x t lg w kn sw s e i1 = rn_x t lg w kn sw s e k ∧ sh_od t lg s (i1 - 1) = sh_od t lg s i0 ∧ (i1 < e → sh_od t lg s i1 = sh_od t lg s i0 + 1 ∧ sh_jn t lg s i1 = false) := by
  intro d
  induction d with
  | zero => intro k hk h1 h2; exact ⟨k, Nat.le_refl _, by omega, rfl, h2, fun h => absurd h (by omega)⟩
  | succ d ih =>
    intro k hk h1 h2
    obtain ⟨m, rfl⟩ : ∃ m, k = m + 1 := ⟨k - 1, by omega⟩
    rw [show m + 1 - 1 = m by omega] at h2
    cases z : sh_jn t lg s (m + 1)
    · exact ⟨m + 1, Nat.le_refl _, by omega, rfl, h2, fun _ => ⟨by rw [sh_od_n (by omega) z, h2], z⟩⟩
    · obtain ⟨i1, a, b, c, d', f⟩ := ih (m + 1 + 1) (by omega) (by omega) (by rw [show m + 1 + 1 - 1 = m + 1 by omega, sh_od_j z, h2])
      exact ⟨i1, by omega, b, by rw [c, rn_xn (by omega) (Or.inr z)], d', f⟩
section
variable {n lc pc fw rw fl sw ss sk ba hyc ph : Nat} {t w lg : Nat → Nat} {kn : Nat → Int}
variable {y_ready y_glyphCount y_breaks y_natural y_spaces y_lineCount y_paragraphs : Int32} {b_patA b_patB b_patC b_patDigits b_glyphs b_glyphOf b_bEnd b_bNext b_bHyphen b_before b_way b_lFrom b_lTo b_lNumber b_lParagraph b_lPage b_lHyphen b_lLast : Nat → Int32} {b_least b_best : Nat → Int64}
theorem ys_sum (post : Int32 → SY → Prop) {s e : Nat} (hse : s < e) (he : e ≤ 48) (hl : ∀ i, s ≤ i → i < e → t i < 10) (hok : ys_ok t lg s e b_glyphs b_glyphOf)
    (hp : post (gd_iI (rn_x t lg w kn sw s e e)) ((nI n), (nI lc), (nI pc), (nI fw), (nI rw), (nI fl), (nI sw), (nI ss), (nI sk), (nI ba), (nI hyc), (nI ph), y_ready, (nI (sh_od t lg s (e - 1) + 1)), y_breaks, y_natural, y_spaces, y_lineCount, y_paragraphs, (gd_tI t), (gd_tI w), (gd_lI lg), (gd_kI kn), b_patA, b_patB, b_patC, b_patDigits, b_glyphs, b_glyphOf, b_bEnd, b_bNext, b_bHyphen, b_least, b_before, b_way, b_lFrom, b_lTo, b_lNumber, b_lParagraph, b_lPage, b_lHyphen, b_lLast, b_best)) :
    ∀ F i0 g x3, e - i0 < F → s ≤ i0 → i0 ≤ e → (i0 < e → sh_od t lg s i0 = g ∧ sh_jn t lg s i0 = false) → (g = 0 → i0 = s) → (0 < g → s < i0 ∧ sh_od t lg s (i0 - 1) + 1 = g) → x3 = gd_iI (rn_x t lg w kn sw s e i0) → wY_shape_117 post (nI n) (nI lc) (nI pc) (nI fw) (nI rw) (nI fl) (nI sw) (nI ss) (nI sk) (nI ba) (nI hyc) (nI ph) y_ready (nI (sh_od t lg s (e - 1) + 1)) y_breaks y_natural y_spaces y_lineCount y_paragraphs (gd_tI t) (gd_tI w) (gd_lI lg) (gd_kI kn) b_patA b_patB b_patC b_patDigits b_glyphs b_glyphOf b_bEnd b_bNext b_bHyphen b_least b_before b_way b_lFrom b_lTo b_lNumber b_lParagraph b_lPage b_lHyphen b_lLast b_best F x3 (nI g) := by
  intro F
  induction F with
  | zero => intro i0 g x3 h; omega
  | succ F ih =>
    intro i0 g x3 hF hs hi hh h0 h1 hx
    have hcq := sh_od_le (t := t) (lg := lg) (s := s) (i := e - 1) (by omega)
    by_cases hie : i0 = e
    · subst hie
      have hg : g = sh_od t lg s (i0 - 1) + 1 := by
        rcases Nat.eq_zero_or_pos g with z | z
        · have := h0 z; omega
        · exact (h1 z).2.symm
      refine br_t (by rw [hg]; exact nI_le (Nat.le_refl _) (by omega)) ?_
      rw [hx]
      exact hp
    · obtain ⟨ho, hj⟩ := hh (by omega)
      have hm := sh_od_mono (t := t) (lg := lg) (s := s) (j := i0) (i := e - 1) hs (by omega)
      have hli := hl i0 hs (by omega)
      have g2 : b_glyphs (nI g).toNatClampNeg = nI (sh_fe t lg s e i0) := by
        rw [nI_clamp (by omega), ← ho, (hok i0 hs (by omega)).2]
      have f2 : sh_fe t lg s e i0 < 10 := sh_fe_lt hli
      refine br_f (nI_ge (by omega) (by omega)) ⟨vp_in_nI (by omega) (by omega), pk_in _ 10 f2 g2, ?_⟩
      obtain ⟨i1, a1, a2, a3, a4, a5⟩ := ys_next (w := w) (kn := kn) (sw := sw) hl hs (e - (i0 + 1)) (i0 + 1) (by omega) (by omega) (by rw [show i0 + 1 - 1 = i0 by omega])
      have N : ∀ x3, x3 = gd_iI (rn_x t lg w kn sw s e (i0 + 1)) → wY_shape_117 post (nI n) (nI lc) (nI pc) (nI fw) (nI rw) (nI fl) (nI sw) (nI ss) (nI sk) (nI ba) (nI hyc) (nI ph) y_ready (nI (sh_od t lg s (e - 1) + 1)) y_breaks y_natural y_spaces y_lineCount y_paragraphs (gd_tI t) (gd_tI w) (gd_lI lg) (gd_kI kn) b_patA b_patB b_patC b_patDigits b_glyphs b_glyphOf b_bEnd b_bNext b_bHyphen b_least b_before b_way b_lFrom b_lTo b_lNumber b_lParagraph b_lPage b_lHyphen b_lLast b_best F x3 (nI (g + 1)) := fun x3 hx => ih i1 (g + 1) x3 (by omega) (by omega) a2 (fun h => by rw [← ho]; exact a5 h) (fun h => absurd h (by omega)) (fun _ => ⟨by omega, by rw [a4, ho]⟩) (by rw [hx, a3])
      refine nm_e (pk_le g 0 (fun hg => ?_) (fun hg => ?_) rfl rfl (by omega) (by omega))
      · refine nm_r (nI_1 g) (N _ ?_)
        have := h0 (by omega)
        subst this
        rw [rn_xh (Nat.le_refl _) hli hj, hx, g2, gd_rt (by omega), show rn_gp t lg kn sw i0 e i0 = 0 by rw [rn_gp, if_neg (by omega)], gd_nat, gd_add, Int.add_zero]
      · obtain ⟨b1, b2⟩ := h1 hg
        have hlp := hl (i0 - 1) (by omega) (by omega)
        have g1 : b_glyphs (nI g - 1).toNatClampNeg = nI (sh_fe t lg s e (i0 - 1)) := by
          rw [gd_p1 hg, nI_clamp (by omega), show g - 1 = sh_od t lg s (i0 - 1) by omega, (hok (i0 - 1) (by omega) (by omega)).2]
        have f1 : sh_fe t lg s e (i0 - 1) < 10 := sh_fe_lt hlp
        have hv : 10 * b_glyphs (nI g - 1).toNatClampNeg + b_glyphs (nI g).toNatClampNeg = nI (10 * sh_fe t lg s e (i0 - 1) + sh_fe t lg s e i0) := by
          rw [g1, g2, show (10 : Int32) = nI 10 from rfl, pk_mul, nI_add]
        refine ⟨pk_in (g - 1) 48 (by omega) (gd_p1 hg), vp_in_nI (by omega) (by omega), pk_in _ 100 (by omega) hv, ?_⟩
        refine nm_e (nm_r (nI_1 g) (N _ ?_))
        rw [rn_xh hs hli hj, hv, gd_rk (by omega), hx, g2, gd_rt (by omega), gd_nat, gd_add, gd_add, show rn_gp t lg kn sw s e i0 = kn (10 * sh_fe t lg s e (i0 - 1) + sh_fe t lg s e i0) by rw [rn_gp, if_pos b1, if_pos hlp]]
        congr 1
        omega
theorem ys_loop (post : Int32 → SY → Prop) {s e : Nat} (hse : s < e) (he : e ≤ 48) (ht : ∀ i, t i ≤ 11) (hl : ∀ i, s ≤ i → i < e → t i < 10)
    (hp : ∀ b_glyphs b_glyphOf, ys_ok t lg s e b_glyphs b_glyphOf → post (gd_iI (rn_x t lg w kn sw s e e)) ((nI n), (nI lc), (nI pc), (nI fw), (nI rw), (nI fl), (nI sw), (nI ss), (nI sk), (nI ba), (nI hyc), (nI ph), y_ready, (nI (sh_od t lg s (e - 1) + 1)), y_breaks, y_natural, y_spaces, y_lineCount, y_paragraphs, (gd_tI t), (gd_tI w), (gd_lI lg), (gd_kI kn), b_patA, b_patB, b_patC, b_patDigits, b_glyphs, b_glyphOf, b_bEnd, b_bNext, b_bHyphen, b_least, b_before, b_way, b_lFrom, b_lTo, b_lNumber, b_lParagraph, b_lPage, b_lHyphen, b_lLast, b_best)) :
    ∀ d i, i + d = e → s ≤ i → ∀ m b_glyphs b_glyphOf, (i = s → m = 0) → (s < i → m = sh_od t lg s (i - 1) + 1) → (∀ j, s ≤ j → j < i → b_glyphOf j = nI (sh_od t lg s j) ∧ b_glyphs (sh_od t lg s j) = nI (sh_fe t lg s i j)) →
      wY_shape_7 post (nI e) (nI n) (nI lc) (nI pc) (nI fw) (nI rw) (nI fl) (nI sw) (nI ss) (nI sk) (nI ba) (nI hyc) (nI ph) y_ready y_breaks y_natural y_spaces y_lineCount y_paragraphs (d + 1) (nI i) (nI m) (gd_tI t) (gd_tI w) (gd_lI lg) (gd_kI kn) b_patA b_patB b_patC b_patDigits b_glyphs b_glyphOf b_bEnd b_bNext b_bHyphen b_least b_before b_way b_lFrom b_lTo b_lNumber b_lParagraph b_lPage b_lHyphen b_lLast b_best := by
  intro d
  induction d with
  | zero =>
    intro i hi hs m b_glyphs b_glyphOf h0 h1 hI
    have : i = e := by omega
    subst this
    rw [h1 (by omega)]
    refine br_t (nI_le (Nat.le_refl _) (by omega)) ⟨i - s + 1, ?_⟩
    exact ys_sum post hse he hl hI (hp _ _ hI) (i - s + 1) s 0 0 (by omega) (Nat.le_refl _) (by omega) (fun _ => ⟨sh_od_0 (Nat.le_refl _), sh_jn_0 (Nat.le_refl _)⟩) (fun _ => rfl) (fun h => absurd h (by omega)) (by rw [rn_x0 (Nat.le_refl _)]; rfl)
  | succ d ih =>
    intro i hi hs m b_glyphs b_glyphOf h0 h1 hI
    have hli := hl i hs (by omega)
    have hm48 : m < 48 := by
      rcases Nat.lt_or_ge s i with z | z
      · have := sh_od_le (t := t) (lg := lg) (s := s) (i := i - 1) (by omega)
        have := h1 z
        omega
      · have := h0 (by omega); omega
    have A : ∀ z0, z0 = -1 → sh_jn t lg s i = false → wY_shape_49 post (wY_shape_7 post (nI e) (nI n) (nI lc) (nI pc) (nI fw) (nI rw) (nI fl) (nI sw) (nI ss) (nI sk) (nI ba) (nI hyc) (nI ph) y_ready y_breaks y_natural y_spaces y_lineCount y_paragraphs (d + 1)) (nI e) (nI i) z0 (nI n) (nI lc) (nI pc) (nI fw) (nI rw) (nI fl) (nI sw) (nI ss) (nI sk) (nI ba) (nI hyc) (nI ph) y_ready (nI m) y_breaks y_natural y_spaces y_lineCount y_paragraphs (gd_tI t) (gd_tI w) (gd_lI lg) (gd_kI kn) b_patA b_patB b_patC b_patDigits b_glyphs b_glyphOf b_bEnd b_bNext b_bHyphen b_least b_before b_way b_lFrom b_lTo b_lNumber b_lParagraph b_lPage b_lHyphen b_lLast b_best := by
      intro z0 hz hj
      have hod : sh_od t lg s i = m := by
        rcases Nat.lt_or_ge s i with z | z
        · obtain ⟨k, rfl⟩ : ∃ k, i = k + 1 := ⟨i - 1, by omega⟩
          have h2 := h1 z
          rw [show k + 1 - 1 = k by omega] at h2
          rw [sh_od_n (by omega) hj, h2]
        · rw [sh_od_0 z, h0 (by omega)]
      refine br_t (by rw [hz]; decide) (nm_r (nI_1 m) ⟨vp_in_nI (by omega) (by omega), vp_in_nI (by omega) (by omega), nm_r (e' := upd b_glyphs m (nI (t i))) (by rw [gd_rt (by omega), nI_clamp (by omega)]) ?_⟩)
      refine ⟨vp_in_nI (by omega) (by omega), nm_r (e' := upd b_glyphOf i (nI m)) (by rw [nI_clamp (by omega), nI_pred]) (nm_r (nI_1 i) (ih (i + 1) (by omega) (by omega) (m + 1) _ _ (fun h => absurd h (by omega)) (fun _ => by rw [show i + 1 - 1 = i by omega, hod]) ?_))⟩
      intro j h2 h3
      by_cases e1 : j = i
      · subst e1
        rw [pk_us, hod, pk_us, sh_fe_0, sh_cg_t hj]
        exact ⟨rfl, rfl⟩
      · have h4 := sh_od_mono (t := t) (lg := lg) (s := s) (j := j) (i := i - 1) h2 (by omega)
        have h5 := h1 (by omega)
        have h6 : sh_hd t lg s j ≠ sh_hd t lg s i := fun z => by
          have := (sh_od_hd (t := t) (lg := lg) h2 (show j ≤ i by omega)).mpr z
          omega
        rw [pk_un e1, pk_un (by omega), sh_fe_s (by omega), if_neg h6]
        exact hI j h2 (by omega)
    have B : ∀ z0, z0 = nI (lg (10 * sh_cg t lg s (i - 1) + t i)) → sh_jn t lg s i = true → wY_shape_49 post (wY_shape_7 post (nI e) (nI n) (nI lc) (nI pc) (nI fw) (nI rw) (nI fl) (nI sw) (nI ss) (nI sk) (nI ba) (nI hyc) (nI ph) y_ready y_breaks y_natural y_spaces y_lineCount y_paragraphs (d + 1)) (nI e) (nI i) z0 (nI n) (nI lc) (nI pc) (nI fw) (nI rw) (nI fl) (nI sw) (nI ss) (nI sk) (nI ba) (nI hyc) (nI ph) y_ready (nI m) y_breaks y_natural y_spaces y_lineCount y_paragraphs (gd_tI t) (gd_tI w) (gd_lI lg) (gd_kI kn) b_patA b_patB b_patC b_patDigits b_glyphs b_glyphOf b_bEnd b_bNext b_bHyphen b_least b_before b_way b_lFrom b_lTo b_lNumber b_lParagraph b_lPage b_lHyphen b_lLast b_best := by
      intro z0 hz hj
      obtain ⟨k, rfl⟩ : ∃ k, i = k + 1 := by
        cases i with
        | zero => exact absurd hj Bool.false_ne_true
        | succ k => exact ⟨k, rfl⟩
      have hj' := (sh_jn_s k).mp hj
      have hmk := h1 hj'.1
      rw [show k + 1 - 1 = k by omega] at hz hmk
      subst hmk
      have hcg : sh_cg t lg s (k + 1) = lg (10 * sh_cg t lg s k + t (k + 1)) := by rw [sh_cg_s, if_pos hj]
      refine br_f (by rw [hz]; exact nI_pos (by omega)) ⟨pk_in (sh_od t lg s k) 48 (by omega) (nI_pred _), nm_r (e' := upd b_glyphs (sh_od t lg s k) z0) (by rw [nI_pred, nI_clamp (by omega)]) ⟨vp_in_nI (by omega) (by omega), nm_r (e' := upd b_glyphOf (k + 1) (nI (sh_od t lg s k))) (by rw [nI_clamp (by omega), nI_pred]) (nm_r (nI_1 (k + 1)) (ih (k + 1 + 1) (by omega) (by omega) (sh_od t lg s k + 1) _ _ (fun h => absurd h (by omega)) (fun _ => by rw [show k + 1 + 1 - 1 = k + 1 by omega, sh_od_j hj]) ?_))⟩⟩
      intro j h2 h3
      by_cases e1 : j = k + 1
      · subst e1
        rw [pk_us, sh_od_j hj, pk_us, sh_fe_0, hcg, hz]
        exact ⟨rfl, rfl⟩
      · rw [pk_un e1, sh_fe_s (by omega), sh_hd_j hj]
        have hoh := sh_od_hd (t := t) (lg := lg) h2 (show j ≤ k by omega)
        by_cases e2 : sh_od t lg s j = sh_od t lg s k
        · rw [e2, pk_us, if_pos (hoh.mp e2), hcg, hz]
          refine ⟨?_, rfl⟩
          rw [← e2]
          exact (hI j h2 (by omega)).1
        · rw [pk_un e2, if_neg (fun z => e2 (hoh.mpr z))]
          exact hI j h2 (by omega)
    refine br_f (nI_ge (by omega) (by omega)) ?_
    refine pk_le m 0 (fun hm => ?_) (fun hm => ?_) rfl rfl (by omega) (by omega)
    · refine A _ rfl (sh_jn_0 ?_)
      rcases Nat.lt_or_ge s i with z | z
      · have := h1 z; omega
      · exact z
    · have hsi : s < i := by
        rcases Nat.lt_or_ge s i with z | z
        · exact z
        · have := h0 (by omega); omega
      have hm1 := h1 hsi
      have hlp := hl (i - 1) (by omega) (by omega)
      have hc : sh_cg t lg s (i - 1) < 10 := sh_cg_lt hlp
      have hg : b_glyphs (nI m - 1).toNatClampNeg = nI (sh_cg t lg s (i - 1)) := by
        have := sh_fe_0 (t := t) (lg := lg) (s := s) (i := i - 1)
        rw [show i - 1 + 1 = i by omega] at this
        rw [gd_p1 hm, nI_clamp (by omega), show m - 1 = sh_od t lg s (i - 1) by omega, (hI (i - 1) (by omega) (by omega)).2, this]
      have hv : 10 * b_glyphs (nI m - 1).toNatClampNeg + gd_tI t (nI i).toNatClampNeg = nI (10 * sh_cg t lg s (i - 1) + t i) := by
        rw [hg, gd_rt (by omega), show (10 : Int32) = nI 10 from rfl, pk_mul, nI_add]
      have hji : sh_jn t lg s i = decide (lg (10 * sh_cg t lg s (i - 1) + t i) < 10) := by
        obtain ⟨k, rfl⟩ : ∃ k, i = k + 1 := ⟨i - 1, by omega⟩
        rw [show k + 1 - 1 = k by omega] at hlp ⊢
        rw [sh_jn]
        congr 1
        apply propext
        constructor
        · exact fun h => h.2.2.2
        · exact fun h => ⟨hsi, hlp, hli, h⟩
      refine ⟨pk_in (m - 1) 48 (by omega) (gd_p1 hm), vp_in_nI (by omega) (by omega), pk_in (10 * sh_cg t lg s (i - 1) + t i) 100 (by omega) hv, ?_⟩
      by_cases hlg : lg (10 * sh_cg t lg s (i - 1) + t i) < 10
      · exact B _ (by rw [hv, nI_clamp (by omega), gd_li hlg]) (by rw [hji]; exact decide_eq_true hlg)
      · exact A _ (by rw [hv, nI_clamp (by omega), gd_lo hlg]) (by rw [hji]; exact decide_eq_false hlg)
theorem ys_shape {post : Int32 → SY → Prop} {s e : Nat} (hse : s < e) (he : e ≤ 48) (ht : ∀ i, t i ≤ 11) (hl : ∀ i, s ≤ i → i < e → t i < 10)
    (hp : ∀ b_glyphs b_glyphOf, ys_ok t lg s e b_glyphs b_glyphOf → post (gd_iI (rn_x t lg w kn sw s e e)) ((nI n), (nI lc), (nI pc), (nI fw), (nI rw), (nI fl), (nI sw), (nI ss), (nI sk), (nI ba), (nI hyc), (nI ph), y_ready, (nI (sh_od t lg s (e - 1) + 1)), y_breaks, y_natural, y_spaces, y_lineCount, y_paragraphs, (gd_tI t), (gd_tI w), (gd_lI lg), (gd_kI kn), b_patA, b_patB, b_patC, b_patDigits, b_glyphs, b_glyphOf, b_bEnd, b_bNext, b_bHyphen, b_least, b_before, b_way, b_lFrom, b_lTo, b_lNumber, b_lParagraph, b_lPage, b_lHyphen, b_lLast, b_best)) : wpY_shape post ((nI n), (nI lc), (nI pc), (nI fw), (nI rw), (nI fl), (nI sw), (nI ss), (nI sk), (nI ba), (nI hyc), (nI ph), y_ready, y_glyphCount, y_breaks, y_natural, y_spaces, y_lineCount, y_paragraphs, (gd_tI t), (gd_tI w), (gd_lI lg), (gd_kI kn), b_patA, b_patB, b_patC, b_patDigits, b_glyphs, b_glyphOf, b_bEnd, b_bNext, b_bHyphen, b_least, b_before, b_way, b_lFrom, b_lTo, b_lNumber, b_lParagraph, b_lPage, b_lHyphen, b_lLast, b_best) (nI s) (nI e) :=
  ⟨e - s + 1, ys_loop post hse he ht hl hp (e - s) s (by omega) (Nat.le_refl _) 0 _ _ (fun _ => rfl) (fun h => absurd h (by omega)) (fun j h1 h2 => absurd h1 (by omega))⟩
end
