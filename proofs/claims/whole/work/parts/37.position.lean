section
variable {n lc pc fw rw fl sw ss sk ba hyc ph : Nat} {t w lg : Nat → Nat} {kn : Nat → Int}
variable {P pa pb pq pd : Nat → Nat} {k lnc : Nat} {Λ : lt_T}
variable {x_breakCount x_lineCount x_paragraphCount x_stale : Int32} {a_patterns a_heads a_glyphs a_breakEnd a_breakNext a_breakHyphen a_breakTaken a_wayBefore a_lineFacts : Nat → Int32} {a_wayDemerits a_paragraphDemerits : Nat → Int64}
variable {y_ready y_glyphCount y_breaks y_natural y_spaces y_lineCount y_paragraphs : Int32} {b_patA b_patB b_patC b_patDigits b_glyphs b_glyphOf b_bEnd b_bNext b_bHyphen b_before b_way b_lFrom b_lTo b_lNumber b_lParagraph b_lPage b_lHyphen b_lLast : Nat → Int32} {b_least b_best : Nat → Int64}
theorem po_sum (post : Int32 → SY → Prop) {i q s2 e2 : Nat} {x4 x5 : Int32} (r : lt_R) (hi : i < 48) (he2 : e2 ≤ 48) (hw : wl_ok t r i s2 e2) (hok : ys_ok t lg s2 e2 b_glyphs b_glyphOf)
    (hp : ∀ F, wY_position_93 post (nI i) (nI q) x4 x5 (nI s2) (nI n) (nI lc) (nI pc) (nI fw) (nI rw) (nI fl) (nI sw) (nI ss) (nI sk) (nI ba) (nI hyc) (nI ph) y_ready y_glyphCount y_breaks y_natural y_spaces y_lineCount y_paragraphs (gd_tI t) (gd_tI w) (gd_lI lg) (gd_kI kn) b_patA b_patB b_patC b_patDigits b_glyphs b_glyphOf b_bEnd b_bNext b_bHyphen b_least b_before b_way b_lFrom b_lTo b_lNumber b_lParagraph b_lPage b_lHyphen b_lLast b_best (F + 1) (gd_iI (rn_x t lg w kn sw s2 e2 (sh_hd t lg s2 i) + rn_gp t lg kn sw s2 e2 (sh_hd t lg s2 i))) (nI (sh_od t lg s2 i))) :
    ∀ F h x7, i - h < F → s2 ≤ h → h ≤ i → sh_jn t lg s2 h = false → x7 = gd_iI (rn_x t lg w kn sw s2 e2 h + rn_gp t lg kn sw s2 e2 h) → wY_position_93 post (nI i) (nI q) x4 x5 (nI s2) (nI n) (nI lc) (nI pc) (nI fw) (nI rw) (nI fl) (nI sw) (nI ss) (nI sk) (nI ba) (nI hyc) (nI ph) y_ready y_glyphCount y_breaks y_natural y_spaces y_lineCount y_paragraphs (gd_tI t) (gd_tI w) (gd_lI lg) (gd_kI kn) b_patA b_patB b_patC b_patDigits b_glyphs b_glyphOf b_bEnd b_bNext b_bHyphen b_least b_before b_way b_lFrom b_lTo b_lNumber b_lParagraph b_lPage b_lHyphen b_lLast b_best F x7 (nI (sh_od t lg s2 h)) := by
  obtain ⟨g1, g2, g3, g4, g5, g6, g7⟩ := hw
  intro F
  induction F with
  | zero => intro h x7 hF; omega
  | succ F ih =>
    intro h x7 hF hs hhi hj hx
    have mono := sh_od_mono (t := t) (lg := lg) (s := s2) hs hhi
    by_cases e : sh_od t lg s2 h = sh_od t lg s2 i
    · have hh := (sh_od_hd (t := t) (lg := lg) hs hhi).mp e
      rw [sh_hd_n hj] at hh
      have := hp F
      rw [← hh, ← e, ← hx] at this
      rw [e] at this ⊢
      exact this
    · have hoi := sh_od_le (t := t) (lg := lg) (s := s2) (i := i) g2
      obtain ⟨i1, a1, a2, a3, a4, a5⟩ := ys_next (t := t) (lg := lg) (w := w) (kn := kn) (sw := sw) g5 hs (e2 - (h + 1)) (h + 1) (by omega) (by omega) (by rw [show h + 1 - 1 = h by omega])
      have hi1 : i1 ≤ i := by
        rcases Nat.lt_or_ge i i1 with z | z
        · have := sh_od_mono (t := t) (lg := lg) (s := s2) (j := i) (i := i1 - 1) g2 (by omega)
          omega
        · exact z
      obtain ⟨b1, b2⟩ := a5 (by omega)
      have hlh := g5 h hs (by omega)
      have hli1 := g5 i1 (by omega) (by omega)
      have f1 : sh_fe t lg s2 e2 h < 10 := sh_fe_lt hlh
      have f2 : sh_fe t lg s2 e2 i1 < 10 := sh_fe_lt hli1
      have f3 : sh_fe t lg s2 e2 (i1 - 1) < 10 := sh_fe_lt (g5 (i1 - 1) (by omega) (by omega))
      have gh := (hok h hs (by omega)).2
      have gi1 := (hok i1 (by omega) (by omega)).2
      have gp1 := (hok (i1 - 1) (by omega) (by omega)).2
      have efe : sh_fe t lg s2 e2 (i1 - 1) = sh_fe t lg s2 e2 h := by
        rw [a4, gh] at gp1
        exact ((nI_eq (by omega) (by omega)).mp gp1).symm
      have r1 : b_glyphs (nI (sh_od t lg s2 h)).toNatClampNeg = nI (sh_fe t lg s2 e2 h) := by rw [nI_clamp (by omega), gh]
      have r2 : b_glyphs (nI (sh_od t lg s2 h) + 1).toNatClampNeg = nI (sh_fe t lg s2 e2 i1) := by rw [nI_1, nI_clamp (by omega), ← b1, gi1]
      have hv : 10 * b_glyphs (nI (sh_od t lg s2 h)).toNatClampNeg + b_glyphs (nI (sh_od t lg s2 h) + 1).toNatClampNeg = nI (10 * sh_fe t lg s2 e2 h + sh_fe t lg s2 e2 i1) := by
        rw [r1, r2, show (10 : Int32) = nI 10 from rfl, pk_mul, nI_add]
      have vo : vp_in (nI (sh_od t lg s2 h)) 48 := vp_in_nI (by omega) (by omega)
      have next := ih i1 (gd_iI (rn_x t lg w kn sw s2 e2 i1 + rn_gp t lg kn sw s2 e2 i1)) (by omega) (by omega) hi1 b2 rfl
      rw [b1] at next
      refine ⟨vp_in_nI (by omega) (by omega), br_f ?_ ⟨vo, pk_in _ 10 f1 r1, vo, pk_in (sh_od t lg s2 h + 1) 48 (by omega) (nI_1 _), pk_in _ 100 (by omega) hv, nm_r (e' := gd_iI (rn_x t lg w kn sw s2 e2 i1 + rn_gp t lg kn sw s2 e2 i1)) ?_ (nm_r (nI_1 _) next)⟩⟩
      · rw [nI_clamp (by omega), (hok i g2 g3).1]
        exact nI_ge (by omega) (by omega)
      · rw [hx, hv, r1, gd_rt (by omega), gd_rk (by omega), gd_nat, gd_add, gd_add]
        congr 1
        rw [a3, rn_xh hs hlh hj, show rn_gp t lg kn sw s2 e2 i1 = kn (10 * sh_fe t lg s2 e2 h + sh_fe t lg s2 e2 i1) by rw [rn_gp, if_pos (by omega), if_pos (g5 (i1 - 1) (by omega) (by omega)), efe]]
        omega
theorem po_y {post : Int32 → SY → Prop} {i q : Nat} {x5 : Int32} (C : cf_ok t w lg kn n fw rw fl sw ss sk ba hyc ph) (hl : lnc ≤ 48) (hi : i < n) (hli : t i < 10) (hq : q < lnc) (V : lt_val t n (Λ q)) (Y : yl_ok lnc Λ b_lFrom b_lTo b_lNumber b_lParagraph b_lHyphen b_lLast) (h1 : (Λ q).1 ≤ i) (h2 : i < (Λ q).2.1)
    (hp : ∀ y_glyphCount y_natural y_spaces b_glyphs b_glyphOf, post (gd_iI (rn_x t lg w kn sw (Λ q).1 (Λ q).2.1 (sh_hd t lg (Λ q).1 i) + rn_gp t lg kn sw (Λ q).1 (Λ q).2.1 (sh_hd t lg (Λ q).1 i)) + xr_adj x5 (nI (rn_sc t (Λ q).1 (Λ q).2.1)) (rn_sc t (Λ q).1 (sh_hd t lg (Λ q).1 i + 1))) ((nI n), (nI lc), (nI pc), (nI fw), (nI rw), (nI fl), (nI sw), (nI ss), (nI sk), (nI ba), (nI hyc), (nI ph), y_ready, y_glyphCount, y_breaks, y_natural, y_spaces, y_lineCount, y_paragraphs, (gd_tI t), (gd_tI w), (gd_lI lg), (gd_kI kn), b_patA, b_patB, b_patC, b_patDigits, b_glyphs, b_glyphOf, b_bEnd, b_bNext, b_bHyphen, b_least, b_before, b_way, b_lFrom, b_lTo, b_lNumber, b_lParagraph, b_lPage, b_lHyphen, b_lLast, b_best)) :
    wY_position_77 post (nI i) (nI q) (nI (rn_sc t (Λ q).1 (Λ q).2.1)) x5 (nI n) (nI lc) (nI pc) (nI fw) (nI rw) (nI fl) (nI sw) (nI ss) (nI sk) (nI ba) (nI hyc) (nI ph) y_ready y_glyphCount y_breaks y_natural y_spaces y_lineCount y_paragraphs (gd_tI t) (gd_tI w) (gd_lI lg) (gd_kI kn) b_patA b_patB b_patC b_patDigits b_glyphs b_glyphOf b_bEnd b_bNext b_bHyphen b_least b_before b_way b_lFrom b_lTo b_lNumber b_lParagraph b_lPage b_lHyphen b_lLast b_best := by
  have hn := C.1
  have ht := C.2.1
  unfold wY_position_77
  refine gl_ys C hl hi hli hq V Y h1 h2 (fun s2 e2 y_glyphCount b_glyphs b_glyphOf hw hok => ?_)
  obtain ⟨g1, g2, g3, g4, g5, g6, g7⟩ := id hw
  obtain ⟨w1, w2, w3, w4, w5, w6⟩ := V
  obtain ⟨r1, r2, _⟩ := Y q hq
  have vi : vp_in (nI q) 48 := vp_in_nI (by omega) (by omega)
  have cl : (nI q).toNatClampNeg = q := nI_clamp (by omega)
  have hhd : sh_hd t lg (Λ q).1 i = sh_hd t lg s2 i := sh_hd_w (e := e2) g1 g6 g2
  have hgl := sh_hd_le (t := t) (lg := lg) (s := s2) i
  have hgs := sh_hd_gs (t := t) (lg := lg) (s := s2) (i := i) g2
  rw [hhd] at hp
  have hpos := rn_pos (lg := lg) (w := w) (kn := kn) (sw := sw) (g := sh_hd t lg s2 i) g1 g6 g5 g4 g7 hgs (by omega)
  rw [hpos] at hp
  have hsw : rn_sc t (Λ q).1 (sh_hd t lg s2 i + 1) = rn_sc t (Λ q).1 (s2 + 1) := by
    have := rn_sword (t := t) (s := (Λ q).1) (i := s2) (sh_hd t lg s2 i - s2) (fun j a b => g5 j a (by omega))
    rw [show s2 + (sh_hd t lg s2 i - s2) + 1 = sh_hd t lg s2 i + 1 by omega] at this
    exact this
  rw [hsw] at hp
  have fin := fun F => po_sum (n := n) (lc := lc) (pc := pc) (fw := fw) (rw := rw) (fl := fl) (ss := ss) (sk := sk) (ba := ba) (hyc := hyc) (ph := ph) (w := w) (kn := kn) (sw := sw) (y_ready := y_ready) (y_glyphCount := y_glyphCount) (y_breaks := y_breaks) (y_natural := y_natural) (y_spaces := y_spaces) (y_lineCount := y_lineCount) (y_paragraphs := y_paragraphs) (b_patA := b_patA) (b_patB := b_patB) (b_patC := b_patC) (b_patDigits := b_patDigits) (b_bEnd := b_bEnd) (b_bNext := b_bNext) (b_bHyphen := b_bHyphen) (b_least := b_least) (b_before := b_before) (b_way := b_way) (b_lFrom := b_lFrom) (b_lTo := b_lTo) (b_lNumber := b_lNumber) (b_lParagraph := b_lParagraph) (b_lPage := b_lPage) (b_lHyphen := b_lHyphen) (b_lLast := b_lLast) (b_best := b_best) post (q := q) (x4 := nI (rn_sc t (Λ q).1 (Λ q).2.1)) (x5 := x5) (Λ q) (show i < 48 by omega) (show e2 ≤ 48 by omega) hw hok F (i - s2 + 1) s2 0 (by omega) (Nat.le_refl _) g2 (sh_jn_0 (Nat.le_refl _)) (by rw [rn_x0 (Nat.le_refl _), rn_gp, if_neg (by omega)]; rfl)
  rw [show sh_od t lg s2 s2 = 0 from sh_od_0 (Nat.le_refl _)] at fin
  refine ⟨_, fin (fun F => ?_)⟩
  refine ⟨vp_in_nI (by omega) (by omega), br_t ?_ ⟨vi, ?_⟩⟩
  · rw [nI_clamp (by omega), (hok i g2 g3).1]
    exact nI_le (Nat.le_refl _) (by have := sh_od_le (t := t) (lg := lg) (s := s2) (i := i) g2; omega)
  refine pk_eq s2 (Λ q).1 (fun e => ?_) (fun e => ?_) rfl (by rw [cl, r1]) (by omega) (by omega)
  · have h3 := hp y_glyphCount y_natural y_spaces b_glyphs b_glyphOf
    rw [show rn_x t lg w kn sw (Λ q).1 (Λ q).2.1 s2 = 0 from rn_x0 (by omega), show rn_gp t lg kn sw (Λ q).1 (Λ q).2.1 s2 = 0 by rw [rn_gp, if_neg (by omega)], rn_sc0 (i := s2 + 1) (by omega), xr_adj0, Int32.add_zero, Int.zero_add, Int.zero_add] at h3
    exact h3
  · have hnl : ¬ t (s2 - 1) < 10 := by
      rcases g6 with z | z
      · exact absurd z e
      · exact z
    have hls2 := g5 s2 (Nat.le_refl _) (by omega)
    have hgap : rn_gp t lg kn sw (Λ q).1 (Λ q).2.1 s2 = (sw : Int) := by rw [rn_gp, if_pos (by omega), if_neg hnl]
    have hcnt : 1 ≤ rn_sc t (Λ q).1 (Λ q).2.1 := by
      have a := rn_scy (t := t) (s := (Λ q).1) (i := s2) (by omega) hls2 hnl
      have b := rn_scm (t := t) (s := (Λ q).1) (i := s2 + 1) (j := (Λ q).2.1) (by omega)
      omega
    have hcle := rn_sc_le (t := t) (s := (Λ q).1) (Λ q).2.1
    have nz : ¬ nI (rn_sc t (Λ q).1 (Λ q).2.1) = 0 := nI_ne0 hcnt (by omega)
    have down : ∀ m, (Λ q).1 < m → m ≤ s2 → (∀ j, m ≤ j → j < s2 → ¬ t j < 10) → wY_position_171 post (nI q) (nI (rn_sc t (Λ q).1 (Λ q).2.1)) x5 (gd_iI (rn_x t lg w kn sw s2 e2 (sh_hd t lg s2 i) + rn_gp t lg kn sw s2 e2 (sh_hd t lg s2 i))) (nI n) (nI lc) (nI pc) (nI fw) (nI rw) (nI fl) (nI sw) (nI ss) (nI sk) (nI ba) (nI hyc) (nI ph) y_ready y_glyphCount y_breaks y_natural y_spaces y_lineCount y_paragraphs (gd_tI t) (gd_tI w) (gd_lI lg) (gd_kI kn) b_patA b_patB b_patC b_patDigits b_glyphs b_glyphOf b_bEnd b_bNext b_bHyphen b_least b_before b_way b_lFrom b_lTo b_lNumber b_lParagraph b_lPage b_lHyphen b_lLast b_best (m + 1) (nI m) := by
      intro m
      induction m with
      | zero => intro h; omega
      | succ m ih =>
        intro c1 c2 c3
        unfold wY_position_171
        rw [nI_pred]
        refine yl_is hn (by omega) ht (gd_bt (fun z => ?_) (fun z => ?_))
        · have z := of_decide_eq_false z
          have hm : ¬ t m < 10 := fun y => z ⟨by omega, y⟩
          have hmr : (Λ q).1 ≠ m := fun y => hm (by rw [← y]; exact w3)
          refine nm_r (pk_m1 m) (ih (by omega) (by omega) (fun j a b => ?_))
          by_cases y : j = m
          · rw [y]; exact hm
          · exact c3 j (by omega) b
        · have z := of_decide_eq_true z
          have hms : m + 1 < s2 := by
            rcases Nat.lt_or_ge (m + 1) s2 with y | y
            · exact y
            · have : m + 1 = s2 := by omega
              rw [← this, show m + 1 - 1 = m by omega] at hnl
              exact absurd z.2 hnl
          refine ⟨vi, ?_⟩
          rw [cl, r1]
          refine yk_walk hn (by omega) (by omega) ht w3 (fun j a b => w5 j a (by omega)) false (fun y_glyphCount b_glyphs b_glyphOf => ?_)
          have hxs : rn_x t lg w kn sw (Λ q).1 (Λ q).2.1 s2 = rn_x t lg w kn sw (Λ q).1 (m + 1) (m + 1) := by
            have a := rn_flat (t := t) (lg := lg) (w := w) (kn := kn) (sw := sw) (s := (Λ q).1) (e := (Λ q).2.1) (i := m + 1) (by omega) (s2 - (m + 1)) (fun j x y => c3 j x (by omega))
            rw [show m + 1 + (s2 - (m + 1)) = s2 by omega] at a
            rw [a, rn_trunc (e := m + 1) (by omega) (Or.inr (c3 (m + 1) (Nat.le_refl _) hms)) (m + 1) (Nat.le_refl _)]
          have hcs : rn_sc t (Λ q).1 (s2 + 1) = rn_sc t (Λ q).1 (m + 1) + 1 := by
            have a := rn_sflat (t := t) (s := (Λ q).1) (i := m + 1) (s2 - (m + 1)) (fun j x y => c3 j x (by omega))
            rw [show m + 1 + (s2 - (m + 1)) = s2 by omega] at a
            rw [rn_scy (by omega) hls2 hnl, a]
          refine nm_e (nm_e ⟨nz, ?_⟩)
          have h3 := hp y_glyphCount (gd_iI (rn_x t lg w kn sw (Λ q).1 (m + 1) (m + 1) + cond false 5 0)) (nI (rn_sc t (Λ q).1 (m + 1))) b_glyphs b_glyphOf
          rw [hgap, hxs, hcs, xr_adj, if_neg nz, ← nI_1, ← gd_add, ← gd_add, ← gd_nat] at h3
          have e5 : ∀ A B S D : Int32, A + (B + S) + D = B + S + A + D := by intro A B S D; grind
          rw [e5, show rn_x t lg w kn sw (Λ q).1 (m + 1) (m + 1) + cond false 5 0 = rn_x t lg w kn sw (Λ q).1 (m + 1) (m + 1) from Int.add_zero _] 
          rw [show rn_x t lg w kn sw (Λ q).1 (m + 1) (m + 1) + cond false 5 0 = rn_x t lg w kn sw (Λ q).1 (m + 1) (m + 1) from Int.add_zero _] at h3
          exact h3
    exact ⟨_, down s2 (by omega) (Nat.le_refl _) (fun j a b => absurd a (by omega))⟩
end
theorem i_vc_position {k : Nat} {u : SX} {v : SY} (I : i_Rel k u v) (hk : k + 5 ≤ 2560) (v1 : Int32) : wpX_position (fun r u' => wpY_position (fun r' v' => r' = r ∧ i_Rel (k + 5) u' v') v v1) u v1 := by
  refine rl_elim (Q := fun u v => wpX_position (fun r u' => wpY_position (fun r' v' => r' = r ∧ i_Rel (k + 5) u' v') v v1) u v1) I ?_
  intro n lc pc fw rw fl sw ss sk ba hyc ph t w lg kn P pa pb pq pd x_breakCount x_lineCount x_paragraphCount x_stale a_heads a_glyphs a_breakEnd a_breakNext a_breakHyphen a_breakTaken a_wayDemerits a_wayBefore a_lineFacts a_paragraphDemerits y_ready y_glyphCount y_breaks y_natural y_spaces y_lineCount y_paragraphs b_patA b_patB b_patC b_patDigits b_glyphs b_glyphOf b_bEnd b_bNext b_bHyphen b_least b_before b_way b_lFrom b_lTo b_lNumber b_lParagraph b_lPage b_lHyphen b_lLast b_best B
  obtain ⟨C, L, R, F⟩ := id B
  have hn := C.1
  have ht := C.2.1
  obtain ⟨e1, e2, e3, e4, e5⟩ := ly_end (P := P) C
  unfold wpX_position
  refine lo_x B (fun x_breakCount x_lineCount x_paragraphCount a_heads a_glyphs a_breakEnd a_breakNext a_breakHyphen a_breakTaken a_wayDemerits a_wayBefore a_lineFacts a_paragraphDemerits rx => ?_)
  by_cases h : ∃ i, i < n ∧ t i < 10 ∧ v1 = nI i
  · obtain ⟨i, hi, hli, rfl⟩ := h
    have rx' := rx
    obtain ⟨x1, x2, x3, x4⟩ := rx
    subst x1
    refine gl_x C e1 hi hli e3 (e5 i hi hli) x3.1 (fun q a_heads a_glyphs hq h1 h2 hno hok => ?_)
    have V := e3 q hq
    have V1 := V.1
    have V2 := V.2.1
    have hd := sh_hd_le (t := t) (lg := lg) (s := ((ly_at t w lg kn P n sw ss sk fw rw fl ba hyc (n + 1)).1.1 q).1) i
    have hgs := sh_hd_gs (t := t) (lg := lg) (s := ((ly_at t w lg kn P n sw ss sk fw rw fl ba hyc (n + 1)).1.1 q).1) h1
    obtain ⟨o1, o2⟩ := hok i h1 h2 hli
    obtain ⟨f0, f1, f2, f3, f4, f5, f7⟩ := x3.1 q hq
    have ix : ∀ c, c < 8 → nI (8 * q) + nI c = nI (8 * q + c) := fun c _ => nI_add _ _
    refine br_f (gd_nm1 (by omega)) (nm_r (e' := nI (8 * q)) (by rw [show (8 : Int32) = nI 8 from rfl, pk_mul, Nat.mul_comm]) ⟨pk_in (8 * q + 0) 384 (by omega) (ix 0 (by omega)), nm_r (e' := nI ((ly_at t w lg kn P n sw ss sk fw rw fl ba hyc (n + 1)).1.1 q).1) ?_ ⟨pk_in (8 * q + 1) 384 (by omega) (ix 1 (by omega)), nm_r (e' := nI ((ly_at t w lg kn P n sw ss sk fw rw fl ba hyc (n + 1)).1.1 q).2.1) ?_ ?_⟩⟩)
    · rw [show (0 : Int32) = nI 0 from rfl, ix 0 (by omega), nI_clamp (by omega), f0]
    · rw [show (1 : Int32) = nI 1 from rfl, ix 1 (by omega), nI_clamp (by omega), f1]
    refine xc_spaces V1 (by omega) ht ⟨vp_in_nI (by omega) (by omega), pk_in (8 * q + 7) 384 (by omega) (ix 7 (by omega)), ?_⟩
    have hF7 : a_lineFacts (nI (8 * q) + 7).toNatClampNeg = gd_iI (lt_ex t lg w kn sw sk fw rw fl ((ly_at t w lg kn P n sw ss sk fw rw fl ba hyc (n + 1)).1.1 q)) := by
      rw [show (7 : Int32) = nI 7 from rfl, ix 7 (by omega), nI_clamp (by omega), f7]
    rw [hF7, nI_clamp (show i < 2 ^ 31 by omega), o1]
    obtain ⟨l1, l2⟩ := sh_hd_l (t := t) (lg := lg) (s := ((ly_at t w lg kn P n sw ss sk fw rw fl ba hyc (n + 1)).1.1 q).1) hli
    refine xr_at hgs (by omega) (by omega) ht hok l1 l2 ?_
    unfold wpY_position
    refine lo_y B (fun y_glyphCount y_breaks y_natural y_spaces y_lineCount y_paragraphs b_glyphs b_glyphOf b_bEnd b_bNext b_bHyphen b_least b_before b_way b_lFrom b_lTo b_lNumber b_lParagraph b_lPage b_lHyphen b_lLast b_best ry => ?_)
    have ry' := ry
    obtain ⟨y1, y2, y3, y4⟩ := ry
    subst y1
    refine yl_is hn (by omega) ht ?_
    rw [decide_eq_true ⟨hi, hli⟩]
    refine br_f (by decide) (gl_yl e1 (by omega) hq e3 hn y3.1 h1 h2 hno (yd_diff C e1 hq V y3.1 (fun y_glyphCount b_glyphs b_glyphOf => ?_)))
    obtain ⟨r1, r2, r3, r4, r5, r6⟩ := y3.1 q hq
    have hdb := lt_dif_b (r := (ly_at t w lg kn P n sw ss sk fw rw fl ba hyc (n + 1)).1.1 q) C V2
    have hsc := rn_sc_le (t := t) (s := ((ly_at t w lg kn P n sw ss sk fw rw fl ba hyc (n + 1)).1.1 q).1) ((ly_at t w lg kn P n sw ss sk fw rw fl ba hyc (n + 1)).1.1 q).2.1
    have hsk := C.2.2.2.2.2.2.2.2.2.1
    have hmul : rn_sc t ((ly_at t w lg kn P n sw ss sk fw rw fl ba hyc (n + 1)).1.1 q).1 ((ly_at t w lg kn P n sw ss sk fw rw fl ba hyc (n + 1)).1.1 q).2.1 * sk ≤ 48 * 20 := Nat.mul_le_mul (by omega) hsk
    have eneg : -(nI (rn_sc t ((ly_at t w lg kn P n sw ss sk fw rw fl ba hyc (n + 1)).1.1 q).1 ((ly_at t w lg kn P n sw ss sk fw rw fl ba hyc (n + 1)).1.1 q).2.1)) * nI sk = gd_iI (-((rn_sc t ((ly_at t w lg kn P n sw ss sk fw rw fl ba hyc (n + 1)).1.1 q).1 ((ly_at t w lg kn P n sw ss sk fw rw fl ba hyc (n + 1)).1.1 q).2.1 * sk : Nat) : Int)) := by
      rw [← gd_neg, ← gd_nat, ← pk_mul]; grind
    have go : ∀ z0 y_natural, z0 = gd_iI (lt_ex t lg w kn sw sk fw rw fl ((ly_at t w lg kn P n sw ss sk fw rw fl ba hyc (n + 1)).1.1 q)) → wY_position_77 (fun r' v' => r' = gd_iI (rn_x t lg w kn sw ((ly_at t w lg kn P n sw ss sk fw rw fl ba hyc (n + 1)).1.1 q).1 ((ly_at t w lg kn P n sw ss sk fw rw fl ba hyc (n + 1)).1.1 q).2.1 (sh_hd t lg ((ly_at t w lg kn P n sw ss sk fw rw fl ba hyc (n + 1)).1.1 q).1 i) + rn_gp t lg kn sw ((ly_at t w lg kn P n sw ss sk fw rw fl ba hyc (n + 1)).1.1 q).1 ((ly_at t w lg kn P n sw ss sk fw rw fl ba hyc (n + 1)).1.1 q).2.1 (sh_hd t lg ((ly_at t w lg kn P n sw ss sk fw rw fl ba hyc (n + 1)).1.1 q).1 i)) + xr_adj (gd_iI (lt_ex t lg w kn sw sk fw rw fl ((ly_at t w lg kn P n sw ss sk fw rw fl ba hyc (n + 1)).1.1 q))) (nI (rn_sc t ((ly_at t w lg kn P n sw ss sk fw rw fl ba hyc (n + 1)).1.1 q).1 ((ly_at t w lg kn P n sw ss sk fw rw fl ba hyc (n + 1)).1.1 q).2.1)) (rn_sc t ((ly_at t w lg kn P n sw ss sk fw rw fl ba hyc (n + 1)).1.1 q).1 (sh_hd t lg ((ly_at t w lg kn P n sw ss sk fw rw fl ba hyc (n + 1)).1.1 q).1 i + 1)) ∧ i_Rel (k + 5) ((nI n), (nI lc), (nI pc), (nI fw), (nI rw), (nI fl), (nI sw), (nI ss), (nI sk), (nI ba), (nI hyc), (nI ph), x_breakCount, (nI (ly_at t w lg kn P n sw ss sk fw rw fl ba hyc (n + 1)).1.2.1), x_paragraphCount, 0, (gd_tI t), (gd_tI w), (gd_lI lg), (gd_kI kn), (gd_tI P), a_heads, a_glyphs, a_breakEnd, a_breakNext, a_breakHyphen, a_breakTaken, a_wayDemerits, a_wayBefore, a_lineFacts, a_paragraphDemerits) v') (nI i) (nI q) (nI (rn_sc t ((ly_at t w lg kn P n sw ss sk fw rw fl ba hyc (n + 1)).1.1 q).1 ((ly_at t w lg kn P n sw ss sk fw rw fl ba hyc (n + 1)).1.1 q).2.1)) z0 (nI n) (nI lc) (nI pc) (nI fw) (nI rw) (nI fl) (nI sw) (nI ss) (nI sk) (nI ba) (nI hyc) (nI ph) 1 y_glyphCount y_breaks y_natural (nI (rn_sc t ((ly_at t w lg kn P n sw ss sk fw rw fl ba hyc (n + 1)).1.1 q).1 ((ly_at t w lg kn P n sw ss sk fw rw fl ba hyc (n + 1)).1.1 q).2.1)) (nI (ly_at t w lg kn P n sw ss sk fw rw fl ba hyc (n + 1)).1.2.1) y_paragraphs (gd_tI t) (gd_tI w) (gd_lI lg) (gd_kI kn) b_patA b_patB b_patC b_patDigits b_glyphs b_glyphOf b_bEnd b_bNext b_bHyphen b_least b_before b_way b_lFrom b_lTo b_lNumber b_lParagraph b_lPage b_lHyphen b_lLast b_best := by
      intro z0 y_natural hz
      subst hz
      exact po_y C e1 hi hli hq V y3.1 h1 h2 (fun y_glyphCount y_natural y_spaces b_glyphs b_glyphOf => ⟨rfl, rl_set C L R (by omega) rx' ry'⟩)
    have hex : lt_ex t lg w kn sw sk fw rw fl ((ly_at t w lg kn P n sw ss sk fw rw fl ba hyc (n + 1)).1.1 q) = lt_exv sk (lt_dif t lg w kn sw fw rw fl ((ly_at t w lg kn P n sw ss sk fw rw fl ba hyc (n + 1)).1.1 q)) (rn_sc t ((ly_at t w lg kn P n sw ss sk fw rw fl ba hyc (n + 1)).1.1 q).1 ((ly_at t w lg kn P n sw ss sk fw rw fl ba hyc (n + 1)).1.1 q).2.1) (lt_last ((ly_at t w lg kn P n sw ss sk fw rw fl ba hyc (n + 1)).1.1 q)) := rfl
    rw [lt_exv] at hex
    generalize hD : lt_dif t lg w kn sw fw rw fl ((ly_at t w lg kn P n sw ss sk fw rw fl ba hyc (n + 1)).1.1 q) = D at *
    generalize hM : rn_sc t ((ly_at t w lg kn P n sw ss sk fw rw fl ba hyc (n + 1)).1.1 q).1 ((ly_at t w lg kn P n sw ss sk fw rw fl ba hyc (n + 1)).1.1 q).2.1 * sk = M at *
    refine gd_zle D 0 (fun c => ?_) (fun c => ⟨vp_in_nI (by omega) (by omega), ?_⟩) rfl rfl (by omega) (by omega)
    · rw [if_neg (by omega)] at hex
      refine gd_zle D (-(M : Int)) (fun c2 => go _ _ ?_) (fun c2 => go _ _ ?_) rfl eneg (by omega) (by omega)
      · rw [eneg, hex, if_pos c2]
      · rw [hex, if_neg (by omega)]
    · rw [if_pos c] at hex
      refine gd_bx (lt_last ((ly_at t w lg kn P n sw ss sk fw rw fl ba hyc (n + 1)).1.1 q)) (by rw [nI_clamp (by omega), r5]) (fun c2 => go _ _ ?_) (fun c2 => go _ _ ?_)
      · rw [hex, if_neg (by rw [c2]; decide)]
      · rw [hex, if_pos c2]; rfl
  · have h' : ∀ i, i < n → t i < 10 → v1 ≠ nI i := fun i a b c => h ⟨i, a, b, c⟩
    refine gl_xn hn C.2.1 h' (br_t rfl ?_)
    unfold wpY_position
    refine lo_y B (fun y_glyphCount y_breaks y_natural y_spaces y_lineCount y_paragraphs b_glyphs b_glyphOf b_bEnd b_bNext b_bHyphen b_least b_before b_way b_lFrom b_lTo b_lNumber b_lParagraph b_lPage b_lHyphen b_lLast b_best ry => ?_)
    exact gl_yn hn C.2.1 h' (br_t rfl ⟨rfl, rl_set C L R (by omega) rx ry⟩)
