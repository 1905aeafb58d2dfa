def xr_adj (ex sp : Int32) (q : Nat) : Int32 := if sp = 0 then 0 else (ex * nI q) / sp
theorem xr_adj0 (ex sp : Int32) : xr_adj ex sp 0 = 0 := by
  rw [xr_adj]
  split
  · rfl
  · rw [nI_0, Int32.mul_zero, Int32.zero_div]
section
variable {n lc pc fw rw fl sw ss sk ba hyc ph : Nat} {t w lg : Nat → Nat} {kn : Nat → Int}
variable {x_breakCount x_lineCount x_paragraphCount x_stale : Int32} {a_patterns a_heads a_glyphs a_breakEnd a_breakNext a_breakHyphen a_breakTaken a_wayBefore a_lineFacts : Nat → Int32} {a_wayDemerits a_paragraphDemerits : Nat → Int64}
theorem xr_loop (post : Int32 → Prop) {s e g : Nat} {ex sp : Int32} (he : e ≤ 48) (ht : ∀ i, t i ≤ 11) (hok : xs_ok t lg s e a_heads a_glyphs) (hg : s ≤ g ∧ g ≤ e)
    (hp1 : g < e → post (gd_iI (rn_x t lg w kn sw s e g + rn_gp t lg kn sw s e g) + xr_adj ex sp (rn_sc t s (g + 1))))
    (hg1 : g < e → t g < 10 ∧ sh_jn t lg s g = false)
    (hp2 : g = e → post (gd_iI (rn_x t lg w kn sw s e e) + xr_adj ex sp (rn_sc t s e))) :
    ∀ d i, i + d = e → s ≤ i → i ≤ g → ∀ x6 x7 x8, (s < i → t (i - 1) < 10 → x7 = nI (sh_hd t lg s (i - 1))) → x6 = gd_iI (rn_x t lg w kn sw s e i) + xr_adj ex sp (rn_sc t s i) → x8 = nI (rn_sc t s i) → wX_reach_12 post (nI s) (nI e) (nI g) ex sp (nI n) (nI lc) (nI pc) (nI fw) (nI rw) (nI fl) (nI sw) (nI ss) (nI sk) (nI ba) (nI hyc) (nI ph) x_breakCount x_lineCount x_paragraphCount x_stale (gd_tI t) (gd_tI w) (gd_lI lg) (gd_kI kn) a_patterns a_heads a_glyphs a_breakEnd a_breakNext a_breakHyphen a_breakTaken a_wayDemerits a_wayBefore a_lineFacts a_paragraphDemerits (d + 1) x6 x7 x8 (nI i) := by
  intro d
  induction d with
  | zero =>
    intro i hi hs hig x6 x7 x8 h7 h6 h8
    have : i = e := by omega
    subst this
    refine br_t (nI_le (Nat.le_refl _) (by omega)) ?_
    rw [h6]
    exact hp2 (by omega)
  | succ d ih =>
    intro i hi hs hig x6 x7 x8 h7 h6 h8
    have hsc := rn_sc_le (t := t) (s := s) i
    have C : ∀ x6 x8, t i < 10 → sh_jn t lg s i = false → x6 = gd_iI (rn_x t lg w kn sw s e i + rn_gp t lg kn sw s e i) + xr_adj ex sp (rn_sc t s (i + 1)) → x8 = nI (rn_sc t s (i + 1)) → wX_reach_147 post (wX_reach_12 post (nI s) (nI e) (nI g) ex sp (nI n) (nI lc) (nI pc) (nI fw) (nI rw) (nI fl) (nI sw) (nI ss) (nI sk) (nI ba) (nI hyc) (nI ph) x_breakCount x_lineCount x_paragraphCount x_stale (gd_tI t) (gd_tI w) (gd_lI lg) (gd_kI kn) a_patterns a_heads a_glyphs a_breakEnd a_breakNext a_breakHyphen a_breakTaken a_wayDemerits a_wayBefore a_lineFacts a_paragraphDemerits (d + 1)) (nI s) (nI e) (nI g) ex sp x6 x8 (nI i) (nI n) (nI lc) (nI pc) (nI fw) (nI rw) (nI fl) (nI sw) (nI ss) (nI sk) (nI ba) (nI hyc) (nI ph) x_breakCount x_lineCount x_paragraphCount x_stale (gd_tI t) (gd_tI w) (gd_lI lg) (gd_kI kn) a_patterns a_heads a_glyphs a_breakEnd a_breakNext a_breakHyphen a_breakTaken a_wayDemerits a_wayBefore a_lineFacts a_paragraphDemerits := by
      intro x6 x8 hl hj h6 h8
      have hgl : a_glyphs (nI i).toNatClampNeg = nI (sh_fe t lg s e i) := by
        have h1 := (hok i hs (by omega) hl).2
        rw [sh_hd_n hj] at h1
        rw [nI_clamp (by omega), h1]
      have hf : sh_fe t lg s e i < 10 := sh_fe_lt hl
      refine pk_eq i g (fun h => ?_) (fun h => ?_)
      · subst h
        rw [h6]
        exact hp1 (by omega)
      · refine ⟨vp_in_nI (by omega) (by omega), pk_in _ 10 hf hgl, ?_⟩
        refine nm_r (e' := gd_iI (rn_x t lg w kn sw s e (i + 1)) + xr_adj ex sp (rn_sc t s (i + 1))) ?_ (nm_r (nI_1 i) (ih (i + 1) (by omega) (by omega) (by omega) _ _ _ ?_ rfl h8))
        · rw [hgl, gd_rt (by omega), h6, rn_xh hs hl hj, ← gd_add (_ + _), gd_nat]
          grind
        · intro _ _
          rw [show i + 1 - 1 = i by omega, sh_hd_n hj]
    refine br_f (nI_ge (by omega) (by omega)) ⟨vp_in_nI (by omega) (by omega), ?_⟩
    refine pk_le 10 (t i) (fun hl => ?_) (fun hl => ?_) rfl (gd_rt (by omega)) (by omega) (by have := ht i; omega)
    · have hne : i ≠ g := by
        rintro rfl
        have := (hg1 (by omega)).1
        omega
      refine nm_r (nI_1 i) (ih (i + 1) (by omega) (by omega) (by omega) _ _ _ ?_ ?_ ?_)
      · intro _ h
        rw [show i + 1 - 1 = i by omega] at h
        omega
      · rw [h6, rn_xn hs (Or.inl (by omega)), rn_scn (Or.inl (by omega))]
      · rw [h8, rn_scn (Or.inl (by omega))]
    · refine ⟨vp_in_nI (by omega) (by omega), ?_⟩
      have hh := (hok i hs (by omega) hl).1
      have hhle := sh_hd_le (t := t) (lg := lg) (s := s) i
      refine pk_eq (sh_hd t lg s i) i (fun hd => ?_) (fun hd => ?_) (by rw [nI_clamp (by omega), hh]) rfl (by omega) (by omega)
      · have hj : sh_jn t lg s i = false := sh_hd_i.mp hd
        refine pk_le i s (fun his => ?_) (fun his => ?_)
        · have : i = s := by omega
          subst this
          refine br_t (nI_le (by omega) (by omega)) (C _ _ hl hj ?_ ?_)
          · rw [h6, show rn_gp t lg kn sw i e i = 0 by rw [rn_gp, if_neg (by omega)], Int.add_zero, rn_sc0 (by omega), rn_sc0 (by omega)]
          · rw [h8, rn_sc0 (by omega), rn_sc0 (by omega)]
        · refine ⟨pk_in (i - 1) 48 (by omega) (gd_p1 (by omega)), ?_⟩
          refine pk_le 10 (t (i - 1)) (fun h1 => ?_) (fun h1 => ?_) rfl (by rw [gd_p1 (by omega), gd_rt (by omega)]) (by omega) (by have := ht (i - 1); omega)
          · have hgp : rn_gp t lg kn sw s e i = (sw : Int) := by rw [rn_gp, if_pos his, if_neg (by omega)]
            have hs1 : rn_sc t s (i + 1) = rn_sc t s i + 1 := rn_scy his hl (by omega)
            refine br_f (nI_ge (by omega) (by omega)) ?_
            refine nm_e (br_c (fun z => ?_) (fun z => ⟨z, z, ?_⟩))
            · refine nm_e (nm_e (C _ _ hl hj ?_ ?_))
              · rw [h6, hgp, xr_adj, xr_adj, if_pos z, if_pos z, ← gd_add, gd_nat]
                grind
              · rw [h8, hs1, nI_1]
            · refine nm_e (nm_e (C _ _ hl hj ?_ ?_))
              · rw [h6, hgp, xr_adj, xr_adj, if_neg z, if_neg z, ← gd_add, gd_nat sw, hs1, h8, nI_1]
                grind
              · rw [h8, hs1, nI_1]
          · have hgp : rn_gp t lg kn sw s e i = kn (10 * sh_fe t lg s e (i - 1) + sh_fe t lg s e i) := by rw [rn_gp, if_pos his, if_pos h1]
            have hx7 := h7 his h1
            have h9 := sh_hd_le (t := t) (lg := lg) (s := s) (i - 1)
            have g1 : a_glyphs x7.toNatClampNeg = nI (sh_fe t lg s e (i - 1)) := by
              rw [hx7, nI_clamp (by omega), (hok (i - 1) (by omega) (by omega) h1).2]
            have g2 : a_glyphs (nI i).toNatClampNeg = nI (sh_fe t lg s e i) := by
              have h1 := (hok i hs (by omega) hl).2
              rw [sh_hd_n hj] at h1
              rw [nI_clamp (by omega), h1]
            have f1 : sh_fe t lg s e (i - 1) < 10 := sh_fe_lt h1
            have f2 : sh_fe t lg s e i < 10 := sh_fe_lt hl
            have hv : a_glyphs x7.toNatClampNeg * 10 + a_glyphs (nI i).toNatClampNeg = nI (10 * sh_fe t lg s e (i - 1) + sh_fe t lg s e i) := by
              rw [g1, g2, show (10 : Int32) = nI 10 from rfl, pk_mul, nI_add, Nat.mul_comm]
            refine ⟨pk_in _ 48 (by omega) hx7, vp_in_nI (by omega) (by omega), pk_in _ 100 (by omega) hv, ?_⟩
            refine nm_e (C _ _ hl hj ?_ ?_)
            · rw [h6, hgp, hv, gd_rk (by omega), rn_scn (Or.inr h1), ← gd_add]
              grind
            · rw [h8, rn_scn (Or.inr h1)]
      · have hj : sh_jn t lg s i = true := by
          cases z : sh_jn t lg s i
          · exact absurd (sh_hd_n z) hd
          · rfl
        have hne : i ≠ g := by
          rintro rfl
          have := (hg1 (by omega)).2
          rw [hj] at this
          exact absurd this (by decide)
        obtain ⟨k, rfl⟩ : ∃ k, i = k + 1 := by
          cases i with
          | zero => exact absurd hj Bool.false_ne_true
          | succ k => exact ⟨k, rfl⟩
        have hj' := (sh_jn_s k).mp hj
        refine nm_r (nI_1 (k + 1)) (ih (k + 1 + 1) (by omega) (by omega) (by omega) _ _ _ ?_ ?_ ?_)
        · intro _ _
          rw [show k + 1 + 1 - 1 = k + 1 by omega, sh_hd_j hj]
          exact h7 hj'.1 hj'.2.1
        · rw [h6, rn_xn hs (Or.inr hj), rn_scn (i := k + 1) (Or.inr (show t (k + 1 - 1) < 10 from hj'.2.1))]
        · rw [h8, rn_scn (i := k + 1) (Or.inr (show t (k + 1 - 1) < 10 from hj'.2.1))]
/-- where the line ends (target: its end) -/
theorem xr_end {post : Int32 → Prop} {s e : Nat} {ex sp : Int32} (hs : s ≤ e) (he : e ≤ 48) (ht : ∀ i, t i ≤ 11) (hok : xs_ok t lg s e a_heads a_glyphs)
    (hp : post (gd_iI (rn_x t lg w kn sw s e e) + xr_adj ex sp (rn_sc t s e))) : wpX_reach post ((nI n), (nI lc), (nI pc), (nI fw), (nI rw), (nI fl), (nI sw), (nI ss), (nI sk), (nI ba), (nI hyc), (nI ph), x_breakCount, x_lineCount, x_paragraphCount, x_stale, (gd_tI t), (gd_tI w), (gd_lI lg), (gd_kI kn), a_patterns, a_heads, a_glyphs, a_breakEnd, a_breakNext, a_breakHyphen, a_breakTaken, a_wayDemerits, a_wayBefore, a_lineFacts, a_paragraphDemerits) (nI s) (nI e) (nI e) ex sp :=
  ⟨e - s + 1, xr_loop post he ht hok ⟨hs, Nat.le_refl _⟩ (fun h => absurd h (by omega)) (fun h => absurd h (by omega)) (fun _ => hp) (e - s) s (by omega) (Nat.le_refl _) hs _ _ _ (fun h => absurd h (by omega)) (by rw [rn_x0 (Nat.le_refl _), rn_sc0 (by omega), xr_adj0]; rfl) (by rw [rn_sc0 (by omega)]; rfl)⟩
theorem xr_at {post : Int32 → Prop} {s e g : Nat} {ex sp : Int32} (hs : s ≤ g) (hge : g < e) (he : e ≤ 48) (ht : ∀ i, t i ≤ 11) (hok : xs_ok t lg s e a_heads a_glyphs) (hg1 : t g < 10) (hg2 : sh_jn t lg s g = false)
    (hp : post (gd_iI (rn_x t lg w kn sw s e g + rn_gp t lg kn sw s e g) + xr_adj ex sp (rn_sc t s (g + 1)))) : wpX_reach post ((nI n), (nI lc), (nI pc), (nI fw), (nI rw), (nI fl), (nI sw), (nI ss), (nI sk), (nI ba), (nI hyc), (nI ph), x_breakCount, x_lineCount, x_paragraphCount, x_stale, (gd_tI t), (gd_tI w), (gd_lI lg), (gd_kI kn), a_patterns, a_heads, a_glyphs, a_breakEnd, a_breakNext, a_breakHyphen, a_breakTaken, a_wayDemerits, a_wayBefore, a_lineFacts, a_paragraphDemerits) (nI s) (nI e) (nI g) ex sp :=
  ⟨e - s + 1, xr_loop post he ht hok ⟨hs, by omega⟩ (fun _ => hp) (fun _ => ⟨hg1, hg2⟩) (fun h => absurd h (by omega)) (e - s) s (by omega) (Nat.le_refl _) hs _ _ _ (fun h => absurd h (by omega)) (by rw [rn_x0 (Nat.le_refl _), rn_sc0 (by omega), xr_adj0]; rfl) (by rw [rn_sc0 (by omega)]; rfl)⟩
/-- X counts the spaces of a line -/
theorem xc_loop (post : Int32 → Prop) {s e : Nat} (he : e ≤ 48) (ht : ∀ i, t i ≤ 11) (hp : post (nI (rn_sc t s e))) :
    ∀ d i, i + d = e → s < i → ∀ x3, x3 = nI (rn_sc t s i) → wX_spacesIn_7 post (nI e) (nI n) (nI lc) (nI pc) (nI fw) (nI rw) (nI fl) (nI sw) (nI ss) (nI sk) (nI ba) (nI hyc) (nI ph) x_breakCount x_lineCount x_paragraphCount x_stale (gd_tI t) (gd_tI w) (gd_lI lg) (gd_kI kn) a_patterns a_heads a_glyphs a_breakEnd a_breakNext a_breakHyphen a_breakTaken a_wayDemerits a_wayBefore a_lineFacts a_paragraphDemerits (d + 1) x3 (nI i) := by
  intro d
  induction d with
  | zero =>
    intro i hi hs x3 h3
    have : i = e := by omega
    subst this
    refine br_t (nI_le (Nat.le_refl _) (by omega)) ?_
    rw [h3]
    exact hp
  | succ d ih =>
    intro i hi hs x3 h3
    refine br_f (nI_ge (by omega) (by omega)) ⟨vp_in_nI (by omega) (by omega), ?_⟩
    refine pk_le 10 (t i) (fun hl => ?_) (fun hl => ?_) rfl (gd_rt (by omega)) (by omega) (by have := ht i; omega)
    · exact nm_r (nI_1 i) (ih (i + 1) (by omega) (by omega) _ (by rw [h3, rn_scn (Or.inl (by omega))]))
    · refine ⟨pk_in (i - 1) 48 (by omega) (gd_p1 (by omega)), ?_⟩
      refine pk_lt (t (i - 1)) 10 (fun h1 => ?_) (fun h1 => ?_) (by rw [gd_p1 (by omega), gd_rt (by omega)]) rfl (by have := ht (i - 1); omega) (by omega)
      · exact nm_r (nI_1 i) (ih (i + 1) (by omega) (by omega) _ (by rw [h3, rn_scn (Or.inr h1)]))
      · exact nm_e (nm_r (nI_1 i) (ih (i + 1) (by omega) (by omega) _ (by rw [h3, rn_scy hs hl (by omega), nI_1])))
theorem xc_spaces {post : Int32 → Prop} {s e : Nat} (hs : s < e) (he : e ≤ 48) (ht : ∀ i, t i ≤ 11) (hp : post (nI (rn_sc t s e))) : wpX_spacesIn post ((nI n), (nI lc), (nI pc), (nI fw), (nI rw), (nI fl), (nI sw), (nI ss), (nI sk), (nI ba), (nI hyc), (nI ph), x_breakCount, x_lineCount, x_paragraphCount, x_stale, (gd_tI t), (gd_tI w), (gd_lI lg), (gd_kI kn), a_patterns, a_heads, a_glyphs, a_breakEnd, a_breakNext, a_breakHyphen, a_breakTaken, a_wayDemerits, a_wayBefore, a_lineFacts, a_paragraphDemerits) (nI s) (nI e) :=
  nm_r (nI_1 s) ⟨e - (s + 1) + 1, xc_loop post he ht hp (e - (s + 1)) (s + 1) (by omega) (by omega) _ (by rw [rn_sc0 (by omega)]; rfl)⟩
end
