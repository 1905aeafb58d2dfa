section
variable {n lc pc fw rw fl sw ss sk ba hyc ph : Nat} {t w lg : Nat → Nat} {kn : Nat → Int}
variable {x_breakCount x_lineCount x_paragraphCount x_stale : Int32} {a_patterns a_heads a_glyphs a_breakEnd a_breakNext a_breakHyphen a_breakTaken a_wayBefore a_lineFacts : Nat → Int32} {a_wayDemerits a_paragraphDemerits : Nat → Int64}
theorem xs_loop (post : SX → Prop) {s e : Nat} (he : e ≤ 48) (ht : ∀ i, t i ≤ 11)
    (hp : ∀ a_heads a_glyphs, (∀ j, s ≤ j → j < e → t j < 10 → a_heads j = nI (sh_hd t lg s j) ∧ a_glyphs (sh_hd t lg s j) = nI (sh_fe t lg s e j)) → post ((nI n), (nI lc), (nI pc), (nI fw), (nI rw), (nI fl), (nI sw), (nI ss), (nI sk), (nI ba), (nI hyc), (nI ph), x_breakCount, x_lineCount, x_paragraphCount, x_stale, (gd_tI t), (gd_tI w), (gd_lI lg), (gd_kI kn), a_patterns, a_heads, a_glyphs, a_breakEnd, a_breakNext, a_breakHyphen, a_breakTaken, a_wayDemerits, a_wayBefore, a_lineFacts, a_paragraphDemerits)) :
    ∀ d i, i + d = e → s ≤ i → ∀ x3 a_heads a_glyphs, (s < i → t (i - 1) < 10 → x3 = nI (sh_hd t lg s (i - 1))) → (∀ j, s ≤ j → j < i → t j < 10 → a_heads j = nI (sh_hd t lg s j) ∧ a_glyphs (sh_hd t lg s j) = nI (sh_fe t lg s i j)) → wX_shape_5 post (nI s) (nI e) (nI n) (nI lc) (nI pc) (nI fw) (nI rw) (nI fl) (nI sw) (nI ss) (nI sk) (nI ba) (nI hyc) (nI ph) x_breakCount x_lineCount x_paragraphCount x_stale (d + 1) x3 (nI i) (gd_tI t) (gd_tI w) (gd_lI lg) (gd_kI kn) a_patterns a_heads a_glyphs a_breakEnd a_breakNext a_breakHyphen a_breakTaken a_wayDemerits a_wayBefore a_lineFacts a_paragraphDemerits := by
  intro d
  induction d with
  | zero =>
    intro i hi hs x3 a_heads a_glyphs hx hI
    have : i = e := by omega
    subst this
    exact br_t (nI_le (Nat.le_refl _) (by omega)) (hp _ _ hI)
  | succ d ih =>
    intro i hi hs x3 a_heads a_glyphs hx hI
    have A : ∀ z0, z0 = -1 → t i < 10 → sh_jn t lg s i = false → wX_shape_84 post (wX_shape_5 post (nI s) (nI e) (nI n) (nI lc) (nI pc) (nI fw) (nI rw) (nI fl) (nI sw) (nI ss) (nI sk) (nI ba) (nI hyc) (nI ph) x_breakCount x_lineCount x_paragraphCount x_stale (d + 1)) (nI s) (nI e) x3 (nI i) z0 (nI n) (nI lc) (nI pc) (nI fw) (nI rw) (nI fl) (nI sw) (nI ss) (nI sk) (nI ba) (nI hyc) (nI ph) x_breakCount x_lineCount x_paragraphCount x_stale (gd_tI t) (gd_tI w) (gd_lI lg) (gd_kI kn) a_patterns a_heads a_glyphs a_breakEnd a_breakNext a_breakHyphen a_breakTaken a_wayDemerits a_wayBefore a_lineFacts a_paragraphDemerits := by
      intro z0 hz hl hj
      refine br_t hz ⟨vp_in_nI (by omega) (by omega), vp_in_nI (by omega) (by omega), nm_r (e' := upd a_glyphs i (nI (t i))) (by rw [gd_rt (by omega), nI_clamp (by omega)]) ⟨vp_in_nI (by omega) (by omega), nm_r (e' := upd a_heads i (nI i)) (by rw [nI_clamp (by omega)]) (nm_r (nI_1 i) (ih (i + 1) (by omega) (by omega) _ _ _ ?_ ?_))⟩⟩
      · intro _ _
        rw [show i + 1 - 1 = i by omega, sh_hd_n hj]
      · intro j h1 h2 h3
        by_cases e1 : j = i
        · subst e1
          rw [sh_hd_n hj, pk_us, pk_us, sh_fe_0, sh_cg_t hj]
          exact ⟨rfl, rfl⟩
        · have h4 := sh_hd_le (t := t) (lg := lg) (s := s) j
          have h5 : sh_hd t lg s i = i := sh_hd_n hj
          rw [pk_un e1, pk_un (by omega), sh_fe_s (by omega), if_neg (by omega)]
          exact hI j h1 (by omega) h3
    have B : ∀ z0, z0 = nI (lg (10 * sh_cg t lg s (i - 1) + t i)) → t i < 10 → sh_jn t lg s i = true → wX_shape_84 post (wX_shape_5 post (nI s) (nI e) (nI n) (nI lc) (nI pc) (nI fw) (nI rw) (nI fl) (nI sw) (nI ss) (nI sk) (nI ba) (nI hyc) (nI ph) x_breakCount x_lineCount x_paragraphCount x_stale (d + 1)) (nI s) (nI e) x3 (nI i) z0 (nI n) (nI lc) (nI pc) (nI fw) (nI rw) (nI fl) (nI sw) (nI ss) (nI sk) (nI ba) (nI hyc) (nI ph) x_breakCount x_lineCount x_paragraphCount x_stale (gd_tI t) (gd_tI w) (gd_lI lg) (gd_kI kn) a_patterns a_heads a_glyphs a_breakEnd a_breakNext a_breakHyphen a_breakTaken a_wayDemerits a_wayBefore a_lineFacts a_paragraphDemerits := by
      intro z0 hz hl hj
      obtain ⟨k, rfl⟩ : ∃ k, i = k + 1 := by
        cases i with
        | zero => exact absurd hj Bool.false_ne_true
        | succ k => exact ⟨k, rfl⟩
      have hj' := (sh_jn_s k).mp hj
      have hx3 := hx hj'.1 hj'.2.1
      rw [show k + 1 - 1 = k by omega] at hx3 hz
      have h6 := sh_hd_le (t := t) (lg := lg) (s := s) k
      subst hx3
      refine br_f (by rw [hz]; exact gd_nm1 (by omega)) ⟨vp_in_nI (by omega) (by omega), nm_r (e' := upd a_glyphs (sh_hd t lg s k) z0) (by rw [nI_clamp (by omega)]) ⟨vp_in_nI (by omega) (by omega), nm_r (e' := upd a_heads (k + 1) (nI (sh_hd t lg s k))) (by rw [nI_clamp (by omega)]) (nm_r (nI_1 (k + 1)) (ih (k + 1 + 1) (by omega) (by omega) _ _ _ ?_ ?_))⟩⟩
      · intro _ _
        rw [show k + 1 + 1 - 1 = k + 1 by omega, sh_hd_j hj]
      · intro j h1 h2 h3
        have hcg : sh_cg t lg s (k + 1) = lg (10 * sh_cg t lg s k + t (k + 1)) := by rw [sh_cg_s, if_pos hj]
        by_cases e1 : j = k + 1
        · subst e1
          rw [sh_hd_j hj, pk_us, pk_us, sh_fe_0, hcg, hz]
          exact ⟨rfl, rfl⟩
        · rw [pk_un e1, sh_fe_s (by omega), sh_hd_j hj]
          by_cases e2 : sh_hd t lg s j = sh_hd t lg s k
          · rw [e2, pk_us, if_pos rfl, hcg, hz]
            refine ⟨?_, rfl⟩
            rw [← e2]
            exact (hI j h1 (by omega) h3).1
          · rw [pk_un e2, if_neg e2]
            exact hI j h1 (by omega) h3
    refine br_f (nI_ge (by omega) (by omega)) ⟨vp_in_nI (by omega) (by omega), ?_⟩
    refine pk_lt (t i) 10 (fun hl => ?_) (fun hl => ?_) (gd_rt (by omega)) rfl (by have := ht i; omega) (by omega)
    · refine pk_le i s (fun his => ?_) (fun his => ?_)
      · exact br_t rfl (A _ rfl hl (sh_jn_0 his))
      · refine ⟨pk_in (i - 1) 48 (by omega) (gd_p1 (by omega)), ?_⟩
        refine pk_le 10 (t (i - 1)) (fun h1 => ?_) (fun h1 => ?_) rfl (by rw [gd_p1 (by omega), gd_rt (by omega)]) (by omega) (by have := ht (i - 1); omega)
        · refine br_t rfl (A _ rfl hl ?_)
          obtain ⟨k, rfl⟩ : ∃ k, i = k + 1 := ⟨i - 1, by omega⟩
          exact sh_jn_p (by rw [show k + 1 - 1 = k by omega] at h1; omega)
        · have hx3 := hx his h1
          have h6 := sh_hd_le (t := t) (lg := lg) (s := s) (i - 1)
          have hg := (hI (i - 1) (by omega) (by omega) h1).2
          have hfe : sh_fe t lg s i (i - 1) = sh_cg t lg s (i - 1) := by
            have := sh_fe_0 (t := t) (lg := lg) (s := s) (i := i - 1)
            rwa [show i - 1 + 1 = i by omega] at this
          rw [hfe] at hg
          have hc : sh_cg t lg s (i - 1) < 10 := sh_cg_lt h1
          have hv : (a_glyphs x3.toNatClampNeg) * 10 + gd_tI t (nI i).toNatClampNeg = nI (10 * sh_cg t lg s (i - 1) + t i) := by
            rw [hx3, nI_clamp (by omega), hg, gd_rt (by omega), show (10 : Int32) = nI 10 from rfl, pk_mul, nI_add, Nat.mul_comm]
          have hji : sh_jn t lg s i = decide (lg (10 * sh_cg t lg s (i - 1) + t i) < 10) := by
            obtain ⟨k, rfl⟩ : ∃ k, i = k + 1 := ⟨i - 1, by omega⟩
            rw [show k + 1 - 1 = k by omega] at h1 ⊢
            rw [sh_jn]
            congr 1
            apply propext
            constructor
            · exact fun h => h.2.2.2
            · exact fun h => ⟨his, h1, hl, h⟩
          refine br_f (by decide) ⟨pk_in _ 48 (by omega) hx3, vp_in_nI (by omega) (by omega), pk_in (10 * sh_cg t lg s (i - 1) + t i) 100 (by omega) hv, ?_⟩
          by_cases hlg : lg (10 * sh_cg t lg s (i - 1) + t i) < 10
          · exact B _ (by rw [hv, nI_clamp (by omega), gd_li hlg]) hl (by rw [hji]; exact decide_eq_true hlg)
          · exact A _ (by rw [hv, nI_clamp (by omega), gd_lo hlg]) hl (by rw [hji]; exact decide_eq_false hlg)
    · refine nm_r (nI_1 i) (ih (i + 1) (by omega) (by omega) _ _ _ ?_ ?_)
      · intro _ h
        rw [show i + 1 - 1 = i by omega] at h
        omega
      · intro j h1 h2 h3
        have e1 : j ≠ i := by rintro rfl; omega
        have h4 := sh_hd_le (t := t) (lg := lg) (s := s) j
        have h5 : sh_hd t lg s i = i := sh_hd_n (sh_jn_n (by omega))
        rw [sh_fe_s (by omega), if_neg (by omega)]
        exact hI j h1 (by omega) h3
/-- what X's shaping of a line [s, e) leaves: heads and glyphs -/
def xs_ok (t lg : Nat → Nat) (s e : Nat) (a_heads a_glyphs : Nat → Int32) : Prop := ∀ j, s ≤ j → j < e → t j < 10 → a_heads j = nI (sh_hd t lg s j) ∧ a_glyphs (sh_hd t lg s j) = nI (sh_fe t lg s e j)
theorem xs_shape {post : SX → Prop} {s e : Nat} (hs : s ≤ e) (he : e ≤ 48) (ht : ∀ i, t i ≤ 11)
    (hp : ∀ a_heads a_glyphs, xs_ok t lg s e a_heads a_glyphs → post ((nI n), (nI lc), (nI pc), (nI fw), (nI rw), (nI fl), (nI sw), (nI ss), (nI sk), (nI ba), (nI hyc), (nI ph), x_breakCount, x_lineCount, x_paragraphCount, x_stale, (gd_tI t), (gd_tI w), (gd_lI lg), (gd_kI kn), a_patterns, a_heads, a_glyphs, a_breakEnd, a_breakNext, a_breakHyphen, a_breakTaken, a_wayDemerits, a_wayBefore, a_lineFacts, a_paragraphDemerits)) : wpX_shape post ((nI n), (nI lc), (nI pc), (nI fw), (nI rw), (nI fl), (nI sw), (nI ss), (nI sk), (nI ba), (nI hyc), (nI ph), x_breakCount, x_lineCount, x_paragraphCount, x_stale, (gd_tI t), (gd_tI w), (gd_lI lg), (gd_kI kn), a_patterns, a_heads, a_glyphs, a_breakEnd, a_breakNext, a_breakHyphen, a_breakTaken, a_wayDemerits, a_wayBefore, a_lineFacts, a_paragraphDemerits) (nI s) (nI e) :=
  ⟨e - s + 1, xs_loop post he ht hp (e - s) s (by omega) (Nat.le_refl _) _ _ _ (fun h => absurd h (by omega)) (fun j h1 h2 => absurd h1 (by omega))⟩
end
