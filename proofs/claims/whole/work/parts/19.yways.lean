section
variable {σ : dp_S} {ln : Nat → Nat → Nat → Option (Nat × Nat)}
theorem dp_row_M {k M : Nat} (hL : dp_ln ln) (hσ : ∀ s x, σ s = some x → s < M) (hk : 16 * k + 16 ≤ M) (p : Nat) : ∀ s x, dp_row ln k σ p s = some x → s < M := by
  intro s x h
  by_cases e : s / 16 = k
  · omega
  · rw [dp_row_fr hL e] at h
    exact hσ s x h
theorem dp_all_M (hL : dp_ln ln) (k : Nat) : ∀ s x, dp_all ln k s = some x → s < 16 * (k + 1) := by
  intro s x h
  by_cases e : k < s / 16
  · rw [dp_all_no hL k s e] at h
    exact absurd h (by simp)
  · omega
end
section
variable {n lc pc fw rw fl sw ss sk ba hyc ph : Nat} {t w lg : Nat → Nat} {kn : Nat → Int}
variable {σ : dp_S} {m fr to : Nat} {E N : Nat → Nat} {H : Nat → Bool}
variable {y_ready y_glyphCount y_breaks y_natural y_spaces y_lineCount y_paragraphs : Int32} {b_patA b_patB b_patC b_patDigits b_glyphs b_glyphOf b_bEnd b_bNext b_bHyphen b_before b_way b_lFrom b_lTo b_lNumber b_lParagraph b_lPage b_lHyphen b_lLast : Nat → Int32} {b_least b_best : Nat → Int64}
theorem dy_inner (post : Int32 → SY → Prop) (g : Nat) {k : Nat} (C : cf_ok t w lg kn n fw rw fl sw ss sk ba hyc ph) (hton : to ≤ n) (hm : m ≤ 48) (h11 : ∀ j, fr ≤ j → j < to → t j ≠ 11) (ok : bk_ok t fr to m E N H) (yb : bk_xb m E N H b_bEnd b_bNext b_bHyphen) (hk1 : 1 ≤ k) (hkm : k ≤ m) (W : dp_wf σ) (hσ : ∀ s x, σ s = some x → s < 16 * (m + 1))
    (hJ : ∀ y_glyphCount y_natural y_spaces b_glyphs b_glyphOf b_least b_before, dp_arr (16 * (m + 1)) (dp_row (ln_v t lg w kn sw ss sk fw rw fl ba hyc m E N H) k σ k) b_least b_before → wY_bestWay_40 post g (nI (k + 1)) (nI n) (nI lc) (nI pc) (nI fw) (nI rw) (nI fl) (nI sw) (nI ss) (nI sk) (nI ba) (nI hyc) (nI ph) y_ready y_glyphCount (nI m) y_natural y_spaces y_lineCount y_paragraphs (gd_tI t) (gd_tI w) (gd_lI lg) (gd_kI kn) b_patA b_patB b_patC b_patDigits b_glyphs b_glyphOf b_bEnd b_bNext b_bHyphen b_least b_before b_way b_lFrom b_lTo b_lNumber b_lParagraph b_lPage b_lHyphen b_lLast b_best) :
    ∀ f p, p + f = k → ∀ y_glyphCount y_natural y_spaces b_glyphs b_glyphOf b_least b_before, dp_arr (16 * (m + 1)) (dp_row (ln_v t lg w kn sw ss sk fw rw fl ba hyc m E N H) k σ p) b_least b_before → wY_bestWay_50 post (wY_bestWay_40 post g) (nI k) (f + 1) (nI p) (nI n) (nI lc) (nI pc) (nI fw) (nI rw) (nI fl) (nI sw) (nI ss) (nI sk) (nI ba) (nI hyc) (nI ph) y_ready y_glyphCount (nI m) y_natural y_spaces y_lineCount y_paragraphs (gd_tI t) (gd_tI w) (gd_lI lg) (gd_kI kn) b_patA b_patB b_patC b_patDigits b_glyphs b_glyphOf b_bEnd b_bNext b_bHyphen b_least b_before b_way b_lFrom b_lTo b_lNumber b_lParagraph b_lPage b_lHyphen b_lLast b_best := by
  have hL : dp_ln (ln_v t lg w kn sw ss sk fw rw fl ba hyc m E N H) := ln_ok C
  intro f
  induction f with
  | zero =>
    intro p hp y_glyphCount y_natural y_spaces b_glyphs b_glyphOf b_least b_before hA
    have : p = k := by omega
    subst this
    exact br_t (nI_le (Nat.le_refl _) (by omega)) (nm_r (nI_1 p) (hJ _ _ _ _ _ _ _ hA))
  | succ f ih =>
    intro p hp y_glyphCount y_natural y_spaces b_glyphs b_glyphOf b_least b_before hA
    have hlt := bk_lt ok (show p < k by omega) hkm
    have hEk := ok.2.1 k hk1 hkm
    have hNp := ok.1 p (by omega)
    obtain ⟨y1, y2, y3⟩ := id yb
    refine br_f (nI_ge (by omega) (by omega)) ?_
    refine dy_ext C hm (by omega) hkm (y2 p (by omega)) (y1 k hk1 hkm) y3 hlt (by omega) hNp.2.2.1 (fun j a b => h11 j (by omega) (by omega)) (dp_row_M hL hσ (by omega) p) hA (dp_row_wf W hL (by omega) p (by omega)) (fun y_glyphCount y_natural y_spaces b_glyphs b_glyphOf b_least b_before hA' => ?_)
    exact nm_r (nI_1 p) (ih (p + 1) (by omega) _ _ _ _ _ _ _ hA')
theorem dy_outer (post : Int32 → SY → Prop) (C : cf_ok t w lg kn n fw rw fl sw ss sk ba hyc ph) (hton : to ≤ n) (hm : m ≤ 48) (h11 : ∀ j, fr ≤ j → j < to → t j ≠ 11) (ok : bk_ok t fr to m E N H) (yb : bk_xb m E N H b_bEnd b_bNext b_bHyphen)
    (hp : ∀ g y_glyphCount y_natural y_spaces b_glyphs b_glyphOf b_least b_before, dp_arr (16 * (m + 1)) (dp_all (ln_v t lg w kn sw ss sk fw rw fl ba hyc m E N H) m) b_least b_before → wY_bestWay_40 post (g + 1) (nI (m + 1)) (nI n) (nI lc) (nI pc) (nI fw) (nI rw) (nI fl) (nI sw) (nI ss) (nI sk) (nI ba) (nI hyc) (nI ph) y_ready y_glyphCount (nI m) y_natural y_spaces y_lineCount y_paragraphs (gd_tI t) (gd_tI w) (gd_lI lg) (gd_kI kn) b_patA b_patB b_patC b_patDigits b_glyphs b_glyphOf b_bEnd b_bNext b_bHyphen b_least b_before b_way b_lFrom b_lTo b_lNumber b_lParagraph b_lPage b_lHyphen b_lLast b_best) :
    ∀ f k, k + f = m → ∀ y_glyphCount y_natural y_spaces b_glyphs b_glyphOf b_least b_before, dp_arr (16 * (m + 1)) (dp_all (ln_v t lg w kn sw ss sk fw rw fl ba hyc m E N H) k) b_least b_before → wY_bestWay_40 post (f + 1) (nI (k + 1)) (nI n) (nI lc) (nI pc) (nI fw) (nI rw) (nI fl) (nI sw) (nI ss) (nI sk) (nI ba) (nI hyc) (nI ph) y_ready y_glyphCount (nI m) y_natural y_spaces y_lineCount y_paragraphs (gd_tI t) (gd_tI w) (gd_lI lg) (gd_kI kn) b_patA b_patB b_patC b_patDigits b_glyphs b_glyphOf b_bEnd b_bNext b_bHyphen b_least b_before b_way b_lFrom b_lTo b_lNumber b_lParagraph b_lPage b_lHyphen b_lLast b_best := by
  have hL : dp_ln (ln_v t lg w kn sw ss sk fw rw fl ba hyc m E N H) := ln_ok C
  intro f
  induction f with
  | zero =>
    intro k hk y_glyphCount y_natural y_spaces b_glyphs b_glyphOf b_least b_before hA
    have : k = m := by omega
    subst this
    exact hp 0 _ _ _ _ _ _ _ hA
  | succ f ih =>
    intro k hk y_glyphCount y_natural y_spaces b_glyphs b_glyphOf b_least b_before hA
    refine br_f (nI_nlt (by omega) (by omega)) ⟨k + 1 + 1, ?_⟩
    refine dy_inner post (f + 1) C hton hm h11 ok yb (by omega) (by omega) (dp_all_wf hL k (by omega)) (fun s x h => by have := dp_all_M hL k s x h; omega) (fun y_glyphCount y_natural y_spaces b_glyphs b_glyphOf b_least b_before hA' => ?_) (k + 1) 0 (by omega) _ _ _ _ _ _ _ hA
    exact ih (k + 1) (by omega) _ _ _ _ _ _ _ hA'
theorem dy_ways {post : Int32 → SY → Prop} (C : cf_ok t w lg kn n fw rw fl sw ss sk ba hyc ph) (hton : to ≤ n) (hm : m ≤ 48) (h11 : ∀ j, fr ≤ j → j < to → t j ≠ 11) (ok : bk_ok t fr to m E N H) (yb : bk_xb m E N H b_bEnd b_bNext b_bHyphen)
    (hp : ∀ g y_glyphCount y_natural y_spaces b_glyphs b_glyphOf b_least b_before, dp_arr (16 * (m + 1)) (dp_all (ln_v t lg w kn sw ss sk fw rw fl ba hyc m E N H) m) b_least b_before → wY_bestWay_40 post (g + 1) (nI (m + 1)) (nI n) (nI lc) (nI pc) (nI fw) (nI rw) (nI fl) (nI sw) (nI ss) (nI sk) (nI ba) (nI hyc) (nI ph) y_ready y_glyphCount (nI m) y_natural y_spaces y_lineCount y_paragraphs (gd_tI t) (gd_tI w) (gd_lI lg) (gd_kI kn) b_patA b_patB b_patC b_patDigits b_glyphs b_glyphOf b_bEnd b_bNext b_bHyphen b_least b_before b_way b_lFrom b_lTo b_lNumber b_lParagraph b_lPage b_lHyphen b_lLast b_best) :
    wpY_bestWay post ((nI n), (nI lc), (nI pc), (nI fw), (nI rw), (nI fl), (nI sw), (nI ss), (nI sk), (nI ba), (nI hyc), (nI ph), y_ready, y_glyphCount, (nI m), y_natural, y_spaces, y_lineCount, y_paragraphs, (gd_tI t), (gd_tI w), (gd_lI lg), (gd_kI kn), b_patA, b_patB, b_patC, b_patDigits, b_glyphs, b_glyphOf, b_bEnd, b_bNext, b_bHyphen, b_least, b_before, b_way, b_lFrom, b_lTo, b_lNumber, b_lParagraph, b_lPage, b_lHyphen, b_lLast, b_best) := by
  have h16 : 16 * nI m + 16 = nI (16 * m + 16) := by rw [show (16 : Int32) = nI 16 from rfl, pk_mul, nI_add]
  have init : ∀ d i, i + d = 16 * m + 16 → ∀ b_least, (∀ s, s < i → b_least s = -1) → wY_bestWay_2 post (nI n) (nI lc) (nI pc) (nI fw) (nI rw) (nI fl) (nI sw) (nI ss) (nI sk) (nI ba) (nI hyc) (nI ph) y_ready y_glyphCount (nI m) y_natural y_spaces y_lineCount y_paragraphs (d + 1) (nI i) (gd_tI t) (gd_tI w) (gd_lI lg) (gd_kI kn) b_patA b_patB b_patC b_patDigits b_glyphs b_glyphOf b_bEnd b_bNext b_bHyphen b_least b_before b_way b_lFrom b_lTo b_lNumber b_lParagraph b_lPage b_lHyphen b_lLast b_best := by
    intro d
    induction d with
    | zero =>
      intro i hi b_least hI
      refine br_t (by rw [h16]; exact nI_le (by omega) (by omega)) (nm_e ⟨m + 1, ?_⟩)
      refine dy_outer post C hton hm h11 ok yb hp m 0 (by omega) _ _ _ _ _ _ _ (fun s hs => ?_)
      show (dp_init s = none → _) ∧ (∀ x, dp_init s = some x → _)
      rw [dp_init]
      by_cases e : s = 1
      · subst e
        rw [if_pos rfl, pk_uLs]
        exact ⟨fun h => absurd h (by simp), fun x hx => by cases hx; exact ⟨rfl, fun h => absurd h (by omega)⟩⟩
      · rw [if_neg e, pk_uLn e]
        exact ⟨fun _ => hI s (by omega), fun x hx => absurd hx (by simp)⟩
    | succ d ih =>
      intro i hi b_least hI
      refine br_f (by rw [h16]; exact nI_ge (by omega) (by omega)) ⟨vp_in_nI (by omega) (by omega), nm_r (e' := vp_updL b_least i (-1)) (by rw [nI_clamp (by omega)]) (nm_r (nI_1 i) (ih (i + 1) (by omega) _ (fun s hs => ?_)))⟩
      by_cases e : s = i
      · rw [e, pk_uLs]
      · rw [pk_uLn e]; exact hI s (by omega)
  exact ⟨16 * m + 16 + 1, init (16 * m + 16) 0 (by omega) _ (fun s h => absurd h (by omega))⟩
theorem dy_best (post : Int32 → SY → Prop) (hm : m ≤ 48) (W : dp_wf σ) (hσ : ∀ s x, σ s = some x → s < 16 * (m + 1)) (hA : dp_arr (16 * (m + 1)) σ b_least b_before)
    (hp : ∀ f, wY_bestWay_83 post (nI n) (nI lc) (nI pc) (nI fw) (nI rw) (nI fl) (nI sw) (nI ss) (nI sk) (nI ba) (nI hyc) (nI ph) y_ready y_glyphCount (nI m) y_natural y_spaces y_lineCount y_paragraphs (gd_tI t) (gd_tI w) (gd_lI lg) (gd_kI kn) b_patA b_patB b_patC b_patDigits b_glyphs b_glyphOf b_bEnd b_bNext b_bHyphen b_least b_before b_way b_lFrom b_lTo b_lNumber b_lParagraph b_lPage b_lHyphen b_lLast b_best (f + 1) (dp_oe (dp_be σ m 16)) (nI (16 * m + 16))) :
    ∀ f j, j + f = 16 → wY_bestWay_83 post (nI n) (nI lc) (nI pc) (nI fw) (nI rw) (nI fl) (nI sw) (nI ss) (nI sk) (nI ba) (nI hyc) (nI ph) y_ready y_glyphCount (nI m) y_natural y_spaces y_lineCount y_paragraphs (gd_tI t) (gd_tI w) (gd_lI lg) (gd_kI kn) b_patA b_patB b_patC b_patDigits b_glyphs b_glyphOf b_bEnd b_bNext b_bHyphen b_least b_before b_way b_lFrom b_lTo b_lNumber b_lParagraph b_lPage b_lHyphen b_lLast b_best (f + 1) (dp_oe (dp_be σ m j)) (nI (16 * m + j)) := by
  have h16 : 16 * nI m + 16 = nI (16 * m + 16) := by rw [show (16 : Int32) = nI 16 from rfl, pk_mul, nI_add]
  intro f
  induction f with
  | zero =>
    intro j hj
    have : j = 16 := by omega
    subst this
    exact hp 0
  | succ f ih =>
    intro j hj
    have ih := ih (j + 1) (by omega)
    have hrd : ∀ s, s < 784 → b_least (nI s).toNatClampNeg = b_least s := fun s h => by rw [nI_clamp (by omega)]
    refine br_f (by rw [h16]; exact nI_ge (by omega) (by omega)) ⟨vp_in_nI (by omega) (by omega), ?_⟩
    rw [dp_be] at ih
    cases hx : σ (16 * m + j) with
    | none =>
      rw [hx] at ih
      refine br_f ?_ (nm_r (nI_1 _) ih)
      rw [hrd _ (by omega), (hA _ (by omega)).1 hx]
      decide
    | some x =>
      rw [hx] at ih
      have hv : b_least (nI (16 * m + j)).toNatClampNeg = lN x.1 := by rw [hrd _ (by omega)]; exact ((hA _ (by omega)).2 x hx).1
      have hxb := dp_wf_v W hx
      refine br_t (by rw [hv]; exact (pk_lLE (a := 0) (by omega) (by omega)).mpr (by omega)) ?_
      cases he : dp_be σ m j with
      | none =>
        rw [he] at ih
        exact br_t (by decide) (nm_r (nI_1 _) ih)
      | some s =>
        rw [he] at ih
        obtain ⟨b1, b2, y, hy⟩ := dp_be_in j s he
        have hyb := dp_wf_v W hy
        have hv2 : b_least (nI s).toNatClampNeg = lN y.1 := by rw [hrd _ (by omega)]; exact ((hA _ (by omega)).2 y hy).1
        have ih : wY_bestWay_83 post (nI n) (nI lc) (nI pc) (nI fw) (nI rw) (nI fl) (nI sw) (nI ss) (nI sk) (nI ba) (nI hyc) (nI ph) y_ready y_glyphCount (nI m) y_natural y_spaces y_lineCount y_paragraphs (gd_tI t) (gd_tI w) (gd_lI lg) (gd_kI kn) b_patA b_patB b_patC b_patDigits b_glyphs b_glyphOf b_bEnd b_bNext b_bHyphen b_least b_before b_way b_lFrom b_lTo b_lNumber b_lParagraph b_lPage b_lHyphen b_lLast b_best (f + 1) (dp_oe (if dp_vl σ s ≤ x.1 then (if x.1 = dp_vl σ s then (if dp_later σ 100 (16 * m + j) s = true then some (16 * m + j) else some s) else some s) else some (16 * m + j))) (nI (16 * m + (j + 1))) := ih
        rw [dp_vls hy] at ih
        refine br_f (nI_pos (by omega)) ⟨vp_in_nI (by omega) (by omega), vp_in_nI (by omega) (by omega), br_c (fun c1 => ?_) (fun c1 => ?_)⟩
        · have c1 : lN x.1 < lN y.1 := by rw [← hv, ← hv2]; exact c1
          have c1' := (pk_lLT (by omega) (by omega)).mp c1
          rw [if_neg (by omega)] at ih
          exact nm_r (nI_1 _) ih
        · have c1 : ¬ lN x.1 < lN y.1 := by rw [← hv, ← hv2]; exact c1
          have c1' : ¬ x.1 < y.1 := fun q => c1 ((pk_lLT (by omega) (by omega)).mpr q)
          rw [if_pos (by omega)] at ih
          refine ⟨vp_in_nI (by omega) (by omega), vp_in_nI (by omega) (by omega), br_c (fun c2 => ?_) (fun c2 => ?_)⟩
          · have c2 : lN x.1 = lN y.1 := by rw [← hv, ← hv2]; exact c2
            have c2' := (pk_lEQ (by omega) (by omega)).mp c2
            rw [if_pos c2'] at ih
            refine dy_later (M := 16 * (m + 1)) (by omega) hσ hA W hx hy (gd_bt (fun c3 => ?_) (fun c3 => ?_))
            · rw [if_neg (by rw [c3]; decide)] at ih
              exact nm_r (nI_1 _) ih
            · rw [if_pos c3] at ih
              exact nm_r (nI_1 _) ih
          · have c2 : ¬ lN x.1 = lN y.1 := by rw [← hv, ← hv2]; exact c2
            have c2' : ¬ x.1 = y.1 := fun q => c2 (by rw [q])
            rw [if_neg c2'] at ih
            exact nm_r (nI_1 _) ih
end
