def dp_arr (M : Nat) (σ : dp_S) (L : Nat → Int64) (B : Nat → Int32) : Prop := ∀ s, s < M → (σ s = none → L s = -1) ∧ (∀ x, σ s = some x → L s = lN x.1 ∧ (16 ≤ s → B s = nI x.2))
theorem dp_nm1 {v : Nat} (h : v < 2 ^ 62) : ¬ lN v = -1 := by
  intro e
  have := congrArg Int64.toInt e
  rw [pk_lT (by omega)] at this
  have h2 : (-1 : Int64).toInt = -1 := by decide
  omega
theorem dp_arr_up {M s tt fr : Nat} {σ : dp_S} {L : Nat → Int64} {B : Nat → Int32} (hA : dp_arr M σ L B) : dp_arr M (dp_up σ s (tt, fr)) (vp_updL L s (lN tt)) (upd B s (nI fr)) := by
  intro j hj
  by_cases e : j = s
  · subst e
    rw [dp_us, pk_uLs, pk_us]
    exact ⟨fun h => absurd h (by simp), fun x hx => by cases hx; exact ⟨rfl, fun _ => rfl⟩⟩
  · rw [dp_un e, pk_uLn e, pk_un e]
    exact hA j hj
theorem dp_wf_v {σ : dp_S} {s : Nat} {x : Nat × Nat} (W : dp_wf σ) (h : σ s = some x) : x.1 ≤ 4848000000 ∧ s < 784 := by
  have := W s x h
  have h2 : (s / 16) * 101000000 ≤ 48 * 101000000 := Nat.mul_le_mul_right _ (by omega)
  omega
section
variable {n lc pc fw rw fl sw ss sk ba hyc ph : Nat} {t w lg : Nat → Nat} {kn : Nat → Int}
variable {σ : dp_S}
variable {x_breakCount x_lineCount x_paragraphCount x_stale : Int32} {a_patterns a_heads a_glyphs a_breakEnd a_breakNext a_breakHyphen a_breakTaken a_wayBefore a_lineFacts : Nat → Int32} {a_wayDemerits a_paragraphDemerits : Nat → Int64}
theorem dx_later {post : Int32 → Prop} {M a b : Nat} {x y : Nat × Nat} (hM : M ≤ 784) (hσ : ∀ s x, σ s = some x → s < M) (hA : dp_arr M σ a_wayDemerits a_wayBefore) (W : dp_wf σ) (ha : σ a = some x) (hb : σ b = some y) (hp : post (gd_bI (dp_later σ 100 a b))) : wpX_breaksLater post ((nI n), (nI lc), (nI pc), (nI fw), (nI rw), (nI fl), (nI sw), (nI ss), (nI sk), (nI ba), (nI hyc), (nI ph), x_breakCount, x_lineCount, x_paragraphCount, x_stale, (gd_tI t), (gd_tI w), (gd_lI lg), (gd_kI kn), a_patterns, a_heads, a_glyphs, a_breakEnd, a_breakNext, a_breakHyphen, a_breakTaken, a_wayDemerits, a_wayBefore, a_lineFacts, a_paragraphDemerits) (nI a) (nI b) := by
  have key : ∀ f a b j x y, a / 16 < f → j + a / 16 ≤ 48 → σ a = some x → σ b = some y → post (gd_bI (dp_later σ f a b)) → wX_breaksLater_8 post (nI n) (nI lc) (nI pc) (nI fw) (nI rw) (nI fl) (nI sw) (nI ss) (nI sk) (nI ba) (nI hyc) (nI ph) x_breakCount x_lineCount x_paragraphCount x_stale (gd_tI t) (gd_tI w) (gd_lI lg) (gd_kI kn) a_patterns a_heads a_glyphs a_breakEnd a_breakNext a_breakHyphen a_breakTaken a_wayDemerits a_wayBefore a_lineFacts a_paragraphDemerits f (nI a) (nI b) (nI j) := by
    intro f
    induction f with
    | zero => intro a b j x y h; omega
    | succ f ih =>
      intro a b j x y h1 h2 ha hb hp
      have bda := hσ a x ha
      have bdb := hσ b y hb
      rw [dp_later, dp_bfs ha, dp_bfs hb] at hp
      refine br_f (nI_ge (b := 49) (by omega) (by decide)) (pk_eq a b (fun e => ?_) (fun e => ?_))
      · rw [if_pos (by rw [e]), if_pos e] at hp
        exact hp
      · refine ⟨by decide, nm_r (e' := nI (a / 16)) (pk_div (d := 16) (by omega) (by omega) (by omega)) ⟨by decide, nm_r (e' := nI (b / 16)) (pk_div (d := 16) (by omega) (by omega) (by omega)) ?_⟩⟩
        refine pk_eq (a / 16) (b / 16) (fun e2 => ?_) (fun e2 => ?_)
        · rw [if_pos e2, if_neg e] at hp
          have ha16 : ¬ a < 16 := by
            intro z
            have := (W a x ha).2.2.1 z
            have := (W b y hb).2.2.1 (by omega)
            omega
          rw [if_neg ha16] at hp
          obtain ⟨c1, z1, c2⟩ := (W a x ha).2.2.2 (by omega)
          obtain ⟨d1, z2, d2⟩ := (W b y hb).2.2.2 (by omega)
          refine ⟨vp_in_nI (by omega) (by omega), nm_r (e' := nI x.2) (by rw [nI_clamp (by omega)]; exact ((hA a bda).2 x ha).2 (by omega)) ⟨vp_in_nI (by omega) (by omega), nm_r (e' := nI y.2) (by rw [nI_clamp (by omega)]; exact ((hA b bdb).2 y hb).2 (by omega)) (nm_r (nI_1 j) (ih x.2 y.2 (j + 1) z1 z2 (by omega) (by omega) c2 d2 hp))⟩⟩
        · rw [if_neg e2] at hp
          refine pk_le (a / 16) (b / 16) (fun e3 => ?_) (fun e3 => ?_)
          · rw [decide_eq_false (by omega)] at hp; exact hp
          · rw [decide_eq_true e3] at hp; exact hp
  have := dp_wf_v W ha
  exact ⟨100, key 100 a b 0 x y (by omega) (by omega) ha hb hp⟩
theorem dx_offer {post : SX → Prop} {s tt fr : Nat} {z : Nat × Nat} (hA : dp_arr 784 σ a_wayDemerits a_wayBefore) (W : dp_wf σ) (hs : s < 784) (hs16 : 16 ≤ s) (hf : σ fr = some z) (htt : tt < 2 ^ 62)
    (hp : ∀ a_wayDemerits a_wayBefore, dp_arr 784 (dp_offer σ s tt fr) a_wayDemerits a_wayBefore → post ((nI n), (nI lc), (nI pc), (nI fw), (nI rw), (nI fl), (nI sw), (nI ss), (nI sk), (nI ba), (nI hyc), (nI ph), x_breakCount, x_lineCount, x_paragraphCount, x_stale, (gd_tI t), (gd_tI w), (gd_lI lg), (gd_kI kn), a_patterns, a_heads, a_glyphs, a_breakEnd, a_breakNext, a_breakHyphen, a_breakTaken, a_wayDemerits, a_wayBefore, a_lineFacts, a_paragraphDemerits)) : wpX_offerWay post ((nI n), (nI lc), (nI pc), (nI fw), (nI rw), (nI fl), (nI sw), (nI ss), (nI sk), (nI ba), (nI hyc), (nI ph), x_breakCount, x_lineCount, x_paragraphCount, x_stale, (gd_tI t), (gd_tI w), (gd_lI lg), (gd_kI kn), a_patterns, a_heads, a_glyphs, a_breakEnd, a_breakNext, a_breakHyphen, a_breakTaken, a_wayDemerits, a_wayBefore, a_lineFacts, a_paragraphDemerits) (nI s) (nI fr) (lN tt) := by
  have hfb := dp_wf_v W hf
  have store : dp_offer σ s tt fr = dp_up σ s (tt, fr) → wX_offerWay_51 post (nI s) (nI fr) (lN tt) 1 (nI n) (nI lc) (nI pc) (nI fw) (nI rw) (nI fl) (nI sw) (nI ss) (nI sk) (nI ba) (nI hyc) (nI ph) x_breakCount x_lineCount x_paragraphCount x_stale (gd_tI t) (gd_tI w) (gd_lI lg) (gd_kI kn) a_patterns a_heads a_glyphs a_breakEnd a_breakNext a_breakHyphen a_breakTaken a_wayDemerits a_wayBefore a_lineFacts a_paragraphDemerits := by
    intro e
    rw [e] at hp
    refine br_f (by decide) ⟨vp_in_nI hs (by omega), nm_r (e' := vp_updL a_wayDemerits s (lN tt)) (by rw [nI_clamp (by omega)]) ⟨vp_in_nI hs (by omega), nm_r (e' := upd a_wayBefore s (nI fr)) (by rw [nI_clamp (by omega)]) (hp _ _ (dp_arr_up hA))⟩⟩
  have keep : dp_offer σ s tt fr = σ → wX_offerWay_51 post (nI s) (nI fr) (lN tt) 0 (nI n) (nI lc) (nI pc) (nI fw) (nI rw) (nI fl) (nI sw) (nI ss) (nI sk) (nI ba) (nI hyc) (nI ph) x_breakCount x_lineCount x_paragraphCount x_stale (gd_tI t) (gd_tI w) (gd_lI lg) (gd_kI kn) a_patterns a_heads a_glyphs a_breakEnd a_breakNext a_breakHyphen a_breakTaken a_wayDemerits a_wayBefore a_lineFacts a_paragraphDemerits := by
    intro e
    rw [e] at hp
    exact br_t rfl (hp _ _ hA)
  refine ⟨vp_in_nI hs (by omega), ?_⟩
  cases h : σ s with
  | none =>
    have hv := (hA s hs).1 h
    refine nm_r (e' := -1) (by rw [nI_clamp (by omega), hv]) (br_t rfl ?_)
    refine br_f (dp_nm1 htt) (store ?_)
    rw [dp_offer, h]
  | some x =>
    have hv := ((hA s hs).2 x h).1
    have hb := dp_wf_v W h
    refine nm_r (e' := lN x.1) (by rw [nI_clamp (by omega), hv]) (br_f (dp_nm1 (by omega)) (br_c (fun c1 => ?_) (fun c1 => ?_)))
    · have c1' := (pk_lLE (by omega) (by omega)).mp c1
      refine br_c (fun c2 => ?_) (fun c2 => ?_)
      · have c2' := (pk_lEQ (by omega) (by omega)).mp c2
        obtain ⟨d1, z2, d2⟩ := (W s x h).2.2.2 hs16
        refine ⟨vp_in_nI hs (by omega), ?_⟩
        rw [nI_clamp (by omega), ((hA s hs).2 x h).2 hs16]
        refine dx_later (Nat.le_refl _) (fun s x h => (dp_wf_v W h).2) hA W hf d2 ?_
        cases c3 : dp_later σ 100 fr x.2
        · refine keep ?_
          rw [dp_offer, h]
          show (if x.1 < tt then σ else if tt = x.1 then (if dp_later σ 100 fr x.2 = true then dp_up σ s (tt, fr) else σ) else dp_up σ s (tt, fr)) = σ
          rw [if_neg (by omega), if_pos c2', if_neg (by rw [c3]; decide)]
        · refine store ?_
          rw [dp_offer, h]
          show (if x.1 < tt then σ else if tt = x.1 then (if dp_later σ 100 fr x.2 = true then dp_up σ s (tt, fr) else σ) else dp_up σ s (tt, fr)) = dp_up σ s (tt, fr)
          rw [if_neg (by omega), if_pos c2', if_pos c3]
      · have c2' : ¬ tt = x.1 := fun q => c2 (by rw [q])
        refine keep ?_
        rw [dp_offer, h]
        show (if x.1 < tt then σ else _) = σ
        rw [if_pos (by omega)]
    · have c1' : ¬ x.1 ≤ tt := fun q => c1 ((pk_lLE (by omega) (by omega)).mpr q)
      refine br_f (fun q => c1' (by have := (pk_lEQ (by omega) (by omega)).mp q; omega)) (store ?_)
      rw [dp_offer, h]
      show (if x.1 < tt then σ else if tt = x.1 then (if dp_later σ 100 fr x.2 = true then dp_up σ s (tt, fr) else σ) else dp_up σ s (tt, fr)) = dp_up σ s (tt, fr)
      rw [if_neg (by omega), if_neg (by omega)]
end
section
variable {n lc pc fw rw fl sw ss sk ba hyc ph : Nat} {t w lg : Nat → Nat} {kn : Nat → Int}
variable {σ : dp_S}
variable {y_ready y_glyphCount y_breaks y_natural y_spaces y_lineCount y_paragraphs : Int32} {b_patA b_patB b_patC b_patDigits b_glyphs b_glyphOf b_bEnd b_bNext b_bHyphen b_before b_way b_lFrom b_lTo b_lNumber b_lParagraph b_lPage b_lHyphen b_lLast : Nat → Int32} {b_least b_best : Nat → Int64}
theorem dy_later {post : Int32 → Prop} {M a b : Nat} {x y : Nat × Nat} (hM : M ≤ 800) (hσ : ∀ s x, σ s = some x → s < M) (hA : dp_arr M σ b_least b_before) (W : dp_wf σ) (ha : σ a = some x) (hb : σ b = some y) (hp : post (gd_bI (dp_later σ 100 a b))) : wpY_later post ((nI n), (nI lc), (nI pc), (nI fw), (nI rw), (nI fl), (nI sw), (nI ss), (nI sk), (nI ba), (nI hyc), (nI ph), y_ready, y_glyphCount, y_breaks, y_natural, y_spaces, y_lineCount, y_paragraphs, (gd_tI t), (gd_tI w), (gd_lI lg), (gd_kI kn), b_patA, b_patB, b_patC, b_patDigits, b_glyphs, b_glyphOf, b_bEnd, b_bNext, b_bHyphen, b_least, b_before, b_way, b_lFrom, b_lTo, b_lNumber, b_lParagraph, b_lPage, b_lHyphen, b_lLast, b_best) (nI a) (nI b) := by
  have key : ∀ f a b x y, a / 16 < f → σ a = some x → σ b = some y → post (gd_bI (dp_later σ f a b)) → wY_later_5 post (nI n) (nI lc) (nI pc) (nI fw) (nI rw) (nI fl) (nI sw) (nI ss) (nI sk) (nI ba) (nI hyc) (nI ph) y_ready y_glyphCount y_breaks y_natural y_spaces y_lineCount y_paragraphs (gd_tI t) (gd_tI w) (gd_lI lg) (gd_kI kn) b_patA b_patB b_patC b_patDigits b_glyphs b_glyphOf b_bEnd b_bNext b_bHyphen b_least b_before b_way b_lFrom b_lTo b_lNumber b_lParagraph b_lPage b_lHyphen b_lLast b_best f (nI a) (nI b) := by
    intro f
    induction f with
    | zero => intro a b x y h; omega
    | succ f ih =>
      intro a b x y h1 ha hb hp
      have bda := hσ a x ha
      have bb := hσ b y hb
      have q1 : nI a / 16 = nI (a / 16) := pk_div (d := 16) (by omega) (by omega) (by omega)
      have q2 : nI b / 16 = nI (b / 16) := pk_div (d := 16) (by omega) (by omega) (by omega)
      rw [dp_later, dp_bfs ha, dp_bfs hb] at hp
      have e48 : a / 16 = b / 16 → post 0 → wY_later_48 post (nI a) (nI b) (nI n) (nI lc) (nI pc) (nI fw) (nI rw) (nI fl) (nI sw) (nI ss) (nI sk) (nI ba) (nI hyc) (nI ph) y_ready y_glyphCount y_breaks y_natural y_spaces y_lineCount y_paragraphs (gd_tI t) (gd_tI w) (gd_lI lg) (gd_kI kn) b_patA b_patB b_patC b_patDigits b_glyphs b_glyphOf b_bEnd b_bNext b_bHyphen b_least b_before b_way b_lFrom b_lTo b_lNumber b_lParagraph b_lPage b_lHyphen b_lLast b_best := fun e hp => ⟨by decide, by decide, br_t (by rw [q1, q2]; exact nI_le (by omega) (by omega)) hp⟩
      refine ⟨by decide, by decide, pk_eq (a / 16) (b / 16) (fun e2 => ?_) (fun e2 => ?_) q1 q2 (by omega) (by omega)⟩
      · rw [if_pos e2] at hp
        refine pk_eq a b (fun e => ?_) (fun e => ?_)
        · rw [if_pos e] at hp
          exact e48 e2 hp
        · rw [if_neg e] at hp
          refine pk_lt a 16 (fun z => ?_) (fun z => ?_)
          · rw [if_pos z] at hp; exact e48 e2 hp
          · rw [if_neg (by omega)] at hp
            obtain ⟨c1, z1, c2⟩ := (W a x ha).2.2.2 (by omega)
            obtain ⟨d1, z2, d2⟩ := (W b y hb).2.2.2 (by omega)
            exact ⟨vp_in_nI (by omega) (by omega), nm_r (e' := nI x.2) (by rw [nI_clamp (by omega)]; exact ((hA a bda).2 x ha).2 (by omega)) ⟨vp_in_nI (by omega) (by omega), nm_r (e' := nI y.2) (by rw [nI_clamp (by omega)]; exact ((hA b bb).2 y hb).2 (by omega)) (ih x.2 y.2 z1 z2 (by omega) c2 d2 hp)⟩⟩
      · rw [if_neg e2] at hp
        refine ⟨by decide, by decide, pk_le (a / 16) (b / 16) (fun e3 => ?_) (fun e3 => ?_) q1 q2 (by omega) (by omega)⟩
        · rw [decide_eq_false (by omega)] at hp; exact hp
        · rw [decide_eq_true e3] at hp; exact hp
  have := dp_wf_v W ha
  exact ⟨100, key 100 a b x y (by omega) ha hb hp⟩
theorem dy_offer {post : SY → Prop} {M s tt fr : Nat} {z : Nat × Nat} (hM : M ≤ 800) (hσ : ∀ s x, σ s = some x → s < M) (hA : dp_arr M σ b_least b_before) (W : dp_wf σ) (hs : s < M) (hs16 : 16 ≤ s) (hf : σ fr = some z) (htt : tt < 2 ^ 62)
    (hp : ∀ b_least b_before, dp_arr M (dp_offer σ s tt fr) b_least b_before → post ((nI n), (nI lc), (nI pc), (nI fw), (nI rw), (nI fl), (nI sw), (nI ss), (nI sk), (nI ba), (nI hyc), (nI ph), y_ready, y_glyphCount, y_breaks, y_natural, y_spaces, y_lineCount, y_paragraphs, (gd_tI t), (gd_tI w), (gd_lI lg), (gd_kI kn), b_patA, b_patB, b_patC, b_patDigits, b_glyphs, b_glyphOf, b_bEnd, b_bNext, b_bHyphen, b_least, b_before, b_way, b_lFrom, b_lTo, b_lNumber, b_lParagraph, b_lPage, b_lHyphen, b_lLast, b_best)) : wpY_offer post ((nI n), (nI lc), (nI pc), (nI fw), (nI rw), (nI fl), (nI sw), (nI ss), (nI sk), (nI ba), (nI hyc), (nI ph), y_ready, y_glyphCount, y_breaks, y_natural, y_spaces, y_lineCount, y_paragraphs, (gd_tI t), (gd_tI w), (gd_lI lg), (gd_kI kn), b_patA, b_patB, b_patC, b_patDigits, b_glyphs, b_glyphOf, b_bEnd, b_bNext, b_bHyphen, b_least, b_before, b_way, b_lFrom, b_lTo, b_lNumber, b_lParagraph, b_lPage, b_lHyphen, b_lLast, b_best) (nI s) (lN tt) (nI fr) := by
  have hfb := dp_wf_v W hf
  have store : dp_offer σ s tt fr = dp_up σ s (tt, fr) → wY_offer_49 post (nI s) (lN tt) (nI fr) (nI n) (nI lc) (nI pc) (nI fw) (nI rw) (nI fl) (nI sw) (nI ss) (nI sk) (nI ba) (nI hyc) (nI ph) y_ready y_glyphCount y_breaks y_natural y_spaces y_lineCount y_paragraphs (gd_tI t) (gd_tI w) (gd_lI lg) (gd_kI kn) b_patA b_patB b_patC b_patDigits b_glyphs b_glyphOf b_bEnd b_bNext b_bHyphen b_least b_before b_way b_lFrom b_lTo b_lNumber b_lParagraph b_lPage b_lHyphen b_lLast b_best := by
    intro e
    rw [e] at hp
    exact ⟨vp_in_nI (by omega) (by omega), nm_r (e' := vp_updL b_least s (lN tt)) (by rw [nI_clamp (by omega)]) ⟨vp_in_nI (by omega) (by omega), nm_r (e' := upd b_before s (nI fr)) (by rw [nI_clamp (by omega)]) (hp _ _ (dp_arr_up hA))⟩⟩
  have keep : dp_offer σ s tt fr = σ → post ((nI n), (nI lc), (nI pc), (nI fw), (nI rw), (nI fl), (nI sw), (nI ss), (nI sk), (nI ba), (nI hyc), (nI ph), y_ready, y_glyphCount, y_breaks, y_natural, y_spaces, y_lineCount, y_paragraphs, (gd_tI t), (gd_tI w), (gd_lI lg), (gd_kI kn), b_patA, b_patB, b_patC, b_patDigits, b_glyphs, b_glyphOf, b_bEnd, b_bNext, b_bHyphen, b_least, b_before, b_way, b_lFrom, b_lTo, b_lNumber, b_lParagraph, b_lPage, b_lHyphen, b_lLast, b_best) := by
    intro e
    rw [e] at hp
    exact hp _ _ hA
  refine ⟨vp_in_nI (by omega) (by omega), ?_⟩
  cases h : σ s with
  | none =>
    have hv : b_least (nI s).toNatClampNeg = -1 := by rw [nI_clamp (by omega)]; exact (hA s hs).1 h
    refine br_t (by rw [hv]; decide) (store ?_)
    rw [dp_offer, h]
  | some x =>
    have hv : b_least (nI s).toNatClampNeg = lN x.1 := by rw [nI_clamp (by omega)]; exact ((hA s hs).2 x h).1
    have hb := dp_wf_v W h
    refine br_f (by rw [hv]; intro q; have := (pk_lLT (b := 0) (by omega) (by omega)).mp q; omega) ⟨vp_in_nI (by omega) (by omega), br_c (fun c1 => ?_) (fun c1 => ⟨vp_in_nI (by omega) (by omega), br_c (fun c2 => ?_) (fun c2 => ?_)⟩)⟩
    · rw [hv] at c1
      have c1' := (pk_lLT (by omega) (by omega)).mp c1
      refine keep ?_
      rw [dp_offer, h]
      show (if x.1 < tt then σ else _) = σ
      rw [if_pos (by omega)]
    · rw [hv] at c2
      have c2' := (pk_lEQ (by omega) (by omega)).mp c2
      obtain ⟨d1, z2, d2⟩ := (W s x h).2.2.2 hs16
      refine ⟨vp_in_nI (by omega) (by omega), ?_⟩
      have hbv : b_before (nI s).toNatClampNeg = nI x.2 := by rw [nI_clamp (by omega)]; exact ((hA s hs).2 x h).2 hs16
      rw [hbv]
      refine dy_later hM hσ hA W hf d2 ?_
      refine gd_bt (fun c3 => keep ?_) (fun c3 => store ?_)
      · rw [dp_offer, h]
        show (if x.1 < tt then σ else if tt = x.1 then (if dp_later σ 100 fr x.2 = true then dp_up σ s (tt, fr) else σ) else dp_up σ s (tt, fr)) = σ
        rw [if_neg (by omega), if_pos c2', if_neg (by rw [c3]; decide)]
      · rw [dp_offer, h]
        show (if x.1 < tt then σ else if tt = x.1 then (if dp_later σ 100 fr x.2 = true then dp_up σ s (tt, fr) else σ) else dp_up σ s (tt, fr)) = dp_up σ s (tt, fr)
        rw [if_neg (by omega), if_pos c2', if_pos c3]
    · rw [hv] at c1 c2
      have c1' : ¬ x.1 < tt := fun q => c1 ((pk_lLT (by omega) (by omega)).mpr q)
      have c2' : ¬ tt = x.1 := fun q => c2 (by rw [q])
      refine store ?_
      rw [dp_offer, h]
      show (if x.1 < tt then σ else if tt = x.1 then (if dp_later σ 100 fr x.2 = true then dp_up σ s (tt, fr) else σ) else dp_up σ s (tt, fr)) = dp_up σ s (tt, fr)
      rw [if_neg c1', if_neg c2']
end
