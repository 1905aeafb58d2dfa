def yy_ok (S : ly_S) (b_lFrom b_lTo b_lNumber b_lParagraph b_lHyphen b_lLast : Nat → Int32) (b_best : Nat → Int64) : Prop := yl_ok S.2.1 S.1 b_lFrom b_lTo b_lNumber b_lParagraph b_lHyphen b_lLast ∧ ∀ p, p < S.2.2.1 → b_best p = S.2.2.2 p
section
variable {n lc pc fw rw fl sw ss sk ba hyc ph : Nat} {t w lg : Nat → Nat} {kn : Nat → Int}
variable {P pa pb pq pd : Nat → Nat} {fr to : Nat} {S : ly_S}
variable {y_ready y_glyphCount y_breaks y_natural y_spaces y_lineCount y_paragraphs : Int32} {b_patA b_patB b_patC b_patDigits b_glyphs b_glyphOf b_bEnd b_bNext b_bHyphen b_before b_way b_lFrom b_lTo b_lNumber b_lParagraph b_lPage b_lHyphen b_lLast : Nat → Int32} {b_least b_best : Nat → Int64}
theorem yy_para {post : SY → Prop} (C : cf_ok t w lg kn n fw rw fl sw ss sk ba hyc ph) (hpt : pt_ok P pc b_patA b_patB b_patC b_patDigits pa pb pq pd) (hft : fr ≤ to) (hton : to ≤ n) (h11 : ∀ j, fr ≤ j → j < to → t j ≠ 11) (hto : to = n ∨ t to = 11) (hfr : fr = 0 ∨ t (fr - 1) = 11) (hlc : S.2.1 ≤ fr) (hpar : 2 * S.2.2.1 ≤ fr) (Y : yy_ok S b_lFrom b_lTo b_lNumber b_lParagraph b_lHyphen b_lLast b_best)
    (hp : ∀ y_glyphCount y_breaks y_natural y_spaces b_glyphs b_glyphOf b_bEnd b_bNext b_bHyphen b_least b_before b_way b_lFrom b_lTo b_lNumber b_lParagraph b_lHyphen b_lLast b_best, yy_ok (ly_p t w lg kn P n sw ss sk fw rw fl ba hyc fr to S) b_lFrom b_lTo b_lNumber b_lParagraph b_lHyphen b_lLast b_best → post ((nI n), (nI lc), (nI pc), (nI fw), (nI rw), (nI fl), (nI sw), (nI ss), (nI sk), (nI ba), (nI hyc), (nI ph), y_ready, y_glyphCount, y_breaks, y_natural, y_spaces, (nI (ly_p t w lg kn P n sw ss sk fw rw fl ba hyc fr to S).2.1), (nI (ly_p t w lg kn P n sw ss sk fw rw fl ba hyc fr to S).2.2.1), (gd_tI t), (gd_tI w), (gd_lI lg), (gd_kI kn), b_patA, b_patB, b_patC, b_patDigits, b_glyphs, b_glyphOf, b_bEnd, b_bNext, b_bHyphen, b_least, b_before, b_way, b_lFrom, b_lTo, b_lNumber, b_lParagraph, b_lPage, b_lHyphen, b_lLast, b_best)) :
    wpY_paragraph post ((nI n), (nI lc), (nI pc), (nI fw), (nI rw), (nI fl), (nI sw), (nI ss), (nI sk), (nI ba), (nI hyc), (nI ph), y_ready, y_glyphCount, y_breaks, y_natural, y_spaces, (nI S.2.1), (nI S.2.2.1), (gd_tI t), (gd_tI w), (gd_lI lg), (gd_kI kn), b_patA, b_patB, b_patC, b_patDigits, b_glyphs, b_glyphOf, b_bEnd, b_bNext, b_bHyphen, b_least, b_before, b_way, b_lFrom, b_lTo, b_lNumber, b_lParagraph, b_lPage, b_lHyphen, b_lLast, b_best) (nI fr) (nI to) := by
  have hn := C.1
  have ht := C.2.1
  refine cy_para hn ht hpt hft hton h11 hto hfr (fun z => ?_) (fun z hm1 f b_bEnd b_bNext b_bHyphen yb => ?_)
  · have e : ly_p t w lg kn P n sw ss sk fw rw fl ba hyc fr to S = S := by rw [ly_p, if_neg (by omega)]
    rw [e] at hp
    exact hp _ _ _ _ _ _ _ _ _ _ _ _ _ _ _ _ _ _ _ Y
  · have ok : bk_ok t fr to (pg_m t P n fr to) (pg_E t P n fr to) (pg_N t P n fr to) (pg_H t P n fr to) := bk_fin ht hft h11 (bk_hyok hto hton hfr) hm1
    have hlen := pg_len (P := P) (sw := sw) (ss := ss) (sk := sk) (fw := fw) (rw := rw) (fl := fl) (ba := ba) (hyc := hyc) (fr := fr) (to := to) C hton
    have hcs := pg_cs_ok (P := P) (sw := sw) (ss := ss) (sk := sk) (fw := fw) (rw := rw) (fl := fl) (ba := ba) (hyc := hyc) C hlen.1
    have e : ly_p t w lg kn P n sw ss sk fw rw fl ba hyc fr to S = (lt_seq (pg_E t P n fr to) (pg_N t P n fr to) (pg_H t P n fr to) (pg_m t P n fr to) S.2.2.1 S.1 S.2.1 0 0 (pg_cs t w lg kn P n sw ss sk fw rw fl ba hyc fr to), S.2.1 + (pg_cs t w lg kn P n sw ss sk fw rw fl ba hyc fr to).length, S.2.2.1 + 1, vp_updL S.2.2.2 S.2.2.1 (pr_v (pg_σ t w lg kn P n sw ss sk fw rw fl ba hyc fr to) (pg_m t P n fr to))) := by rw [ly_p, if_pos z]
    rw [e] at hp
    have yb : bk_xb (pg_m t P n fr to) (pg_E t P n fr to) (pg_N t P n fr to) (pg_H t P n fr to) b_bEnd b_bNext b_bHyphen := yb
    have hm48 := hlen.1
    have hsk := (bk_sk_ok (t := t) hft).1
    have hL : dp_ln (ln_v t lg w kn sw ss sk fw rw fl ba hyc (pg_m t P n fr to) (pg_E t P n fr to) (pg_N t P n fr to) (pg_H t P n fr to)) := ln_ok C
    have W : dp_wf (pg_σ t w lg kn P n sw ss sk fw rw fl ba hyc fr to) := dp_all_wf hL _ hm48
    have hσ : ∀ s x, pg_σ t w lg kn P n sw ss sk fw rw fl ba hyc fr to s = some x → s < 16 * (pg_m t P n fr to + 1) := dp_all_M hL _
    have bst : ∀ v p, v = pr_v (pg_σ t w lg kn P n sw ss sk fw rw fl ba hyc fr to) (pg_m t P n fr to) → p < S.2.2.1 + 1 → vp_updL b_best S.2.2.1 v p = vp_updL S.2.2.2 S.2.2.1 (pr_v (pg_σ t w lg kn P n sw ss sk fw rw fl ba hyc fr to) (pg_m t P n fr to)) p := by
      intro v p hv hp
      by_cases q : p = S.2.2.1
      · rw [q, pk_uLs, pk_uLs, hv]
      · rw [pk_uLn q, pk_uLn q]; exact Y.2 p (by omega)
    refine br_t (nI_le (Nat.le_refl _) (by omega)) ?_
    refine dy_ways C hton hm48 h11 ok yb (fun g y_glyphCount y_natural y_spaces b_glyphs b_glyphOf b_least b_before hA => ?_)
    have hA : dp_arr (16 * (pg_m t P n fr to + 1)) (pg_σ t w lg kn P n sw ss sk fw rw fl ba hyc fr to) b_least b_before := hA
    refine br_t (nI_lt (a := pg_m t P n fr to) (b := pg_m t P n fr to + 1) (by omega) (by omega)) (nm_r (e' := nI (16 * pg_m t P n fr to + 0)) (by rw [show (16 : Int32) = nI 16 from rfl, pk_mul]; rfl) ⟨17, dy_best _ hm48 W hσ hA (fun f => ?_) 16 0 (by omega)⟩)
    refine br_t (by rw [show (16 : Int32) = nI 16 from rfl, pk_mul, nI_add]; exact nI_le (by omega) (by omega)) ?_
    cases he : dp_be (pg_σ t w lg kn P n sw ss sk fw rw fl ba hyc fr to) (pg_m t P n fr to) 16 with
    | none =>
      have ecs : pg_cs t w lg kn P n sw ss sk fw rw fl ba hyc fr to = em_l (ln_b t lg w kn sw ss sk fw rw fl (pg_m t P n fr to) (pg_E t P n fr to) (pg_N t P n fr to) (pg_H t P n fr to)) (pg_m t P n fr to) 49 0 0 := by rw [pg_cs, pr_cs, he]
      refine br_f (by decide) (br_t rfl ⟨vp_in_nI (by omega) (by omega), nm_r (e' := vp_updL b_best S.2.2.1 (-1)) (by rw [nI_clamp (by omega)]) ⟨49, ?_⟩⟩)
      refine ay_emer _ C hton hm48 h11 ok yb 49 0 0 S.2.1 S.1 _ _ _ _ _ _ _ _ _ _ _ (by omega) (by omega) (by omega) (by rw [← ecs]; omega) Y.1 (fun y_glyphCount y_natural y_spaces b_glyphs b_glyphOf b_lFrom b_lTo b_lNumber b_lParagraph b_lHyphen b_lLast Y' => ?_)
      rw [← ecs] at Y' ⊢
      refine nm_r (nI_1 _) (hp _ _ _ _ _ _ _ _ _ _ _ _ _ _ _ _ _ _ _ ⟨Y', fun p hq => bst (-1) p ?_ hq⟩)
      rw [pr_v, he]
    | some q =>
      obtain ⟨b1, b2, x, hx⟩ := dp_be_in 16 q he
      have ecs : pg_cs t w lg kn P n sw ss sk fw rw fl ba hyc fr to = (dp_pt (pg_σ t w lg kn P n sw ss sk fw rw fl ba hyc fr to) 100 q).reverse := by rw [pg_cs, pr_cs, he]
      have hv : b_least (nI q).toNatClampNeg = pr_v (pg_σ t w lg kn P n sw ss sk fw rw fl ba hyc fr to) (pg_m t P n fr to) := by
        rw [nI_clamp (by omega), pr_v, he]
        show b_least q = lN (dp_vl (pg_σ t w lg kn P n sw ss sk fw rw fl ba hyc fr to) q)
        rw [dp_vls hx]
        exact ((hA q (by omega)).2 x hx).1
      refine br_t (nI_pos' (by omega)) ⟨vp_in_nI (by omega) (by omega), vp_in_nI (by omega) (by omega), nm_r (e' := vp_updL b_best S.2.2.1 (pr_v (pg_σ t w lg kn P n sw ss sk fw rw fl ba hyc fr to) (pg_m t P n fr to))) ?_ ?_⟩
      · rw [nI_clamp (show S.2.2.1 < 2 ^ 31 by omega)]
        exact congrArg _ hv
      refine ay_take _ hm48 W hσ hA hx (fun b_way hw => ?_)
      have hll : (dp_pt (pg_σ t w lg kn P n sw ss sk fw rw fl ba hyc fr to) 100 q).length = (pg_cs t w lg kn P n sw ss sk fw rw fl ba hyc fr to).length := by rw [ecs, List.length_reverse]
      rw [hll] at hw ⊢
      refine ⟨_, ay_way _ hm48 yb (pg_cs t w lg kn P n sw ss sk fw rw fl ba hyc fr to) 0 0 S.2.1 S.1 _ _ _ _ _ _ hcs (by omega) (by omega) (fun i hi => ?_) Y.1 (fun b_lFrom b_lTo b_lNumber b_lParagraph b_lHyphen b_lLast Y' => ?_)⟩
      · rw [hw i hi, ecs, List.reverse_reverse]
      · refine br_f (by decide) (nm_r (nI_1 _) (hp _ _ _ _ _ _ _ _ _ _ _ _ _ _ _ _ _ _ _ ⟨Y', fun p hq => bst _ p rfl hq⟩))
theorem ly_scan {f : Nat} : ∀ d, (∀ j, f ≤ j → j < f + d → ¬ (j = n ∨ t j = 11)) → ly_at t w lg kn P n sw ss sk fw rw fl ba hyc (f + d) = ly_at t w lg kn P n sw ss sk fw rw fl ba hyc f := by
  intro d
  induction d with
  | zero => intro _; rfl
  | succ d ih =>
    intro h
    show ly_at t w lg kn P n sw ss sk fw rw fl ba hyc (f + d + 1) = _
    rw [ly_at, if_neg (h (f + d) (by omega) (by omega))]
    exact ih (fun j a b => h j a (by omega))
theorem yy_loop (post : SY → Prop) (C : cf_ok t w lg kn n fw rw fl sw ss sk ba hyc ph) (hpt : pt_ok P pc b_patA b_patB b_patC b_patDigits pa pb pq pd)
    (hp : ∀ g y_glyphCount y_breaks y_natural y_spaces b_glyphs b_glyphOf b_bEnd b_bNext b_bHyphen b_least b_before b_way b_lFrom b_lTo b_lNumber b_lParagraph b_lHyphen b_lLast b_best, yy_ok (ly_at t w lg kn P n sw ss sk fw rw fl ba hyc (n + 1)).1 b_lFrom b_lTo b_lNumber b_lParagraph b_lHyphen b_lLast b_best → wY_set_25 post (g + 1) (nI (n + 1)) (nI n) (nI lc) (nI pc) (nI fw) (nI rw) (nI fl) (nI sw) (nI ss) (nI sk) (nI ba) (nI hyc) (nI ph) y_ready y_glyphCount y_breaks y_natural y_spaces (nI (ly_at t w lg kn P n sw ss sk fw rw fl ba hyc (n + 1)).1.2.1) (nI (ly_at t w lg kn P n sw ss sk fw rw fl ba hyc (n + 1)).1.2.2.1) (gd_tI t) (gd_tI w) (gd_lI lg) (gd_kI kn) b_patA b_patB b_patC b_patDigits b_glyphs b_glyphOf b_bEnd b_bNext b_bHyphen b_least b_before b_way b_lFrom b_lTo b_lNumber b_lParagraph b_lPage b_lHyphen b_lLast b_best) :
    ∀ F f, n + 1 - f < F → f ≤ n + 1 → (ly_at t w lg kn P n sw ss sk fw rw fl ba hyc f).2 = f → ∀ y_glyphCount y_breaks y_natural y_spaces b_glyphs b_glyphOf b_bEnd b_bNext b_bHyphen b_least b_before b_way b_lFrom b_lTo b_lNumber b_lParagraph b_lHyphen b_lLast b_best, yy_ok (ly_at t w lg kn P n sw ss sk fw rw fl ba hyc f).1 b_lFrom b_lTo b_lNumber b_lParagraph b_lHyphen b_lLast b_best → wY_set_25 post F (nI f) (nI n) (nI lc) (nI pc) (nI fw) (nI rw) (nI fl) (nI sw) (nI ss) (nI sk) (nI ba) (nI hyc) (nI ph) y_ready y_glyphCount y_breaks y_natural y_spaces (nI (ly_at t w lg kn P n sw ss sk fw rw fl ba hyc f).1.2.1) (nI (ly_at t w lg kn P n sw ss sk fw rw fl ba hyc f).1.2.2.1) (gd_tI t) (gd_tI w) (gd_lI lg) (gd_kI kn) b_patA b_patB b_patC b_patDigits b_glyphs b_glyphOf b_bEnd b_bNext b_bHyphen b_least b_before b_way b_lFrom b_lTo b_lNumber b_lParagraph b_lPage b_lHyphen b_lLast b_best := by
  have hn := C.1
  have ht := C.2.1
  intro F
  induction F with
  | zero => intro f h; omega
  | succ F ih =>
    intro f hF hfn hf y_glyphCount y_breaks y_natural y_spaces b_glyphs b_glyphOf b_bEnd b_bNext b_bHyphen b_least b_before b_way b_lFrom b_lTo b_lNumber b_lParagraph b_lHyphen b_lLast b_best Y
    by_cases z : f = n + 1
    · subst z
      exact hp F _ _ _ _ _ _ _ _ _ _ _ _ _ _ _ _ _ _ _ Y
    · obtain ⟨I1, I2, I3, I4, I5, I6, I7, I8⟩ := ly_okA (P := P) (sw := sw) (ss := ss) (sk := sk) (fw := fw) (rw := rw) (fl := fl) (ba := ba) (hyc := hyc) C f hfn
      rw [hf] at I1 I2 I3 I4 I5 I8
      have fin : ∀ to, f ≤ to → to ≤ n → (∀ j, f ≤ j → j < to → ¬ (j = n ∨ t j = 11)) → (to = n ∨ t to = 11) → wY_set_60 post (wY_set_25 post F) (nI f) (nI to) (nI n) (nI lc) (nI pc) (nI fw) (nI rw) (nI fl) (nI sw) (nI ss) (nI sk) (nI ba) (nI hyc) (nI ph) y_ready y_glyphCount y_breaks y_natural y_spaces (nI (ly_at t w lg kn P n sw ss sk fw rw fl ba hyc f).1.2.1) (nI (ly_at t w lg kn P n sw ss sk fw rw fl ba hyc f).1.2.2.1) (gd_tI t) (gd_tI w) (gd_lI lg) (gd_kI kn) b_patA b_patB b_patC b_patDigits b_glyphs b_glyphOf b_bEnd b_bNext b_bHyphen b_least b_before b_way b_lFrom b_lTo b_lNumber b_lParagraph b_lPage b_lHyphen b_lLast b_best := by
        intro to h1 h2 h3 h4
        have es := ly_scan (w := w) (lg := lg) (kn := kn) (P := P) (sw := sw) (ss := ss) (sk := sk) (fw := fw) (rw := rw) (fl := fl) (ba := ba) (hyc := hyc) (n := n) (t := t) (f := f) (to - f) (fun j a b => h3 j a (by omega))
        rw [show f + (to - f) = to by omega] at es
        have e : ly_at t w lg kn P n sw ss sk fw rw fl ba hyc (to + 1) = (ly_p t w lg kn P n sw ss sk fw rw fl ba hyc f to (ly_at t w lg kn P n sw ss sk fw rw fl ba hyc f).1, to + 1) := by rw [ly_at, if_pos h4, es, hf]
        unfold wY_set_60
        refine yy_para C hpt h1 h2 (fun j a b c => h3 j a b (Or.inr c)) h4 (by omega) I4.1 (I5.2 (by omega)) Y (fun y_glyphCount y_breaks y_natural y_spaces b_glyphs b_glyphOf b_bEnd b_bNext b_bHyphen b_least b_before b_way b_lFrom b_lTo b_lNumber b_lParagraph b_lHyphen b_lLast b_best Y' => ?_)
        have := ih (to + 1) (by omega) (by omega) (by rw [e]) y_glyphCount y_breaks y_natural y_spaces b_glyphs b_glyphOf b_bEnd b_bNext b_bHyphen b_least b_before b_way b_lFrom b_lTo b_lNumber b_lParagraph b_lHyphen b_lLast b_best (by rw [e]; exact Y')
        rw [e] at this
        exact nm_r (nI_1 to) this
      have scan : ∀ d j, j + d = n → f ≤ j → (∀ q, f ≤ q → q < j → ¬ (q = n ∨ t q = 11)) → wY_set_35 post (wY_set_25 post F) (nI f) (nI n) (nI lc) (nI pc) (nI fw) (nI rw) (nI fl) (nI sw) (nI ss) (nI sk) (nI ba) (nI hyc) (nI ph) y_ready y_glyphCount y_breaks y_natural y_spaces (nI (ly_at t w lg kn P n sw ss sk fw rw fl ba hyc f).1.2.1) (nI (ly_at t w lg kn P n sw ss sk fw rw fl ba hyc f).1.2.2.1) (gd_tI t) (gd_tI w) (gd_lI lg) (gd_kI kn) b_patA b_patB b_patC b_patDigits b_glyphs b_glyphOf b_bEnd b_bNext b_bHyphen b_least b_before b_way b_lFrom b_lTo b_lNumber b_lParagraph b_lPage b_lHyphen b_lLast b_best (d + 1) (nI j) := by
        intro d
        induction d with
        | zero =>
          intro j hj h1 h2
          exact br_t (nI_le (by omega) (by omega)) (fin j h1 (by omega) h2 (Or.inl (by omega)))
        | succ d ihd =>
          intro j hj h1 h2
          refine br_f (nI_ge (by omega) (by omega)) ⟨vp_in_nI (by omega) (by omega), ?_⟩
          refine pk_eq (t j) 11 (fun c => fin j h1 (by omega) h2 (Or.inr c)) (fun c => ?_) (gd_rt (by omega)) rfl (by have := ht j; omega) (by omega)
          refine nm_r (nI_1 j) (ihd (j + 1) (by omega) (by omega) (fun q a b => ?_))
          by_cases q1 : q = j
          · subst q1; omega
          · exact h2 q a (by omega)
      exact br_f (nI_nlt (by omega) (by omega)) ⟨n - f + 1, scan (n - f) f (by omega) (Nat.le_refl _) (fun q a b => absurd a (by omega))⟩
end
