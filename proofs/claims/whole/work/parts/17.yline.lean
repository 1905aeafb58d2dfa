section
variable {σ : dp_S} {ln : Nat → Nat → Nat → Option (Nat × Nat)}
theorem dp_e_M {p k M : Nat} (hL : dp_ln ln) (hσ : ∀ s x, σ s = some x → s < M) (hk : 16 * k + 16 ≤ M) (j : Nat) : ∀ s x, dp_e ln p k σ j s = some x → s < M := by
  intro s x h
  by_cases e : s / 16 = k
  · omega
  · rw [dp_e_fr hL e] at h
    exact hσ s x h
end
section
variable {n lc pc fw rw fl sw ss sk ba hyc ph : Nat} {t w lg : Nat → Nat} {kn : Nat → Int}
variable {σ : dp_S} {m : Nat} {E N : Nat → Nat} {H : Nat → Bool}
variable {y_ready y_glyphCount y_breaks y_natural y_spaces y_lineCount y_paragraphs : Int32} {b_patA b_patB b_patC b_patDigits b_glyphs b_glyphOf b_bEnd b_bNext b_bHyphen b_before b_way b_lFrom b_lTo b_lNumber b_lParagraph b_lPage b_lHyphen b_lLast : Nat → Int32} {b_least b_best : Nat → Int64}
theorem dy_ext {post : SY → Prop} {p k : Nat} (C : cf_ok t w lg kn n fw rw fl sw ss sk ba hyc ph) (hm : m ≤ 48) (hpk : p < k) (hkm : k ≤ m) (hNp : b_bNext p = nI (N p)) (hEk : b_bEnd k = nI (E k)) (hH : ∀ k, k ≤ m → b_bHyphen k = gd_bI (H k))
    (hlt : N p < E k) (hEn : E k ≤ n) (hl : t (N p) < 10) (h11 : ∀ j, N p ≤ j → j < E k → t j ≠ 11)
    (hσ : ∀ s x, σ s = some x → s < 16 * (m + 1)) (hA : dp_arr (16 * (m + 1)) σ b_least b_before) (W : dp_wf σ)
    (hp : ∀ y_glyphCount y_natural y_spaces b_glyphs b_glyphOf b_least b_before, dp_arr (16 * (m + 1)) (dp_e (ln_v t lg w kn sw ss sk fw rw fl ba hyc m E N H) p k σ 16) b_least b_before → post ((nI n), (nI lc), (nI pc), (nI fw), (nI rw), (nI fl), (nI sw), (nI ss), (nI sk), (nI ba), (nI hyc), (nI ph), y_ready, y_glyphCount, (nI m), y_natural, y_spaces, y_lineCount, y_paragraphs, (gd_tI t), (gd_tI w), (gd_lI lg), (gd_kI kn), b_patA, b_patB, b_patC, b_patDigits, b_glyphs, b_glyphOf, b_bEnd, b_bNext, b_bHyphen, b_least, b_before, b_way, b_lFrom, b_lTo, b_lNumber, b_lParagraph, b_lPage, b_lHyphen, b_lLast, b_best)) :
    wpY_extend post ((nI n), (nI lc), (nI pc), (nI fw), (nI rw), (nI fl), (nI sw), (nI ss), (nI sk), (nI ba), (nI hyc), (nI ph), y_ready, y_glyphCount, (nI m), y_natural, y_spaces, y_lineCount, y_paragraphs, (gd_tI t), (gd_tI w), (gd_lI lg), (gd_kI kn), b_patA, b_patB, b_patC, b_patDigits, b_glyphs, b_glyphOf, b_bEnd, b_bNext, b_bHyphen, b_least, b_before, b_way, b_lFrom, b_lTo, b_lNumber, b_lParagraph, b_lPage, b_lHyphen, b_lLast, b_best) (nI p) (nI k) := by
  have hL : dp_ln (ln_v t lg w kn sw ss sk fw rw fl ba hyc m E N H) := ln_ok C
  obtain ⟨c1, c2, c3, c4, c5, c6, c7, c8, c9, c10, c11, c12, c13, c14⟩ := id C
  have hsc := rn_sc_le (t := t) (s := N p) (E k)
  have We : ∀ j, j ≤ 16 → dp_wf (dp_e (ln_v t lg w kn sw ss sk fw rw fl ba hyc m E N H) p k σ j) := dp_e_wf W hL (by omega) hpk
  have Me : ∀ j, ∀ s x, dp_e (ln_v t lg w kn sw ss sk fw rw fl ba hyc m E N H) p k σ j s = some x → s < 16 * (m + 1) := dp_e_M hL hσ (by omega)
  unfold wpY_extend
  refine by_meas c1 c2 (by omega) (by omega) hNp hEk (hH k hkm) hlt hEn hl h11 (fun y_glyphCount b_glyphs b_glyphOf => ?_)
  have hr : ∀ q, q ≤ m → b_bHyphen (nI q).toNatClampNeg = gd_bI (H q) := fun q hq => by rw [nI_clamp (by omega)]; exact hH q hq
  have loop : ∀ f j, j + f = 16 → ∀ b_least b_before, dp_arr (16 * (m + 1)) (dp_e (ln_v t lg w kn sw ss sk fw rw fl ba hyc m E N H) p k σ j) b_least b_before → wY_extend_11 post (nI p) (nI k) (f + 1) (nI (16 * p + j)) (nI n) (nI lc) (nI pc) (nI fw) (nI rw) (nI fl) (nI sw) (nI ss) (nI sk) (nI ba) (nI hyc) (nI ph) y_ready y_glyphCount (nI m) (gd_iI ((ln_w t lg w kn sw E N H) p k)) (nI (rn_sc t (N p) (E k))) y_lineCount y_paragraphs (gd_tI t) (gd_tI w) (gd_lI lg) (gd_kI kn) b_patA b_patB b_patC b_patDigits b_glyphs b_glyphOf b_bEnd b_bNext b_bHyphen b_least b_before b_way b_lFrom b_lTo b_lNumber b_lParagraph b_lPage b_lHyphen b_lLast b_best := by
    intro f
    induction f with
    | zero =>
      intro j hj b_least b_before hA
      have : j = 16 := by omega
      subst this
      refine br_t ?_ (hp _ _ _ _ _ _ _ hA)
      rw [show (16 : Int32) = nI 16 from rfl, pk_mul, nI_add]
      exact nI_le (by omega) (by omega)
    | succ f ih =>
      intro j hj b_least b_before hA
      have Wj := We j (by omega)
      have Mj := Me j
      have hd := ln_d_b (E := E) (N := N) (H := H) C (p := p) (k := k) (q := j / 4) (by omega)
      have hbv : -1 ≤ (ln_b t lg w kn sw ss sk fw rw fl m E N H) p k (j / 4) ∧ (ln_b t lg w kn sw ss sk fw rw fl m E N H) p k (j / 4) ≤ 10000 := bd_v_b _ _ _ _ _
      refine br_f ?_ ⟨vp_in_nI (by omega) (by omega), ?_⟩
      · rw [show (16 : Int32) = nI 16 from rfl, pk_mul, nI_add]
        exact nI_ge (by omega) (by omega)
      have hrd : b_least (nI (16 * p + j)).toNatClampNeg = b_least (16 * p + j) := by rw [nI_clamp (by omega)]
      cases hx : dp_e (ln_v t lg w kn sw ss sk fw rw fl ba hyc m E N H) p k σ j (16 * p + j) with
      | none =>
        have hv := (hA _ (by omega)).1 hx
        refine br_f (by rw [hrd, hv]; decide) (nm_r (nI_1 _) (ih (j + 1) (by omega) _ _ ?_))
        have : dp_e (ln_v t lg w kn sw ss sk fw rw fl ba hyc m E N H) p k σ (j + 1) = dp_e (ln_v t lg w kn sw ss sk fw rw fl ba hyc m E N H) p k σ j := by
          show dp_s _ p k (dp_e (ln_v t lg w kn sw ss sk fw rw fl ba hyc m E N H) p k σ j) j = _
          rw [dp_s, hx]
        rw [this]; exact hA
      | some x =>
        have hv := ((hA _ (by omega)).2 x hx).1
        have hvb := dp_wf_v Wj hx
        refine br_t (by rw [hrd, hv]; exact (pk_lLE (a := 0) (by omega) (by omega)).mpr (by omega)) ⟨by decide, by decide, nm_r (e' := nI (j / 4)) ?_ ?_⟩
        · rw [show (16 : Int32) = nI 16 from rfl, show (4 : Int32) = nI 4 from rfl, pk_rem (by omega) (by omega) (by omega), pk_div (by omega) (by omega) (by omega)]
          congr 1; omega
        refine by_due (by omega) c7 (nm_r (e' := gd_iI ((ln_d t lg w kn sw fw rw fl E N H) p k (j / 4))) (by rw [gd_nat, gd_sub]; rfl) ?_)
        have skip : (ln_v t lg w kn sw ss sk fw rw fl ba hyc m E N H) p k (j / 4) = none → wY_extend_11 post (nI p) (nI k) (f + 1) (nI (16 * p + j) + 1) (nI n) (nI lc) (nI pc) (nI fw) (nI rw) (nI fl) (nI sw) (nI ss) (nI sk) (nI ba) (nI hyc) (nI ph) y_ready y_glyphCount (nI m) (gd_iI ((ln_w t lg w kn sw E N H) p k)) (nI (rn_sc t (N p) (E k))) y_lineCount y_paragraphs (gd_tI t) (gd_tI w) (gd_lI lg) (gd_kI kn) b_patA b_patB b_patC b_patDigits b_glyphs b_glyphOf b_bEnd b_bNext b_bHyphen b_least b_before b_way b_lFrom b_lTo b_lNumber b_lParagraph b_lPage b_lHyphen b_lLast b_best := by
          intro e
          rw [nI_1]
          refine ih (j + 1) (by omega) _ _ ?_
          have : dp_e (ln_v t lg w kn sw ss sk fw rw fl ba hyc m E N H) p k σ (j + 1) = dp_e (ln_v t lg w kn sw ss sk fw rw fl ba hyc m E N H) p k σ j := by
            show dp_s _ p k (dp_e (ln_v t lg w kn sw ss sk fw rw fl ba hyc m E N H) p k σ j) j = _
            rw [dp_s, hx, e]
          rw [this]; exact hA
        have key : ∀ z0, z0 = gd_bI (decide (k = m)) → wY_extend_73 post (wY_extend_11 post (nI p) (nI k) (f + 1)) (nI p) (nI k) (nI (16 * p + j)) (nI (j / 4)) (gd_iI ((ln_d t lg w kn sw fw rw fl E N H) p k (j / 4))) z0 (gd_iI ((ln_d t lg w kn sw fw rw fl E N H) p k (j / 4))) (nI n) (nI lc) (nI pc) (nI fw) (nI rw) (nI fl) (nI sw) (nI ss) (nI sk) (nI ba) (nI hyc) (nI ph) y_ready y_glyphCount (nI m) (gd_iI ((ln_w t lg w kn sw E N H) p k)) (nI (rn_sc t (N p) (E k))) y_lineCount y_paragraphs (gd_tI t) (gd_tI w) (gd_lI lg) (gd_kI kn) b_patA b_patB b_patC b_patDigits b_glyphs b_glyphOf b_bEnd b_bNext b_bHyphen b_least b_before b_way b_lFrom b_lTo b_lNumber b_lParagraph b_lPage b_lHyphen b_lLast b_best := by
          intro z0 hz
          subst hz
          unfold wY_extend_73
          refine by_bad hd c9 c10 (by omega) ?_
          rw [show bd_v ss sk ((ln_d t lg w kn sw fw rw fl E N H) p k (j / 4)) (rn_sc t (N p) (E k)) (decide (k = m)) = (ln_b t lg w kn sw ss sk fw rw fl m E N H) p k (j / 4) from rfl]
          refine gd_zlt ((ln_b t lg w kn sw ss sk fw rw fl m E N H) p k (j / 4)) 0 (fun y => ?_) (fun y => ?_) rfl rfl (by omega) (by omega)
          · exact nm_e (skip (by rw [ln_v, if_neg (by omega)]))
          · refine gd_zle ((ln_b t lg w kn sw ss sk fw rw fl m E N H) p k (j / 4)) ba (fun y2 => ?_) (fun y2 => ?_) rfl (gd_nat ba) (by omega) (by omega)
            · refine by_cls hbv hd ?_
              have eb : gd_iI ((ln_b t lg w kn sw ss sk fw rw fl m E N H) p k (j / 4)) = nI ((ln_b t lg w kn sw ss sk fw rw fl m E N H) p k (j / 4)).toNat := by rw [gd_nat]; congr 1; omega
              rw [eb]
              have hcl := bd_c_b ((ln_b t lg w kn sw ss sk fw rw fl m E N H) p k (j / 4)) ((ln_d t lg w kn sw fw rw fl E N H) p k (j / 4))
              have hln : (ln_v t lg w kn sw ss sk fw rw fl ba hyc m E N H) p k (j / 4) = some (bd_c ((ln_b t lg w kn sw ss sk fw rw fl m E N H) p k (j / 4)) ((ln_d t lg w kn sw fw rw fl E N H) p k (j / 4)), ln_o hyc H ((ln_b t lg w kn sw ss sk fw rw fl m E N H) p k (j / 4)).toNat p k) := by rw [ln_v, if_pos (by omega)]
              have hbN : ((ln_b t lg w kn sw ss sk fw rw fl m E N H) p k (j / 4)).toNat ≤ 10000 := by omega
              have hob := ln_o_b (H := H) (p := p) (k := k) hbN c12
              generalize ((ln_b t lg w kn sw ss sk fw rw fl m E N H) p k (j / 4)).toNat = bN at *
              generalize hc : bd_c ((ln_b t lg w kn sw ss sk fw rw fl m E N H) p k (j / 4)) ((ln_d t lg w kn sw fw rw fl E N H) p k (j / 4)) = cl at *
              generalize ho : ln_o hyc H bN p k = own at *
              have hstep : dp_e (ln_v t lg w kn sw ss sk fw rw fl ba hyc m E N H) p k σ (j + 1) = dp_offer (dp_e (ln_v t lg w kn sw ss sk fw rw fl ba hyc m E N H) p k σ j) (16 * k + 4 * dp_nx (j / 4) + cl) (x.1 + own + dp_jp cl (j % 4)) (16 * p + j) := by
                show dp_s _ p k (dp_e (ln_v t lg w kn sw ss sk fw rw fl ba hyc m E N H) p k σ j) j = _
                rw [dp_s, hx, hln]
              have hjp := dp_jp_b cl (j % 4)
              have hnx := dp_nx_b (j / 4)
              have fin208 : wY_extend_208 post (wY_extend_11 post (nI p) (nI k) (f + 1)) (nI p) (nI k) (nI (16 * p + j)) (nI (j / 4)) (nI cl) (lN (x.1 + own + dp_jp cl (j % 4))) (nI n) (nI lc) (nI pc) (nI fw) (nI rw) (nI fl) (nI sw) (nI ss) (nI sk) (nI ba) (nI hyc) (nI ph) y_ready y_glyphCount (nI m) (gd_iI ((ln_w t lg w kn sw E N H) p k)) (nI (rn_sc t (N p) (E k))) y_lineCount y_paragraphs (gd_tI t) (gd_tI w) (gd_lI lg) (gd_kI kn) b_patA b_patB b_patC b_patDigits b_glyphs b_glyphOf b_bEnd b_bNext b_bHyphen b_least b_before b_way b_lFrom b_lTo b_lNumber b_lParagraph b_lPage b_lHyphen b_lLast b_best := by
                have st : ∀ z0 : Int32, z0 = nI (dp_nx (j / 4)) → wY_extend_228 post (wY_extend_11 post (nI p) (nI k) (f + 1)) (nI p) (nI k) (nI (16 * p + j)) (nI cl) (lN (x.1 + own + dp_jp cl (j % 4))) z0 4 (16 * nI k) (nI n) (nI lc) (nI pc) (nI fw) (nI rw) (nI fl) (nI sw) (nI ss) (nI sk) (nI ba) (nI hyc) (nI ph) y_ready y_glyphCount (nI m) (gd_iI ((ln_w t lg w kn sw E N H) p k)) (nI (rn_sc t (N p) (E k))) y_lineCount y_paragraphs (gd_tI t) (gd_tI w) (gd_lI lg) (gd_kI kn) b_patA b_patB b_patC b_patDigits b_glyphs b_glyphOf b_bEnd b_bNext b_bHyphen b_least b_before b_way b_lFrom b_lTo b_lNumber b_lParagraph b_lPage b_lHyphen b_lLast b_best := by
                  intro z0 hz
                  subst hz
                  unfold wY_extend_228
                  rw [show (16 : Int32) = nI 16 from rfl, show (4 : Int32) = nI 4 from rfl, pk_mul, pk_mul, nI_add, nI_add]
                  refine dy_offer (M := 16 * (m + 1)) (by omega) Mj hA Wj (by omega) (by omega) hx (by omega) (fun b_least b_before hA' => ?_)
                  exact nm_r (nI_1 (16 * p + j)) (ih (j + 1) (by omega) _ _ (by rw [hstep]; exact hA'))
                refine pk_le 3 (j / 4) (fun y3 => st _ ?_) (fun y3 => st _ ?_)
                · rw [dp_nx, if_pos y3]; rfl
                · rw [dp_nx, if_neg (by omega), nI_1]
              have st176 : ∀ (z0 : Int32) (z1 : Int64), z1 + z0.toInt64 = lN (x.1 + own) → wY_extend_176 post (wY_extend_11 post (nI p) (nI k) (f + 1)) (nI p) (nI k) (nI (16 * p + j)) (nI (j / 4)) (nI cl) z0 z1 (nI n) (nI lc) (nI pc) (nI fw) (nI rw) (nI fl) (nI sw) (nI ss) (nI sk) (nI ba) (nI hyc) (nI ph) y_ready y_glyphCount (nI m) (gd_iI ((ln_w t lg w kn sw E N H) p k)) (nI (rn_sc t (N p) (E k))) y_lineCount y_paragraphs (gd_tI t) (gd_tI w) (gd_lI lg) (gd_kI kn) b_patA b_patB b_patC b_patDigits b_glyphs b_glyphOf b_bEnd b_bNext b_bHyphen b_least b_before b_way b_lFrom b_lTo b_lNumber b_lParagraph b_lPage b_lHyphen b_lLast b_best := by
                intro z0 z1 hz
                have j1 : cl + 1 < j % 4 ∨ j % 4 + 1 < cl → dp_jp cl (j % 4) = 2000 := fun h => by rw [dp_jp, if_pos h]
                have j0 : ¬ (cl + 1 < j % 4 ∨ j % 4 + 1 < cl) → dp_jp cl (j % 4) = 0 := fun h => by rw [dp_jp, if_neg h]
                refine nm_r hz ⟨by decide, nm_r (e' := gd_iI ((cl : Int) - (j % 4 : Nat))) ?_ ?_⟩
                · rw [show (4 : Int32) = nI 4 from rfl, pk_rem (by omega) (by omega) (by omega), show (16 * p + j) % 4 = j % 4 by omega, gd_nat, gd_nat (j % 4), gd_sub]
                · refine gd_zlt 1 ((cl : Int) - (j % 4 : Nat)) (fun y3 => ?_) (fun y3 => ?_) rfl rfl (by omega) (by omega)
                  · refine nm_r (e' := lN (x.1 + own + dp_jp cl (j % 4))) ?_ fin208
                    rw [j1 (by omega), show (2000 : Int64) = lN 2000 from rfl, lN_add]
                  · refine gd_zle (-1) ((cl : Int) - (j % 4 : Nat)) (fun y4 => ?_) (fun y4 => ?_) rfl rfl (by omega) (by omega)
                    · rw [j0 (by omega)] at fin208
                      exact fin208
                    · refine nm_r (e' := lN (x.1 + own + dp_jp cl (j % 4))) ?_ fin208
                      rw [j1 (by omega), show (2000 : Int64) = lN 2000 from rfl, lN_add]
              have hz1 : b_least (nI (16 * p + j)).toNatClampNeg + (10 + (nI bN).toInt64) * (10 + nI bN).toInt64 = lN (x.1 + (10 + bN) * (10 + bN)) := by
                rw [hrd, hv, show (10 : Int32) = nI 10 from rfl, nI_add, nI_l (by omega), nI_l (by omega), show (10 : Int64) = lN 10 from rfl, lN_add, lN_mul, lN_add]
              rw [ln_o] at ho
              refine ⟨vp_in_nI (by omega) (by omega), vp_in_nI (by omega) (by omega), ?_⟩
              refine gd_bx (H k) (hr k hkm) (fun zk => ?_) (fun zk => ?_)
              · rw [if_neg (by rw [zk]; decide), if_neg (by rw [zk]; simp)] at ho
                refine ⟨vp_in_nI (by omega) (by omega), gd_bx (H k) (hr k hkm) (fun _ => st176 _ _ ?_) (fun q => absurd q (by rw [zk]; decide))⟩
                rw [hz1, show (0 : Int64) = lN 0 from rfl, lN_add, show (0 : Int32).toInt64 = lN 0 from rfl, lN_add]
                congr 1; omega
              · rw [if_pos zk] at ho
                refine ⟨vp_in_nI (by omega) (by omega), gd_bx (H k) (hr k hkm) (fun q => absurd q (by rw [zk]; decide)) (fun _ => ⟨vp_in_nI (by omega) (by omega), gd_bx (H p) (hr p (by omega)) (fun zp => st176 _ _ ?_) (fun zp => st176 _ _ ?_)⟩)⟩
                · rw [if_neg (by rw [zp]; simp)] at ho
                  rw [hz1, nI_l (by omega), lN_mul, lN_add, show (0 : Int32).toInt64 = lN 0 from rfl, lN_add]
                  congr 1; omega
                · rw [if_pos ⟨zk, zp⟩] at ho
                  rw [hz1, nI_l (by omega), lN_mul, lN_add, show (3000 : Int32).toInt64 = lN 3000 from by decide, lN_add]
                  congr 1; omega
            · exact nm_e (skip (by rw [ln_v, if_neg (by omega)]))
        refine pk_eq k m (fun y => key _ (by rw [decide_eq_true y]; rfl)) (fun y => key _ (by rw [decide_eq_false y]; rfl))
  refine nm_r (e' := nI (16 * p + 0)) (by rw [show (16 : Int32) = nI 16 from rfl, pk_mul]; rfl) ⟨17, loop 16 0 (by omega) _ _ hA⟩
end
