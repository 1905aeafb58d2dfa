/-! the lines between two breaks: width, difference, badness, kind and demerits -/
def ln_w (t lg w : Nat → Nat) (kn : Nat → Int) (sw : Nat) (E N : Nat → Nat) (H : Nat → Bool) (p k : Nat) : Int := rn_x t lg w kn sw (N p) (E k) (E k) + cond (H k) 5 0
def ln_d (t lg w : Nat → Nat) (kn : Nat → Int) (sw fw rw fl : Nat) (E N : Nat → Nat) (H : Nat → Bool) (p k q : Nat) : Int := (bd_due fw rw fl q : Int) - ln_w t lg w kn sw E N H p k
def ln_b (t lg w : Nat → Nat) (kn : Nat → Int) (sw ss sk fw rw fl m : Nat) (E N : Nat → Nat) (H : Nat → Bool) (p k q : Nat) : Int := bd_v ss sk (ln_d t lg w kn sw fw rw fl E N H p k q) (rn_sc t (N p) (E k)) (decide (k = m))
def ln_o (hyc : Nat) (H : Nat → Bool) (b p k : Nat) : Nat := (10 + b) * (10 + b) + (if H k = true then hyc * hyc else 0) + (if H k = true ∧ H p = true then 3000 else 0)
def ln_v (t lg w : Nat → Nat) (kn : Nat → Int) (sw ss sk fw rw fl ba hyc m : Nat) (E N : Nat → Nat) (H : Nat → Bool) (p k q : Nat) : Option (Nat × Nat) :=
  if 0 ≤ ln_b t lg w kn sw ss sk fw rw fl m E N H p k q ∧ ln_b t lg w kn sw ss sk fw rw fl m E N H p k q ≤ ba then
    some (bd_c (ln_b t lg w kn sw ss sk fw rw fl m E N H p k q) (ln_d t lg w kn sw fw rw fl E N H p k q), ln_o hyc H (ln_b t lg w kn sw ss sk fw rw fl m E N H p k q).toNat p k) else none
/-- the settings are small -/
def cf_ok (t w lg : Nat → Nat) (kn : Nat → Int) (n fw rw fl sw ss sk ba hyc ph : Nat) : Prop :=
  n ≤ 48 ∧ (∀ i, t i ≤ 11) ∧ (∀ i, w i ≤ 30) ∧ (∀ i, -5 ≤ kn i ∧ kn i ≤ 5) ∧ fw ≤ 300 ∧ rw ≤ 300 ∧ fl ≤ 3 ∧ sw ≤ 20 ∧ ss ≤ 20 ∧ sk ≤ 20 ∧ ba ≤ 10000 ∧ hyc ≤ 200 ∧ 1 ≤ ph ∧ ph ≤ 12
section
variable {t w lg : Nat → Nat} {kn : Nat → Int} {n fw rw fl sw ss sk ba hyc ph m : Nat} {E N : Nat → Nat} {H : Nat → Bool}
theorem ln_w_b (C : cf_ok t w lg kn n fw rw fl sw ss sk ba hyc ph) {p k : Nat} (hE : E k ≤ 48) : -1000 ≤ (ln_w t lg w kn sw E N H) p k ∧ (ln_w t lg w kn sw E N H) p k ≤ 3000 := by
  obtain ⟨c1, c2, c3, c4, c5, c6, c7, c8, c9, c10, c11, c12, c13, c14⟩ := C
  have h1 := rn_x_b (t := t) (lg := lg) (s := N p) (e := E k) c8 c4 c3 (E k)
  have h2 : (0 : Int) ≤ cond (H k) 5 0 ∧ (cond (H k) 5 0 : Int) ≤ 5 := by cases H k <;> decide
  rw [ln_w]
  omega
theorem bd_due_b (C : cf_ok t w lg kn n fw rw fl sw ss sk ba hyc ph) (q : Nat) : bd_due fw rw fl q ≤ 300 := by
  obtain ⟨c1, c2, c3, c4, c5, c6, c7, c8, c9, c10, c11, c12, c13, c14⟩ := C
  rw [bd_due]
  split <;> assumption
theorem ln_d_b (C : cf_ok t w lg kn n fw rw fl sw ss sk ba hyc ph) {p k q : Nat} (hE : E k ≤ 48) : -10000 ≤ (ln_d t lg w kn sw fw rw fl E N H) p k q ∧ (ln_d t lg w kn sw fw rw fl E N H) p k q ≤ 10000 := by
  have h1 := ln_w_b (N := N) (H := H) C (p := p) hE
  have h2 := bd_due_b C q
  rw [ln_d]
  omega
theorem ln_o_b {b p k : Nat} (hb : b ≤ 10000) (hh : hyc ≤ 200) : ln_o hyc H b p k ≤ 100990000 ∧ (10 + b) * (10 + b) ≤ 100200100 ∧ hyc * hyc ≤ 40000 := by
  have h1 : (10 + b) * (10 + b) ≤ 10010 * 10010 := Nat.mul_le_mul (by omega) (by omega)
  have h2 : hyc * hyc ≤ 200 * 200 := Nat.mul_le_mul hh hh
  refine ⟨?_, by omega, by omega⟩
  rw [ln_o]
  have a1 : (if H k = true then hyc * hyc else 0) ≤ 40000 := by split <;> omega
  have a2 : (if H k = true ∧ H p = true then 3000 else 0) ≤ 3000 := by split <;> omega
  omega
theorem ln_ok (C : cf_ok t w lg kn n fw rw fl sw ss sk ba hyc ph) : dp_ln (ln_v t lg w kn sw ss sk fw rw fl ba hyc m E N H) := by
  intro p k q y h
  rw [ln_v] at h
  by_cases c : 0 ≤ (ln_b t lg w kn sw ss sk fw rw fl m E N H) p k q ∧ (ln_b t lg w kn sw ss sk fw rw fl m E N H) p k q ≤ ba
  · rw [if_pos c] at h
    cases h
    have hb := (bd_v_b ss sk ((ln_d t lg w kn sw fw rw fl E N H) p k q) (rn_sc t (N p) (E k)) (decide (k = m))).2
    have e : (ln_b t lg w kn sw ss sk fw rw fl m E N H) p k q ≤ 10000 := hb
    exact ⟨bd_c_b _ _, (ln_o_b (by omega) C.2.2.2.2.2.2.2.2.2.2.2.1).1⟩
  · rw [if_neg c] at h
    exact absurd h (by simp)
end
section
variable {n lc pc fw rw fl sw ss sk ba hyc ph : Nat} {t w lg : Nat → Nat} {kn : Nat → Int}
variable {σ : dp_S} {m : Nat} {E N : Nat → Nat} {H : Nat → Bool}
variable {x_breakCount x_lineCount x_paragraphCount x_stale : Int32} {a_patterns a_heads a_glyphs a_breakEnd a_breakNext a_breakHyphen a_breakTaken a_wayBefore a_lineFacts : Nat → Int32} {a_wayDemerits a_paragraphDemerits : Nat → Int64}
theorem dx_own {post : Int32 → Prop} {b p k : Nat} (hm : m ≤ 48) (hb : b ≤ 10000) (hh : hyc ≤ 200) (hp : p ≤ m) (hk : k ≤ m) (hH : ∀ k, k ≤ m → a_breakHyphen k = gd_bI (H k)) (hpo : post (nI (ln_o hyc H b p k))) : wpX_lineDemerits post ((nI n), (nI lc), (nI pc), (nI fw), (nI rw), (nI fl), (nI sw), (nI ss), (nI sk), (nI ba), (nI hyc), (nI ph), x_breakCount, x_lineCount, x_paragraphCount, x_stale, (gd_tI t), (gd_tI w), (gd_lI lg), (gd_kI kn), a_patterns, a_heads, a_glyphs, a_breakEnd, a_breakNext, a_breakHyphen, a_breakTaken, a_wayDemerits, a_wayBefore, a_lineFacts, a_paragraphDemerits) (nI b) (nI p) (nI k) := by
  have B := ln_o_b (H := H) (p := p) (k := k) hb hh
  have r : ∀ q, q ≤ m → a_breakHyphen (nI q).toNatClampNeg = gd_bI (H q) := fun q hq => by rw [nI_clamp (by omega)]; exact hH q hq
  rw [ln_o] at hpo
  refine nm_r (e' := nI ((10 + b) * (10 + b))) (by rw [show (10 : Int32) = nI 10 from rfl, nI_add, pk_mul]) ⟨vp_in_nI (by omega) (by omega), ?_⟩
  refine gd_bx (H k) (r k hk) (fun z => ?_) (fun z => ?_)
  · rw [if_neg (by rw [z]; decide), if_neg (by rw [z]; simp)] at hpo
    refine ⟨vp_in_nI (by omega) (by omega), gd_bx (H p) (r p hp) (fun y => hpo) (fun y => ⟨vp_in_nI (by omega) (by omega), gd_bx (H k) (r k hk) (fun y2 => hpo) (fun y2 => ?_)⟩)⟩
    rw [z] at y2
    exact absurd y2 (by decide)
  · rw [if_pos z] at hpo
    refine nm_r (e' := nI ((10 + b) * (10 + b) + hyc * hyc)) (by rw [pk_mul, nI_add]) ⟨vp_in_nI (by omega) (by omega), gd_bx (H p) (r p hp) (fun y => ?_) (fun y => ⟨vp_in_nI (by omega) (by omega), gd_bx (H k) (r k hk) (fun y2 => ?_) (fun y2 => ?_)⟩)⟩
    · rw [if_neg (by rw [y]; simp)] at hpo; exact hpo
    · rw [z] at y2; exact absurd y2 (by decide)
    · rw [if_pos ⟨z, y⟩] at hpo
      exact nm_r (e' := nI ((10 + b) * (10 + b) + hyc * hyc + 3000)) (by rw [show (3000 : Int32) = nI 3000 from rfl, nI_add]) hpo
theorem dx_try {post : SX → Prop} {a b : Nat} (C : cf_ok t w lg kn n fw rw fl sw ss sk ba hyc ph) (hm : m ≤ 48) (hab : a < b) (hbm : b ≤ m) (hE : E b ≤ 48) (hH : ∀ k, k ≤ m → a_breakHyphen k = gd_bI (H k)) (hA : dp_arr 784 σ a_wayDemerits a_wayBefore) (W : dp_wf σ)
    (hp : ∀ a_wayDemerits a_wayBefore, dp_arr 784 (dp_e (ln_v t lg w kn sw ss sk fw rw fl ba hyc m E N H) a b σ 16) a_wayDemerits a_wayBefore → post ((nI n), (nI lc), (nI pc), (nI fw), (nI rw), (nI fl), (nI sw), (nI ss), (nI sk), (nI ba), (nI hyc), (nI ph), (nI (m + 1)), x_lineCount, x_paragraphCount, x_stale, (gd_tI t), (gd_tI w), (gd_lI lg), (gd_kI kn), a_patterns, a_heads, a_glyphs, a_breakEnd, a_breakNext, a_breakHyphen, a_breakTaken, a_wayDemerits, a_wayBefore, a_lineFacts, a_paragraphDemerits)) :
    wpX_tryLine post ((nI n), (nI lc), (nI pc), (nI fw), (nI rw), (nI fl), (nI sw), (nI ss), (nI sk), (nI ba), (nI hyc), (nI ph), (nI (m + 1)), x_lineCount, x_paragraphCount, x_stale, (gd_tI t), (gd_tI w), (gd_lI lg), (gd_kI kn), a_patterns, a_heads, a_glyphs, a_breakEnd, a_breakNext, a_breakHyphen, a_breakTaken, a_wayDemerits, a_wayBefore, a_lineFacts, a_paragraphDemerits) (nI a) (nI b) (gd_iI ((ln_w t lg w kn sw E N H) a b)) (nI (rn_sc t (N a) (E b))) := by
  have hL : dp_ln (ln_v t lg w kn sw ss sk fw rw fl ba hyc m E N H) := ln_ok C
  obtain ⟨c1, c2, c3, c4, c5, c6, c7, c8, c9, c10, c11, c12, c13, c14⟩ := id C
  have hsc := rn_sc_le (t := t) (s := N a) (E b)
  have We : ∀ j, j ≤ 16 → dp_wf (dp_e (ln_v t lg w kn sw ss sk fw rw fl ba hyc m E N H) a b σ j) := dp_e_wf W hL (by omega) hab
  have loop : ∀ f q, q + f = 4 → ∀ a_wayDemerits a_wayBefore, dp_arr 784 (dp_e (ln_v t lg w kn sw ss sk fw rw fl ba hyc m E N H) a b σ (4 * q)) a_wayDemerits a_wayBefore → wX_tryLine_3 post (nI a) (nI b) (gd_iI ((ln_w t lg w kn sw E N H) a b)) (nI (rn_sc t (N a) (E b))) (f + 1) (nI q) (nI n) (nI lc) (nI pc) (nI fw) (nI rw) (nI fl) (nI sw) (nI ss) (nI sk) (nI ba) (nI hyc) (nI ph) (nI (m + 1)) x_lineCount x_paragraphCount x_stale (gd_tI t) (gd_tI w) (gd_lI lg) (gd_kI kn) a_patterns a_heads a_glyphs a_breakEnd a_breakNext a_breakHyphen a_breakTaken a_wayDemerits a_wayBefore a_lineFacts a_paragraphDemerits := by
    intro f
    induction f with
    | zero =>
      intro q hq a_wayDemerits a_wayBefore hA
      have : q = 4 := by omega
      subst this
      exact br_t (by decide) (hp _ _ hA)
    | succ f ih =>
      intro q hq a_wayDemerits a_wayBefore hA
      have hd := ln_d_b (N := N) (H := H) C (p := a) (q := q) hE
      have hbv : -1 ≤ (ln_b t lg w kn sw ss sk fw rw fl m E N H) a b q ∧ (ln_b t lg w kn sw ss sk fw rw fl m E N H) a b q ≤ 10000 := bd_v_b _ _ _ _ _
      refine br_f (nI_ge (b := 4) (by omega) (by decide)) (bx_due (by omega) c7 ?_)
      refine nm_r (e' := gd_iI ((ln_d t lg w kn sw fw rw fl E N H) a b q)) (by rw [gd_nat, gd_sub]; rfl) ?_
      have skip : (ln_v t lg w kn sw ss sk fw rw fl ba hyc m E N H) a b q = none → wX_tryLine_3 post (nI a) (nI b) (gd_iI ((ln_w t lg w kn sw E N H) a b)) (nI (rn_sc t (N a) (E b))) (f + 1) (nI (q + 1)) (nI n) (nI lc) (nI pc) (nI fw) (nI rw) (nI fl) (nI sw) (nI ss) (nI sk) (nI ba) (nI hyc) (nI ph) (nI (m + 1)) x_lineCount x_paragraphCount x_stale (gd_tI t) (gd_tI w) (gd_lI lg) (gd_kI kn) a_patterns a_heads a_glyphs a_breakEnd a_breakNext a_breakHyphen a_breakTaken a_wayDemerits a_wayBefore a_lineFacts a_paragraphDemerits := by
        intro e
        have st : ∀ j, j < 4 → dp_e (ln_v t lg w kn sw ss sk fw rw fl ba hyc m E N H) a b σ (4 * q + j + 1) = dp_e (ln_v t lg w kn sw ss sk fw rw fl ba hyc m E N H) a b σ (4 * q + j) := by
          intro j hj
          show dp_s _ a b (dp_e (ln_v t lg w kn sw ss sk fw rw fl ba hyc m E N H) a b σ (4 * q + j)) (4 * q + j) = _
          rw [dp_s, show (4 * q + j) / 4 = q by omega, e]
          split <;> rfl
        have e4 : dp_e (ln_v t lg w kn sw ss sk fw rw fl ba hyc m E N H) a b σ (4 * (q + 1)) = dp_e (ln_v t lg w kn sw ss sk fw rw fl ba hyc m E N H) a b σ (4 * q) := by
          rw [show 4 * (q + 1) = 4 * q + 3 + 1 by omega, st 3 (by omega), show 4 * q + 3 = 4 * q + 2 + 1 by omega, st 2 (by omega), show 4 * q + 2 = 4 * q + 1 + 1 by omega, st 1 (by omega), show 4 * q + 1 = 4 * q + 0 + 1 by omega, st 0 (by omega)]; rfl
        exact ih (q + 1) (by omega) _ _ (by rw [e4]; exact hA)
      have key : ∀ z0, z0 = gd_bI (decide (b = m)) → wX_tryLine_39 post (wX_tryLine_3 post (nI a) (nI b) (gd_iI ((ln_w t lg w kn sw E N H) a b)) (nI (rn_sc t (N a) (E b))) (f + 1)) (nI a) (nI b) (gd_iI ((ln_w t lg w kn sw E N H) a b)) (nI (rn_sc t (N a) (E b))) (nI q) (gd_iI ((ln_d t lg w kn sw fw rw fl E N H) a b q)) z0 (nI (rn_sc t (N a) (E b))) (gd_iI ((ln_d t lg w kn sw fw rw fl E N H) a b q)) (nI n) (nI lc) (nI pc) (nI fw) (nI rw) (nI fl) (nI sw) (nI ss) (nI sk) (nI ba) (nI hyc) (nI ph) (nI (m + 1)) x_lineCount x_paragraphCount x_stale (gd_tI t) (gd_tI w) (gd_lI lg) (gd_kI kn) a_patterns a_heads a_glyphs a_breakEnd a_breakNext a_breakHyphen a_breakTaken a_wayDemerits a_wayBefore a_lineFacts a_paragraphDemerits := by
        intro z0 hz
        subst hz
        unfold wX_tryLine_39
        refine bx_bad hd c9 c10 (by omega) ?_
        rw [show bd_v ss sk ((ln_d t lg w kn sw fw rw fl E N H) a b q) (rn_sc t (N a) (E b)) (decide (b = m)) = (ln_b t lg w kn sw ss sk fw rw fl m E N H) a b q from rfl]
        refine gd_zeq ((ln_b t lg w kn sw ss sk fw rw fl m E N H) a b q) (-1) (fun y => ?_) (fun y => ?_) rfl rfl (by omega) (by omega)
        · exact nm_r (nI_1 q) (skip (by rw [ln_v, if_neg (by omega)]))
        · refine gd_zle ((ln_b t lg w kn sw ss sk fw rw fl m E N H) a b q) ba (fun y2 => ?_) (fun y2 => ?_) rfl (gd_nat ba) (by omega) (by omega)
          · refine bx_cls hbv hd ?_
            have eb : gd_iI ((ln_b t lg w kn sw ss sk fw rw fl m E N H) a b q) = nI ((ln_b t lg w kn sw ss sk fw rw fl m E N H) a b q).toNat := by rw [gd_nat]; congr 1; omega
            rw [eb]
            have hcl := bd_c_b ((ln_b t lg w kn sw ss sk fw rw fl m E N H) a b q) ((ln_d t lg w kn sw fw rw fl E N H) a b q)
            refine dx_own hm (by omega) c12 (by omega) hbm hH ?_
            have hln : (ln_v t lg w kn sw ss sk fw rw fl ba hyc m E N H) a b q = some (bd_c ((ln_b t lg w kn sw ss sk fw rw fl m E N H) a b q) ((ln_d t lg w kn sw fw rw fl E N H) a b q), ln_o hyc H ((ln_b t lg w kn sw ss sk fw rw fl m E N H) a b q).toNat a b) := by rw [ln_v, if_pos (by omega)]
            have hob := ln_o_b (H := H) (p := a) (k := b) (show ((ln_b t lg w kn sw ss sk fw rw fl m E N H) a b q).toNat ≤ 10000 by omega) c12
            generalize ho : ln_o hyc H ((ln_b t lg w kn sw ss sk fw rw fl m E N H) a b q).toNat a b = own at *
            generalize hc : bd_c ((ln_b t lg w kn sw ss sk fw rw fl m E N H) a b q) ((ln_d t lg w kn sw fw rw fl E N H) a b q) = cl at *
            have in111 : ∀ g cb, cb + g = 4 → ∀ a_wayDemerits a_wayBefore, dp_arr 784 (dp_e (ln_v t lg w kn sw ss sk fw rw fl ba hyc m E N H) a b σ (4 * q + cb)) a_wayDemerits a_wayBefore → wX_tryLine_111 post (wX_tryLine_3 post (nI a) (nI b) (gd_iI ((ln_w t lg w kn sw E N H) a b)) (nI (rn_sc t (N a) (E b))) (f + 1)) (nI a) (nI b) (gd_iI ((ln_w t lg w kn sw E N H) a b)) (nI (rn_sc t (N a) (E b))) (nI q) (nI cl) (nI own) (nI (16 * b + 4 * dp_nx q + cl)) (g + 1) (nI cb) (nI n) (nI lc) (nI pc) (nI fw) (nI rw) (nI fl) (nI sw) (nI ss) (nI sk) (nI ba) (nI hyc) (nI ph) (nI (m + 1)) x_lineCount x_paragraphCount x_stale (gd_tI t) (gd_tI w) (gd_lI lg) (gd_kI kn) a_patterns a_heads a_glyphs a_breakEnd a_breakNext a_breakHyphen a_breakTaken a_wayDemerits a_wayBefore a_lineFacts a_paragraphDemerits := by
              intro g
              induction g with
              | zero =>
                intro cb hcb a_wayDemerits a_wayBefore hA
                have : cb = 4 := by omega
                subst this
                exact br_t (by decide) (nm_r (nI_1 q) (ih (q + 1) (by omega) _ _ hA))
              | succ g ihg =>
                intro cb hcb a_wayDemerits a_wayBefore hA
                have Wc := We (4 * q + cb) (by omega)
                have hst : nI a * 16 + nI q * 4 + nI cb = nI (16 * a + (4 * q + cb)) := by
                  rw [show (16 : Int32) = nI 16 from rfl, show (4 : Int32) = nI 4 from rfl, pk_mul, pk_mul, nI_add, nI_add]; congr 1; omega
                have hnx := dp_nx_b q
                refine br_f (nI_ge (b := 4) (by omega) (by decide)) ?_
                show vp_in (nI a * 16 + nI q * 4 + nI cb) 784 ∧ _
                rw [hst]
                refine ⟨vp_in_nI (by omega) (by omega), ?_⟩
                have hrd : a_wayDemerits (nI (16 * a + (4 * q + cb))).toNatClampNeg = a_wayDemerits (16 * a + (4 * q + cb)) := by rw [nI_clamp (by omega)]
                cases hx : dp_e (ln_v t lg w kn sw ss sk fw rw fl ba hyc m E N H) a b σ (4 * q + cb) (16 * a + (4 * q + cb)) with
                | none =>
                  refine br_t (by rw [hrd]; exact (hA _ (by omega)).1 hx) (nm_r (nI_1 cb) (ihg (cb + 1) (by omega) _ _ ?_))
                  have : dp_e (ln_v t lg w kn sw ss sk fw rw fl ba hyc m E N H) a b σ (4 * q + (cb + 1)) = dp_e (ln_v t lg w kn sw ss sk fw rw fl ba hyc m E N H) a b σ (4 * q + cb) := by
                    show dp_s _ a b (dp_e (ln_v t lg w kn sw ss sk fw rw fl ba hyc m E N H) a b σ (4 * q + cb)) (4 * q + cb) = _
                    rw [dp_s, hx]
                  rw [this]; exact hA
                | some x =>
                  have hv := ((hA _ (by omega)).2 x hx).1
                  have hvb := dp_wf_v Wc hx
                  have hstep : dp_e (ln_v t lg w kn sw ss sk fw rw fl ba hyc m E N H) a b σ (4 * q + (cb + 1)) = dp_offer (dp_e (ln_v t lg w kn sw ss sk fw rw fl ba hyc m E N H) a b σ (4 * q + cb)) (16 * b + 4 * dp_nx q + cl) (x.1 + own + dp_jp cl cb) (16 * a + (4 * q + cb)) := by
                    show dp_s _ a b (dp_e (ln_v t lg w kn sw ss sk fw rw fl ba hyc m E N H) a b σ (4 * q + cb)) (4 * q + cb) = _
                    rw [dp_s, hx, show (4 * q + cb) / 4 = q by omega, show (4 * q + cb) % 4 = cb by omega, hln]
                  have go : ∀ z0 : Int32, z0 = nI (dp_jp cl cb) → wX_tryLine_197 post (wX_tryLine_3 post (nI a) (nI b) (gd_iI ((ln_w t lg w kn sw E N H) a b)) (nI (rn_sc t (N a) (E b))) (f + 1)) (wX_tryLine_111 post (wX_tryLine_3 post (nI a) (nI b) (gd_iI ((ln_w t lg w kn sw E N H) a b)) (nI (rn_sc t (N a) (E b))) (f + 1)) (nI a) (nI b) (gd_iI ((ln_w t lg w kn sw E N H) a b)) (nI (rn_sc t (N a) (E b))) (nI q) (nI cl) (nI own) (nI (16 * b + 4 * dp_nx q + cl)) (g + 1)) (nI a) (nI b) (gd_iI ((ln_w t lg w kn sw E N H) a b)) (nI (rn_sc t (N a) (E b))) (nI q) (nI cl) (nI own) (nI (16 * b + 4 * dp_nx q + cl)) (nI cb) z0 (a_wayDemerits (nI (16 * a + (4 * q + cb))).toNatClampNeg + (nI own).toInt64) (nI (16 * a + (4 * q + cb))) (nI (16 * b + 4 * dp_nx q + cl)) (nI n) (nI lc) (nI pc) (nI fw) (nI rw) (nI fl) (nI sw) (nI ss) (nI sk) (nI ba) (nI hyc) (nI ph) (nI (m + 1)) x_lineCount x_paragraphCount x_stale (gd_tI t) (gd_tI w) (gd_lI lg) (gd_kI kn) a_patterns a_heads a_glyphs a_breakEnd a_breakNext a_breakHyphen a_breakTaken a_wayDemerits a_wayBefore a_lineFacts a_paragraphDemerits := by
                    intro z0 hz
                    subst hz
                    have hjp := dp_jp_b cl cb
                    unfold wX_tryLine_197
                    rw [hrd, hv, nI_l (by omega), nI_l (by omega), lN_add, lN_add]
                    refine dx_offer hA Wc (by omega) (by omega) hx (by omega) (fun a_wayDemerits a_wayBefore hA' => ?_)
                    refine nm_r (nI_1 cb) (ihg (cb + 1) (by omega) _ _ (by rw [hstep]; exact hA'))
                  refine br_f (by rw [hrd, hv]; exact dp_nm1 (by omega)) ?_
                  have j1 : cl + 1 < cb ∨ cb + 1 < cl → dp_jp cl cb = 2000 := fun h => by rw [dp_jp, if_pos h]
                  have j0 : ¬ (cl + 1 < cb ∨ cb + 1 < cl) → dp_jp cl cb = 0 := fun h => by rw [dp_jp, if_neg h]
                  refine gd_zlt 1 ((cb : Int) - cl) (fun y3 => ?_) (fun y3 => ?_) rfl (by rw [gd_nat, gd_nat cl, gd_sub]) (by omega) (by omega)
                  · exact ⟨vp_in_nI (by omega) (by omega), br_f (by decide) (go _ (by rw [j1 (by omega)]; rfl))⟩
                  · refine gd_zle ((cl : Int) - cb) 1 (fun y4 => ?_) (fun y4 => ?_) (by rw [gd_nat, gd_nat cb, gd_sub]) rfl (by omega) (by omega)
                    · exact ⟨vp_in_nI (by omega) (by omega), br_t rfl (go _ (by rw [j0 (by omega)]; rfl))⟩
                    · exact ⟨vp_in_nI (by omega) (by omega), br_f (by decide) (go _ (by rw [j1 (by omega)]; rfl))⟩
            have st96 : ∀ z0 : Int32, z0 = nI (dp_nx q) → wX_tryLine_96 post (wX_tryLine_3 post (nI a) (nI b) (gd_iI ((ln_w t lg w kn sw E N H) a b)) (nI (rn_sc t (N a) (E b))) (f + 1)) (nI a) (nI b) (gd_iI ((ln_w t lg w kn sw E N H) a b)) (nI (rn_sc t (N a) (E b))) (nI q) (nI cl) (nI own) z0 (nI n) (nI lc) (nI pc) (nI fw) (nI rw) (nI fl) (nI sw) (nI ss) (nI sk) (nI ba) (nI hyc) (nI ph) (nI (m + 1)) x_lineCount x_paragraphCount x_stale (gd_tI t) (gd_tI w) (gd_lI lg) (gd_kI kn) a_patterns a_heads a_glyphs a_breakEnd a_breakNext a_breakHyphen a_breakTaken a_wayDemerits a_wayBefore a_lineFacts a_paragraphDemerits := by
              intro z0 hz
              subst hz
              have hst : nI b * 16 + nI (dp_nx q) * 4 + nI cl = nI (16 * b + 4 * dp_nx q + cl) := by
                rw [show (16 : Int32) = nI 16 from rfl, show (4 : Int32) = nI 4 from rfl, pk_mul, pk_mul, nI_add, nI_add]; congr 1; omega
              show ∃ n111 : Nat, wX_tryLine_111 _ _ _ _ _ _ _ _ _ (nI b * 16 + nI (dp_nx q) * 4 + nI cl) _ _ _ _ _ _ _ _ _ _ _ _ _ _ _ _ _ _ _ _ _ _ _ _ _ _ _ _ _ _ _ _ _
              rw [hst]
              exact ⟨5, in111 4 0 (by omega) _ _ hA⟩
            refine pk_le 3 q (fun y3 => st96 _ ?_) (fun y3 => st96 _ ?_)
            · rw [dp_nx, if_pos y3]; congr 1; omega
            · rw [dp_nx, if_neg (by omega), nI_1]
          · exact nm_r (nI_1 q) (skip (by rw [ln_v, if_neg (by omega)]))
      refine pk_eq b m (fun y => key _ (by rw [decide_eq_true y]; rfl)) (fun y => key _ (by rw [decide_eq_false y]; rfl)) rfl (nI_pred m) (by omega) (by omega)
  exact ⟨5, loop 4 0 (by omega) _ _ hA⟩
end
