def lx_ok (t lg w : Nat → Nat) (kn : Nat → Int) (sw ss sk fw rw fl : Nat) (S : ly_S) (a_lineFacts : Nat → Int32) (a_paragraphDemerits : Nat → Int64) : Prop := (xl_ok t lg w kn sw ss sk fw rw fl) S.2.1 S.1 a_lineFacts ∧ ∀ p, p < S.2.2.1 → a_paragraphDemerits p = S.2.2.2 p
section
variable {n lc pc fw rw fl sw ss sk ba hyc ph : Nat} {t w lg : Nat → Nat} {kn : Nat → Int}
variable {P : Nat → Nat} {fr to : Nat} {S : ly_S}
variable {x_breakCount x_lineCount x_paragraphCount x_stale : Int32} {a_patterns a_heads a_glyphs a_breakEnd a_breakNext a_breakHyphen a_breakTaken a_wayBefore a_lineFacts : Nat → Int32} {a_wayDemerits a_paragraphDemerits : Nat → Int64}
theorem lx_para (post : SX → Prop) (g : Nat) (C : cf_ok t w lg kn n fw rw fl sw ss sk ba hyc ph) (hP : ∀ k, P k < 2 ^ 31) (hft : fr ≤ to) (hton : to ≤ n) (h11 : ∀ j, fr ≤ j → j < to → t j ≠ 11) (hto : to = n ∨ t to = 11) (hfr : fr = 0 ∨ t (fr - 1) = 11) (hlc : S.2.1 ≤ fr) (hpar : 2 * S.2.2.1 ≤ fr) (X : lx_ok t lg w kn sw ss sk fw rw fl S a_lineFacts a_paragraphDemerits)
    (hJ : ∀ x_breakCount a_heads a_glyphs a_breakEnd a_breakNext a_breakHyphen a_breakTaken a_wayDemerits a_wayBefore a_lineFacts a_paragraphDemerits, lx_ok t lg w kn sw ss sk fw rw fl (ly_p t w lg kn P n sw ss sk fw rw fl ba hyc fr to S) a_lineFacts a_paragraphDemerits → wX_layOut_22 post g (nI (to + 1)) (nI (to + 1)) (nI n) (nI lc) (nI pc) (nI fw) (nI rw) (nI fl) (nI sw) (nI ss) (nI sk) (nI ba) (nI hyc) (nI ph) x_breakCount (nI (ly_p t w lg kn P n sw ss sk fw rw fl ba hyc fr to S).2.1) (nI (ly_p t w lg kn P n sw ss sk fw rw fl ba hyc fr to S).2.2.1) x_stale (gd_tI t) (gd_tI w) (gd_lI lg) (gd_kI kn) (gd_tI P) a_heads a_glyphs a_breakEnd a_breakNext a_breakHyphen a_breakTaken a_wayDemerits a_wayBefore a_lineFacts a_paragraphDemerits) :
    wX_layOut_52 post (wX_layOut_22 post g) (nI fr) (nI to) (nI n) (nI lc) (nI pc) (nI fw) (nI rw) (nI fl) (nI sw) (nI ss) (nI sk) (nI ba) (nI hyc) (nI ph) x_breakCount (nI S.2.1) (nI S.2.2.1) x_stale (gd_tI t) (gd_tI w) (gd_lI lg) (gd_kI kn) (gd_tI P) a_heads a_glyphs a_breakEnd a_breakNext a_breakHyphen a_breakTaken a_wayDemerits a_wayBefore a_lineFacts a_paragraphDemerits := by
  have hn := C.1
  have ht := C.2.1
  unfold wX_layOut_52
  refine cx_collect hn ht hP hft hton h11 hto hfr (fun z a_breakEnd a_breakNext a_breakHyphen a_breakTaken => ?_) (fun z hm1 a_breakEnd a_breakNext a_breakHyphen a_breakTaken xb hT => ?_)
  · have e : ly_p t w lg kn P n sw ss sk fw rw fl ba hyc fr to S = S := by rw [ly_p, if_neg (by omega)]
    rw [e] at hJ
    exact nm_r (nI_1 to) (br_t rfl (nm_r (nI_1 to) (hJ _ _ _ _ _ _ _ _ _ _ _ X)))
  · have ok : bk_ok t fr to (pg_m t P n fr to) (pg_E t P n fr to) (pg_N t P n fr to) (pg_H t P n fr to) := bk_fin ht hft h11 (bk_hyok hto hton hfr) hm1
    have hlen := pg_len (P := P) (sw := sw) (ss := ss) (sk := sk) (fw := fw) (rw := rw) (fl := fl) (ba := ba) (hyc := hyc) (fr := fr) (to := to) C hton
    have hcs := pg_cs_ok (P := P) (sw := sw) (ss := ss) (sk := sk) (fw := fw) (rw := rw) (fl := fl) (ba := ba) (hyc := hyc) C hlen.1
    have e : ly_p t w lg kn P n sw ss sk fw rw fl ba hyc fr to S = (lt_seq (pg_E t P n fr to) (pg_N t P n fr to) (pg_H t P n fr to) (pg_m t P n fr to) S.2.2.1 S.1 S.2.1 0 0 (pg_cs t w lg kn P n sw ss sk fw rw fl ba hyc fr to), S.2.1 + (pg_cs t w lg kn P n sw ss sk fw rw fl ba hyc fr to).length, S.2.2.1 + 1, vp_updL S.2.2.2 S.2.2.1 (pr_v (pg_σ t w lg kn P n sw ss sk fw rw fl ba hyc fr to) (pg_m t P n fr to))) := by rw [ly_p, if_pos z]
    rw [e] at hJ
    have xb : bk_xb (pg_m t P n fr to) (pg_E t P n fr to) (pg_N t P n fr to) (pg_H t P n fr to) a_breakEnd a_breakNext a_breakHyphen := xb
    have hT : ∀ k, k ≤ pg_m t P n fr to → a_breakTaken k = 0 := hT
    have hm48 := hlen.1
    have fin : ∀ v a_heads a_glyphs a_wayDemerits a_wayBefore a_breakTaken', v = pr_v (pg_σ t w lg kn P n sw ss sk fw rw fl ba hyc fr to) (pg_m t P n fr to) → (∀ k, 1 ≤ k → k ≤ pg_m t P n fr to → a_breakTaken' k = if k ∈ pg_cs t w lg kn P n sw ss sk fw rw fl ba hyc fr to then 1 else 0) →
        wX_layOut_98 post (wX_layOut_22 post g) (nI (to + 1)) (nI to) v (nI n) (nI lc) (nI pc) (nI fw) (nI rw) (nI fl) (nI sw) (nI ss) (nI sk) (nI ba) (nI hyc) (nI ph) (nI (pg_m t P n fr to + 1)) (nI S.2.1) (nI S.2.2.1) x_stale (gd_tI t) (gd_tI w) (gd_lI lg) (gd_kI kn) (gd_tI P) a_heads a_glyphs a_breakEnd a_breakNext a_breakHyphen a_breakTaken' a_wayDemerits a_wayBefore a_lineFacts a_paragraphDemerits := by
      intro v a_heads a_glyphs a_wayDemerits a_wayBefore a_breakTaken' hv hT'
      unfold wX_layOut_98
      refine ax_lines C hton hm48 ok xb hcs hT' (by omega) X.1 (fun a_heads a_glyphs a_lineFacts X' => ?_)
      refine ⟨vp_in_nI (by omega) (by omega), nm_r (e' := vp_updL a_paragraphDemerits S.2.2.1 v) (by rw [nI_clamp (by omega)]) (nm_r (nI_1 _) (nm_r (nI_1 to) (hJ _ _ _ _ _ _ _ _ _ _ _ ⟨X', fun p hp => ?_⟩)))⟩
      show vp_updL a_paragraphDemerits S.2.2.1 v p = vp_updL S.2.2.2 S.2.2.1 (pr_v (pg_σ t w lg kn P n sw ss sk fw rw fl ba hyc fr to) (pg_m t P n fr to)) p
      have hp : p < S.2.2.1 + 1 := hp
      by_cases q : p = S.2.2.1
      · rw [q, pk_uLs, pk_uLs, hv]
      · rw [pk_uLn q, pk_uLn q]; exact X.2 p (by omega)
    refine nm_r (nI_1 to) (br_f (nI_ne0 (n := pg_m t P n fr to + 1) (by omega) (by omega)) (br_t (nI_lt (b := 48) (by omega) (by decide)) ?_))
    refine ax_best C hton hm48 ok xb (fun he a_heads a_glyphs a_wayDemerits a_wayBefore => ?_) (fun q he hb a_heads a_glyphs a_wayDemerits a_wayBefore a_breakTaken' hT' => ?_)
    · have he : dp_be (pg_σ t w lg kn P n sw ss sk fw rw fl ba hyc fr to) (pg_m t P n fr to) 16 = none := he
      have ecs : pg_cs t w lg kn P n sw ss sk fw rw fl ba hyc fr to = em_l (ln_b t lg w kn sw ss sk fw rw fl (pg_m t P n fr to) (pg_E t P n fr to) (pg_N t P n fr to) (pg_H t P n fr to)) (pg_m t P n fr to) 49 0 0 := by rw [pg_cs, pr_cs, he]
      refine br_t rfl (ax_emer C hton hm48 ok xb (fun a_heads a_glyphs a_breakTaken' hT' => fin _ _ _ _ _ _ ?_ (fun k a b => ?_)))
      · rw [pr_v, he]
      · rw [hT' k, ecs, hT k b]
    · have he : dp_be (pg_σ t w lg kn P n sw ss sk fw rw fl ba hyc fr to) (pg_m t P n fr to) 16 = some q := he
      have ecs : pg_cs t w lg kn P n sw ss sk fw rw fl ba hyc fr to = (dp_pt (pg_σ t w lg kn P n sw ss sk fw rw fl ba hyc fr to) 100 q).reverse := by rw [pg_cs, pr_cs, he]
      refine br_f (dp_nm1 hb) (fin _ _ _ _ _ _ ?_ (fun k a b => ?_))
      · rw [pr_v, he]; rfl
      · rw [hT' k, ecs, hT k b]
        have hmem : k ∈ (dp_pt (pg_σ t w lg kn P n sw ss sk fw rw fl ba hyc fr to) 100 q).reverse ↔ k ∈ dp_pt (pg_σ t w lg kn P n sw ss sk fw rw fl ba hyc fr to) 100 q := List.mem_reverse
        by_cases y : k ∈ dp_pt (pg_σ t w lg kn P n sw ss sk fw rw fl ba hyc fr to) 100 q
        · rw [if_pos (hmem.mpr y)]; exact if_pos y
        · rw [if_neg (fun z => y (hmem.mp z))]; exact if_neg y
theorem lx_loop (post : SX → Prop) (C : cf_ok t w lg kn n fw rw fl sw ss sk ba hyc ph) (hP : ∀ k, P k < 2 ^ 31)
    (hp : ∀ g x1 x_breakCount a_heads a_glyphs a_breakEnd a_breakNext a_breakHyphen a_breakTaken a_wayDemerits a_wayBefore a_lineFacts a_paragraphDemerits, lx_ok t lg w kn sw ss sk fw rw fl (ly_at t w lg kn P n sw ss sk fw rw fl ba hyc (n + 1)).1 a_lineFacts a_paragraphDemerits → wX_layOut_22 post (g + 1) x1 (nI (n + 1)) (nI n) (nI lc) (nI pc) (nI fw) (nI rw) (nI fl) (nI sw) (nI ss) (nI sk) (nI ba) (nI hyc) (nI ph) x_breakCount (nI (ly_at t w lg kn P n sw ss sk fw rw fl ba hyc (n + 1)).1.2.1) (nI (ly_at t w lg kn P n sw ss sk fw rw fl ba hyc (n + 1)).1.2.2.1) x_stale (gd_tI t) (gd_tI w) (gd_lI lg) (gd_kI kn) (gd_tI P) a_heads a_glyphs a_breakEnd a_breakNext a_breakHyphen a_breakTaken a_wayDemerits a_wayBefore a_lineFacts a_paragraphDemerits) :
    ∀ d i, i + d = n + 1 → ∀ x_breakCount a_heads a_glyphs a_breakEnd a_breakNext a_breakHyphen a_breakTaken a_wayDemerits a_wayBefore a_lineFacts a_paragraphDemerits, lx_ok t lg w kn sw ss sk fw rw fl (ly_at t w lg kn P n sw ss sk fw rw fl ba hyc i).1 a_lineFacts a_paragraphDemerits → wX_layOut_22 post (d + 1) (nI (ly_at t w lg kn P n sw ss sk fw rw fl ba hyc i).2) (nI i) (nI n) (nI lc) (nI pc) (nI fw) (nI rw) (nI fl) (nI sw) (nI ss) (nI sk) (nI ba) (nI hyc) (nI ph) x_breakCount (nI (ly_at t w lg kn P n sw ss sk fw rw fl ba hyc i).1.2.1) (nI (ly_at t w lg kn P n sw ss sk fw rw fl ba hyc i).1.2.2.1) x_stale (gd_tI t) (gd_tI w) (gd_lI lg) (gd_kI kn) (gd_tI P) a_heads a_glyphs a_breakEnd a_breakNext a_breakHyphen a_breakTaken a_wayDemerits a_wayBefore a_lineFacts a_paragraphDemerits := by
  have hn := C.1
  have ht := C.2.1
  intro d
  induction d with
  | zero =>
    intro i hi x_breakCount a_heads a_glyphs a_breakEnd a_breakNext a_breakHyphen a_breakTaken a_wayDemerits a_wayBefore a_lineFacts a_paragraphDemerits X
    have : i = n + 1 := by omega
    subst this
    exact hp 0 _ _ _ _ _ _ _ _ _ _ _ _ X
  | succ d ih =>
    intro i hi x_breakCount a_heads a_glyphs a_breakEnd a_breakNext a_breakHyphen a_breakTaken a_wayDemerits a_wayBefore a_lineFacts a_paragraphDemerits X
    obtain ⟨I1, I2, I3, I4, I5, I6, I7, I8⟩ := ly_okA (P := P) C i (by omega)
    have par : (i = n ∨ t i = 11) → wX_layOut_52 post (wX_layOut_22 post (d + 1)) (nI (ly_at t w lg kn P n sw ss sk fw rw fl ba hyc i).2) (nI i) (nI n) (nI lc) (nI pc) (nI fw) (nI rw) (nI fl) (nI sw) (nI ss) (nI sk) (nI ba) (nI hyc) (nI ph) x_breakCount (nI (ly_at t w lg kn P n sw ss sk fw rw fl ba hyc i).1.2.1) (nI (ly_at t w lg kn P n sw ss sk fw rw fl ba hyc i).1.2.2.1) x_stale (gd_tI t) (gd_tI w) (gd_lI lg) (gd_kI kn) (gd_tI P) a_heads a_glyphs a_breakEnd a_breakNext a_breakHyphen a_breakTaken a_wayDemerits a_wayBefore a_lineFacts a_paragraphDemerits := by
      intro c
      have e : ly_at t w lg kn P n sw ss sk fw rw fl ba hyc (i + 1) = (ly_p t w lg kn P n sw ss sk fw rw fl ba hyc (ly_at t w lg kn P n sw ss sk fw rw fl ba hyc i).2 i (ly_at t w lg kn P n sw ss sk fw rw fl ba hyc i).1, i + 1) := by rw [ly_at, if_pos c]
      refine lx_para post (d + 1) C hP I1 (by omega) (fun j a b => (I3 j a b).2) c (by omega) I4.1 (I5.2 (by omega)) X (fun x_breakCount a_heads a_glyphs a_breakEnd a_breakNext a_breakHyphen a_breakTaken a_wayDemerits a_wayBefore a_lineFacts a_paragraphDemerits X' => ?_)
      have := ih (i + 1) (by omega) x_breakCount a_heads a_glyphs a_breakEnd a_breakNext a_breakHyphen a_breakTaken a_wayDemerits a_wayBefore a_lineFacts a_paragraphDemerits (by rw [e]; exact X')
      rw [e] at this
      exact this
    refine br_f (nI_nlt (by omega) (by omega)) (pk_le n i (fun y => par (Or.inl (by omega))) (fun y => ⟨vp_in_nI (by omega) (by omega), ?_⟩))
    refine pk_eq (t i) 11 (fun c => par (Or.inr c)) (fun c => ?_) (gd_rt (by omega)) rfl (by have := ht i; omega) (by omega)
    have e : ly_at t w lg kn P n sw ss sk fw rw fl ba hyc (i + 1) = ly_at t w lg kn P n sw ss sk fw rw fl ba hyc i := by rw [ly_at, if_neg (by omega)]
    have := ih (i + 1) (by omega) x_breakCount a_heads a_glyphs a_breakEnd a_breakNext a_breakHyphen a_breakTaken a_wayDemerits a_wayBefore a_lineFacts a_paragraphDemerits (by rw [e]; exact X)
    rw [e] at this
    exact nm_r (nI_1 i) this
end
