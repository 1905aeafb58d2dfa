section
variable {n lc pc fw rw fl sw ss sk ba hyc ph : Nat} {t w lg : Nat → Nat} {kn : Nat → Int}
variable {P : Nat → Nat}
variable {x_breakCount x_lineCount x_paragraphCount x_stale : Int32} {a_patterns a_heads a_glyphs a_breakEnd a_breakNext a_breakHyphen a_breakTaken a_wayBefore a_lineFacts : Nat → Int32} {a_wayDemerits a_paragraphDemerits : Nat → Int64}
/-- X's arrays while it scans -/
def cx_inv (t : Nat → Nat) (hy : Nat → Bool) (fr to i : Nat) (x_breakCount : Int32) (a_breakEnd a_breakNext a_breakHyphen a_breakTaken : Nat → Int32) : Prop :=
  (x_breakCount = if bk_sk t to fr < i then nI (bk_m t hy fr to i + 1) else 0) ∧
  (∀ k, 1 ≤ k → k ≤ bk_m t hy fr to i → a_breakEnd k = nI (bk_E t hy fr to i k)) ∧
  (bk_sk t to fr < i → ∀ k, k ≤ bk_m t hy fr to i → a_breakHyphen k = gd_bI (bk_H t hy fr to i k) ∧ a_breakTaken k = 0) ∧
  (∀ k, k ≤ bk_m t hy fr to i → (bk_N t hy fr to i k < i ∨ (1 ≤ k ∧ bk_H t hy fr to i k = true)) → a_breakNext k = nI (bk_N t hy fr to i k))
theorem cx_loop (post : SX → Prop) {fr to : Nat} (hn : n ≤ 48) (ht : ∀ i, t i ≤ 11) (hP : ∀ k, P k < 2 ^ 31) (hton : to ≤ n) (h11 : ∀ j, fr ≤ j → j < to → t j ≠ 11) (hh : bk_hy t (hy_b t P n) fr to)
    (hp : ∀ x_breakCount a_breakEnd a_breakNext a_breakHyphen a_breakTaken, cx_inv t (hy_b t P n) fr to to x_breakCount a_breakEnd a_breakNext a_breakHyphen a_breakTaken → post ((nI n), (nI lc), (nI pc), (nI fw), (nI rw), (nI fl), (nI sw), (nI ss), (nI sk), (nI ba), (nI hyc), (nI ph), x_breakCount, x_lineCount, x_paragraphCount, x_stale, (gd_tI t), (gd_tI w), (gd_lI lg), (gd_kI kn), (gd_tI P), a_heads, a_glyphs, a_breakEnd, a_breakNext, a_breakHyphen, a_breakTaken, a_wayDemerits, a_wayBefore, a_lineFacts, a_paragraphDemerits)) :
    ∀ d i, i + d = to → fr ≤ i → ∀ x_breakCount a_breakEnd a_breakNext a_breakHyphen a_breakTaken, cx_inv t (hy_b t P n) fr to i x_breakCount a_breakEnd a_breakNext a_breakHyphen a_breakTaken → wX_collectBreaks_7 post (nI fr) (nI to) (d + 1) (nI i) (nI n) (nI lc) (nI pc) (nI fw) (nI rw) (nI fl) (nI sw) (nI ss) (nI sk) (nI ba) (nI hyc) (nI ph) x_breakCount x_lineCount x_paragraphCount x_stale (gd_tI t) (gd_tI w) (gd_lI lg) (gd_kI kn) (gd_tI P) a_heads a_glyphs a_breakEnd a_breakNext a_breakHyphen a_breakTaken a_wayDemerits a_wayBefore a_lineFacts a_paragraphDemerits := by
  intro d
  induction d with
  | zero =>
    intro i hi hfr x_breakCount a_breakEnd a_breakNext a_breakHyphen a_breakTaken I
    have : i = to := by omega
    subst this
    exact br_t (nI_le (Nat.le_refl _) (by omega)) (hp _ _ _ _ _ I)
  | succ d ih =>
    intro i hi hfr x_breakCount a_breakEnd a_breakNext a_breakHyphen a_breakTaken I
    obtain ⟨s1, s2, s3, s4⟩ := bk_sk_ok (t := t) (show fr ≤ to by omega)
    have BI := bk_invA hh (i - fr) (by omega)
    rw [show fr + (i - fr) = i by omega] at BI
    obtain ⟨B1, B2, B3, B4⟩ := BI
    have hmle := bk_mle (t := t) (hy := hy_b t P n) (fr := fr) (to := to) (i := i)
    refine br_f (nI_ge (by omega) (by omega)) ⟨vp_in_nI (by omega) (by omega), ?_⟩
    refine pk_lt (t i) 10 (fun hl => ?_) (fun hl => ?_) (gd_rt (by omega)) rfl (by have := ht i; omega) (by omega)
    · have hski : bk_sk t to fr ≤ i := by
        rcases Nat.lt_or_ge i (bk_sk t to fr) with z | z
        · have := s3 i hfr z; omega
        · exact z
      -- behind the letter: perhaps the word's end
      have tail : ∀ x_breakCount a_breakEnd a_breakNext a_breakHyphen a_breakTaken m', x_breakCount = nI (m' + 1) → (hy_b t P n i = true → m' = bk_m t (hy_b t P n) fr to i + 1 ∧ bk_w t to i = false) → (hy_b t P n i = false → m' = bk_m t (hy_b t P n) fr to i) →
          (∀ k, 1 ≤ k → k ≤ m' → a_breakEnd k = nI (bk_E t (hy_b t P n) fr to (i + 1) k)) →
          (∀ k, k ≤ m' → a_breakHyphen k = gd_bI (bk_H t (hy_b t P n) fr to (i + 1) k) ∧ a_breakTaken k = 0) →
          (∀ k, k ≤ m' → (bk_N t (hy_b t P n) fr to (i + 1) k < i + 1 ∨ (1 ≤ k ∧ bk_H t (hy_b t P n) fr to (i + 1) k = true)) → a_breakNext k = nI (bk_N t (hy_b t P n) fr to (i + 1) k)) →
          wX_collectBreaks_106 post (wX_collectBreaks_7 post (nI fr) (nI to) (d + 1)) (nI fr) (nI to) (nI i) (nI n) (nI lc) (nI pc) (nI fw) (nI rw) (nI fl) (nI sw) (nI ss) (nI sk) (nI ba) (nI hyc) (nI ph) x_breakCount x_lineCount x_paragraphCount x_stale (gd_tI t) (gd_tI w) (gd_lI lg) (gd_kI kn) (gd_tI P) a_heads a_glyphs a_breakEnd a_breakNext a_breakHyphen a_breakTaken a_wayDemerits a_wayBefore a_lineFacts a_paragraphDemerits := by
        intro x_breakCount a_breakEnd a_breakNext a_breakHyphen a_breakTaken m' hc hyt hyf hE hHT hN
        have nope : bk_w t to i = false → wX_collectBreaks_7 post (nI fr) (nI to) (d + 1) (nI (i + 1)) (nI n) (nI lc) (nI pc) (nI fw) (nI rw) (nI fl) (nI sw) (nI ss) (nI sk) (nI ba) (nI hyc) (nI ph) x_breakCount x_lineCount x_paragraphCount x_stale (gd_tI t) (gd_tI w) (gd_lI lg) (gd_kI kn) (gd_tI P) a_heads a_glyphs a_breakEnd a_breakNext a_breakHyphen a_breakTaken a_wayDemerits a_wayBefore a_lineFacts a_paragraphDemerits := by
          intro hw
          have hm' : m' = bk_m t (hy_b t P n) fr to (i + 1) := by
            cases z : hy_b t P n i
            · rw [bk_non (by rw [z, hw]; simp), hyf z]
            · rw [(bk_new ⟨hfr, hl, Or.inl z⟩).1, (hyt z).1]
          subst hm'
          exact ih (i + 1) (by omega) (by omega) _ _ _ _ _ ⟨by rw [if_pos (by omega), hc], hE, fun _ => hHT, hN⟩
        have yes : bk_w t to i = true → wX_collectBreaks_126 post (wX_collectBreaks_7 post (nI fr) (nI to) (d + 1)) (nI fr) (nI to) (nI i) (nI n) (nI lc) (nI pc) (nI fw) (nI rw) (nI fl) (nI sw) (nI ss) (nI sk) (nI ba) (nI hyc) (nI ph) x_breakCount x_lineCount x_paragraphCount x_stale (gd_tI t) (gd_tI w) (gd_lI lg) (gd_kI kn) (gd_tI P) a_heads a_glyphs a_breakEnd a_breakNext a_breakHyphen a_breakTaken a_wayDemerits a_wayBefore a_lineFacts a_paragraphDemerits := by
          intro hw
          have hyi : hy_b t P n i = false := by
            cases z : hy_b t P n i
            · rfl
            · rw [(hyt z).2] at hw; exact absurd hw (by decide)
          have hm' := hyf hyi
          obtain ⟨n1, n2, n3⟩ := bk_new (t := t) (hy := hy_b t P n) (fr := fr) (to := to) ⟨hfr, hl, Or.inr hw⟩
          rw [if_neg (by rw [hyi]; decide)] at n2
          subst hc
          unfold wX_collectBreaks_126
          refine br_t (nI_lt (b := 49) (by omega) (by decide)) ⟨vp_in_nI (by omega) (by omega), nm_r (e' := upd a_breakEnd (m' + 1) (nI (i + 1))) (by rw [nI_clamp (by omega), nI_1]) ⟨vp_in_nI (by omega) (by omega), nm_r (e' := upd a_breakNext (m' + 1) (nI (i + 1))) (by rw [nI_clamp (by omega), nI_1]) ⟨vp_in_nI (by omega) (by omega), nm_r (e' := upd a_breakHyphen (m' + 1) 0) (by rw [nI_clamp (by omega), gd_b0]) ⟨vp_in_nI (by omega) (by omega), nm_r (e' := upd a_breakTaken (m' + 1) 0) (by rw [nI_clamp (by omega), gd_b0]) (nm_r (nI_1 (m' + 1)) (nm_r (nI_1 i) (ih (i + 1) (by omega) (by omega) _ _ _ _ _ ⟨?_, ?_, ?_, ?_⟩)))⟩⟩⟩⟩
          · rw [if_pos (by omega), n1, hm']
          · intro k a b
            rw [n1] at b
            by_cases z : k = m' + 1
            · subst z; rw [pk_us, hm', n2]
            · rw [pk_un z]; exact hE k a (by omega)
          · intro _ k b
            rw [n1] at b
            by_cases z : k = m' + 1
            · subst z; rw [pk_us, pk_us, hm', n3, hyi]; exact ⟨rfl, rfl⟩
            · rw [pk_un z, pk_un z]; exact hHT k (by omega)
          · intro k b c
            rw [n1] at b
            by_cases z : k = m' + 1
            · exfalso
              have e1 : k = bk_m t (hy_b t P n) fr to i + 1 := by omega
              have : bk_N t (hy_b t P n) fr to (i + 1) k = bk_sk t to (i + 1) := by
                rw [bk_N, if_neg (by omega), e1, n3, hyi, n2]; rfl
              have := (bk_sk_ok (t := t) (show i + 1 ≤ to by omega)).1
              rcases c with c | c
              · omega
              · rw [e1, n3, hyi] at c; exact absurd c.2 (by decide)
            · rw [pk_un z]; exact hN k (by omega) c
        refine pk_eq (i + 1) to (fun e => yes (decide_eq_true (Or.inl e))) (fun e => ?_) (nI_1 i) rfl (by omega) (by omega)
        refine ⟨pk_in (i + 1) 48 (by omega) (nI_1 i), ?_⟩
        refine pk_lt (t (i + 1)) 10 (fun y => nm_r (nI_1 i) (nope (decide_eq_false (by omega)))) (fun y => yes (decide_eq_true (Or.inr (by omega)))) (by rw [nI_1, gd_rt (by omega)]) rfl (by have := ht (i + 1); omega) (by omega)
      obtain ⟨I1, I2, I3, I4⟩ := I
      -- the word begins
      have begins : (i = fr ∨ ¬ t (i - 1) < 10) → wX_collectBreaks_44 post (wX_collectBreaks_7 post (nI fr) (nI to) (d + 1)) (nI fr) (nI to) (nI i) (nI n) (nI lc) (nI pc) (nI fw) (nI rw) (nI fl) (nI sw) (nI ss) (nI sk) (nI ba) (nI hyc) (nI ph) x_breakCount x_lineCount x_paragraphCount x_stale (gd_tI t) (gd_tI w) (gd_lI lg) (gd_kI kn) (gd_tI P) a_heads a_glyphs a_breakEnd a_breakNext a_breakHyphen a_breakTaken a_wayDemerits a_wayBefore a_lineFacts a_paragraphDemerits := by
        intro hb
        have hyi : hy_b t P n i = false := by
          cases z : hy_b t P n i
          · rfl
          · have := hh i hfr (by omega) z; omega
        have old : ∀ k, k ≤ bk_m t (hy_b t P n) fr to i → bk_E t (hy_b t P n) fr to (i + 1) k = bk_E t (hy_b t P n) fr to i k ∧ bk_H t (hy_b t P n) fr to (i + 1) k = bk_H t (hy_b t P n) fr to i k := fun k h => bk_old h
        refine br_f (by decide) ?_
        by_cases seen : bk_sk t to fr < i
        · rw [if_pos seen] at I1
          subst I1
          have r3 : ∀ j, fr ≤ j → j < i → t j < 10 → 1 ≤ bk_m t (hy_b t P n) fr to i ∧ j < bk_E t (hy_b t P n) fr to i (bk_m t (hy_b t P n) fr to i) := by
            rcases B3 with y | y
            · omega
            · exact y
          have hsl : t (bk_sk t to fr) < 10 := by
            have := h11 (bk_sk t to fr) s1 (by omega)
            have := ht (bk_sk t to fr)
            omega
          have hm1 := (r3 _ s1 seen hsl).1
          have hEm := B1 _ hm1 (Nat.le_refl _)
          have hNm : bk_N t (hy_b t P n) fr to i (bk_m t (hy_b t P n) fr to i) = i := by
            rw [bk_N, if_neg (by omega)]
            have hnl : ∀ j, bk_E t (hy_b t P n) fr to i (bk_m t (hy_b t P n) fr to i) ≤ j → j < i → ¬ t j < 10 := fun j a b c => by
              have := (r3 j (by omega) b c).2; omega
            have hHf : ¬ bk_H t (hy_b t P n) fr to i (bk_m t (hy_b t P n) fr to i) = true := by
              intro y
              have := hEm.2.2.2 y
              exact hnl _ (Nat.le_refl _) this.2 this.1
            rw [if_neg hHf]
            refine bk_sk_eq (by omega) hEm.2.1 (by omega) (fun j a b => ?_) (Or.inr (by omega))
            have := hnl j a b
            have := h11 j (by omega) (by omega)
            have := ht j
            omega
          refine br_f (nI_ge (a := 0) (by omega) (by omega)) ⟨pk_in (bk_m t (hy_b t P n) fr to i) 49 (by omega) (nI_pred _), nm_r (e' := upd a_breakNext (bk_m t (hy_b t P n) fr to i) (nI i)) (by rw [nI_pred, nI_clamp (by omega)]) (tail _ _ _ _ _ (bk_m t (hy_b t P n) fr to i) rfl (fun y => by rw [hyi] at y; exact absurd y (by decide)) (fun _ => rfl) ?_ ?_ ?_)⟩
          · intro k a b; rw [(old k b).1]; exact I2 k a b
          · intro k b; rw [(old k b).2]; exact I3 seen k b
          · intro k b c
            rw [bk_oldN b] at c ⊢
            by_cases z : k = bk_m t (hy_b t P n) fr to i
            · rw [z, pk_us, hNm]
            · rw [pk_un z]
              refine I4 k b ?_
              rw [(old k b).2] at c
              rcases c with c | c
              · have hlt := B1 (k + 1) (by omega) (by omega)
                left
                -- N k < E (k+1) ≤ i
                rcases Nat.lt_or_ge (bk_N t (hy_b t P n) fr to i k) i with y | y
                · exact y
                · exfalso
                  have hNi : bk_N t (hy_b t P n) fr to i k = i := by omega
                  by_cases k0 : k = 0
                  · rw [bk_N, if_pos k0] at hNi; omega
                  · rw [bk_N, if_neg k0] at hNi
                    have hEk := B2 k (by omega) (by omega)
                    by_cases q : bk_H t (hy_b t P n) fr to i k = true
                    · rw [if_pos q] at hNi
                      have := (B1 k (by omega) b).2.2.2 q
                      omega
                    · rw [if_neg q] at hNi
                      have hEk1 := B1 k (by omega) b
                      have := (bk_sk_ok (t := t) (show bk_E t (hy_b t P n) fr to i k ≤ to by omega)).2.2.1 (bk_E t (hy_b t P n) fr to i (k + 1) - 1) (by omega) (by omega)
                      omega
              · exact Or.inr c
        · rw [if_neg seen] at I1
          have hsi : bk_sk t to fr = i := by omega
          have hm0 : bk_m t (hy_b t P n) fr to i = 0 := bk_m0 (fun j a b => by rw [s3 j a (by omega)]; omega)
          subst I1
          refine br_t (by decide) (br_f (by decide) ?_)
          refine br_t (by decide) ⟨vp_in_nI (n := 0) (by omega) (by omega), nm_r (e' := upd a_breakEnd 0 (nI i)) rfl ⟨vp_in_nI (n := 0) (by omega) (by omega), nm_r (e' := upd a_breakNext 0 (nI i)) rfl ⟨vp_in_nI (n := 0) (by omega) (by omega), nm_r (e' := upd a_breakHyphen 0 0) rfl ⟨vp_in_nI (n := 0) (by omega) (by omega), nm_r (e' := upd a_breakTaken 0 0) rfl (nm_e (tail _ _ _ _ _ 0 rfl (fun y => by rw [hyi] at y; exact absurd y (by decide)) (fun _ => hm0.symm) ?_ ?_ ?_))⟩⟩⟩⟩
          · intro k a b; omega
          · intro k b
            have : k = 0 := by omega
            subst this
            rw [pk_us, pk_us, bk_H0]; exact ⟨rfl, rfl⟩
          · intro k b c
            have : k = 0 := by omega
            subst this
            rw [pk_us, bk_N, if_pos rfl, hsi]
      refine pk_eq i fr (fun e => begins (Or.inl e)) (fun e => ?_)
      refine ⟨pk_in (i - 1) 48 (by omega) (gd_p1 (by omega)), ?_⟩
      refine pk_lt (t (i - 1)) 10 (fun h1 => ?_) (fun h1 => begins (Or.inr (by omega))) (by rw [gd_p1 (by omega), gd_rt (by omega)]) rfl (by have := ht (i - 1); omega) (by omega)
      -- within a word
      have seen : bk_sk t to fr < i := by
        rcases Nat.lt_or_ge (bk_sk t to fr) i with z | z
        · exact z
        · have := s3 (i - 1) (by omega) (by omega); omega
      rw [if_pos seen] at I1
      subst I1
      have I3 := I3 seen
      have old : ∀ k, k ≤ bk_m t (hy_b t P n) fr to i → bk_E t (hy_b t P n) fr to (i + 1) k = bk_E t (hy_b t P n) fr to i k ∧ bk_H t (hy_b t P n) fr to (i + 1) k = bk_H t (hy_b t P n) fr to i k := fun k h => bk_old h
      have oldNx : ∀ k, k ≤ bk_m t (hy_b t P n) fr to i → (bk_N t (hy_b t P n) fr to (i + 1) k < i + 1 ∨ (1 ≤ k ∧ bk_H t (hy_b t P n) fr to (i + 1) k = true)) → a_breakNext k = nI (bk_N t (hy_b t P n) fr to (i + 1) k) := by
        intro k b c
        rw [bk_oldN b] at c ⊢
        rw [(old k b).2] at c
        refine I4 k b ?_
        rcases c with c | c
        · left
          rcases Nat.lt_or_ge (bk_N t (hy_b t P n) fr to i k) i with y | y
          · exact y
          · exfalso
            have hNi : bk_N t (hy_b t P n) fr to i k = i := by omega
            by_cases k0 : k = 0
            · rw [bk_N, if_pos k0] at hNi; omega
            · rw [bk_N, if_neg k0] at hNi
              have hEk1 := B1 k (by omega) b
              by_cases q : bk_H t (hy_b t P n) fr to i k = true
              · rw [if_pos q] at hNi
                have := hEk1.2.2.2 q
                omega
              · rw [if_neg q] at hNi
                have skk := bk_sk_ok (t := t) (show bk_E t (hy_b t P n) fr to i k ≤ to by omega)
                rcases Nat.lt_or_ge (bk_E t (hy_b t P n) fr to i k) i with y2 | y2
                · have := skk.2.2.1 (i - 1) (by omega) (by omega); omega
                · have hEi : bk_E t (hy_b t P n) fr to i k = i := by omega
                  have hkm : k = bk_m t (hy_b t P n) fr to i := by
                    rcases Nat.lt_or_ge k (bk_m t (hy_b t P n) fr to i) with y3 | y3
                    · have := B2 k (by omega) y3
                      have := (B1 (k + 1) (by omega) (by omega)).2.1
                      omega
                    · omega
                  rcases B4 (by omega) (by rw [← hkm]; exact hEi) with y4 | y4
                  · exact e y4
                  · rw [bk_w] at y4
                    have := of_decide_eq_true y4
                    rw [show i - 1 + 1 = i by omega] at this
                    omega
        · exact Or.inr c
      refine br_t rfl (br_t rfl ?_)
      refine hx_may hn ht hP (by omega) (gd_bt (fun hyi => ?_) (fun hyi => ?_))
      · refine tail _ _ _ _ _ (bk_m t (hy_b t P n) fr to i) rfl (fun y => by rw [hyi] at y; exact absurd y (by decide)) (fun _ => rfl) ?_ ?_ oldNx
        · intro k a b; rw [(old k b).1]; exact I2 k a b
        · intro k b; rw [(old k b).2]; exact I3 k b
      · obtain ⟨n1, n2, n3⟩ := bk_new (t := t) (hy := hy_b t P n) (fr := fr) (to := to) ⟨hfr, hl, Or.inl hyi⟩
        rw [if_pos hyi] at n2
        have hw := (hh i hfr (by omega) hyi).2.2.2
        generalize hmm : bk_m t (hy_b t P n) fr to i = mm at *
        refine br_t (nI_lt (b := 49) (by omega) (by decide)) ⟨vp_in_nI (by omega) (by omega), nm_r (e' := upd a_breakEnd (mm + 1) (nI i)) (by rw [nI_clamp (by omega)]) ⟨vp_in_nI (by omega) (by omega), nm_r (e' := upd a_breakNext (mm + 1) (nI i)) (by rw [nI_clamp (by omega)]) ⟨vp_in_nI (by omega) (by omega), nm_r (e' := upd a_breakHyphen (mm + 1) 1) (by rw [nI_clamp (by omega), gd_b1]) ⟨vp_in_nI (by omega) (by omega), nm_r (e' := upd a_breakTaken (mm + 1) 0) (by rw [nI_clamp (by omega), gd_b0]) (nm_r (nI_1 (mm + 1)) (tail _ _ _ _ _ (mm + 1) rfl (fun _ => ⟨rfl, hw⟩) (fun y => by rw [hyi] at y; exact absurd y (by decide)) ?_ ?_ ?_))⟩⟩⟩⟩
        · intro k a b
          by_cases z : k = mm + 1
          · subst z; rw [pk_us, n2]
          · rw [pk_un z, (old k (by omega)).1]; exact I2 k a (by omega)
        · intro k b
          by_cases z : k = mm + 1
          · subst z; rw [pk_us, pk_us, n3, hyi]; exact ⟨rfl, rfl⟩
          · rw [pk_un z, pk_un z, (old k (by omega)).2]; exact I3 k (by omega)
        · intro k b c
          by_cases z : k = mm + 1
          · subst z; rw [pk_us, bk_N, if_neg (by omega), n3, if_pos hyi, n2]
          · rw [pk_un z]; exact oldNx k (by omega) c
    · obtain ⟨I1, I2, I3, I4⟩ := I
      have nn : bk_m t (hy_b t P n) fr to (i + 1) = bk_m t (hy_b t P n) fr to i := bk_non (by omega)
      have old : ∀ k, k ≤ bk_m t (hy_b t P n) fr to i → bk_E t (hy_b t P n) fr to (i + 1) k = bk_E t (hy_b t P n) fr to i k ∧ bk_H t (hy_b t P n) fr to (i + 1) k = bk_H t (hy_b t P n) fr to i k := fun k h => bk_old h
      have ht10 : t i = 10 := by
        have := h11 i hfr (by omega)
        have := ht i
        omega
      have hsk : bk_sk t to fr < i + 1 ↔ bk_sk t to fr < i := by
        constructor
        · intro h
          rcases Nat.lt_or_ge (bk_sk t to fr) i with y | y
          · exact y
          · have e : bk_sk t to fr = i := by omega
            rw [e] at s4
            omega
        · omega
      refine nm_r (nI_1 i) (ih (i + 1) (by omega) (by omega) _ _ _ _ _ ⟨?_, ?_, ?_, ?_⟩)
      · rw [nn, I1]
        by_cases y : bk_sk t to fr < i
        · rw [if_pos y, if_pos (by omega)]
        · rw [if_neg y, if_neg (by omega)]
      · rw [nn]; intro k a b; rw [(old k b).1]; exact I2 k a b
      · rw [nn]; intro y k b; rw [(old k b).2]; exact I3 (hsk.mp y) k b
      · rw [nn]
        intro k b c
        rw [bk_oldN b] at c ⊢
        rw [(old k b).2] at c
        refine I4 k b ?_
        rcases c with c | c
        · rcases Nat.lt_or_ge (bk_N t (hy_b t P n) fr to i k) i with y | y
          · exact Or.inl y
          · have hNi : bk_N t (hy_b t P n) fr to i k = i := by omega
            by_cases k0 : k = 0
            · rw [bk_N, if_pos k0] at hNi
              rw [hNi] at s4; omega
            · by_cases q : bk_H t (hy_b t P n) fr to i k = true
              · exact Or.inr ⟨by omega, q⟩
              · rw [bk_N, if_neg k0, if_neg q] at hNi
                have hEk1 := B1 k (by omega) b
                have skk := (bk_sk_ok (t := t) (show bk_E t (hy_b t P n) fr to i k ≤ to by omega)).2.2.2
                rw [hNi] at skk; omega
        · exact Or.inr c
end
