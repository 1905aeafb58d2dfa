/-! pages -/
abbrev lt_num (r : lt_R) : Nat := r.2.2.2.1
abbrev lt_last (r : lt_R) : Bool := r.2.2.2.2.1
abbrev lt_par (r : lt_R) : Nat := r.2.2.2.2.2
/-- a page may end before line k -/
def pe_g (Λ : lt_T) (lc k : Nat) : Bool := decide (lt_par (Λ (k - 1)) ≠ lt_par (Λ k) ∨ (2 ≤ k ∧ lt_par (Λ (k - 2)) = lt_par (Λ k) ∧ k + 1 < lc ∧ lt_par (Λ (k + 1)) = lt_par (Λ k)))
def pe_e (Λ : lt_T) (lc ph s : Nat) : Nat → Nat
  | 0 => s + ph
  | j + 1 => if pe_g Λ lc (s + (j + 1)) = true then s + (j + 1) else pe_e Λ lc ph s j
def pe_E (Λ : lt_T) (lc ph s : Nat) : Nat := if s + ph < lc then pe_e Λ lc ph s ph else lc
def pe_f (Λ : lt_T) (lc ph : Nat) : Nat → Nat → Nat → Nat → Nat
  | 0, _, _, _ => 0
  | f + 1, s, q, k => if k < pe_E Λ lc ph s then q else pe_f Λ lc ph f (pe_E Λ lc ph s) (q + 1) k
theorem pe_e_b (Λ : lt_T) (lc ph s : Nat) (hph : 1 ≤ ph) : ∀ j, j ≤ ph → s < pe_e Λ lc ph s j ∧ pe_e Λ lc ph s j ≤ s + ph := by
  intro j
  induction j with
  | zero => intro _; rw [pe_e]; omega
  | succ j ih =>
    intro h
    rw [pe_e]
    split
    · omega
    · exact ih (by omega)
theorem pe_E_b {Λ : lt_T} {lc ph s : Nat} (hph : 1 ≤ ph) (hs : s < lc) : s < pe_E Λ lc ph s ∧ pe_E Λ lc ph s ≤ lc := by
  rw [pe_E]
  split
  · have := pe_e_b Λ lc ph s hph ph (Nat.le_refl _); omega
  · omega
section
variable {n lc pc fw rw fl sw ss sk ba hyc ph : Nat} {t w lg : Nat → Nat} {kn : Nat → Int}
variable {P : Nat → Nat} {par lnc : Nat} {Λ : lt_T}
variable {x_breakCount x_lineCount x_paragraphCount x_stale : Int32} {a_patterns a_heads a_glyphs a_breakEnd a_breakNext a_breakHyphen a_breakTaken a_wayBefore a_lineFacts : Nat → Int32} {a_wayDemerits a_paragraphDemerits : Nat → Int64}
theorem px_par {post : Int32 → Prop} {k : Nat} (hl : lnc ≤ 48) (hk : k < 1000) (X : (xl_ok t lg w kn sw ss sk fw rw fl) lnc Λ a_lineFacts) (hp1 : k < lnc → post (nI (lt_par (Λ k)))) (hp2 : lnc ≤ k → post (-1)) : wpX_paragraphOf post ((nI n), (nI lc), (nI pc), (nI fw), (nI rw), (nI fl), (nI sw), (nI ss), (nI sk), (nI ba), (nI hyc), (nI ph), x_breakCount, (nI lnc), x_paragraphCount, x_stale, (gd_tI t), (gd_tI w), (gd_lI lg), (gd_kI kn), a_patterns, a_heads, a_glyphs, a_breakEnd, a_breakNext, a_breakHyphen, a_breakTaken, a_wayDemerits, a_wayBefore, a_lineFacts, a_paragraphDemerits) (nI k) := by
  refine br_f (nI_pos (by omega)) (pk_lt k lnc (fun y => ?_) (fun y => hp2 y))
  have e : nI k * 8 + 5 = nI (8 * k + 5) := by
    rw [show (8 : Int32) = nI 8 from rfl, show (5 : Int32) = nI 5 from rfl, pk_mul, nI_add, Nat.mul_comm]
  refine ⟨pk_in (8 * k + 5) 384 (by omega) e, ?_⟩
  rw [e, nI_clamp (by omega), (X k y).2.2.2.2.2.1]
  exact hp1 y
theorem px_may {post : Int32 → Prop} {k : Nat} (hl : lnc ≤ 48) (hk1 : 1 ≤ k) (hk : k < lnc) (hpr : ∀ i, i < lnc → lt_par (Λ i) < 1000) (X : (xl_ok t lg w kn sw ss sk fw rw fl) lnc Λ a_lineFacts) (hp : post (gd_bI (pe_g Λ lnc k))) : wpX_mayPageEndBefore post ((nI n), (nI lc), (nI pc), (nI fw), (nI rw), (nI fl), (nI sw), (nI ss), (nI sk), (nI ba), (nI hyc), (nI ph), x_breakCount, (nI lnc), x_paragraphCount, x_stale, (gd_tI t), (gd_tI w), (gd_lI lg), (gd_kI kn), a_patterns, a_heads, a_glyphs, a_breakEnd, a_breakNext, a_breakHyphen, a_breakTaken, a_wayDemerits, a_wayBefore, a_lineFacts, a_paragraphDemerits) (nI k) := by
  have p0 := hpr k hk
  have p1 := hpr (k - 1) (by omega)
  unfold wpX_mayPageEndBefore
  refine px_par hl (by omega) X (fun _ => ?_) (fun y => absurd y (by omega))
  rw [show nI k - 1 = nI (k - 1) from gd_p1 (by omega)]
  refine px_par hl (by omega) X (fun _ => ?_) (fun y => absurd y (by omega))
  refine pk_eq (lt_par (Λ (k - 1))) (lt_par (Λ k)) (fun e1 => ?_) (fun e1 => ?_)
  · by_cases k2 : 2 ≤ k
    · have p2 := hpr (k - 2) (by omega)
      have e2 : nI k - 2 = nI (k - 2) := by rw [show (2 : Int32) = nI 2 from rfl, pk_sub k2]
      rw [e2]
      refine px_par hl (by omega) X (fun _ => ?_) (fun y => absurd y (by omega))
      refine pk_eq (lt_par (Λ (k - 2))) (lt_par (Λ k)) (fun e3 => ?_) (fun e3 => ?_)
      · rw [nI_1]
        refine px_par hl (by omega) X (fun y => ?_) (fun y => ?_)
        · have p3 := hpr (k + 1) y
          refine pk_eq (lt_par (Λ (k + 1))) (lt_par (Λ k)) (fun e4 => ?_) (fun e4 => ?_)
          · rw [pe_g, decide_eq_true (Or.inr ⟨k2, e3, y, e4⟩)] at hp; exact hp
          · rw [pe_g, decide_eq_false (by omega)] at hp; exact hp
        · refine br_f (fun z => gd_nm1 (show lt_par (Λ k) < 2 ^ 31 by omega) z.symm) ?_
          rw [pe_g, decide_eq_false (by omega)] at hp; exact hp
      · rw [pe_g, decide_eq_false (by omega)] at hp; exact hp
    · have : k = 1 := by omega
      subst this
      refine br_t (by decide) (br_f (fun z => gd_nm1 (show lt_par (Λ 1) < 2 ^ 31 by omega) z.symm) ?_)
      rw [pe_g, decide_eq_false (by omega)] at hp; exact hp
  · rw [pe_g, decide_eq_true (Or.inl e1)] at hp; exact hp
theorem px_end {post : Int32 → Prop} {s : Nat} (hl : lnc ≤ 48) (hph : 1 ≤ ph) (hph2 : ph ≤ 12) (hs : s < lnc) (hpr : ∀ i, i < lnc → lt_par (Λ i) < 1000) (X : (xl_ok t lg w kn sw ss sk fw rw fl) lnc Λ a_lineFacts) (hp : post (nI (pe_E Λ lnc ph s))) : wpX_pageEnd post ((nI n), (nI lc), (nI pc), (nI fw), (nI rw), (nI fl), (nI sw), (nI ss), (nI sk), (nI ba), (nI hyc), (nI ph), x_breakCount, (nI lnc), x_paragraphCount, x_stale, (gd_tI t), (gd_tI w), (gd_lI lg), (gd_kI kn), a_patterns, a_heads, a_glyphs, a_breakEnd, a_breakNext, a_breakHyphen, a_breakTaken, a_wayDemerits, a_wayBefore, a_lineFacts, a_paragraphDemerits) (nI s) := by
  rw [pe_E] at hp
  refine pk_lt (s + ph) lnc (fun y => ?_) (fun y => ?_) (nI_add s ph) rfl (by omega) (by omega)
  · rw [if_pos y] at hp
    have loop : ∀ j, j ≤ ph → post (nI (pe_e Λ lnc ph s j)) → wX_pageEnd_25 post (nI s) (nI n) (nI lc) (nI pc) (nI fw) (nI rw) (nI fl) (nI sw) (nI ss) (nI sk) (nI ba) (nI hyc) (nI ph) x_breakCount (nI lnc) x_paragraphCount x_stale (gd_tI t) (gd_tI w) (gd_lI lg) (gd_kI kn) a_patterns a_heads a_glyphs a_breakEnd a_breakNext a_breakHyphen a_breakTaken a_wayDemerits a_wayBefore a_lineFacts a_paragraphDemerits (j + 1) (nI (s + j)) := by
      intro j
      induction j with
      | zero =>
        intro _ hp
        refine br_t (nI_le (by omega) (by omega)) ?_
        rw [nI_add]
        exact hp
      | succ j ih =>
        intro hj hp
        rw [pe_e] at hp
        refine br_f (nI_ge (by omega) (by omega)) (px_may hl (by omega) (by omega) hpr X (gd_bt (fun z => ?_) (fun z => ?_)))
        · rw [if_neg (by rw [z]; decide)] at hp
          exact nm_r (pk_m1 (s + j)) (ih (by omega) hp)
        · rw [if_pos z] at hp
          exact hp
    exact nm_r (nI_add s ph) ⟨ph + 1, loop ph (Nat.le_refl _) hp⟩
  · rw [if_neg (by omega)] at hp
    exact hp
theorem px_fill {post : SX → Prop} (hl : lnc ≤ 48) (hph : 1 ≤ ph) (hph2 : ph ≤ 12) (hpr : ∀ i, i < lnc → lt_par (Λ i) < 1000) (X : (xl_ok t lg w kn sw ss sk fw rw fl) lnc Λ a_lineFacts)
    (hp : ∀ a_lineFacts, (xl_ok t lg w kn sw ss sk fw rw fl) lnc Λ a_lineFacts → (∀ k, k < lnc → a_lineFacts (8 * k + 6) = nI (pe_f Λ lnc ph 49 0 0 k)) → post ((nI n), (nI lc), (nI pc), (nI fw), (nI rw), (nI fl), (nI sw), (nI ss), (nI sk), (nI ba), (nI hyc), (nI ph), x_breakCount, (nI lnc), x_paragraphCount, x_stale, (gd_tI t), (gd_tI w), (gd_lI lg), (gd_kI kn), a_patterns, a_heads, a_glyphs, a_breakEnd, a_breakNext, a_breakHyphen, a_breakTaken, a_wayDemerits, a_wayBefore, a_lineFacts, a_paragraphDemerits)) : wpX_fillPages post ((nI n), (nI lc), (nI pc), (nI fw), (nI rw), (nI fl), (nI sw), (nI ss), (nI sk), (nI ba), (nI hyc), (nI ph), x_breakCount, (nI lnc), x_paragraphCount, x_stale, (gd_tI t), (gd_tI w), (gd_lI lg), (gd_kI kn), a_patterns, a_heads, a_glyphs, a_breakEnd, a_breakNext, a_breakHyphen, a_breakTaken, a_wayDemerits, a_wayBefore, a_lineFacts, a_paragraphDemerits) := by
  have xup : ∀ F k v, (xl_ok t lg w kn sw ss sk fw rw fl) lnc Λ F → (xl_ok t lg w kn sw ss sk fw rw fl) lnc Λ (upd F (8 * k + 6) v) := by
    intro F k v h i hi
    obtain ⟨r0, r1, r2, r3, r4, r5, r7⟩ := h i hi
    refine ⟨?_, ?_, ?_, ?_, ?_, ?_, ?_⟩ <;> rw [pk_un (by omega)]
    · exact r0
    · exact r1
    · exact r2
    · exact r3
    · exact r4
    · exact r5
    · exact r7
  have loop : ∀ f s q a_lineFacts, lnc - s < f → s ≤ lnc → q ≤ s → (xl_ok t lg w kn sw ss sk fw rw fl) lnc Λ a_lineFacts → (∀ a_lineFacts', (xl_ok t lg w kn sw ss sk fw rw fl) lnc Λ a_lineFacts' → (∀ k, k < s → a_lineFacts' (8 * k + 6) = a_lineFacts (8 * k + 6)) → (∀ k, s ≤ k → k < lnc → a_lineFacts' (8 * k + 6) = nI (pe_f Λ lnc ph f s q k)) → post ((nI n), (nI lc), (nI pc), (nI fw), (nI rw), (nI fl), (nI sw), (nI ss), (nI sk), (nI ba), (nI hyc), (nI ph), x_breakCount, (nI lnc), x_paragraphCount, x_stale, (gd_tI t), (gd_tI w), (gd_lI lg), (gd_kI kn), a_patterns, a_heads, a_glyphs, a_breakEnd, a_breakNext, a_breakHyphen, a_breakTaken, a_wayDemerits, a_wayBefore, a_lineFacts', a_paragraphDemerits)) → wX_fillPages_4 post (nI n) (nI lc) (nI pc) (nI fw) (nI rw) (nI fl) (nI sw) (nI ss) (nI sk) (nI ba) (nI hyc) (nI ph) x_breakCount (nI lnc) x_paragraphCount x_stale f (nI s) (nI q) (gd_tI t) (gd_tI w) (gd_lI lg) (gd_kI kn) a_patterns a_heads a_glyphs a_breakEnd a_breakNext a_breakHyphen a_breakTaken a_wayDemerits a_wayBefore a_lineFacts a_paragraphDemerits := by
    intro f
    induction f with
    | zero => intro s q a_lineFacts h; omega
    | succ f ih =>
      intro s q a_lineFacts h1 h2 h3 X hp
      by_cases z : lnc ≤ s
      · have done := hp a_lineFacts X (fun k hk => rfl) (fun k a b => absurd a (by omega))
        exact br_c (fun _ => done) (fun _ => br_t (nI_le z (by omega)) done)
      · have hE := pe_E_b (Λ := Λ) (lc := lnc) (ph := ph) (s := s) hph (by omega)
        refine br_f (nI_ge (b := 48) (by omega) (by decide)) (br_f (nI_ge (by omega) (by omega)) (px_end hl hph hph2 (by omega) hpr X ?_))
        have inner : ∀ d k F, k + d = pe_E Λ lnc ph s → s ≤ k → (xl_ok t lg w kn sw ss sk fw rw fl) lnc Λ F → (∀ j, j < s → F (8 * j + 6) = a_lineFacts (8 * j + 6)) → (∀ j, s ≤ j → j < k → F (8 * j + 6) = nI q) → wX_fillPages_27 post (wX_fillPages_4 post (nI n) (nI lc) (nI pc) (nI fw) (nI rw) (nI fl) (nI sw) (nI ss) (nI sk) (nI ba) (nI hyc) (nI ph) x_breakCount (nI lnc) x_paragraphCount x_stale f) (nI q) (nI (pe_E Λ lnc ph s)) (nI n) (nI lc) (nI pc) (nI fw) (nI rw) (nI fl) (nI sw) (nI ss) (nI sk) (nI ba) (nI hyc) (nI ph) x_breakCount (nI lnc) x_paragraphCount x_stale (d + 1) (nI k) (gd_tI t) (gd_tI w) (gd_lI lg) (gd_kI kn) a_patterns a_heads a_glyphs a_breakEnd a_breakNext a_breakHyphen a_breakTaken a_wayDemerits a_wayBefore F a_paragraphDemerits := by
          intro d
          induction d with
          | zero =>
            intro k F hk hsk XF hlo hq
            have e : k = pe_E Λ lnc ph s := by omega
            subst e
            refine br_t (nI_le (Nat.le_refl _) (by omega)) (nm_r (nI_1 q) (ih (pe_E Λ lnc ph s) (q + 1) F (by omega) (by omega) (by omega) XF (fun F' XF' h4 h5 => hp F' XF' (fun k hk => ?_) (fun k a b => ?_))))
            · rw [h4 k (by omega), hlo k hk]
            · rw [pe_f]
              by_cases y : k < pe_E Λ lnc ph s
              · rw [if_pos y, h4 k y, hq k a y]
              · rw [if_neg y, h5 k (by omega) b]
          | succ d ihd =>
            intro k F hk hsk XF hlo hq
            have e : nI k * 8 + 6 = nI (8 * k + 6) := by
              rw [show (8 : Int32) = nI 8 from rfl, show (6 : Int32) = nI 6 from rfl, pk_mul, nI_add, Nat.mul_comm]
            refine br_f (nI_ge (by omega) (by omega)) ⟨pk_in (8 * k + 6) 384 (by omega) e, nm_r (e' := upd F (8 * k + 6) (nI q)) (by rw [e, nI_clamp (by omega)]) (nm_r (nI_1 k) (ihd (k + 1) _ (by omega) (by omega) (xup F k _ XF) (fun j hj => ?_) (fun j a b => ?_)))⟩
            · rw [pk_un (by omega), hlo j hj]
            · by_cases y : j = k
              · rw [y, pk_us]
              · rw [pk_un (by omega), hq j a (by omega)]
        exact ⟨pe_E Λ lnc ph s - s + 1, inner (pe_E Λ lnc ph s - s) s a_lineFacts (by omega) (Nat.le_refl _) X (fun j _ => rfl) (fun j a b => absurd a (by omega))⟩
  exact ⟨49, loop 49 0 0 a_lineFacts (by omega) (by omega) (by omega) X (fun F XF _ h => hp F XF (fun k hk => h k (by omega) hk))⟩
end
section
variable {n lc pc fw rw fl sw ss sk ba hyc ph : Nat} {t w lg : Nat → Nat} {kn : Nat → Int}
variable {P : Nat → Nat} {par lnc : Nat} {Λ : lt_T}
variable {y_ready y_glyphCount y_breaks y_natural y_spaces y_lineCount y_paragraphs : Int32} {b_patA b_patB b_patC b_patDigits b_glyphs b_glyphOf b_bEnd b_bNext b_bHyphen b_before b_way b_lFrom b_lTo b_lNumber b_lParagraph b_lPage b_lHyphen b_lLast : Nat → Int32} {b_least b_best : Nat → Int64}
def pe_mn (r : lt_R) : Bool := decide (0 < lt_num r) || !(lt_last r)
theorem py_many {post : Int32 → Prop} {k : Nat} (hl : lnc ≤ 48) (hk : k < lnc) (hv : ∀ i, i < lnc → lt_num (Λ i) < 1000) (Y : yl_ok lnc Λ b_lFrom b_lTo b_lNumber b_lParagraph b_lHyphen b_lLast) (hp : post (gd_bI (pe_mn (Λ k)))) : wpY_many post ((nI n), (nI lc), (nI pc), (nI fw), (nI rw), (nI fl), (nI sw), (nI ss), (nI sk), (nI ba), (nI hyc), (nI ph), y_ready, y_glyphCount, y_breaks, y_natural, y_spaces, y_lineCount, y_paragraphs, (gd_tI t), (gd_tI w), (gd_lI lg), (gd_kI kn), b_patA, b_patB, b_patC, b_patDigits, b_glyphs, b_glyphOf, b_bEnd, b_bNext, b_bHyphen, b_least, b_before, b_way, b_lFrom, b_lTo, b_lNumber, b_lParagraph, b_lPage, b_lHyphen, b_lLast, b_best) (nI k) := by
  obtain ⟨r1, r2, r3, r4, r5, r6⟩ := Y k hk
  have := hv k hk
  refine ⟨vp_in_nI (by omega) (by omega), pk_lt 0 (lt_num (Λ k)) (fun y => ?_) (fun y => ⟨vp_in_nI (by omega) (by omega), gd_bx (lt_last (Λ k)) (by rw [nI_clamp (by omega), r5]) (fun z => ?_) (fun z => ?_)⟩) rfl (by rw [nI_clamp (by omega), r4]) (by omega) (by omega)⟩
  · rw [pe_mn, decide_eq_true y] at hp; exact hp
  · rw [pe_mn, z, Bool.not_false, Bool.or_true] at hp; exact hp
  · rw [pe_mn, decide_eq_false (by omega), z] at hp; exact hp
/-- Y's condition is the opposite of X's -/
theorem pe_bad {k : Nat} (fit : lt_fit lnc par Λ) (hk1 : 1 ≤ k) (hk : k < lnc) : ((lt_last (Λ k) = true ∧ pe_mn (Λ k) = true) ∨ (lt_num (Λ (k - 1)) = 0 ∧ pe_mn (Λ (k - 1)) = true)) ↔ pe_g Λ lnc k = false := by
  obtain ⟨a1, a2, a3⟩ := fit k hk
  obtain ⟨b1, b2, b3⟩ := fit (k - 1) (by omega)
  rw [show k - 1 + 1 = k by omega] at b2
  rw [show k - 1 - 1 = k - 2 by omega] at b1
  rw [pe_g, decide_eq_false_iff_not, pe_mn, pe_mn, Bool.or_eq_true, Bool.or_eq_true, decide_eq_true_eq, decide_eq_true_eq, Bool.not_eq_true', Bool.not_eq_true']
  have n1 : lt_last (Λ k) = false ↔ ¬ lt_last (Λ k) = true := by cases lt_last (Λ k) <;> simp
  have n2 : lt_last (Λ (k - 1)) = false ↔ ¬ lt_last (Λ (k - 1)) = true := by cases lt_last (Λ (k - 1)) <;> simp
  rw [n1, n2]
  have a1 : lt_num (Λ k) = 0 ↔ (k = 0 ∨ lt_par (Λ (k - 1)) ≠ lt_par (Λ k)) := a1
  have a2 : lt_last (Λ k) = true ↔ (k + 1 = lnc ∨ lt_par (Λ (k + 1)) ≠ lt_par (Λ k)) := a2
  have b1 : lt_num (Λ (k - 1)) = 0 ↔ (k - 1 = 0 ∨ lt_par (Λ (k - 2)) ≠ lt_par (Λ (k - 1))) := b1
  have b2 : lt_last (Λ (k - 1)) = true ↔ (k = lnc ∨ lt_par (Λ k) ≠ lt_par (Λ (k - 1))) := b2
  rw [a2, b2]
  generalize lt_num (Λ k) = nk at *
  generalize lt_num (Λ (k - 1)) = nk1 at *
  generalize lt_par (Λ k) = pk at *
  generalize lt_par (Λ (k - 1)) = pk1 at *
  generalize lt_par (Λ (k - 2)) = pk2 at *
  generalize lt_par (Λ (k + 1)) = pk3 at *
  omega
theorem py_pages {post : SY → Prop} (hl : lnc ≤ 48) (hph : 1 ≤ ph) (hph2 : ph ≤ 12) (hv : ∀ i, i < lnc → lt_num (Λ i) < 1000) (fit : lt_fit lnc par Λ) (Y : yl_ok lnc Λ b_lFrom b_lTo b_lNumber b_lParagraph b_lHyphen b_lLast)
    (hp : ∀ b_lPage, (∀ k, k < lnc → b_lPage k = nI (pe_f Λ lnc ph 49 0 0 k)) → post ((nI n), (nI lc), (nI pc), (nI fw), (nI rw), (nI fl), (nI sw), (nI ss), (nI sk), (nI ba), (nI hyc), (nI ph), y_ready, y_glyphCount, y_breaks, y_natural, y_spaces, (nI lnc), y_paragraphs, (gd_tI t), (gd_tI w), (gd_lI lg), (gd_kI kn), b_patA, b_patB, b_patC, b_patDigits, b_glyphs, b_glyphOf, b_bEnd, b_bNext, b_bHyphen, b_least, b_before, b_way, b_lFrom, b_lTo, b_lNumber, b_lParagraph, b_lPage, b_lHyphen, b_lLast, b_best)) : wpY_pages post ((nI n), (nI lc), (nI pc), (nI fw), (nI rw), (nI fl), (nI sw), (nI ss), (nI sk), (nI ba), (nI hyc), (nI ph), y_ready, y_glyphCount, y_breaks, y_natural, y_spaces, (nI lnc), y_paragraphs, (gd_tI t), (gd_tI w), (gd_lI lg), (gd_kI kn), b_patA, b_patB, b_patC, b_patDigits, b_glyphs, b_glyphOf, b_bEnd, b_bNext, b_bHyphen, b_least, b_before, b_way, b_lFrom, b_lTo, b_lNumber, b_lParagraph, b_lPage, b_lHyphen, b_lLast, b_best) := by
  have loop : ∀ f s q b_lPage, lnc - s < f → s ≤ lnc → q ≤ s → (∀ b_lPage', (∀ k, k < s → b_lPage' k = b_lPage k) → (∀ k, s ≤ k → k < lnc → b_lPage' k = nI (pe_f Λ lnc ph f s q k)) → post ((nI n), (nI lc), (nI pc), (nI fw), (nI rw), (nI fl), (nI sw), (nI ss), (nI sk), (nI ba), (nI hyc), (nI ph), y_ready, y_glyphCount, y_breaks, y_natural, y_spaces, (nI lnc), y_paragraphs, (gd_tI t), (gd_tI w), (gd_lI lg), (gd_kI kn), b_patA, b_patB, b_patC, b_patDigits, b_glyphs, b_glyphOf, b_bEnd, b_bNext, b_bHyphen, b_least, b_before, b_way, b_lFrom, b_lTo, b_lNumber, b_lParagraph, b_lPage', b_lHyphen, b_lLast, b_best)) → wY_pages_4 post (nI n) (nI lc) (nI pc) (nI fw) (nI rw) (nI fl) (nI sw) (nI ss) (nI sk) (nI ba) (nI hyc) (nI ph) y_ready y_glyphCount y_breaks y_natural y_spaces (nI lnc) y_paragraphs f (nI q) (nI s) (gd_tI t) (gd_tI w) (gd_lI lg) (gd_kI kn) b_patA b_patB b_patC b_patDigits b_glyphs b_glyphOf b_bEnd b_bNext b_bHyphen b_least b_before b_way b_lFrom b_lTo b_lNumber b_lParagraph b_lPage b_lHyphen b_lLast b_best := by
    intro f
    induction f with
    | zero => intro s q b_lPage h; omega
    | succ f ih =>
      intro s q b_lPage h1 h2 h3 hp
      by_cases z : lnc ≤ s
      · exact br_t (nI_le z (by omega)) (hp b_lPage (fun k hk => rfl) (fun k a b => absurd a (by omega)))
      · have hE := pe_E_b (Λ := Λ) (lc := lnc) (ph := ph) (s := s) hph (by omega)
        have inner : ∀ tt, s + tt = pe_E Λ lnc ph s → ∀ d k F, k + d = pe_E Λ lnc ph s → s ≤ k → (∀ j, j < s → F j = b_lPage j) → (∀ j, s ≤ j → j < k → F j = nI q) → wY_pages_118 post (wY_pages_4 post (nI n) (nI lc) (nI pc) (nI fw) (nI rw) (nI fl) (nI sw) (nI ss) (nI sk) (nI ba) (nI hyc) (nI ph) y_ready y_glyphCount y_breaks y_natural y_spaces (nI lnc) y_paragraphs f) (nI q) (nI s) (nI tt) (nI n) (nI lc) (nI pc) (nI fw) (nI rw) (nI fl) (nI sw) (nI ss) (nI sk) (nI ba) (nI hyc) (nI ph) y_ready y_glyphCount y_breaks y_natural y_spaces (nI lnc) y_paragraphs (d + 1) (nI k) (gd_tI t) (gd_tI w) (gd_lI lg) (gd_kI kn) b_patA b_patB b_patC b_patDigits b_glyphs b_glyphOf b_bEnd b_bNext b_bHyphen b_least b_before b_way b_lFrom b_lTo b_lNumber b_lParagraph F b_lHyphen b_lLast b_best := by
          intro tt htt d
          induction d with
          | zero =>
            intro k F hk hsk hlo hq
            refine br_t (by rw [nI_add]; exact nI_le (by omega) (by omega)) (nm_r (e' := nI (pe_E Λ lnc ph s)) (by rw [nI_add, htt]) (nm_r (nI_1 q) (ih (pe_E Λ lnc ph s) (q + 1) F (by omega) (by omega) (by omega) (fun F' h4 h5 => hp F' (fun k hk => ?_) (fun k a b => ?_)))))
            · rw [h4 k (by omega), hlo k hk]
            · rw [pe_f]
              by_cases y : k < pe_E Λ lnc ph s
              · rw [if_pos y, h4 k y, hq k a (by omega)]
              · rw [if_neg y, h5 k (by omega) b]
          | succ d ihd =>
            intro k F hk hsk hlo hq
            refine br_f (by rw [nI_add]; exact nI_ge (by omega) (by omega)) ⟨vp_in_nI (by omega) (by omega), nm_r (e' := upd F k (nI q)) (by rw [nI_clamp (by omega)]) (nm_r (nI_1 k) (ihd (k + 1) _ (by omega) (by omega) (fun j hj => ?_) (fun j a b => ?_)))⟩
            · rw [pk_un (by omega), hlo j hj]
            · by_cases y : j = k
              · rw [y, pk_us]
              · rw [pk_un y, hq j a (by omega)]
        have go : ∀ tt, s + tt = pe_E Λ lnc ph s → ∃ n118 : Nat, wY_pages_118 post (wY_pages_4 post (nI n) (nI lc) (nI pc) (nI fw) (nI rw) (nI fl) (nI sw) (nI ss) (nI sk) (nI ba) (nI hyc) (nI ph) y_ready y_glyphCount y_breaks y_natural y_spaces (nI lnc) y_paragraphs f) (nI q) (nI s) (nI tt) (nI n) (nI lc) (nI pc) (nI fw) (nI rw) (nI fl) (nI sw) (nI ss) (nI sk) (nI ba) (nI hyc) (nI ph) y_ready y_glyphCount y_breaks y_natural y_spaces (nI lnc) y_paragraphs n118 (nI s) (gd_tI t) (gd_tI w) (gd_lI lg) (gd_kI kn) b_patA b_patB b_patC b_patDigits b_glyphs b_glyphOf b_bEnd b_bNext b_bHyphen b_least b_before b_way b_lFrom b_lTo b_lNumber b_lParagraph b_lPage b_lHyphen b_lLast b_best := fun tt h => ⟨_, inner tt h (pe_E Λ lnc ph s - s) s b_lPage (by omega) (Nat.le_refl _) (fun j _ => rfl) (fun j a b => absurd a (by omega))⟩
        refine br_f (nI_ge (by omega) (by omega)) ?_
        by_cases c : s + ph < lnc
        · have eE : pe_E Λ lnc ph s = pe_e Λ lnc ph s ph := by rw [pe_E, if_pos c]
          have dn : ∀ j, j ≤ ph → pe_e Λ lnc ph s j = pe_E Λ lnc ph s → wY_pages_42 post (wY_pages_4 post (nI n) (nI lc) (nI pc) (nI fw) (nI rw) (nI fl) (nI sw) (nI ss) (nI sk) (nI ba) (nI hyc) (nI ph) y_ready y_glyphCount y_breaks y_natural y_spaces (nI lnc) y_paragraphs f) (nI q) (nI s) (nI ph) (nI n) (nI lc) (nI pc) (nI fw) (nI rw) (nI fl) (nI sw) (nI ss) (nI sk) (nI ba) (nI hyc) (nI ph) y_ready y_glyphCount y_breaks y_natural y_spaces (nI lnc) y_paragraphs (gd_tI t) (gd_tI w) (gd_lI lg) (gd_kI kn) b_patA b_patB b_patC b_patDigits b_glyphs b_glyphOf b_bEnd b_bNext b_bHyphen b_least b_before b_way b_lFrom b_lTo b_lNumber b_lParagraph b_lPage b_lHyphen b_lLast b_best (j + 1) (nI j) := by
            intro j
            induction j with
            | zero =>
              intro _ he
              rw [pe_e] at he
              exact br_t (by decide) (br_t rfl (go ph he))
            | succ j ihj =>
              intro hj he
              have esum : nI s + nI (j + 1) = nI (s + (j + 1)) := nI_add _ _
              obtain ⟨r1, r2, r3, r4, r5, r6⟩ := Y (s + (j + 1)) (by omega)
              obtain ⟨u1, u2, u3, u4, u5, u6⟩ := Y (s + (j + 1) - 1) (by omega)
              have hvk := hv (s + (j + 1) - 1) (by omega)
              have bad := pe_bad fit (k := s + (j + 1)) (by omega) (by omega)
              rw [pe_e] at he
              have next : pe_g Λ lnc (s + (j + 1)) = false → wY_pages_42 post (wY_pages_4 post (nI n) (nI lc) (nI pc) (nI fw) (nI rw) (nI fl) (nI sw) (nI ss) (nI sk) (nI ba) (nI hyc) (nI ph) y_ready y_glyphCount y_breaks y_natural y_spaces (nI lnc) y_paragraphs f) (nI q) (nI s) (nI ph) (nI n) (nI lc) (nI pc) (nI fw) (nI rw) (nI fl) (nI sw) (nI ss) (nI sk) (nI ba) (nI hyc) (nI ph) y_ready y_glyphCount y_breaks y_natural y_spaces (nI lnc) y_paragraphs (gd_tI t) (gd_tI w) (gd_lI lg) (gd_kI kn) b_patA b_patB b_patC b_patDigits b_glyphs b_glyphOf b_bEnd b_bNext b_bHyphen b_least b_before b_way b_lFrom b_lTo b_lNumber b_lParagraph b_lPage b_lHyphen b_lLast b_best (j + 1) (nI j) := by
                intro hg
                rw [if_neg (by rw [hg]; decide)] at he
                exact ihj (by omega) he
              have stop : pe_g Λ lnc (s + (j + 1)) = true → wY_pages_108 post (wY_pages_4 post (nI n) (nI lc) (nI pc) (nI fw) (nI rw) (nI fl) (nI sw) (nI ss) (nI sk) (nI ba) (nI hyc) (nI ph) y_ready y_glyphCount y_breaks y_natural y_spaces (nI lnc) y_paragraphs f) (nI q) (nI s) (nI (j + 1)) (nI ph) (nI n) (nI lc) (nI pc) (nI fw) (nI rw) (nI fl) (nI sw) (nI ss) (nI sk) (nI ba) (nI hyc) (nI ph) y_ready y_glyphCount y_breaks y_natural y_spaces (nI lnc) y_paragraphs (gd_tI t) (gd_tI w) (gd_lI lg) (gd_kI kn) b_patA b_patB b_patC b_patDigits b_glyphs b_glyphOf b_bEnd b_bNext b_bHyphen b_least b_before b_way b_lFrom b_lTo b_lNumber b_lParagraph b_lPage b_lHyphen b_lLast b_best := by
                intro hg
                rw [if_pos hg] at he
                exact br_f (nI_ne0 (by omega) (by omega)) (go (j + 1) he)
              have second : ¬ (lt_last (Λ (s + (j + 1))) = true ∧ pe_mn (Λ (s + (j + 1))) = true) → wY_pages_77 post (wY_pages_4 post (nI n) (nI lc) (nI pc) (nI fw) (nI rw) (nI fl) (nI sw) (nI ss) (nI sk) (nI ba) (nI hyc) (nI ph) y_ready y_glyphCount y_breaks y_natural y_spaces (nI lnc) y_paragraphs f) (wY_pages_42 post (wY_pages_4 post (nI n) (nI lc) (nI pc) (nI fw) (nI rw) (nI fl) (nI sw) (nI ss) (nI sk) (nI ba) (nI hyc) (nI ph) y_ready y_glyphCount y_breaks y_natural y_spaces (nI lnc) y_paragraphs f) (nI q) (nI s) (nI ph) (nI n) (nI lc) (nI pc) (nI fw) (nI rw) (nI fl) (nI sw) (nI ss) (nI sk) (nI ba) (nI hyc) (nI ph) y_ready y_glyphCount y_breaks y_natural y_spaces (nI lnc) y_paragraphs (gd_tI t) (gd_tI w) (gd_lI lg) (gd_kI kn) b_patA b_patB b_patC b_patDigits b_glyphs b_glyphOf b_bEnd b_bNext b_bHyphen b_least b_before b_way b_lFrom b_lTo b_lNumber b_lParagraph b_lPage b_lHyphen b_lLast b_best (j + 1)) (nI q) (nI s) (nI (j + 1)) (nI ph) (nI n) (nI lc) (nI pc) (nI fw) (nI rw) (nI fl) (nI sw) (nI ss) (nI sk) (nI ba) (nI hyc) (nI ph) y_ready y_glyphCount y_breaks y_natural y_spaces (nI lnc) y_paragraphs (gd_tI t) (gd_tI w) (gd_lI lg) (gd_kI kn) b_patA b_patB b_patC b_patDigits b_glyphs b_glyphOf b_bEnd b_bNext b_bHyphen b_least b_before b_way b_lFrom b_lTo b_lNumber b_lParagraph b_lPage b_lHyphen b_lLast b_best := by
                intro hno
                have em1 : nI s + nI (j + 1) - 1 = nI (s + (j + 1) - 1) := by rw [esum, gd_p1 (by omega)]
                refine ⟨pk_in _ 48 (by omega) em1, pk_eq (lt_num (Λ (s + (j + 1) - 1))) 0 (fun y => ?_) (fun y => ?_) (by rw [em1, nI_clamp (by omega), u4]) rfl (by omega) (by omega)⟩
                · rw [em1]
                  refine py_many hl (by omega) hv Y (gd_bt (fun y2 => ?_) (fun y2 => ?_))
                  · refine stop ?_
                    cases hg : pe_g Λ lnc (s + (j + 1))
                    · rcases bad.mpr hg with w1 | w1
                      · exact absurd w1 hno
                      · rw [y2] at w1; exact absurd w1.2 (by decide)
                    · rfl
                  · exact nm_r (pk_m1 j) (next (bad.mp (Or.inr ⟨y, y2⟩)))
                · refine stop ?_
                  cases hg : pe_g Λ lnc (s + (j + 1))
                  · rcases bad.mpr hg with w1 | w1
                    · exact absurd w1 hno
                    · exact absurd w1.1 y
                  · rfl
              refine br_f (nI_nle (by omega) (by omega)) (br_f (by rw [esum]; exact nI_ge (by omega) (by omega)) ⟨pk_in _ 48 (by omega) esum, gd_bx (lt_last (Λ (s + (j + 1)))) (by rw [esum, nI_clamp (by omega), r5]) (fun y => ?_) (fun y => ?_)⟩)
              · exact second (fun w1 => by rw [y] at w1; exact absurd w1.1 (by decide))
              · rw [esum]
                refine py_many hl (by omega) hv Y (gd_bt (fun y2 => ?_) (fun y2 => ?_))
                · exact second (fun w1 => by rw [y2] at w1; exact absurd w1.2 (by decide))
                · exact nm_r (pk_m1 j) (next (bad.mp (Or.inl ⟨y, y2⟩)))
          refine br_t (by rw [pk_sub (by omega)]; exact nI_le (by omega) (by omega)) ⟨ph + 1, dn ph (Nat.le_refl _) eE.symm⟩
        · have eE : pe_E Λ lnc ph s = lnc := by rw [pe_E, if_neg c]
          have fin : ∀ tt, s + tt = lnc → wY_pages_42 post (wY_pages_4 post (nI n) (nI lc) (nI pc) (nI fw) (nI rw) (nI fl) (nI sw) (nI ss) (nI sk) (nI ba) (nI hyc) (nI ph) y_ready y_glyphCount y_breaks y_natural y_spaces (nI lnc) y_paragraphs f) (nI q) (nI s) (nI tt) (nI n) (nI lc) (nI pc) (nI fw) (nI rw) (nI fl) (nI sw) (nI ss) (nI sk) (nI ba) (nI hyc) (nI ph) y_ready y_glyphCount y_breaks y_natural y_spaces (nI lnc) y_paragraphs (gd_tI t) (gd_tI w) (gd_lI lg) (gd_kI kn) b_patA b_patB b_patC b_patDigits b_glyphs b_glyphOf b_bEnd b_bNext b_bHyphen b_least b_before b_way b_lFrom b_lTo b_lNumber b_lParagraph b_lPage b_lHyphen b_lLast b_best 1 (nI tt) := by
            intro tt htt
            refine br_f (nI_nle (by omega) (by omega)) (br_t (by rw [nI_add]; exact nI_le (by omega) (by omega)) (br_f (nI_ne0 (by omega) (by omega)) (go tt (by omega))))
          refine pk_le ph (lnc - s) (fun y => ⟨1, fin ph (by omega)⟩) (fun y => nm_r (pk_sub (by omega)) ⟨1, fin (lnc - s) (by omega)⟩) rfl (pk_sub (by omega)) (by omega) (by omega)
  exact ⟨49, loop 49 0 0 b_lPage (by omega) (by omega) (by omega) (fun F _ h => hp F (fun k hk => h k (by omega) hk))⟩
end
