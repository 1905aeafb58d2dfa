/-- the end and the beginning of the word about a place -/
def wd_e (t : Nat → Nat) (n : Nat) : Nat → Nat → Nat
  | 0, i => i
  | d + 1, i => if i < n ∧ t i < 10 then wd_e t n d (i + 1) else i
def wd_s (t : Nat → Nat) (n : Nat) : Nat → Nat
  | 0 => 0
  | i + 1 => if i < n ∧ t i < 10 then wd_s t n i else i + 1
def wd_E (t : Nat → Nat) (n i : Nat) : Nat := wd_e t n (n - i) i
theorem wd_e_ok {t : Nat → Nat} {n : Nat} : ∀ d i, n ≤ i + d → i ≤ wd_e t n d i ∧ (∀ j, i ≤ j → j < wd_e t n d i → j < n ∧ t j < 10) ∧ ¬ (wd_e t n d i < n ∧ t (wd_e t n d i) < 10) := by
  intro d
  induction d with
  | zero => intro i h; exact ⟨Nat.le_refl _, fun j a b => absurd b (by rw [wd_e]; omega), by rw [wd_e]; omega⟩
  | succ d ih =>
    intro i h
    by_cases c : i < n ∧ t i < 10
    · obtain ⟨a, b, e⟩ := ih (i + 1) (by omega)
      rw [wd_e, if_pos c]
      refine ⟨by omega, fun j h1 h2 => ?_, e⟩
      by_cases z : j = i
      · rw [z]; exact c
      · exact b j (by omega) h2
    · rw [wd_e, if_neg c]
      exact ⟨Nat.le_refl _, fun j h1 h2 => absurd h1 (by omega), c⟩
theorem wd_E_ok {t : Nat → Nat} {n : Nat} (i : Nat) : i ≤ wd_E t n i ∧ (∀ j, i ≤ j → j < wd_E t n i → j < n ∧ t j < 10) ∧ ¬ (wd_E t n i < n ∧ t (wd_E t n i) < 10) := wd_e_ok _ _ (by omega)
theorem wd_E_le {t : Nat → Nat} {n i : Nat} (h : i ≤ n) : wd_E t n i ≤ n := by
  obtain ⟨a, b, c⟩ := wd_E_ok (t := t) (n := n) i
  rcases Nat.lt_or_ge n (wd_E t n i) with z | z
  · have := (b n h z).1; omega
  · exact z
theorem wd_E_ge {t : Nat → Nat} {n i : Nat} (h : i < n ∧ t i < 10) : i < wd_E t n i := by
  obtain ⟨a, b, c⟩ := wd_E_ok (t := t) (n := n) i
  rcases Nat.lt_or_ge i (wd_E t n i) with z | z
  · exact z
  · have : wd_E t n i = i := by omega
    rw [this] at c
    exact absurd h c
theorem wd_s_ok {t : Nat → Nat} {n : Nat} (i : Nat) : wd_s t n i ≤ i ∧ (∀ j, wd_s t n i ≤ j → j < i → j < n ∧ t j < 10) ∧ (wd_s t n i = 0 ∨ ¬ (wd_s t n i - 1 < n ∧ t (wd_s t n i - 1) < 10)) := by
  induction i with
  | zero => exact ⟨Nat.le_refl _, fun j a b => absurd b (by omega), Or.inl rfl⟩
  | succ i ih =>
    obtain ⟨a, b, c⟩ := ih
    by_cases h : i < n ∧ t i < 10
    · rw [wd_s, if_pos h]
      refine ⟨by omega, fun j h1 h2 => ?_, c⟩
      by_cases z : j = i
      · rw [z]; exact h
      · exact b j h1 (by omega)
    · rw [wd_s, if_neg h]
      exact ⟨Nat.le_refl _, fun j h1 h2 => absurd h1 (by omega), Or.inr h⟩
section
variable {n lc pc fw rw fl sw ss sk ba hyc ph : Nat} {t w lg : Nat → Nat} {kn : Nat → Int}
variable {y_ready y_glyphCount y_breaks y_natural y_spaces y_lineCount y_paragraphs : Int32} {b_patA b_patB b_patC b_patDigits b_glyphs b_glyphOf b_bEnd b_bNext b_bHyphen b_before b_way b_lFrom b_lTo b_lNumber b_lParagraph b_lPage b_lHyphen b_lLast : Nat → Int32} {b_least b_best : Nat → Int64}
theorem yl_is {post : Int32 → Prop} {i : Nat} (hn : n ≤ 48) (hi : i < 2 ^ 31) (ht : ∀ i, t i ≤ 11) (hp : post (gd_bI (decide (i < n ∧ t i < 10)))) : wpY_isLetter post ((nI n), (nI lc), (nI pc), (nI fw), (nI rw), (nI fl), (nI sw), (nI ss), (nI sk), (nI ba), (nI hyc), (nI ph), y_ready, y_glyphCount, y_breaks, y_natural, y_spaces, y_lineCount, y_paragraphs, (gd_tI t), (gd_tI w), (gd_lI lg), (gd_kI kn), b_patA, b_patB, b_patC, b_patDigits, b_glyphs, b_glyphOf, b_bEnd, b_bNext, b_bHyphen, b_least, b_before, b_way, b_lFrom, b_lTo, b_lNumber, b_lParagraph, b_lPage, b_lHyphen, b_lLast, b_best) (nI i) := by
  refine br_f (nI_pos (by omega)) (pk_le n i (fun h => ?_) (fun h => ⟨vp_in_nI (by omega) (by omega), pk_le 10 (t i) (fun h1 => ?_) (fun h1 => ?_) rfl (gd_rt (by omega)) (by omega) (by have := ht i; omega)⟩))
  · rw [decide_eq_false (by omega)] at hp; exact hp
  · rw [decide_eq_false (by omega)] at hp; exact hp
  · rw [decide_eq_true (show i < n ∧ t i < 10 from ⟨h, h1⟩)] at hp; exact hp
theorem yl_neg {post : Int32 → Prop} {x : Int32} (hx : x < 0) (hp : post 0) : wpY_isLetter post ((nI n), (nI lc), (nI pc), (nI fw), (nI rw), (nI fl), (nI sw), (nI ss), (nI sk), (nI ba), (nI hyc), (nI ph), y_ready, y_glyphCount, y_breaks, y_natural, y_spaces, y_lineCount, y_paragraphs, (gd_tI t), (gd_tI w), (gd_lI lg), (gd_kI kn), b_patA, b_patB, b_patC, b_patDigits, b_glyphs, b_glyphOf, b_bEnd, b_bNext, b_bHyphen, b_least, b_before, b_way, b_lFrom, b_lTo, b_lNumber, b_lParagraph, b_lPage, b_lHyphen, b_lLast, b_best) x := br_t hx hp
theorem yl_end {post : Int32 → Prop} {i : Nat} (hn : n ≤ 48) (hi : i ≤ n) (ht : ∀ i, t i ≤ 11) (hp : post (nI (wd_E t n i))) : wpY_wordEnd post ((nI n), (nI lc), (nI pc), (nI fw), (nI rw), (nI fl), (nI sw), (nI ss), (nI sk), (nI ba), (nI hyc), (nI ph), y_ready, y_glyphCount, y_breaks, y_natural, y_spaces, y_lineCount, y_paragraphs, (gd_tI t), (gd_tI w), (gd_lI lg), (gd_kI kn), b_patA, b_patB, b_patC, b_patDigits, b_glyphs, b_glyphOf, b_bEnd, b_bNext, b_bHyphen, b_least, b_before, b_way, b_lFrom, b_lTo, b_lNumber, b_lParagraph, b_lPage, b_lHyphen, b_lLast, b_best) (nI i) := by
  have key : ∀ d i, i ≤ n → n ≤ i + d → ∀ hp : post (nI (wd_e t n d i)), wY_wordEnd_2 post (nI n) (nI lc) (nI pc) (nI fw) (nI rw) (nI fl) (nI sw) (nI ss) (nI sk) (nI ba) (nI hyc) (nI ph) y_ready y_glyphCount y_breaks y_natural y_spaces y_lineCount y_paragraphs (gd_tI t) (gd_tI w) (gd_lI lg) (gd_kI kn) b_patA b_patB b_patC b_patDigits b_glyphs b_glyphOf b_bEnd b_bNext b_bHyphen b_least b_before b_way b_lFrom b_lTo b_lNumber b_lParagraph b_lPage b_lHyphen b_lLast b_best (d + 1) (nI i) := by
    intro d
    induction d with
    | zero =>
      intro i h1 h2 hp
      unfold wY_wordEnd_2
      refine yl_is (i := i) hn (by omega) ht ?_
      rw [decide_eq_false (by omega)]
      exact br_t rfl hp
    | succ d ih =>
      intro i h1 h2 hp
      unfold wY_wordEnd_2
      refine yl_is (i := i) hn (by omega) ht ?_
      by_cases c : i < n ∧ t i < 10
      · rw [wd_e, if_pos c] at hp
        rw [decide_eq_true c]
        exact br_f (by decide) (nm_r (nI_1 i) (ih (i + 1) (by omega) (by omega) hp))
      · rw [wd_e, if_neg c] at hp
        rw [decide_eq_false c]
        exact br_t rfl hp
  exact ⟨_, key (n - i) i hi (by omega) hp⟩
theorem yl_start {post : Int32 → Prop} {i : Nat} (hn : n ≤ 48) (hi : i ≤ 100) (ht : ∀ i, t i ≤ 11) (hp : post (nI (wd_s t n i))) : wpY_wordStart post ((nI n), (nI lc), (nI pc), (nI fw), (nI rw), (nI fl), (nI sw), (nI ss), (nI sk), (nI ba), (nI hyc), (nI ph), y_ready, y_glyphCount, y_breaks, y_natural, y_spaces, y_lineCount, y_paragraphs, (gd_tI t), (gd_tI w), (gd_lI lg), (gd_kI kn), b_patA, b_patB, b_patC, b_patDigits, b_glyphs, b_glyphOf, b_bEnd, b_bNext, b_bHyphen, b_least, b_before, b_way, b_lFrom, b_lTo, b_lNumber, b_lParagraph, b_lPage, b_lHyphen, b_lLast, b_best) (nI i) := by
  have key : ∀ i, i ≤ 100 → ∀ hp : post (nI (wd_s t n i)), wY_wordStart_2 post (nI n) (nI lc) (nI pc) (nI fw) (nI rw) (nI fl) (nI sw) (nI ss) (nI sk) (nI ba) (nI hyc) (nI ph) y_ready y_glyphCount y_breaks y_natural y_spaces y_lineCount y_paragraphs (gd_tI t) (gd_tI w) (gd_lI lg) (gd_kI kn) b_patA b_patB b_patC b_patDigits b_glyphs b_glyphOf b_bEnd b_bNext b_bHyphen b_least b_before b_way b_lFrom b_lTo b_lNumber b_lParagraph b_lPage b_lHyphen b_lLast b_best (i + 1) (nI i) := by
    intro i
    induction i with
    | zero =>
      intro _ hp
      unfold wY_wordStart_2
      exact yl_neg (x := nI 0 - 1) (by decide) (br_t rfl hp)
    | succ i ih =>
      intro h hp
      unfold wY_wordStart_2
      rw [nI_pred]
      refine yl_is (i := i) hn (by omega) ht ?_
      by_cases c : i < n ∧ t i < 10
      · rw [wd_s, if_pos c] at hp
        rw [decide_eq_true c]
        exact br_f (by decide) (nm_r (pk_m1 i) (ih (by omega) hp))
      · rw [wd_s, if_neg c] at hp
        rw [decide_eq_false c]
        exact br_t rfl hp
  exact ⟨_, key i hi hp⟩
/-- skipping spaces -/
theorem yk_skip (post : SY → Prop) (J : Int32 → Int32 → Int32 → Int32 → Int32 → Int32 → Int32 → Int32 → Int32 → Int32 → Int32 → Int32 → Int32 → Int32 → Int32 → Int32 → Int32 → Int32 → Int32 → Int32 → (Nat → Int32) → (Nat → Int32) → (Nat → Int32) → (Nat → Int32) → (Nat → Int32) → (Nat → Int32) → (Nat → Int32) → (Nat → Int32) → (Nat → Int32) → (Nat → Int32) → (Nat → Int32) → (Nat → Int32) → (Nat → Int32) → (Nat → Int64) → (Nat → Int32) → (Nat → Int32) → (Nat → Int32) → (Nat → Int32) → (Nat → Int32) → (Nat → Int32) → (Nat → Int32) → (Nat → Int32) → (Nat → Int32) → (Nat → Int64) → Prop) {e : Nat} (he : e ≤ 48) (ht : ∀ i, t i ≤ 11) :
    ∀ d i, i + d = e → (∀ k, i ≤ k → k ≤ e → (∀ j, i ≤ j → j < k → t j = 10) → (k = e ∨ t k ≠ 10) → wY_walk_89 post J (nI e) (nI k) (nI n) (nI lc) (nI pc) (nI fw) (nI rw) (nI fl) (nI sw) (nI ss) (nI sk) (nI ba) (nI hyc) (nI ph) y_ready y_glyphCount y_breaks y_natural y_spaces y_lineCount y_paragraphs (gd_tI t) (gd_tI w) (gd_lI lg) (gd_kI kn) b_patA b_patB b_patC b_patDigits b_glyphs b_glyphOf b_bEnd b_bNext b_bHyphen b_least b_before b_way b_lFrom b_lTo b_lNumber b_lParagraph b_lPage b_lHyphen b_lLast b_best) → wY_walk_65 post J (nI e) (nI n) (nI lc) (nI pc) (nI fw) (nI rw) (nI fl) (nI sw) (nI ss) (nI sk) (nI ba) (nI hyc) (nI ph) y_ready y_glyphCount y_breaks y_natural y_spaces y_lineCount y_paragraphs (gd_tI t) (gd_tI w) (gd_lI lg) (gd_kI kn) b_patA b_patB b_patC b_patDigits b_glyphs b_glyphOf b_bEnd b_bNext b_bHyphen b_least b_before b_way b_lFrom b_lTo b_lNumber b_lParagraph b_lPage b_lHyphen b_lLast b_best (d + 1) (nI i) := by
  intro d
  induction d with
  | zero =>
    intro i hi h
    have : i = e := by omega
    subst this
    exact br_t (nI_le (Nat.le_refl _) (by omega)) (h i (Nat.le_refl _) (Nat.le_refl _) (fun j a b => absurd a (by omega)) (Or.inl rfl))
  | succ d ih =>
    intro i hi h
    refine br_f (nI_ge (by omega) (by omega)) ⟨vp_in_nI (by omega) (by omega), ?_⟩
    refine pk_eq (t i) 10 (fun hl => ?_) (fun hl => ?_) (gd_rt (by omega)) rfl (by have := ht i; omega) (by omega)
    · refine nm_r (nI_1 i) (ih (i + 1) (by omega) (fun k h1 h2 h3 h4 => h k (by omega) h2 (fun j a b => ?_) h4))
      by_cases z : j = i
      · rw [z]; exact hl
      · exact h3 j (by omega) b
    · exact h i (Nat.le_refl _) (by omega) (fun j a b => absurd a (by omega)) (Or.inr hl)
theorem yk_loop (post : SY → Prop) {s e : Nat} (hn : n ≤ 48) (he : e ≤ n) (ht : ∀ i, t i ≤ 11) (h11 : ∀ j, s ≤ j → j < e → t j ≠ 11) (h5 : Int)
    (hp : ∀ y_glyphCount b_glyphs b_glyphOf, post ((nI n), (nI lc), (nI pc), (nI fw), (nI rw), (nI fl), (nI sw), (nI ss), (nI sk), (nI ba), (nI hyc), (nI ph), y_ready, y_glyphCount, y_breaks, (gd_iI (rn_x t lg w kn sw s e e + h5)), (nI (rn_sc t s e)), y_lineCount, y_paragraphs, (gd_tI t), (gd_tI w), (gd_lI lg), (gd_kI kn), b_patA, b_patB, b_patC, b_patDigits, b_glyphs, b_glyphOf, b_bEnd, b_bNext, b_bHyphen, b_least, b_before, b_way, b_lFrom, b_lTo, b_lNumber, b_lParagraph, b_lPage, b_lHyphen, b_lLast, b_best)) :
    ∀ F i, e - i < F → s ≤ i → i ≤ e → (i < e → t i < 10 ∧ (i = s ∨ ¬ t (i - 1) < 10)) → ∀ y_glyphCount y_natural y_spaces b_glyphs b_glyphOf, (i < e → y_natural = gd_iI (rn_x t lg w kn sw s e i + rn_gp t lg kn sw s e i + h5) ∧ y_spaces = nI (rn_sc t s (i + 1))) → (i = e → y_natural = gd_iI (rn_x t lg w kn sw s e e + h5) ∧ y_spaces = nI (rn_sc t s e)) →
      wY_walk_21 post (nI e) F (nI i) (nI n) (nI lc) (nI pc) (nI fw) (nI rw) (nI fl) (nI sw) (nI ss) (nI sk) (nI ba) (nI hyc) (nI ph) y_ready y_glyphCount y_breaks y_natural y_spaces y_lineCount y_paragraphs (gd_tI t) (gd_tI w) (gd_lI lg) (gd_kI kn) b_patA b_patB b_patC b_patDigits b_glyphs b_glyphOf b_bEnd b_bNext b_bHyphen b_least b_before b_way b_lFrom b_lTo b_lNumber b_lParagraph b_lPage b_lHyphen b_lLast b_best := by
  intro F
  induction F with
  | zero => intro i h; omega
  | succ F ih =>
    intro i hF hs hie hw y_glyphCount y_natural y_spaces b_glyphs b_glyphOf h1 h2
    by_cases hi : i = e
    · obtain ⟨r1, r2⟩ := h2 hi
      subst hi r1 r2
      exact br_t (nI_le (Nat.le_refl _) (by omega)) (hp _ _ _)
    · obtain ⟨hli, hw0⟩ := hw (by omega)
      obtain ⟨r1, r2⟩ := h1 (by omega)
      subst r1 r2
      have K : ∀ e2, i < e2 → e2 ≤ e → (∀ j, i ≤ j → j < e2 → t j < 10) → (e2 = e ∨ ¬ t e2 < 10) → wY_walk_44 post (wY_walk_21 post (nI e) F) (nI e) (nI i) (nI e2) (nI n) (nI lc) (nI pc) (nI fw) (nI rw) (nI fl) (nI sw) (nI ss) (nI sk) (nI ba) (nI hyc) (nI ph) y_ready y_glyphCount y_breaks (gd_iI (rn_x t lg w kn sw s e i + rn_gp t lg kn sw s e i + h5)) (nI (rn_sc t s (i + 1))) y_lineCount y_paragraphs (gd_tI t) (gd_tI w) (gd_lI lg) (gd_kI kn) b_patA b_patB b_patC b_patDigits b_glyphs b_glyphOf b_bEnd b_bNext b_bHyphen b_least b_before b_way b_lFrom b_lTo b_lNumber b_lParagraph b_lPage b_lHyphen b_lLast b_best := by
        intro e2 a1 a2 a3 a4
        refine ys_shape a1 (by omega) ht a3 (fun b_glyphs b_glyphOf hok => ?_)
        have hx : gd_iI (rn_x t lg w kn sw s e i + rn_gp t lg kn sw s e i + h5) + gd_iI (rn_x t lg w kn sw i e2 e2) = gd_iI (rn_x t lg w kn sw s e e2 + h5) := by
          have := rn_word (lg := lg) (w := w) (kn := kn) (sw := sw) hs hw0 a3 a2 a4 (e2 - i - 1) (by omega)
          rw [show i + (e2 - i - 1) + 1 = e2 by omega] at this
          rw [this, gd_add]
          congr 1
          omega
        refine nm_r hx ⟨e - e2 + 1, yk_skip post _ (by omega) ht (e - e2) e2 (by omega) (fun k c1 c2 c3 c4 => ?_)⟩
        have hxk : rn_x t lg w kn sw s e k = rn_x t lg w kn sw s e e2 := by
          have := rn_flat (t := t) (lg := lg) (w := w) (kn := kn) (sw := sw) (s := s) (e := e) (i := e2) (by omega) (k - e2) (fun j d1 d2 => by rw [c3 j d1 (by omega)]; omega)
          rwa [show e2 + (k - e2) = k by omega] at this
        have hsk : rn_sc t s k = rn_sc t s (i + 1) := by
          have q1 := rn_sflat (t := t) (s := s) (i := e2) (k - e2) (fun j d1 d2 => by rw [c3 j d1 (by omega)]; omega)
          have q2 := rn_sword (t := t) (s := s) (i := i) (e2 - i - 1) (fun j d1 d2 => a3 j d1 (by omega))
          rw [show e2 + (k - e2) = k by omega] at q1
          rw [show i + (e2 - i - 1) + 1 = e2 by omega] at q2
          rw [q1, q2]
        by_cases hk : k = e
        · refine br_t (nI_le (by omega) (by omega)) (ih k (by omega) (by omega) (by omega) (fun h => absurd h (by omega)) _ _ _ _ _ (fun h => absurd h (by omega)) (fun _ => ⟨?_, ?_⟩))
          · rw [← hxk, hk]
          · rw [← hsk, hk]
        · have hk2 : e2 < k := by
            rcases Nat.lt_or_ge e2 k with z | z
            · exact z
            · have z2 : k = e2 := by omega
              subst z2
              have := h11 k (by omega) (by omega)
              have := ht k
              omega
          have hlk : t k < 10 := by
            have := h11 k (by omega) (by omega)
            have := ht k
            omega
          have hpk : ¬ t (k - 1) < 10 := by rw [c3 (k - 1) (by omega) (by omega)]; omega
          refine br_f (nI_ge (by omega) (by omega)) (nm_e (nm_r (nI_1 _) (ih k (by omega) (by omega) (by omega) (fun _ => ⟨hlk, Or.inr hpk⟩) _ _ _ _ _ (fun _ => ⟨?_, ?_⟩) (fun h => absurd h hk))))
          · rw [hxk, show rn_gp t lg kn sw s e k = (sw : Int) by rw [rn_gp, if_pos (by omega), if_neg hpk], gd_nat, gd_add]
            congr 1
            omega
          · rw [rn_scy (by omega) hlk hpk, hsk]
      refine br_f (nI_ge (by omega) (by omega)) (yl_end hn (by omega) ht ?_)
      obtain ⟨w1, w2, w3⟩ := wd_E_ok (t := t) (n := n) i
      have w4 := wd_E_le (t := t) (show i ≤ n by omega)
      have w5 := wd_E_ge (t := t) (n := n) ⟨by omega, hli⟩
      refine pk_le (wd_E t n i) e (fun h => ?_) (fun h => ?_)
      · refine K _ w5 h (fun j a b => (w2 j a b).2) ?_
        rcases Nat.lt_or_ge (wd_E t n i) e with z | z
        · exact Or.inr (fun y => w3 ⟨by omega, y⟩)
        · exact Or.inl (by omega)
      · exact K e (by omega) (Nat.le_refl _) (fun j a b => (w2 j a (by omega)).2) (Or.inl rfl)
/-- Y's walk over the line [s, e) -/
theorem yk_walk {post : SY → Prop} {s e : Nat} (hn : n ≤ 48) (hse : s < e) (he : e ≤ n) (ht : ∀ i, t i ≤ 11) (hl : t s < 10) (h11 : ∀ j, s ≤ j → j < e → t j ≠ 11) (b : Bool)
    (hp : ∀ y_glyphCount b_glyphs b_glyphOf, post ((nI n), (nI lc), (nI pc), (nI fw), (nI rw), (nI fl), (nI sw), (nI ss), (nI sk), (nI ba), (nI hyc), (nI ph), y_ready, y_glyphCount, y_breaks, (gd_iI (rn_x t lg w kn sw s e e + (cond b 5 0))), (nI (rn_sc t s e)), y_lineCount, y_paragraphs, (gd_tI t), (gd_tI w), (gd_lI lg), (gd_kI kn), b_patA, b_patB, b_patC, b_patDigits, b_glyphs, b_glyphOf, b_bEnd, b_bNext, b_bHyphen, b_least, b_before, b_way, b_lFrom, b_lTo, b_lNumber, b_lParagraph, b_lPage, b_lHyphen, b_lLast, b_best)) : wpY_walk post ((nI n), (nI lc), (nI pc), (nI fw), (nI rw), (nI fl), (nI sw), (nI ss), (nI sk), (nI ba), (nI hyc), (nI ph), y_ready, y_glyphCount, y_breaks, y_natural, y_spaces, y_lineCount, y_paragraphs, (gd_tI t), (gd_tI w), (gd_lI lg), (gd_kI kn), b_patA, b_patB, b_patC, b_patDigits, b_glyphs, b_glyphOf, b_bEnd, b_bNext, b_bHyphen, b_least, b_before, b_way, b_lFrom, b_lTo, b_lNumber, b_lParagraph, b_lPage, b_lHyphen, b_lLast, b_best) (nI s) (nI e) (gd_bI b) := by
  have g0 : rn_gp t lg kn sw s e s = 0 := by rw [rn_gp, if_neg (by omega)]
  cases b
  · refine br_t rfl ⟨e - s + 1, yk_loop post hn he ht h11 0 hp (e - s + 1) s (by omega) (Nat.le_refl _) (by omega) (fun _ => ⟨hl, Or.inl rfl⟩) _ _ _ _ _ (fun _ => ⟨?_, ?_⟩) (fun h => absurd h (by omega))⟩
    · rw [rn_x0 (Nat.le_refl _), g0]; rfl
    · rw [rn_sc0 (by omega)]; rfl
  · refine br_f (by decide) ⟨e - s + 1, yk_loop post hn he ht h11 5 hp (e - s + 1) s (by omega) (Nat.le_refl _) (by omega) (fun _ => ⟨hl, Or.inl rfl⟩) _ _ _ _ _ (fun _ => ⟨?_, ?_⟩) (fun h => absurd h (by omega))⟩
    · rw [rn_x0 (Nat.le_refl _), g0]; rfl
    · rw [rn_sc0 (by omega)]; rfl
end
