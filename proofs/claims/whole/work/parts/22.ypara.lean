theorem cs_getL {l1 l2 : List Nat} {i : Nat} (h : i < l1.length) : (l1 ++ l2).getD i 0 = l1.getD i 0 := by
  rw [List.getD_eq_getElem?_getD, List.getD_eq_getElem?_getD, List.getElem?_append_left h]
theorem cs_getR {l : List Nat} {k : Nat} : (l ++ [k]).getD l.length 0 = k := by
  rw [List.getD_eq_getElem?_getD, List.getElem?_append_right (Nat.le_refl _), Nat.sub_self]; rfl
def yl_row (b_lFrom b_lTo b_lNumber b_lParagraph b_lHyphen b_lLast : Nat → Int32) (i : Nat) (r : lt_R) : Prop :=
  b_lFrom i = nI r.1 ∧ b_lTo i = nI r.2.1 ∧ b_lHyphen i = gd_bI r.2.2.1 ∧ b_lNumber i = nI r.2.2.2.1 ∧ b_lLast i = gd_bI r.2.2.2.2.1 ∧ b_lParagraph i = nI r.2.2.2.2.2
def yl_ok (lc : Nat) (Λ : lt_T) (b_lFrom b_lTo b_lNumber b_lParagraph b_lHyphen b_lLast : Nat → Int32) : Prop := ∀ i, i < lc → yl_row b_lFrom b_lTo b_lNumber b_lParagraph b_lHyphen b_lLast i (Λ i)
section
variable {n lc pc fw rw fl sw ss sk ba hyc ph : Nat} {t w lg : Nat → Nat} {kn : Nat → Int}
variable {σ : dp_S} {m fr to par lnc : Nat} {E N : Nat → Nat} {H : Nat → Bool} {Λ : lt_T}
variable {y_ready y_glyphCount y_breaks y_natural y_spaces y_lineCount y_paragraphs : Int32} {b_patA b_patB b_patC b_patDigits b_glyphs b_glyphOf b_bEnd b_bNext b_bHyphen b_before b_way b_lFrom b_lTo b_lNumber b_lParagraph b_lPage b_lHyphen b_lLast : Nat → Int32} {b_least b_best : Nat → Int64}
theorem ay_keep {post : SY → Prop} {p k num : Nat} {last : Bool} (hm : m ≤ 48) (yb : bk_xb m E N H b_bEnd b_bNext b_bHyphen) (hpk : p < k) (hkm : k ≤ m) (hlc : lnc < 48) (Y : yl_ok lnc Λ b_lFrom b_lTo b_lNumber b_lParagraph b_lHyphen b_lLast)
    (hp : ∀ b_lFrom b_lTo b_lNumber b_lParagraph b_lHyphen b_lLast, yl_ok (lnc + 1) (lt_up Λ lnc (N p, E k, H k, num, last, par)) b_lFrom b_lTo b_lNumber b_lParagraph b_lHyphen b_lLast → post ((nI n), (nI lc), (nI pc), (nI fw), (nI rw), (nI fl), (nI sw), (nI ss), (nI sk), (nI ba), (nI hyc), (nI ph), y_ready, y_glyphCount, (nI m), y_natural, y_spaces, (nI (lnc + 1)), (nI par), (gd_tI t), (gd_tI w), (gd_lI lg), (gd_kI kn), b_patA, b_patB, b_patC, b_patDigits, b_glyphs, b_glyphOf, b_bEnd, b_bNext, b_bHyphen, b_least, b_before, b_way, b_lFrom, b_lTo, b_lNumber, b_lParagraph, b_lPage, b_lHyphen, b_lLast, b_best)) :
    wpY_keep post ((nI n), (nI lc), (nI pc), (nI fw), (nI rw), (nI fl), (nI sw), (nI ss), (nI sk), (nI ba), (nI hyc), (nI ph), y_ready, y_glyphCount, (nI m), y_natural, y_spaces, (nI lnc), (nI par), (gd_tI t), (gd_tI w), (gd_lI lg), (gd_kI kn), b_patA, b_patB, b_patC, b_patDigits, b_glyphs, b_glyphOf, b_bEnd, b_bNext, b_bHyphen, b_least, b_before, b_way, b_lFrom, b_lTo, b_lNumber, b_lParagraph, b_lPage, b_lHyphen, b_lLast, b_best) (nI p) (nI k) (nI num) (gd_bI last) := by
  obtain ⟨y1, y2, y3⟩ := id yb
  have vl : vp_in (nI lnc) 48 := vp_in_nI hlc (by omega)
  have vk : vp_in (nI k) 50 := vp_in_nI (by omega) (by omega)
  refine ⟨vp_in_nI (by omega) (by omega), vl, nm_r (e' := upd b_lFrom lnc (nI (N p))) (by rw [nI_clamp (show p < 2 ^ 31 by omega), nI_clamp (show lnc < 2 ^ 31 by omega), y2 p (by omega)]) ⟨vk, vl, nm_r (e' := upd b_lTo lnc (nI (E k))) (by rw [nI_clamp (show k < 2 ^ 31 by omega), nI_clamp (show lnc < 2 ^ 31 by omega), y1 k (by omega) hkm]) ⟨vk, vl, nm_r (e' := upd b_lHyphen lnc (gd_bI (H k))) (by rw [nI_clamp (show k < 2 ^ 31 by omega), nI_clamp (show lnc < 2 ^ 31 by omega), y3 k hkm, gd_bn]) ⟨vl, nm_r (e' := upd b_lNumber lnc (nI num)) (by rw [nI_clamp (show lnc < 2 ^ 31 by omega)]) ⟨vl, nm_r (e' := upd b_lLast lnc (gd_bI last)) (by rw [nI_clamp (show lnc < 2 ^ 31 by omega), gd_bn]) (nm_r (nI_1 lnc) ⟨vl, nm_r (e' := upd b_lParagraph lnc (nI par)) (by rw [nI_clamp (show lnc < 2 ^ 31 by omega)]) (hp _ _ _ _ _ _ (fun i hi => ?_))⟩)⟩⟩⟩⟩⟩
  by_cases e : i = lnc
  · subst e
    rw [lt_us]
    exact ⟨pk_us, pk_us, pk_us, pk_us, pk_us, pk_us⟩
  · rw [lt_un e]
    obtain ⟨r1, r2, r3, r4, r5, r6⟩ := Y i (by omega)
    exact ⟨by rw [pk_un e]; exact r1, by rw [pk_un e]; exact r2, by rw [pk_un e]; exact r3, by rw [pk_un e]; exact r4, by rw [pk_un e]; exact r5, by rw [pk_un e]; exact r6⟩
/-- Y keeps the lines of a way that stands in its array, the last break first -/
theorem ay_way (post : Int32 → SY → Prop) (hm : m ≤ 48) (yb : bk_xb m E N H b_bEnd b_bNext b_bHyphen) :
    ∀ cs p num lnc Λ b_lFrom b_lTo b_lNumber b_lParagraph b_lHyphen b_lLast, cs_ok m p cs → num ≤ p → lnc + cs.length ≤ 48 → (∀ i, i < cs.length → b_way i = nI (cs.reverse.getD i 0)) → yl_ok lnc Λ b_lFrom b_lTo b_lNumber b_lParagraph b_lHyphen b_lLast →
      (∀ b_lFrom b_lTo b_lNumber b_lParagraph b_lHyphen b_lLast, yl_ok (lnc + cs.length) (lt_seq E N H m par Λ lnc p num cs) b_lFrom b_lTo b_lNumber b_lParagraph b_lHyphen b_lLast → post 1 ((nI n), (nI lc), (nI pc), (nI fw), (nI rw), (nI fl), (nI sw), (nI ss), (nI sk), (nI ba), (nI hyc), (nI ph), y_ready, y_glyphCount, (nI m), y_natural, y_spaces, (nI (lnc + cs.length)), (nI par), (gd_tI t), (gd_tI w), (gd_lI lg), (gd_kI kn), b_patA, b_patB, b_patC, b_patDigits, b_glyphs, b_glyphOf, b_bEnd, b_bNext, b_bHyphen, b_least, b_before, b_way, b_lFrom, b_lTo, b_lNumber, b_lParagraph, b_lPage, b_lHyphen, b_lLast, b_best)) →
      wY_bestWay_223 post (cs.length + 1) (nI cs.length) (nI p) (nI num) (nI n) (nI lc) (nI pc) (nI fw) (nI rw) (nI fl) (nI sw) (nI ss) (nI sk) (nI ba) (nI hyc) (nI ph) y_ready y_glyphCount (nI m) y_natural y_spaces (nI lnc) (nI par) (gd_tI t) (gd_tI w) (gd_lI lg) (gd_kI kn) b_patA b_patB b_patC b_patDigits b_glyphs b_glyphOf b_bEnd b_bNext b_bHyphen b_least b_before b_way b_lFrom b_lTo b_lNumber b_lParagraph b_lPage b_lHyphen b_lLast b_best := by
  intro cs
  induction cs with
  | nil =>
    intro p num lnc Λ b_lFrom b_lTo b_lNumber b_lParagraph b_lHyphen b_lLast hcs hn1 hl hw Y hp
    exact br_t (by decide) (hp _ _ _ _ _ _ Y)
  | cons k l ih =>
    intro p num lnc Λ b_lFrom b_lTo b_lNumber b_lParagraph b_lHyphen b_lLast hcs hn1 hl hw Y hp
    rw [cs_ok] at hcs
    have hlen := cs_len _ _ hcs.2.2
    have hwk : b_way l.length = nI k := by
      rw [hw l.length (by rw [List.length_cons]; omega), List.reverse_cons]
      congr 1
      rw [← List.length_reverse (as := l)]
      exact cs_getR
    rw [List.length_cons] at hl hp ⊢
    have key : ∀ z0, z0 = gd_bI (decide (k = m)) → wY_bestWay_258 post (wY_bestWay_223 post (l.length + 1)) (nI l.length) (nI num) (nI k) z0 (nI num) (nI k) (nI p) (nI n) (nI lc) (nI pc) (nI fw) (nI rw) (nI fl) (nI sw) (nI ss) (nI sk) (nI ba) (nI hyc) (nI ph) y_ready y_glyphCount (nI m) y_natural y_spaces (nI lnc) (nI par) (gd_tI t) (gd_tI w) (gd_lI lg) (gd_kI kn) b_patA b_patB b_patC b_patDigits b_glyphs b_glyphOf b_bEnd b_bNext b_bHyphen b_least b_before b_way b_lFrom b_lTo b_lNumber b_lParagraph b_lPage b_lHyphen b_lLast b_best := by
      intro z0 hz
      subst hz
      unfold wY_bestWay_258
      refine ay_keep hm yb hcs.1 hcs.2.1 (by omega) Y (fun b_lFrom b_lTo b_lNumber b_lParagraph b_lHyphen b_lLast Y' => ?_)
      refine nm_r (nI_1 num) (ih k (num + 1) (lnc + 1) _ _ _ _ _ _ _ hcs.2.2 (by omega) (by omega) (fun i hi => ?_) Y' ?_)
      · rw [hw i (by rw [List.length_cons]; omega), List.reverse_cons, cs_getL (by rw [List.length_reverse]; exact hi)]
      · intro b_lFrom b_lTo b_lNumber b_lParagraph b_lHyphen b_lLast Y''
        have e : lnc + 1 + l.length = lnc + (l.length + 1) := by omega
        rw [e] at Y'' ⊢
        exact hp _ _ _ _ _ _ Y''
    refine br_f (nI_nle (by omega) (by omega)) (nm_r (pk_m1 l.length) ⟨vp_in_nI (by omega) (by omega), nm_r (e' := nI k) (by rw [nI_clamp (by omega), hwk]) ?_⟩)
    exact pk_eq k m (fun y => key _ (by rw [decide_eq_true y]; rfl)) (fun y => key _ (by rw [decide_eq_false y]; rfl))
/-- Y writes the way down, and keeps its lines -/
theorem ay_take (post : Int32 → SY → Prop) (hm : m ≤ 48) (W : dp_wf σ) (hσ : ∀ s x, σ s = some x → s < 16 * (m + 1)) (hA : dp_arr (16 * (m + 1)) σ b_least b_before)
    {e : Nat} {x : Nat × Nat} (he : σ e = some x) (hp : ∀ b_way, (∀ i, i < (dp_pt σ 100 e).length → b_way i = nI ((dp_pt σ 100 e).getD i 0)) → ∃ g, wY_bestWay_223 post g (nI (dp_pt σ 100 e).length) 0 0 (nI n) (nI lc) (nI pc) (nI fw) (nI rw) (nI fl) (nI sw) (nI ss) (nI sk) (nI ba) (nI hyc) (nI ph) y_ready y_glyphCount (nI m) y_natural y_spaces y_lineCount y_paragraphs (gd_tI t) (gd_tI w) (gd_lI lg) (gd_kI kn) b_patA b_patB b_patC b_patDigits b_glyphs b_glyphOf b_bEnd b_bNext b_bHyphen b_least b_before b_way b_lFrom b_lTo b_lNumber b_lParagraph b_lPage b_lHyphen b_lLast b_best) :
    ∃ g, wY_bestWay_189 post (nI n) (nI lc) (nI pc) (nI fw) (nI rw) (nI fl) (nI sw) (nI ss) (nI sk) (nI ba) (nI hyc) (nI ph) y_ready y_glyphCount (nI m) y_natural y_spaces y_lineCount y_paragraphs g 0 (nI e) (gd_tI t) (gd_tI w) (gd_lI lg) (gd_kI kn) b_patA b_patB b_patC b_patDigits b_glyphs b_glyphOf b_bEnd b_bNext b_bHyphen b_least b_before b_way b_lFrom b_lTo b_lNumber b_lParagraph b_lPage b_lHyphen b_lLast b_best := by
  have key : ∀ f s x pre b_way, s / 16 < f → pre.length + s / 16 ≤ 48 → σ s = some x → (∀ i, i < pre.length → b_way i = nI (pre.getD i 0)) → (∀ b_way, (∀ i, i < (pre ++ dp_pt σ f s).length → b_way i = nI ((pre ++ dp_pt σ f s).getD i 0)) → ∃ g, wY_bestWay_223 post g (nI (pre ++ dp_pt σ f s).length) 0 0 (nI n) (nI lc) (nI pc) (nI fw) (nI rw) (nI fl) (nI sw) (nI ss) (nI sk) (nI ba) (nI hyc) (nI ph) y_ready y_glyphCount (nI m) y_natural y_spaces y_lineCount y_paragraphs (gd_tI t) (gd_tI w) (gd_lI lg) (gd_kI kn) b_patA b_patB b_patC b_patDigits b_glyphs b_glyphOf b_bEnd b_bNext b_bHyphen b_least b_before b_way b_lFrom b_lTo b_lNumber b_lParagraph b_lPage b_lHyphen b_lLast b_best) → wY_bestWay_189 post (nI n) (nI lc) (nI pc) (nI fw) (nI rw) (nI fl) (nI sw) (nI ss) (nI sk) (nI ba) (nI hyc) (nI ph) y_ready y_glyphCount (nI m) y_natural y_spaces y_lineCount y_paragraphs f (nI pre.length) (nI s) (gd_tI t) (gd_tI w) (gd_lI lg) (gd_kI kn) b_patA b_patB b_patC b_patDigits b_glyphs b_glyphOf b_bEnd b_bNext b_bHyphen b_least b_before b_way b_lFrom b_lTo b_lNumber b_lParagraph b_lPage b_lHyphen b_lLast b_best := by
    intro f
    induction f with
    | zero => intro s x pre b_way h; omega
    | succ f ih =>
      intro s x pre b_way h1 h2 hs hw hk
      have hsb := hσ s x hs
      rw [dp_pt] at hk
      refine pk_lt s 16 (fun c => ?_) (fun c => ?_)
      · rw [if_pos c, List.append_nil] at hk
        exact hk _ hw
      · rw [if_neg (by omega), dp_bfs hs] at hk
        obtain ⟨w1, y, hy⟩ := (W s x hs).2.2.2 (by omega)
        have hq : nI s / 16 = nI (s / 16) := pk_div (d := 16) (by omega) (by omega) (by omega)
        have hih := ih x.2 y (pre ++ [s / 16]) (upd b_way pre.length (nI (s / 16))) (by omega) (by rw [List.length_append, List.length_cons, List.length_nil]; omega) hy (fun i hi => ?_) (by rw [List.append_assoc]; exact hk)
        · rw [List.length_append, List.length_cons, List.length_nil] at hih
          refine nm_r (nI_1 pre.length) ⟨by decide, vp_in_nI (by omega) (by omega), nm_r (e' := upd b_way pre.length (nI (s / 16))) (by rw [nI_clamp (by omega), hq]) ⟨vp_in_nI (by omega) (by omega), nm_r (e' := nI x.2) (by rw [nI_clamp (by omega)]; exact ((hA s hsb).2 x hs).2 (by omega)) hih⟩⟩
        · rw [List.length_append, List.length_cons, List.length_nil] at hi
          by_cases z : i = pre.length
          · rw [z, pk_us, cs_getR]
          · rw [pk_un z, cs_getL (by omega)]
            exact hw i (by omega)
  have heb := hσ e x he
  exact ⟨100, key 100 e x [] _ (by omega) (by rw [List.length_nil]; omega) he (fun i hi => absurd hi (by simp)) (fun b_way hw => hp b_way hw)⟩
theorem ay_emer (post : SY → Prop) (C : cf_ok t w lg kn n fw rw fl sw ss sk ba hyc ph) (hton : to ≤ n) (hm : m ≤ 48) (h11 : ∀ j, fr ≤ j → j < to → t j ≠ 11) (ok : bk_ok t fr to m E N H) (yb : bk_xb m E N H b_bEnd b_bNext b_bHyphen) :
    ∀ f a num lnc Λ y_glyphCount y_natural y_spaces b_glyphs b_glyphOf b_lFrom b_lTo b_lNumber b_lParagraph b_lHyphen b_lLast, a ≤ m → m - a < f → num ≤ a → lnc + (em_l (ln_b t lg w kn sw ss sk fw rw fl m E N H) m f a num).length ≤ 48 → yl_ok lnc Λ b_lFrom b_lTo b_lNumber b_lParagraph b_lHyphen b_lLast →
      (∀ y_glyphCount y_natural y_spaces b_glyphs b_glyphOf b_lFrom b_lTo b_lNumber b_lParagraph b_lHyphen b_lLast, yl_ok (lnc + (em_l (ln_b t lg w kn sw ss sk fw rw fl m E N H) m f a num).length) (lt_seq E N H m par Λ lnc a num (em_l (ln_b t lg w kn sw ss sk fw rw fl m E N H) m f a num)) b_lFrom b_lTo b_lNumber b_lParagraph b_lHyphen b_lLast → post ((nI n), (nI lc), (nI pc), (nI fw), (nI rw), (nI fl), (nI sw), (nI ss), (nI sk), (nI ba), (nI hyc), (nI ph), y_ready, y_glyphCount, (nI m), y_natural, y_spaces, (nI (lnc + (em_l (ln_b t lg w kn sw ss sk fw rw fl m E N H) m f a num).length)), (nI par), (gd_tI t), (gd_tI w), (gd_lI lg), (gd_kI kn), b_patA, b_patB, b_patC, b_patDigits, b_glyphs, b_glyphOf, b_bEnd, b_bNext, b_bHyphen, b_least, b_before, b_way, b_lFrom, b_lTo, b_lNumber, b_lParagraph, b_lPage, b_lHyphen, b_lLast, b_best)) →
      wY_emergency_16 post f (nI a) (nI num) (nI n) (nI lc) (nI pc) (nI fw) (nI rw) (nI fl) (nI sw) (nI ss) (nI sk) (nI ba) (nI hyc) (nI ph) y_ready y_glyphCount (nI m) y_natural y_spaces (nI lnc) (nI par) (gd_tI t) (gd_tI w) (gd_lI lg) (gd_kI kn) b_patA b_patB b_patC b_patDigits b_glyphs b_glyphOf b_bEnd b_bNext b_bHyphen b_least b_before b_way b_lFrom b_lTo b_lNumber b_lParagraph b_lPage b_lHyphen b_lLast b_best := by
  obtain ⟨c1, c2, c3, c4, c5, c6, c7, c8, c9, c10, c11, c12, c13, c14⟩ := id C
  obtain ⟨y1, y2, y3⟩ := id yb
  intro f
  induction f with
  | zero => intro a num lnc Λ y_glyphCount y_natural y_spaces b_glyphs b_glyphOf b_lFrom b_lTo b_lNumber b_lParagraph b_lHyphen b_lLast h1 h2; omega
  | succ f ih =>
    intro a num lnc Λ y_glyphCount y_natural y_spaces b_glyphs b_glyphOf b_lFrom b_lTo b_lNumber b_lParagraph b_lHyphen b_lLast h1 h2 h3 hl Y hp
    rw [em_l] at hl hp
    refine pk_le m a (fun y => ?_) (fun y => ?_)
    · rw [if_pos y] at hp
      exact hp _ _ _ _ _ _ _ _ _ _ _ Y
    · rw [if_neg (by omega)] at hp hl
      have hb := em_f_b (ln_b t lg w kn sw ss sk fw rw fl m E N H) a num (m - a)
      generalize hem : em_f (ln_b t lg w kn sw ss sk fw rw fl m E N H) a num (m - a) = em at *
      rw [List.length_cons] at hl hp
      have fin : ∀ y_glyphCount y_natural y_spaces b_glyphs b_glyphOf z0, z0 = gd_bI (decide (em = m)) → wY_emergency_114 post (wY_emergency_16 post f) (nI num) (nI em) z0 (nI num) (nI em) (nI a) (nI n) (nI lc) (nI pc) (nI fw) (nI rw) (nI fl) (nI sw) (nI ss) (nI sk) (nI ba) (nI hyc) (nI ph) y_ready y_glyphCount (nI m) y_natural y_spaces (nI lnc) (nI par) (gd_tI t) (gd_tI w) (gd_lI lg) (gd_kI kn) b_patA b_patB b_patC b_patDigits b_glyphs b_glyphOf b_bEnd b_bNext b_bHyphen b_least b_before b_way b_lFrom b_lTo b_lNumber b_lParagraph b_lPage b_lHyphen b_lLast b_best := by
        intro y_glyphCount y_natural y_spaces b_glyphs b_glyphOf z0 hz
        subst hz
        unfold wY_emergency_114
        refine ay_keep hm yb (by omega) (by omega) (by omega) Y (fun b_lFrom b_lTo b_lNumber b_lParagraph b_lHyphen b_lLast Y' => ?_)
        refine nm_r (nI_1 num) (ih em (num + 1) (lnc + 1) _ _ _ _ _ _ _ _ _ _ _ _ (by omega) (by omega) (by omega) (by omega) Y' ?_)
        intro y_glyphCount y_natural y_spaces b_glyphs b_glyphOf b_lFrom b_lTo b_lNumber b_lParagraph b_lHyphen b_lLast Y''
        have e : lnc + 1 + (em_l (ln_b t lg w kn sw ss sk fw rw fl m E N H) m f em (num + 1)).length = lnc + ((em_l (ln_b t lg w kn sw ss sk fw rw fl m E N H) m f em (num + 1)).length + 1) := by omega
        rw [e] at Y'' ⊢
        exact hp _ _ _ _ _ _ _ _ _ _ _ Y''
      have loop : ∀ g k, k + g = m + 1 → a < k → ∀ y_glyphCount y_natural y_spaces b_glyphs b_glyphOf, wY_emergency_33 post (wY_emergency_16 post f) (nI a) (nI num) (g + 1) (nI (em_f (ln_b t lg w kn sw ss sk fw rw fl m E N H) a num (k - (a + 1)))) (nI k) (nI n) (nI lc) (nI pc) (nI fw) (nI rw) (nI fl) (nI sw) (nI ss) (nI sk) (nI ba) (nI hyc) (nI ph) y_ready y_glyphCount (nI m) y_natural y_spaces (nI lnc) (nI par) (gd_tI t) (gd_tI w) (gd_lI lg) (gd_kI kn) b_patA b_patB b_patC b_patDigits b_glyphs b_glyphOf b_bEnd b_bNext b_bHyphen b_least b_before b_way b_lFrom b_lTo b_lNumber b_lParagraph b_lPage b_lHyphen b_lLast b_best := by
        intro g
        induction g with
        | zero =>
          intro k hk hak y_glyphCount y_natural y_spaces b_glyphs b_glyphOf
          have : k = m + 1 := by omega
          subst this
          rw [show m + 1 - (a + 1) = m - a by omega, hem]
          refine br_t (nI_lt (by omega) (by omega)) (pk_eq em m (fun y => fin _ _ _ _ _ _ (by rw [decide_eq_true y]; rfl)) (fun y => fin _ _ _ _ _ _ (by rw [decide_eq_false y]; rfl)))
        | succ g ihg =>
          intro k hk hak y_glyphCount y_natural y_spaces b_glyphs b_glyphOf
          have hlt := bk_lt ok hak (show k ≤ m by omega)
          have hEk := ok.2.1 k (by omega) (by omega)
          have hNp := ok.1 a (by omega)
          have hd := ln_d_b (E := E) (N := N) (H := H) C (p := a) (k := k) (q := num) (by omega)
          have hsc := rn_sc_le (t := t) (s := N a) (E k)
          have hbv : -1 ≤ (ln_b t lg w kn sw ss sk fw rw fl m E N H) a k num ∧ (ln_b t lg w kn sw ss sk fw rw fl m E N H) a k num ≤ 10000 := bd_v_b _ _ _ _ _
          refine br_f (nI_nlt (by omega) (by omega)) ?_
          refine by_meas c1 c2 (by omega) (by omega) (y2 a (by omega)) (y1 k (by omega) (by omega)) (y3 k (by omega)) hlt (by omega) hNp.2.2.1 (fun j a b => h11 j (by omega) (by omega)) (fun y_glyphCount b_glyphs b_glyphOf => ?_)
          refine by_due (by omega) c7 (nm_r (e' := gd_iI ((ln_d t lg w kn sw fw rw fl E N H) a k num)) (by rw [gd_nat, gd_sub]; rfl) ?_)
          have key : ∀ z0, z0 = gd_bI (decide (k = m)) → wY_emergency_78 post (wY_emergency_16 post f) (wY_emergency_33 post (wY_emergency_16 post f) (nI a) (nI num) (g + 1)) (nI a) (nI num) (nI (em_f (ln_b t lg w kn sw ss sk fw rw fl m E N H) a num (k - (a + 1)))) (nI k) z0 (gd_iI ((ln_d t lg w kn sw fw rw fl E N H) a k num)) (nI n) (nI lc) (nI pc) (nI fw) (nI rw) (nI fl) (nI sw) (nI ss) (nI sk) (nI ba) (nI hyc) (nI ph) y_ready y_glyphCount (nI m) (gd_iI (rn_x t lg w kn sw (N a) (E k) (E k) + (cond (H k) 5 0))) (nI (rn_sc t (N a) (E k))) (nI lnc) (nI par) (gd_tI t) (gd_tI w) (gd_lI lg) (gd_kI kn) b_patA b_patB b_patC b_patDigits b_glyphs b_glyphOf b_bEnd b_bNext b_bHyphen b_least b_before b_way b_lFrom b_lTo b_lNumber b_lParagraph b_lPage b_lHyphen b_lLast b_best := by
            intro z0 hz
            subst hz
            have ih := ihg (k + 1) (by omega) (by omega) y_glyphCount (gd_iI (rn_x t lg w kn sw (N a) (E k) (E k) + (cond (H k) 5 0))) (nI (rn_sc t (N a) (E k))) b_glyphs b_glyphOf
            rw [show k + 1 - (a + 1) = k - (a + 1) + 1 by omega, em_f, show a + 1 + (k - (a + 1)) = k by omega] at ih
            unfold wY_emergency_78
            refine by_bad hd c9 c10 (by omega) ?_
            rw [show bd_v ss sk ((ln_d t lg w kn sw fw rw fl E N H) a k num) (rn_sc t (N a) (E k)) (decide (k = m)) = (ln_b t lg w kn sw ss sk fw rw fl m E N H) a k num from rfl]
            refine gd_zlt ((ln_b t lg w kn sw ss sk fw rw fl m E N H) a k num) 0 (fun y => ?_) (fun y => ?_) rfl rfl (by omega) (by omega)
            · rw [if_pos (by omega)] at ih
              exact nm_r (nI_1 k) ih
            · rw [if_neg (by omega)] at ih
              exact nm_r (nI_1 k) ih
          exact pk_eq k m (fun y => key _ (by rw [decide_eq_true y]; rfl)) (fun y => key _ (by rw [decide_eq_false y]; rfl))
      refine nm_r (e' := nI (em_f (ln_b t lg w kn sw ss sk fw rw fl m E N H) a num (a + 1 - (a + 1)))) (by rw [show a + 1 - (a + 1) = 0 by omega, em_f, nI_1]) (nm_r (nI_1 a) ⟨m - a + 1, loop (m - a) (a + 1) (by omega) (by omega) _ _ _ _ _⟩)
end
