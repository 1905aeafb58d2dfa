/-! the emergency way -/
def em_f (lb : Nat → Nat → Nat → Int) (a num : Nat) : Nat → Nat
  | 0 => a + 1
  | j + 1 => if lb a (a + 1 + j) num = -1 then em_f lb a num j else a + 1 + j
def em_l (lb : Nat → Nat → Nat → Int) (m : Nat) : Nat → Nat → Nat → List Nat
  | 0, _, _ => []
  | f + 1, a, num => if m ≤ a then [] else em_f lb a num (m - a) :: em_l lb m f (em_f lb a num (m - a)) (num + 1)
theorem em_f_b (lb : Nat → Nat → Nat → Int) (a num : Nat) : ∀ j, a + 1 ≤ em_f lb a num j ∧ em_f lb a num j ≤ a + 1 + (j - 1) := by
  intro j
  induction j with
  | zero => rw [em_f]; omega
  | succ j ih => rw [em_f]; split <;> omega
theorem em_l_ok (lb : Nat → Nat → Nat → Int) (m : Nat) : ∀ f a num, a ≤ m → m - a < f → cs_ok m a (em_l lb m f a num) := by
  intro f
  induction f with
  | zero => intro a num h1 h2; omega
  | succ f ih =>
    intro a num h1 h2
    rw [em_l]
    by_cases c : m ≤ a
    · rw [if_pos c, cs_ok]; omega
    · rw [if_neg c, cs_ok]
      have := em_f_b lb a num (m - a)
      exact ⟨by omega, by omega, ih _ _ (by omega) (by omega)⟩
/-- a way by states is a way -/
theorem cs_snoc {m : Nat} : ∀ l a k, cs_ok k a l → k < m → cs_ok m a (l ++ [m]) := by
  intro l
  induction l with
  | nil =>
    intro a k h1 h2
    rw [cs_ok] at h1
    rw [List.nil_append, cs_ok, cs_ok]
    omega
  | cons j l ih =>
    intro a k h1 h2
    rw [cs_ok] at h1
    rw [List.cons_append, cs_ok]
    exact ⟨h1.1, by omega, ih j k h1.2.2 h2⟩
theorem dp_pt_cs {σ : dp_S} (W : dp_wf σ) : ∀ f s x, s / 16 < f → σ s = some x → cs_ok (s / 16) 0 (dp_pt σ f s).reverse := by
  intro f
  induction f with
  | zero => intro s x h; omega
  | succ f ih =>
    intro s x h hx
    rw [dp_pt]
    by_cases c : s < 16
    · rw [if_pos c, List.reverse_nil, cs_ok]; omega
    · rw [if_neg c, dp_bfs hx, List.reverse_cons]
      obtain ⟨w1, y, hy⟩ := (W s x hx).2.2.2 (by omega)
      exact cs_snoc _ _ _ (ih x.2 y (by omega) hy) w1
/-- the best end, the way and its demerits -/
def pr_cs (lb : Nat → Nat → Nat → Int) (σ : dp_S) (m : Nat) : List Nat := match dp_be σ m 16 with
  | some e => (dp_pt σ 100 e).reverse
  | none => em_l lb m 49 0 0
def pr_v (σ : dp_S) (m : Nat) : Int64 := match dp_be σ m 16 with
  | some e => lN (dp_vl σ e)
  | none => -1
theorem pr_cs_ok {lb : Nat → Nat → Nat → Int} {σ : dp_S} {m : Nat} (W : dp_wf σ) (hm : m ≤ 48) : cs_ok m 0 (pr_cs lb σ m) := by
  rw [pr_cs]
  cases h : dp_be σ m 16 with
  | none => exact em_l_ok lb m 49 0 0 (by omega) (by omega)
  | some e =>
    obtain ⟨b1, b2, x, hx⟩ := dp_be_in 16 e h
    have := dp_pt_cs W 100 e x (by omega) hx
    rw [show e / 16 = m by omega] at this
    exact this
section
variable {n lc pc fw rw fl sw ss sk ba hyc ph : Nat} {t w lg : Nat → Nat} {kn : Nat → Int}
variable {m fr to par lnc : Nat} {E N : Nat → Nat} {H : Nat → Bool} {Λ : lt_T}
variable {x_breakCount x_lineCount x_paragraphCount x_stale : Int32} {a_patterns a_heads a_glyphs a_breakEnd a_breakNext a_breakHyphen a_breakTaken a_wayBefore a_lineFacts : Nat → Int32} {a_wayDemerits a_paragraphDemerits : Nat → Int64}
theorem ax_end {post : Int32 → SX → Prop} {a num : Nat} (C : cf_ok t w lg kn n fw rw fl sw ss sk ba hyc ph) (hton : to ≤ n) (hm : m ≤ 48) (ok : bk_ok t fr to m E N H) (xb : bk_xb m E N H a_breakEnd a_breakNext a_breakHyphen) (ham : a < m) (hnum : num < 1000)
    (hp : ∀ a_heads a_glyphs, post (nI (em_f (ln_b t lg w kn sw ss sk fw rw fl m E N H) a num (m - a))) ((nI n), (nI lc), (nI pc), (nI fw), (nI rw), (nI fl), (nI sw), (nI ss), (nI sk), (nI ba), (nI hyc), (nI ph), (nI (m + 1)), x_lineCount, x_paragraphCount, x_stale, (gd_tI t), (gd_tI w), (gd_lI lg), (gd_kI kn), a_patterns, a_heads, a_glyphs, a_breakEnd, a_breakNext, a_breakHyphen, a_breakTaken, a_wayDemerits, a_wayBefore, a_lineFacts, a_paragraphDemerits)) : wpX_emergencyEnd post ((nI n), (nI lc), (nI pc), (nI fw), (nI rw), (nI fl), (nI sw), (nI ss), (nI sk), (nI ba), (nI hyc), (nI ph), (nI (m + 1)), x_lineCount, x_paragraphCount, x_stale, (gd_tI t), (gd_tI w), (gd_lI lg), (gd_kI kn), a_patterns, a_heads, a_glyphs, a_breakEnd, a_breakNext, a_breakHyphen, a_breakTaken, a_wayDemerits, a_wayBefore, a_lineFacts, a_paragraphDemerits) (nI a) (nI num) := by
  obtain ⟨c1, c2, c3, c4, c5, c6, c7, c8, c9, c10, c11, c12, c13, c14⟩ := id C
  obtain ⟨x1, x2, x3⟩ := id xb
  have loop : ∀ f b, b + f = m + 1 → a < b → ∀ a_heads a_glyphs, wX_emergencyEnd_9 post (nI a) (nI num) (f + 1) (nI (em_f (ln_b t lg w kn sw ss sk fw rw fl m E N H) a num (b - (a + 1)))) (nI b) (nI n) (nI lc) (nI pc) (nI fw) (nI rw) (nI fl) (nI sw) (nI ss) (nI sk) (nI ba) (nI hyc) (nI ph) (nI (m + 1)) x_lineCount x_paragraphCount x_stale (gd_tI t) (gd_tI w) (gd_lI lg) (gd_kI kn) a_patterns a_heads a_glyphs a_breakEnd a_breakNext a_breakHyphen a_breakTaken a_wayDemerits a_wayBefore a_lineFacts a_paragraphDemerits := by
    intro f
    induction f with
    | zero =>
      intro b hb hab a_heads a_glyphs
      have : b = m + 1 := by omega
      subst this
      rw [show m + 1 - (a + 1) = m - a by omega]
      exact br_t (nI_le (Nat.le_refl _) (by omega)) (hp _ _)
    | succ f ih =>
      intro b hb hab a_heads a_glyphs
      have hlt := bk_lt ok hab (show b ≤ m by omega)
      have hEb := ok.2.1 b (by omega) (by omega)
      have xE := x1 b (by omega) (by omega)
      have xN := x2 a ham
      have hd := ln_d_b (E := E) (N := N) (H := H) C (p := a) (k := b) (q := num) (by omega)
      have hsc := rn_sc_le (t := t) (s := N a) (E b)
      have hbv : -1 ≤ (ln_b t lg w kn sw ss sk fw rw fl m E N H) a b num ∧ (ln_b t lg w kn sw ss sk fw rw fl m E N H) a b num ≤ 10000 := bd_v_b _ _ _ _ _
      refine br_f (nI_ge (by omega) (by omega)) (bx_due hnum c7 ?_)
      refine bx_nat c2 (by omega) (by omega) xN xE (x3 b (by omega)) (by omega) (by omega) (fun a_heads a_glyphs => ?_)
      refine nm_r (e' := gd_iI ((ln_d t lg w kn sw fw rw fl E N H) a b num)) (by rw [gd_nat, gd_sub]; rfl) ⟨vp_in_nI (by omega) (by omega), vp_in_nI (by omega) (by omega), ?_⟩
      rw [nI_clamp (show a < 2 ^ 31 by omega), nI_clamp (show b < 2 ^ 31 by omega), xN, xE]
      refine xc_spaces hlt (by omega) c2 ?_
      have ih := ih (b + 1) (by omega) (by omega) a_heads a_glyphs
      rw [show b + 1 - (a + 1) = b - (a + 1) + 1 by omega, em_f, show a + 1 + (b - (a + 1)) = b by omega] at ih
      have key : ∀ z0, z0 = gd_bI (decide (b = m)) → wX_emergencyEnd_73 post (wX_emergencyEnd_9 post (nI a) (nI num) (f + 1)) (nI a) (nI num) (nI (em_f (ln_b t lg w kn sw ss sk fw rw fl m E N H) a num (b - (a + 1)))) (nI b) z0 (nI (rn_sc t (N a) (E b))) (gd_iI ((ln_d t lg w kn sw fw rw fl E N H) a b num)) (nI n) (nI lc) (nI pc) (nI fw) (nI rw) (nI fl) (nI sw) (nI ss) (nI sk) (nI ba) (nI hyc) (nI ph) (nI (m + 1)) x_lineCount x_paragraphCount x_stale (gd_tI t) (gd_tI w) (gd_lI lg) (gd_kI kn) a_patterns a_heads a_glyphs a_breakEnd a_breakNext a_breakHyphen a_breakTaken a_wayDemerits a_wayBefore a_lineFacts a_paragraphDemerits := by
        intro z0 hz
        subst hz
        unfold wX_emergencyEnd_73
        refine bx_bad hd c9 c10 (by omega) ?_
        rw [show bd_v ss sk ((ln_d t lg w kn sw fw rw fl E N H) a b num) (rn_sc t (N a) (E b)) (decide (b = m)) = (ln_b t lg w kn sw ss sk fw rw fl m E N H) a b num from rfl]
        refine gd_zeq ((ln_b t lg w kn sw ss sk fw rw fl m E N H) a b num) (-1) (fun y => ?_) (fun y => ?_) rfl rfl (by omega) (by omega)
        · rw [if_pos y] at ih
          exact nm_r (nI_1 b) ih
        · rw [if_neg y] at ih
          exact nm_r (nI_1 b) ih
      exact pk_eq b m (fun y => key _ (by rw [decide_eq_true y]; rfl)) (fun y => key _ (by rw [decide_eq_false y]; rfl)) rfl (nI_pred m) (by omega) (by omega)
  refine nm_r (e' := nI (em_f (ln_b t lg w kn sw ss sk fw rw fl m E N H) a num (a + 1 - (a + 1)))) (by rw [show a + 1 - (a + 1) = 0 by omega, em_f, nI_1]) (nm_r (nI_1 a) ⟨m - a + 1, loop (m - a) (a + 1) (by omega) (by omega) _ _⟩)
theorem ax_emer {post : SX → Prop} (C : cf_ok t w lg kn n fw rw fl sw ss sk ba hyc ph) (hton : to ≤ n) (hm : m ≤ 48) (ok : bk_ok t fr to m E N H) (xb : bk_xb m E N H a_breakEnd a_breakNext a_breakHyphen)
    (hp : ∀ a_heads a_glyphs a_breakTaken', (∀ k, a_breakTaken' k = if k ∈ em_l (ln_b t lg w kn sw ss sk fw rw fl m E N H) m 49 0 0 then 1 else a_breakTaken k) → post ((nI n), (nI lc), (nI pc), (nI fw), (nI rw), (nI fl), (nI sw), (nI ss), (nI sk), (nI ba), (nI hyc), (nI ph), (nI (m + 1)), x_lineCount, x_paragraphCount, x_stale, (gd_tI t), (gd_tI w), (gd_lI lg), (gd_kI kn), a_patterns, a_heads, a_glyphs, a_breakEnd, a_breakNext, a_breakHyphen, a_breakTaken', a_wayDemerits, a_wayBefore, a_lineFacts, a_paragraphDemerits)) : wpX_takeEmergencyWay post ((nI n), (nI lc), (nI pc), (nI fw), (nI rw), (nI fl), (nI sw), (nI ss), (nI sk), (nI ba), (nI hyc), (nI ph), (nI (m + 1)), x_lineCount, x_paragraphCount, x_stale, (gd_tI t), (gd_tI w), (gd_lI lg), (gd_kI kn), a_patterns, a_heads, a_glyphs, a_breakEnd, a_breakNext, a_breakHyphen, a_breakTaken, a_wayDemerits, a_wayBefore, a_lineFacts, a_paragraphDemerits) := by
  have loop : ∀ f a num a_heads a_glyphs a_breakTaken, a ≤ m → m - a < f → num ≤ a → (∀ a_heads a_glyphs a_breakTaken', (∀ k, a_breakTaken' k = if k ∈ em_l (ln_b t lg w kn sw ss sk fw rw fl m E N H) m f a num then 1 else a_breakTaken k) → post ((nI n), (nI lc), (nI pc), (nI fw), (nI rw), (nI fl), (nI sw), (nI ss), (nI sk), (nI ba), (nI hyc), (nI ph), (nI (m + 1)), x_lineCount, x_paragraphCount, x_stale, (gd_tI t), (gd_tI w), (gd_lI lg), (gd_kI kn), a_patterns, a_heads, a_glyphs, a_breakEnd, a_breakNext, a_breakHyphen, a_breakTaken', a_wayDemerits, a_wayBefore, a_lineFacts, a_paragraphDemerits)) → wX_takeEmergencyWay_4 post f (nI a) (nI num) (nI n) (nI lc) (nI pc) (nI fw) (nI rw) (nI fl) (nI sw) (nI ss) (nI sk) (nI ba) (nI hyc) (nI ph) (nI (m + 1)) x_lineCount x_paragraphCount x_stale (gd_tI t) (gd_tI w) (gd_lI lg) (gd_kI kn) a_patterns a_heads a_glyphs a_breakEnd a_breakNext a_breakHyphen a_breakTaken a_wayDemerits a_wayBefore a_lineFacts a_paragraphDemerits := by
    intro f
    induction f with
    | zero => intro a num a_heads a_glyphs a_breakTaken h1 h2; omega
    | succ f ih =>
      intro a num a_heads a_glyphs a_breakTaken h1 h2 h3 hp
      rw [em_l] at hp
      refine br_f (nI_ge (b := 49) (by omega) (by decide)) (pk_le m a (fun y => ?_) (fun y => ?_) (nI_pred m) rfl (by omega) (by omega))
      · rw [if_pos y] at hp
        exact hp _ _ _ (fun k => by rw [if_neg (by simp)])
      · rw [if_neg (by omega)] at hp
        have hb := em_f_b (ln_b t lg w kn sw ss sk fw rw fl m E N H) a num (m - a)
        refine ax_end C hton hm ok xb y (by omega) (fun a_heads a_glyphs => ⟨vp_in_nI (by omega) (by omega), nm_r (e' := upd a_breakTaken (em_f (ln_b t lg w kn sw ss sk fw rw fl m E N H) a num (m - a)) 1) (by rw [nI_clamp (by omega), gd_b1]) (nm_r (nI_1 num) (ih _ (num + 1) _ _ _ (by omega) (by omega) (by omega) (fun a_heads a_glyphs a_breakTaken' hT => hp _ _ _ (fun k => ?_))))⟩)
        rw [hT k]
        by_cases m1 : k ∈ em_l (ln_b t lg w kn sw ss sk fw rw fl m E N H) m f (em_f (ln_b t lg w kn sw ss sk fw rw fl m E N H) a num (m - a)) (num + 1)
        · rw [if_pos m1, if_pos (List.mem_cons_of_mem _ m1)]
        · rw [if_neg m1]
          by_cases e : k = em_f (ln_b t lg w kn sw ss sk fw rw fl m E N H) a num (m - a)
          · rw [e, pk_us, if_pos (List.mem_cons_self ..)]
          · rw [pk_un e, if_neg (fun z => by rcases List.mem_cons.mp z with z | z; exact e z; exact m1 z)]
  exact ⟨49, loop 49 0 0 _ _ _ (by omega) (by omega) (by omega) hp⟩
theorem ax_best {post : Int64 → SX → Prop} (C : cf_ok t w lg kn n fw rw fl sw ss sk ba hyc ph) (hton : to ≤ n) (hm : m ≤ 48) (ok : bk_ok t fr to m E N H) (xb : bk_xb m E N H a_breakEnd a_breakNext a_breakHyphen)
    (hpN : dp_be (dp_all (ln_v t lg w kn sw ss sk fw rw fl ba hyc m E N H) m) m 16 = none → ∀ a_heads a_glyphs a_wayDemerits a_wayBefore, post (-1) ((nI n), (nI lc), (nI pc), (nI fw), (nI rw), (nI fl), (nI sw), (nI ss), (nI sk), (nI ba), (nI hyc), (nI ph), (nI (m + 1)), x_lineCount, x_paragraphCount, x_stale, (gd_tI t), (gd_tI w), (gd_lI lg), (gd_kI kn), a_patterns, a_heads, a_glyphs, a_breakEnd, a_breakNext, a_breakHyphen, a_breakTaken, a_wayDemerits, a_wayBefore, a_lineFacts, a_paragraphDemerits))
    (hpS : ∀ e, dp_be (dp_all (ln_v t lg w kn sw ss sk fw rw fl ba hyc m E N H) m) m 16 = some e → dp_vl (dp_all (ln_v t lg w kn sw ss sk fw rw fl ba hyc m E N H) m) e < 2 ^ 62 → ∀ a_heads a_glyphs a_wayDemerits a_wayBefore a_breakTaken', (∀ k, a_breakTaken' k = if k ∈ dp_pt (dp_all (ln_v t lg w kn sw ss sk fw rw fl ba hyc m E N H) m) 100 e then 1 else a_breakTaken k) → post (lN (dp_vl (dp_all (ln_v t lg w kn sw ss sk fw rw fl ba hyc m E N H) m) e)) ((nI n), (nI lc), (nI pc), (nI fw), (nI rw), (nI fl), (nI sw), (nI ss), (nI sk), (nI ba), (nI hyc), (nI ph), (nI (m + 1)), x_lineCount, x_paragraphCount, x_stale, (gd_tI t), (gd_tI w), (gd_lI lg), (gd_kI kn), a_patterns, a_heads, a_glyphs, a_breakEnd, a_breakNext, a_breakHyphen, a_breakTaken', a_wayDemerits, a_wayBefore, a_lineFacts, a_paragraphDemerits)) :
    wpX_takeBestWay post ((nI n), (nI lc), (nI pc), (nI fw), (nI rw), (nI fl), (nI sw), (nI ss), (nI sk), (nI ba), (nI hyc), (nI ph), (nI (m + 1)), x_lineCount, x_paragraphCount, x_stale, (gd_tI t), (gd_tI w), (gd_lI lg), (gd_kI kn), a_patterns, a_heads, a_glyphs, a_breakEnd, a_breakNext, a_breakHyphen, a_breakTaken, a_wayDemerits, a_wayBefore, a_lineFacts, a_paragraphDemerits) := by
  have hL : dp_ln (ln_v t lg w kn sw ss sk fw rw fl ba hyc m E N H) := ln_ok C
  refine dx_ways C hton hm ok xb (fun g a_heads a_glyphs a_wayDemerits a_wayBefore hA => ?_)
  have W := dp_all_wf hL m hm
  have hσ := dp_all_M hL m
  refine br_t (by rw [nI_pred]; exact nI_le (Nat.le_refl _) (by omega)) (dx_best hm W hσ hA ?_)
  cases he : dp_be (dp_all (ln_v t lg w kn sw ss sk fw rw fl ba hyc m E N H) m) m 16 with
  | none => exact br_t rfl (hpN he _ _ _ _)
  | some e =>
    obtain ⟨b1, b2, x, hx⟩ := dp_be_in 16 e he
    have hxb := dp_wf_v W hx
    refine br_f (gd_nm1 (by omega)) (dx_take (M := 16 * (m + 1)) (by omega) W hσ hA hx (fun a_breakTaken' hT => ⟨vp_in_nI (by omega) (by omega), ?_⟩))
    have hv : a_wayDemerits (nI e).toNatClampNeg = lN (dp_vl (dp_all (ln_v t lg w kn sw ss sk fw rw fl ba hyc m E N H) m) e) := by rw [nI_clamp (by omega), dp_vls hx]; exact ((hA e (by omega)).2 x hx).1
    show post (a_wayDemerits (nI e).toNatClampNeg) _
    rw [hv]
    exact hpS e he (by rw [dp_vls hx]; omega) _ _ _ _ _ hT
theorem ax_lines {post : SX → Prop} (C : cf_ok t w lg kn n fw rw fl sw ss sk ba hyc ph) (hton : to ≤ n) (hm : m ≤ 48) (ok : bk_ok t fr to m E N H) (xb : bk_xb m E N H a_breakEnd a_breakNext a_breakHyphen) {cs : List Nat} (hcs : cs_ok m 0 cs) (hT : ∀ k, 1 ≤ k → k ≤ m → a_breakTaken k = if k ∈ cs then 1 else 0) (hl48 : lnc + cs.length ≤ 48) (X : (xl_ok t lg w kn sw ss sk fw rw fl) lnc Λ a_lineFacts)
    (hp : ∀ a_heads a_glyphs a_lineFacts, (xl_ok t lg w kn sw ss sk fw rw fl) (lnc + cs.length) (lt_seq E N H m par Λ lnc 0 0 cs) a_lineFacts → post ((nI n), (nI lc), (nI pc), (nI fw), (nI rw), (nI fl), (nI sw), (nI ss), (nI sk), (nI ba), (nI hyc), (nI ph), (nI (m + 1)), (nI (lnc + cs.length)), (nI par), x_stale, (gd_tI t), (gd_tI w), (gd_lI lg), (gd_kI kn), a_patterns, a_heads, a_glyphs, a_breakEnd, a_breakNext, a_breakHyphen, a_breakTaken, a_wayDemerits, a_wayBefore, a_lineFacts, a_paragraphDemerits)) :
    wpX_addLines post ((nI n), (nI lc), (nI pc), (nI fw), (nI rw), (nI fl), (nI sw), (nI ss), (nI sk), (nI ba), (nI hyc), (nI ph), (nI (m + 1)), (nI lnc), (nI par), x_stale, (gd_tI t), (gd_tI w), (gd_lI lg), (gd_kI kn), a_patterns, a_heads, a_glyphs, a_breakEnd, a_breakNext, a_breakHyphen, a_breakTaken, a_wayDemerits, a_wayBefore, a_lineFacts, a_paragraphDemerits) := by
  have loop : ∀ f b a num cs lnc Λ a_heads a_glyphs a_lineFacts, b + f = m + 1 → a < b → cs_ok m a cs → (∀ k, k ∈ cs → b ≤ k) → (∀ k, b ≤ k → k ≤ m → a_breakTaken k = if k ∈ cs then 1 else 0) → num ≤ a → lnc + cs.length ≤ 48 → (xl_ok t lg w kn sw ss sk fw rw fl) lnc Λ a_lineFacts →
      (∀ a_heads a_glyphs a_lineFacts, (xl_ok t lg w kn sw ss sk fw rw fl) (lnc + cs.length) (lt_seq E N H m par Λ lnc a num cs) a_lineFacts → post ((nI n), (nI lc), (nI pc), (nI fw), (nI rw), (nI fl), (nI sw), (nI ss), (nI sk), (nI ba), (nI hyc), (nI ph), (nI (m + 1)), (nI (lnc + cs.length)), (nI par), x_stale, (gd_tI t), (gd_tI w), (gd_lI lg), (gd_kI kn), a_patterns, a_heads, a_glyphs, a_breakEnd, a_breakNext, a_breakHyphen, a_breakTaken, a_wayDemerits, a_wayBefore, a_lineFacts, a_paragraphDemerits)) →
      wX_addLines_6 post (f + 1) (nI a) (nI num) (nI b) (nI n) (nI lc) (nI pc) (nI fw) (nI rw) (nI fl) (nI sw) (nI ss) (nI sk) (nI ba) (nI hyc) (nI ph) (nI (m + 1)) (nI lnc) (nI par) x_stale (gd_tI t) (gd_tI w) (gd_lI lg) (gd_kI kn) a_patterns a_heads a_glyphs a_breakEnd a_breakNext a_breakHyphen a_breakTaken a_wayDemerits a_wayBefore a_lineFacts a_paragraphDemerits := by
    intro f
    induction f with
    | zero =>
      intro b a num cs lnc Λ a_heads a_glyphs a_lineFacts hb hab hcs hge hT hn1 hl X hp
      have : b = m + 1 := by omega
      subst this
      cases cs with
      | nil => exact br_t (nI_le (Nat.le_refl _) (by omega)) (hp _ _ _ X)
      | cons k l =>
        have := hge k (List.mem_cons_self ..)
        have := (cs_mem _ _ hcs k (List.mem_cons_self ..)).2
        omega
    | succ f ih =>
      intro b a num cs lnc Λ a_heads a_glyphs a_lineFacts hb hab hcs hge hT hn1 hl X hp
      have hTb := hT b (Nat.le_refl _) (by omega)
      refine br_f (nI_ge (by omega) (by omega)) ⟨vp_in_nI (by omega) (by omega), ?_⟩
      by_cases mb : b ∈ cs
      · rw [if_pos mb] at hTb
        refine br_f (by rw [nI_clamp (by omega), hTb]; decide) ?_
        cases cs with
        | nil => exact absurd mb (by simp)
        | cons k l =>
          have hcs' := hcs
          rw [cs_ok] at hcs'
          have hkb : k = b := by
            rcases List.mem_cons.mp mb with e | e
            · exact e.symm
            · have h1 := (cs_mem _ _ hcs'.2.2 b e).1
              have h2 := hge k (List.mem_cons_self ..)
              omega
          subst hkb
          rw [List.length_cons] at hl hp
          refine ax_line C hton hm ok xb hab (by omega) (by omega) (by omega) X (fun a_heads a_glyphs a_lineFacts X' => ?_)
          refine nm_r (nI_1 num) (nm_r (nI_1 k) (ih (k + 1) k (num + 1) l (lnc + 1) _ _ _ _ (by omega) (by omega) hcs'.2.2 (fun j hj => (cs_mem _ _ hcs'.2.2 j hj).1) (fun j h1 h2 => ?_) (by omega) (by omega) X' ?_))
          · rw [hT j (by omega) h2]
            by_cases mj : j ∈ l
            · rw [if_pos mj, if_pos (List.mem_cons_of_mem _ mj)]
            · rw [if_neg mj, if_neg (fun z => by rcases List.mem_cons.mp z with z | z; omega; exact mj z)]
          · intro a_heads a_glyphs a_lineFacts X''
            have e : lnc + 1 + l.length = lnc + (l.length + 1) := by omega
            rw [e] at X'' ⊢
            exact hp _ _ _ X''
      · rw [if_neg mb] at hTb
        refine br_t (by rw [nI_clamp (by omega), hTb]) (nm_r (nI_1 b) (ih (b + 1) a num cs lnc Λ _ _ _ (by omega) (by omega) hcs (fun k hk => ?_) (fun k h1 h2 => hT k (by omega) h2) hn1 hl X hp))
        have := hge k hk
        rcases Nat.lt_or_ge b k with z | z
        · exact z
        · have : k = b := by omega
          subst this
          exact absurd hk mb
  exact ⟨m + 1, loop m 1 0 0 cs lnc Λ _ _ _ (by omega) (by omega) hcs (fun k hk => (cs_mem _ _ hcs k hk).1) hT (by omega) hl48 X hp⟩
end
