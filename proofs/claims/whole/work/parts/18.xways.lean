def dp_vl (σ : dp_S) (s : Nat) : Nat := match σ s with
  | some x => x.1
  | none => 0
def dp_be (σ : dp_S) (m : Nat) : Nat → Option Nat
  | 0 => none
  | j + 1 => match σ (16 * m + j) with
    | none => dp_be σ m j
    | some x => match dp_be σ m j with
      | none => some (16 * m + j)
      | some s => if dp_vl σ s ≤ x.1 then (if x.1 = dp_vl σ s then (if dp_later σ 100 (16 * m + j) s = true then some (16 * m + j) else some s) else some s) else some (16 * m + j)
def dp_oe : Option Nat → Int32
  | none => -1
  | some s => nI s
def dp_pt (σ : dp_S) : Nat → Nat → List Nat
  | 0, _ => []
  | f + 1, s => if s < 16 then [] else s / 16 :: dp_pt σ f (dp_bf σ s)
section
variable {σ : dp_S} {m : Nat}
theorem dp_vls {s : Nat} {x : Nat × Nat} (h : σ s = some x) : dp_vl σ s = x.1 := by rw [dp_vl, h]
theorem dp_be_in : ∀ j s, dp_be σ m j = some s → 16 * m ≤ s ∧ s < 16 * m + j ∧ ∃ x, σ s = some x := by
  intro j
  induction j with
  | zero => intro s h; exact absurd h (by simp [dp_be])
  | succ j ih =>
    intro s h
    rw [dp_be] at h
    cases hx : σ (16 * m + j) with
    | none =>
      rw [hx] at h
      obtain ⟨a, b, c⟩ := ih s h
      exact ⟨a, by omega, c⟩
    | some x =>
      rw [hx] at h
      have new : some (16 * m + j) = some s → 16 * m ≤ s ∧ s < 16 * m + (j + 1) ∧ ∃ x, σ s = some x := by
        intro e
        cases e
        exact ⟨by omega, by omega, x, hx⟩
      cases he : dp_be σ m j with
      | none => rw [he] at h; exact new h
      | some s' =>
        rw [he] at h
        obtain ⟨a, b, c⟩ := ih s' he
        have old : some s' = some s → 16 * m ≤ s ∧ s < 16 * m + (j + 1) ∧ ∃ x, σ s = some x := by
          intro e
          cases e
          exact ⟨a, by omega, c⟩
        by_cases c1 : dp_vl σ s' ≤ x.1
        · simp only [if_pos c1] at h
          by_cases c2 : x.1 = dp_vl σ s'
          · simp only [if_pos c2] at h
            by_cases c3 : dp_later σ 100 (16 * m + j) s' = true
            · simp only [if_pos c3] at h; exact new h
            · simp only [if_neg c3] at h; exact old h
          · simp only [if_neg c2] at h; exact old h
        · simp only [if_neg c1] at h; exact new h
/-- the blocks of a way: strictly falling, from 1 on -/
theorem dp_pt_ok (W : dp_wf σ) : ∀ f s x, s / 16 < f → σ s = some x → (∀ k, k ∈ dp_pt σ f s → 1 ≤ k ∧ k ≤ s / 16) ∧ (dp_pt σ f s).Pairwise (fun a b => b < a) := by
  intro f
  induction f with
  | zero => intro s x h; omega
  | succ f ih =>
    intro s x h hx
    rw [dp_pt]
    by_cases c : s < 16
    · rw [if_pos c]; exact ⟨fun k h => absurd h (by simp), List.Pairwise.nil⟩
    · rw [if_neg c, dp_bfs hx]
      obtain ⟨w1, y, hy⟩ := (W s x hx).2.2.2 (by omega)
      obtain ⟨i1, i2⟩ := ih x.2 y (by omega) hy
      refine ⟨fun k hk => ?_, List.Pairwise.cons (fun b hb => ?_) i2⟩
      · rcases List.mem_cons.mp hk with e | e
        · omega
        · have := i1 k e; omega
      · have := i1 b hb; omega
end
section
variable {n lc pc fw rw fl sw ss sk ba hyc ph : Nat} {t w lg : Nat → Nat} {kn : Nat → Int}
variable {σ : dp_S} {m fr to : Nat} {E N : Nat → Nat} {H : Nat → Bool}
variable {x_breakCount x_lineCount x_paragraphCount x_stale : Int32} {a_patterns a_heads a_glyphs a_breakEnd a_breakNext a_breakHyphen a_breakTaken a_wayBefore a_lineFacts : Nat → Int32} {a_wayDemerits a_paragraphDemerits : Nat → Int64}
theorem dx_inner (post : Int64 → SX → Prop) (g : Nat) {a : Nat} (C : cf_ok t w lg kn n fw rw fl sw ss sk ba hyc ph) (hton : to ≤ n) (hm : m ≤ 48) (ok : bk_ok t fr to m E N H) (xb : bk_xb m E N H a_breakEnd a_breakNext a_breakHyphen) (ham : a < m) (W : dp_wf σ)
    (hJ : ∀ a_heads a_glyphs a_wayDemerits a_wayBefore, dp_arr 784 (dp_xi (ln_v t lg w kn sw ss sk fw rw fl ba hyc m E N H) a σ (m - a)) a_wayDemerits a_wayBefore → wX_takeBestWay_40 post g (nI (a + 1)) (nI n) (nI lc) (nI pc) (nI fw) (nI rw) (nI fl) (nI sw) (nI ss) (nI sk) (nI ba) (nI hyc) (nI ph) (nI (m + 1)) x_lineCount x_paragraphCount x_stale (gd_tI t) (gd_tI w) (gd_lI lg) (gd_kI kn) a_patterns a_heads a_glyphs a_breakEnd a_breakNext a_breakHyphen a_breakTaken a_wayDemerits a_wayBefore a_lineFacts a_paragraphDemerits) :
    ∀ f b, b + f = m + 1 → a < b → ∀ a_heads a_glyphs a_wayDemerits a_wayBefore, dp_arr 784 (dp_xi (ln_v t lg w kn sw ss sk fw rw fl ba hyc m E N H) a σ (b - (a + 1))) a_wayDemerits a_wayBefore → wX_takeBestWay_54 post (wX_takeBestWay_40 post g) (nI a) (f + 1) (nI b) (nI n) (nI lc) (nI pc) (nI fw) (nI rw) (nI fl) (nI sw) (nI ss) (nI sk) (nI ba) (nI hyc) (nI ph) (nI (m + 1)) x_lineCount x_paragraphCount x_stale (gd_tI t) (gd_tI w) (gd_lI lg) (gd_kI kn) a_patterns a_heads a_glyphs a_breakEnd a_breakNext a_breakHyphen a_breakTaken a_wayDemerits a_wayBefore a_lineFacts a_paragraphDemerits := by
  obtain ⟨c1, c2, c3, c4, c5, c6, c7, c8, c9, c10, c11, c12, c13, c14⟩ := id C
  intro f
  induction f with
  | zero =>
    intro b hb hab a_heads a_glyphs a_wayDemerits a_wayBefore hA
    have : b = m + 1 := by omega
    subst this
    rw [show m + 1 - (a + 1) = m - a by omega] at hA
    exact br_t (nI_le (Nat.le_refl _) (by omega)) (nm_r (nI_1 a) (hJ _ _ _ _ hA))
  | succ f ih =>
    intro b hb hab a_heads a_glyphs a_wayDemerits a_wayBefore hA
    have hlt := bk_lt ok hab (show b ≤ m by omega)
    have hEb := ok.2.1 b (by omega) (by omega)
    obtain ⟨x1, x2, x3⟩ := id xb
    have xE := x1 b (by omega) (by omega)
    have xN := x2 a ham
    refine br_f (nI_ge (by omega) (by omega)) ?_
    refine bx_nat c2 (by omega) (by omega) xN xE (x3 b (by omega)) (by omega) (by omega) (fun a_heads a_glyphs => ?_)
    refine ⟨vp_in_nI (by omega) (by omega), vp_in_nI (by omega) (by omega), ?_⟩
    rw [nI_clamp (show a < 2 ^ 31 by omega), nI_clamp (show b < 2 ^ 31 by omega), xN, xE]
    refine xc_spaces hlt (by omega) c2 ?_
    refine dx_try C hm hab (by omega) (by omega) x3 hA (dp_xi_wf W (ln_ok C) hm (b - (a + 1)) (by omega)) (fun a_wayDemerits a_wayBefore hA' => ?_)
    refine nm_r (nI_1 b) (ih (b + 1) (by omega) (by omega) _ _ _ _ ?_)
    rw [show b + 1 - (a + 1) = b - (a + 1) + 1 by omega, dp_xi, show a + 1 + (b - (a + 1)) = b by omega]
    exact hA'
theorem dx_outer (post : Int64 → SX → Prop) (C : cf_ok t w lg kn n fw rw fl sw ss sk ba hyc ph) (hton : to ≤ n) (hm : m ≤ 48) (ok : bk_ok t fr to m E N H) (xb : bk_xb m E N H a_breakEnd a_breakNext a_breakHyphen)
    (hp : ∀ g a_heads a_glyphs a_wayDemerits a_wayBefore, dp_arr (16 * (m + 1)) (dp_all (ln_v t lg w kn sw ss sk fw rw fl ba hyc m E N H) m) a_wayDemerits a_wayBefore → wX_takeBestWay_40 post (g + 1) (nI m) (nI n) (nI lc) (nI pc) (nI fw) (nI rw) (nI fl) (nI sw) (nI ss) (nI sk) (nI ba) (nI hyc) (nI ph) (nI (m + 1)) x_lineCount x_paragraphCount x_stale (gd_tI t) (gd_tI w) (gd_lI lg) (gd_kI kn) a_patterns a_heads a_glyphs a_breakEnd a_breakNext a_breakHyphen a_breakTaken a_wayDemerits a_wayBefore a_lineFacts a_paragraphDemerits) :
    ∀ f a, a + f = m → ∀ a_heads a_glyphs a_wayDemerits a_wayBefore, dp_arr 784 (dp_x (ln_v t lg w kn sw ss sk fw rw fl ba hyc m E N H) m a) a_wayDemerits a_wayBefore → wX_takeBestWay_40 post (f + 1) (nI a) (nI n) (nI lc) (nI pc) (nI fw) (nI rw) (nI fl) (nI sw) (nI ss) (nI sk) (nI ba) (nI hyc) (nI ph) (nI (m + 1)) x_lineCount x_paragraphCount x_stale (gd_tI t) (gd_tI w) (gd_lI lg) (gd_kI kn) a_patterns a_heads a_glyphs a_breakEnd a_breakNext a_breakHyphen a_breakTaken a_wayDemerits a_wayBefore a_lineFacts a_paragraphDemerits := by
  have hL : dp_ln (ln_v t lg w kn sw ss sk fw rw fl ba hyc m E N H) := ln_ok C
  intro f
  induction f with
  | zero =>
    intro a ha a_heads a_glyphs a_wayDemerits a_wayBefore hA
    have : a = m := by omega
    subst this
    refine hp 0 _ _ _ _ (fun s hs => ?_)
    rw [← dp_x_all hL hm (show s / 16 ≤ a by omega)]
    exact hA s (by omega)
  | succ f ih =>
    intro a ha a_heads a_glyphs a_wayDemerits a_wayBefore hA
    refine br_f (by rw [nI_pred]; exact nI_ge (by omega) (by omega)) (nm_r (nI_1 a) ⟨m - a + 1, ?_⟩)
    refine dx_inner post (f + 1) C hton hm ok xb (by omega) (dp_x_wf hL hm a (by omega)) (fun a_heads a_glyphs a_wayDemerits a_wayBefore hA' => ?_) (m - a) (a + 1) (by omega) (by omega) _ _ _ _ ?_
    · exact ih (a + 1) (by omega) _ _ _ _ hA'
    · rw [show a + 1 - (a + 1) = 0 by omega]; exact hA
theorem dx_ways {post : Int64 → SX → Prop} (C : cf_ok t w lg kn n fw rw fl sw ss sk ba hyc ph) (hton : to ≤ n) (hm : m ≤ 48) (ok : bk_ok t fr to m E N H) (xb : bk_xb m E N H a_breakEnd a_breakNext a_breakHyphen)
    (hp : ∀ g a_heads a_glyphs a_wayDemerits a_wayBefore, dp_arr (16 * (m + 1)) (dp_all (ln_v t lg w kn sw ss sk fw rw fl ba hyc m E N H) m) a_wayDemerits a_wayBefore → wX_takeBestWay_40 post (g + 1) (nI m) (nI n) (nI lc) (nI pc) (nI fw) (nI rw) (nI fl) (nI sw) (nI ss) (nI sk) (nI ba) (nI hyc) (nI ph) (nI (m + 1)) x_lineCount x_paragraphCount x_stale (gd_tI t) (gd_tI w) (gd_lI lg) (gd_kI kn) a_patterns a_heads a_glyphs a_breakEnd a_breakNext a_breakHyphen a_breakTaken a_wayDemerits a_wayBefore a_lineFacts a_paragraphDemerits) :
    wpX_takeBestWay post ((nI n), (nI lc), (nI pc), (nI fw), (nI rw), (nI fl), (nI sw), (nI ss), (nI sk), (nI ba), (nI hyc), (nI ph), (nI (m + 1)), x_lineCount, x_paragraphCount, x_stale, (gd_tI t), (gd_tI w), (gd_lI lg), (gd_kI kn), a_patterns, a_heads, a_glyphs, a_breakEnd, a_breakNext, a_breakHyphen, a_breakTaken, a_wayDemerits, a_wayBefore, a_lineFacts, a_paragraphDemerits) := by
  have init : ∀ d i, i + d = 784 → ∀ a_wayDemerits, (∀ s, s < i → a_wayDemerits s = -1) → wX_takeBestWay_2 post (nI n) (nI lc) (nI pc) (nI fw) (nI rw) (nI fl) (nI sw) (nI ss) (nI sk) (nI ba) (nI hyc) (nI ph) (nI (m + 1)) x_lineCount x_paragraphCount x_stale (d + 1) (nI i) (gd_tI t) (gd_tI w) (gd_lI lg) (gd_kI kn) a_patterns a_heads a_glyphs a_breakEnd a_breakNext a_breakHyphen a_breakTaken a_wayDemerits a_wayBefore a_lineFacts a_paragraphDemerits := by
    intro d
    induction d with
    | zero =>
      intro i hi a_wayDemerits hI
      have : i = 784 := by omega
      subst this
      refine br_t (by decide) ?_
      show vp_in (0 * 16 + 0 * 4 + 1) 784 ∧ _
      refine ⟨vp_in_nI (n := 1) (by omega) (by omega), nm_r (e' := vp_updL a_wayDemerits 1 0) rfl ⟨m + 1, ?_⟩⟩
      refine dx_outer post C hton hm ok xb hp m 0 (by omega) _ _ _ _ (fun s hs => ?_)
      show (dp_init s = none → _) ∧ (∀ x, dp_init s = some x → _)
      rw [dp_init]
      by_cases e : s = 1
      · subst e
        rw [if_pos rfl, pk_uLs]
        exact ⟨fun h => absurd h (by simp), fun x hx => by cases hx; exact ⟨rfl, fun h => absurd h (by omega)⟩⟩
      · rw [if_neg e, pk_uLn e]
        exact ⟨fun _ => hI s hs, fun x hx => absurd hx (by simp)⟩
    | succ d ih =>
      intro i hi a_wayDemerits hI
      refine br_f (nI_ge (b := 784) (by omega) (by decide)) ⟨vp_in_nI (by omega) (by omega), nm_r (e' := vp_updL a_wayDemerits i (-1)) (by rw [nI_clamp (by omega)]) (nm_r (nI_1 i) (ih (i + 1) (by omega) _ (fun s hs => ?_)))⟩
      by_cases e : s = i
      · rw [e, pk_uLs]
      · rw [pk_uLn e]; exact hI s (by omega)
  exact ⟨785, init 784 0 (by omega) _ (fun s h => absurd h (by omega))⟩
theorem dx_best {post : Int32 → Prop} (hm : m ≤ 48) (W : dp_wf σ) (hσ : ∀ s x, σ s = some x → s < 16 * (m + 1)) (hA : dp_arr (16 * (m + 1)) σ a_wayDemerits a_wayBefore) (hp : post (dp_oe (dp_be σ m 16))) : wpX_bestEnd post ((nI n), (nI lc), (nI pc), (nI fw), (nI rw), (nI fl), (nI sw), (nI ss), (nI sk), (nI ba), (nI hyc), (nI ph), (nI (m + 1)), x_lineCount, x_paragraphCount, x_stale, (gd_tI t), (gd_tI w), (gd_lI lg), (gd_kI kn), a_patterns, a_heads, a_glyphs, a_breakEnd, a_breakNext, a_breakHyphen, a_breakTaken, a_wayDemerits, a_wayBefore, a_lineFacts, a_paragraphDemerits) := by
  have loop : ∀ f j, j + f = 16 → wX_bestEnd_14 post (nI (16 * m)) (nI n) (nI lc) (nI pc) (nI fw) (nI rw) (nI fl) (nI sw) (nI ss) (nI sk) (nI ba) (nI hyc) (nI ph) (nI (m + 1)) x_lineCount x_paragraphCount x_stale (gd_tI t) (gd_tI w) (gd_lI lg) (gd_kI kn) a_patterns a_heads a_glyphs a_breakEnd a_breakNext a_breakHyphen a_breakTaken a_wayDemerits a_wayBefore a_lineFacts a_paragraphDemerits (f + 1) (dp_oe (dp_be σ m j)) (nI (16 * m + j)) := by
    intro f
    induction f with
    | zero =>
      intro j hj
      have : j = 16 := by omega
      subst this
      refine br_t ?_ hp
      rw [show (16 : Int32) = nI 16 from rfl, nI_add]
      exact nI_le (by omega) (by omega)
    | succ f ih =>
      intro j hj
      have ih := ih (j + 1) (by omega)
      have hrd : ∀ s, s < 784 → a_wayDemerits (nI s).toNatClampNeg = a_wayDemerits s := fun s h => by rw [nI_clamp (by omega)]
      refine br_f (by rw [show (16 : Int32) = nI 16 from rfl, nI_add]; exact nI_ge (by omega) (by omega)) ⟨vp_in_nI (by omega) (by omega), ?_⟩
      rw [dp_be] at ih
      cases hx : σ (16 * m + j) with
      | none =>
        rw [hx] at ih
        exact br_t (by rw [hrd _ (by omega)]; exact (hA _ (by omega)).1 hx) (nm_r (nI_1 _) ih)
      | some x =>
        rw [hx] at ih
        have hv : a_wayDemerits (nI (16 * m + j)).toNatClampNeg = lN x.1 := by rw [hrd _ (by omega)]; exact ((hA _ (by omega)).2 x hx).1
        have hxb := dp_wf_v W hx
        refine br_f (by rw [hv]; exact dp_nm1 (by omega)) ?_
        cases he : dp_be σ m j with
        | none =>
          rw [he] at ih
          exact br_t rfl (nm_r (nI_1 _) ih)
        | some s =>
          rw [he] at ih
          obtain ⟨b1, b2, y, hy⟩ := dp_be_in j s he
          have hyb := dp_wf_v W hy
          have hv2 : a_wayDemerits (nI s).toNatClampNeg = lN y.1 := by rw [hrd _ (by omega)]; exact ((hA _ (by omega)).2 y hy).1
          have ih : wX_bestEnd_14 post (nI (16 * m)) (nI n) (nI lc) (nI pc) (nI fw) (nI rw) (nI fl) (nI sw) (nI ss) (nI sk) (nI ba) (nI hyc) (nI ph) (nI (m + 1)) x_lineCount x_paragraphCount x_stale (gd_tI t) (gd_tI w) (gd_lI lg) (gd_kI kn) a_patterns a_heads a_glyphs a_breakEnd a_breakNext a_breakHyphen a_breakTaken a_wayDemerits a_wayBefore a_lineFacts a_paragraphDemerits (f + 1) (dp_oe (if dp_vl σ s ≤ x.1 then (if x.1 = dp_vl σ s then (if dp_later σ 100 (16 * m + j) s = true then some (16 * m + j) else some s) else some s) else some (16 * m + j))) (nI (16 * m + (j + 1))) := ih
          rw [dp_vls hy] at ih
          refine br_f (gd_nm1 (by omega)) ⟨vp_in_nI (by omega) (by omega), vp_in_nI (by omega) (by omega), br_c (fun c1 => ?_) (fun c1 => ?_)⟩
          · have c1 : lN y.1 ≤ lN x.1 := by rw [← hv, ← hv2]; exact c1
            have c1' := (pk_lLE (by omega) (by omega)).mp c1
            rw [if_pos c1'] at ih
            refine ⟨vp_in_nI (by omega) (by omega), vp_in_nI (by omega) (by omega), br_c (fun c2 => ?_) (fun c2 => ?_)⟩
            · have c2 : lN x.1 = lN y.1 := by rw [← hv, ← hv2]; exact c2
              have c2' := (pk_lEQ (by omega) (by omega)).mp c2
              rw [if_pos c2'] at ih
              refine dx_later (M := 16 * (m + 1)) (by omega) hσ hA W hx hy (gd_bt (fun c3 => ?_) (fun c3 => ?_))
              · rw [if_neg (by rw [c3]; decide)] at ih
                exact nm_r (nI_1 _) ih
              · rw [if_pos c3] at ih
                exact nm_r (nI_1 _) ih
            · have c2 : ¬ lN x.1 = lN y.1 := by rw [← hv, ← hv2]; exact c2
              have c2' : ¬ x.1 = y.1 := fun q => c2 (by rw [q])
              rw [if_neg c2'] at ih
              exact nm_r (nI_1 _) ih
          · have c1 : ¬ lN y.1 ≤ lN x.1 := by rw [← hv, ← hv2]; exact c1
            have c1' : ¬ y.1 ≤ x.1 := fun q => c1 ((pk_lLE (by omega) (by omega)).mpr q)
            rw [if_neg c1'] at ih
            exact nm_r (nI_1 _) ih
  refine nm_r (e' := nI (16 * m)) (by rw [nI_pred, show (16 : Int32) = nI 16 from rfl, pk_mul, Nat.mul_comm]) ⟨17, loop 16 0 (by omega)⟩
theorem dx_take {post : SX → Prop} {M s : Nat} {x : Nat × Nat} (hM : M ≤ 784) (W : dp_wf σ) (hσ : ∀ s x, σ s = some x → s < M) (hA : dp_arr M σ a_wayDemerits a_wayBefore) (hs : σ s = some x)
    (hp : ∀ a_breakTaken', (∀ k, a_breakTaken' k = if k ∈ dp_pt σ 100 s then 1 else a_breakTaken k) → post ((nI n), (nI lc), (nI pc), (nI fw), (nI rw), (nI fl), (nI sw), (nI ss), (nI sk), (nI ba), (nI hyc), (nI ph), x_breakCount, x_lineCount, x_paragraphCount, x_stale, (gd_tI t), (gd_tI w), (gd_lI lg), (gd_kI kn), a_patterns, a_heads, a_glyphs, a_breakEnd, a_breakNext, a_breakHyphen, a_breakTaken', a_wayDemerits, a_wayBefore, a_lineFacts, a_paragraphDemerits)) : wpX_takeWayTo post ((nI n), (nI lc), (nI pc), (nI fw), (nI rw), (nI fl), (nI sw), (nI ss), (nI sk), (nI ba), (nI hyc), (nI ph), x_breakCount, x_lineCount, x_paragraphCount, x_stale, (gd_tI t), (gd_tI w), (gd_lI lg), (gd_kI kn), a_patterns, a_heads, a_glyphs, a_breakEnd, a_breakNext, a_breakHyphen, a_breakTaken, a_wayDemerits, a_wayBefore, a_lineFacts, a_paragraphDemerits) (nI s) := by
  have key : ∀ f s x j a_breakTaken, s / 16 < f → j + s / 16 ≤ 48 → σ s = some x → (∀ a_breakTaken', (∀ k, a_breakTaken' k = if k ∈ dp_pt σ f s then 1 else a_breakTaken k) → post ((nI n), (nI lc), (nI pc), (nI fw), (nI rw), (nI fl), (nI sw), (nI ss), (nI sk), (nI ba), (nI hyc), (nI ph), x_breakCount, x_lineCount, x_paragraphCount, x_stale, (gd_tI t), (gd_tI w), (gd_lI lg), (gd_kI kn), a_patterns, a_heads, a_glyphs, a_breakEnd, a_breakNext, a_breakHyphen, a_breakTaken', a_wayDemerits, a_wayBefore, a_lineFacts, a_paragraphDemerits)) → wX_takeWayTo_4 post (nI n) (nI lc) (nI pc) (nI fw) (nI rw) (nI fl) (nI sw) (nI ss) (nI sk) (nI ba) (nI hyc) (nI ph) x_breakCount x_lineCount x_paragraphCount x_stale f (nI s) (nI j) (gd_tI t) (gd_tI w) (gd_lI lg) (gd_kI kn) a_patterns a_heads a_glyphs a_breakEnd a_breakNext a_breakHyphen a_breakTaken a_wayDemerits a_wayBefore a_lineFacts a_paragraphDemerits := by
    intro f
    induction f with
    | zero => intro s x j a_breakTaken h; omega
    | succ f ih =>
      intro s x j a_breakTaken h1 h2 hs hp
      have hsb := hσ s x hs
      rw [dp_pt] at hp
      refine br_f (nI_ge (b := 49) (by omega) (by decide)) (pk_lt s 16 (fun c => ?_) (fun c => ?_))
      · rw [if_pos c] at hp
        exact hp _ (fun k => by rw [if_neg (by simp)])
      · rw [if_neg (by omega), dp_bfs hs] at hp
        obtain ⟨w1, y, hy⟩ := (W s x hs).2.2.2 (by omega)
        have hq : nI s / 16 = nI (s / 16) := pk_div (d := 16) (by omega) (by omega) (by omega)
        refine ⟨by decide, pk_in (s / 16) 49 (by omega) hq, nm_r (e' := upd a_breakTaken (s / 16) 1) (by rw [hq, nI_clamp (by omega), gd_b1]) ⟨vp_in_nI (by omega) (by omega), nm_r (e' := nI x.2) (by rw [nI_clamp (by omega)]; exact ((hA s hsb).2 x hs).2 (by omega)) (nm_r (nI_1 j) (ih x.2 y (j + 1) _ (by omega) (by omega) hy (fun a_breakTaken' hT => hp _ (fun k => ?_))))⟩⟩
        rw [hT k]
        by_cases m1 : k ∈ dp_pt σ f x.2
        · rw [if_pos m1, if_pos (List.mem_cons_of_mem _ m1)]
        · rw [if_neg m1]
          by_cases e : k = s / 16
          · rw [e, pk_us, if_pos (List.mem_cons_self ..)]
          · rw [pk_un e, if_neg (fun z => by rcases List.mem_cons.mp z with z | z; exact e z; exact m1 z)]
  have := dp_wf_v W hs
  exact ⟨100, key 100 s x 0 _ (by omega) (by omega) hs hp⟩
end
