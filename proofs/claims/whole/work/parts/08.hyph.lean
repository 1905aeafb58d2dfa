/-! hyphenation: the codes about a place, the key of the pattern of a size that puts its digit idx there, the greatest digit -/
def hy_code (t : Nat → Nat) (wf wt m : Nat) : Nat := if m < wf + 1 ∨ wt + 1 ≤ m then 10 else t (m - 1)
def hy_cc (t : Nat → Nat) (wf wt place size idx i : Nat) : Nat := if i < size then hy_code t wf wt (place + 1 - idx + i) + 1 else 0
def hy_key (t : Nat → Nat) (wf wt place size idx : Nat) : Nat := (hy_cc t wf wt place size idx 0 * 12 + hy_cc t wf wt place size idx 1) * 12 + hy_cc t wf wt place size idx 2
def hy_D (t P : Nat → Nat) (wf wt place size idx : Nat) : Nat := P (hy_key t wf wt place size idx) / 10 ^ (size - idx) % 10
def hy_in (D : Nat → Nat → Nat) (size g0 : Nat) : Nat → Nat
  | 0 => g0
  | k + 1 => if D size k ≤ hy_in D size g0 k then hy_in D size g0 k else D size k
def hy_mx (D : Nat → Nat → Nat) : Nat := hy_in D 3 (hy_in D 2 (hy_in D 1 0 2) 3) 4
def hy_b (t P : Nat → Nat) (n place : Nat) : Bool := decide (place < n ∧ t place < 10 ∧ wd_s t n place + 2 ≤ place ∧ place + 2 ≤ wd_E t n place ∧ hy_mx (hy_D t P (wd_s t n place) (wd_E t n place) place) % 2 = 1)
theorem hy_in_ge (D : Nat → Nat → Nat) (size g0 k : Nat) : g0 ≤ hy_in D size g0 k ∧ (∀ j, j < k → D size j ≤ hy_in D size g0 k) ∧ (hy_in D size g0 k = g0 ∨ ∃ j, j < k ∧ hy_in D size g0 k = D size j) := by
  induction k with
  | zero => exact ⟨Nat.le_refl _, fun j h => absurd h (by omega), Or.inl rfl⟩
  | succ k ih =>
    obtain ⟨a, b, c⟩ := ih
    rw [hy_in]
    by_cases h : D size k ≤ hy_in D size g0 k
    · rw [if_pos h]
      refine ⟨a, fun j hj => ?_, ?_⟩
      · by_cases e : j = k
        · rw [e]; exact h
        · exact b j (by omega)
      · rcases c with c | ⟨j, c1, c2⟩
        · exact Or.inl c
        · exact Or.inr ⟨j, by omega, c2⟩
    · rw [if_neg h]
      refine ⟨by omega, fun j hj => ?_, Or.inr ⟨k, by omega, rfl⟩⟩
      by_cases e : j = k
      · rw [e]; exact Nat.le_refl _
      · have := b j (by omega); omega
theorem hy_mx_ok (D : Nat → Nat → Nat) : (∀ size idx, 1 ≤ size → size ≤ 3 → idx ≤ size → D size idx ≤ hy_mx D) ∧ (hy_mx D = 0 ∨ ∃ size idx, 1 ≤ size ∧ size ≤ 3 ∧ idx ≤ size ∧ hy_mx D = D size idx) := by
  obtain ⟨a1, b1, c1⟩ := hy_in_ge D 1 0 2
  obtain ⟨a2, b2, c2⟩ := hy_in_ge D 2 (hy_in D 1 0 2) 3
  obtain ⟨a3, b3, c3⟩ := hy_in_ge D 3 (hy_in D 2 (hy_in D 1 0 2) 3) 4
  have e : hy_mx D = hy_in D 3 (hy_in D 2 (hy_in D 1 0 2) 3) 4 := rfl
  rw [← e] at a3 b3 c3
  constructor
  · intro size idx h1 h2 h3
    have : size = 1 ∨ size = 2 ∨ size = 3 := by omega
    rcases this with rfl | rfl | rfl
    · have := b1 idx (by omega); omega
    · have := b2 idx (by omega); omega
    · exact b3 idx (by omega)
  · rcases c3 with c3 | ⟨j, j1, j2⟩
    · rcases c2 with c2 | ⟨j, j1, j2⟩
      · rcases c1 with c1 | ⟨j, j1, j2⟩
        · left; omega
        · right; exact ⟨1, j, by omega, by omega, by omega, by omega⟩
      · right; exact ⟨2, j, by omega, by omega, by omega, by omega⟩
    · right; exact ⟨3, j, by omega, by omega, by omega, j2⟩
theorem hy_cc_lt {t : Nat → Nat} {wf wt place size idx i : Nat} (hl : ∀ j, wf ≤ j → j < wt → t j < 10) : hy_cc t wf wt place size idx i < 12 := by
  rw [hy_cc]
  split
  · rw [hy_code]
    split
    · omega
    · have := hl (place + 1 - idx + i - 1) (by omega) (by omega); omega
  · omega
theorem hy_D_lt {t P : Nat → Nat} {wf wt place size idx : Nat} : hy_D t P wf wt place size idx < 10 := Nat.mod_lt _ (by omega)
theorem hy_mx_lt {D : Nat → Nat → Nat} (h : ∀ a b, D a b < 10) : hy_mx D < 10 := by
  rcases (hy_mx_ok D).2 with e | ⟨a, b, _, _, _, e⟩
  · omega
  · rw [e]; exact h a b
section
variable {n lc pc fw rw fl sw ss sk ba hyc ph : Nat} {t w lg : Nat → Nat} {kn : Nat → Int}
variable {P : Nat → Nat}
variable {x_breakCount x_lineCount x_paragraphCount x_stale : Int32} {a_patterns a_heads a_glyphs a_breakEnd a_breakNext a_breakHyphen a_breakTaken a_wayBefore a_lineFacts : Nat → Int32} {a_wayDemerits a_paragraphDemerits : Nat → Int64}
theorem hx_div (post : Int32 → Prop) {size : Nat} (hs : size < 1000) : ∀ d j v, j + d = size → v < 2 ^ 31 → post (nI (v / 10 ^ d % 10)) → wX_patternDigit_115 post (nI size) (nI n) (nI lc) (nI pc) (nI fw) (nI rw) (nI fl) (nI sw) (nI ss) (nI sk) (nI ba) (nI hyc) (nI ph) x_breakCount x_lineCount x_paragraphCount x_stale (gd_tI t) (gd_tI w) (gd_lI lg) (gd_kI kn) a_patterns a_heads a_glyphs a_breakEnd a_breakNext a_breakHyphen a_breakTaken a_wayDemerits a_wayBefore a_lineFacts a_paragraphDemerits (d + 1) (nI v) (nI j) := by
  intro d
  induction d with
  | zero =>
    intro j v hj hv hp
    refine br_t (nI_le (by omega) (by omega)) ⟨by decide, ?_⟩
    rw [show (10 : Int32) = nI 10 from rfl, pk_rem hv (by omega) (by omega)]
    rw [show v / 10 ^ 0 = v by omega] at hp
    exact hp
  | succ d ih =>
    intro j v hj hv hp
    refine br_f (nI_ge (by omega) (by omega)) ⟨by decide, nm_r (e' := nI (v / 10)) (pk_div (d := 10) hv (by omega) (by omega)) (nm_r (nI_1 j) (ih (j + 1) (v / 10) (by omega) (by omega) ?_))⟩
    rw [Nat.div_div_eq_div_mul, show 10 * 10 ^ d = 10 ^ (d + 1) by rw [Nat.pow_succ, Nat.mul_comm]]
    exact hp
theorem hx_digit {post : Int32 → Prop} {wf wt place size idx : Nat} (hP : ∀ k, P k < 2 ^ 31) (hw : wt ≤ 48) (h1 : wf + 2 ≤ place) (h2 : place + 2 ≤ wt) (hl : ∀ j, wf ≤ j → j < wt → t j < 10) (hs1 : 1 ≤ size) (hs3 : size ≤ 3) (hi : idx ≤ size)
    (hp : post (nI (hy_D t P wf wt place size idx))) : wpX_patternDigit post ((nI n), (nI lc), (nI pc), (nI fw), (nI rw), (nI fl), (nI sw), (nI ss), (nI sk), (nI ba), (nI hyc), (nI ph), x_breakCount, x_lineCount, x_paragraphCount, x_stale, (gd_tI t), (gd_tI w), (gd_lI lg), (gd_kI kn), (gd_tI P), a_heads, a_glyphs, a_breakEnd, a_breakNext, a_breakHyphen, a_breakTaken, a_wayDemerits, a_wayBefore, a_lineFacts, a_paragraphDemerits) (nI place) (nI size) (nI idx) (nI wf) (nI wt) := by
  refine nm_r (e' := gd_iI ((place : Int) - idx)) (by rw [gd_nat, gd_nat idx, gd_sub]) ?_
  refine br_f ?_ (br_t ?_ ⟨4, ?_⟩)
  · rw [Int32.lt_iff_toInt_lt, gd_toInt (by omega) (by omega), gd_nat, show (1 : Int32) = gd_iI 1 from rfl, gd_sub, gd_toInt (by omega) (by omega)]; omega
  · rw [Int32.le_iff_toInt_le, gd_nat, gd_nat wt, gd_add, show (1 : Int32) = gd_iI 1 from rfl, gd_add, gd_toInt (by omega) (by omega), gd_toInt (by omega) (by omega)]; omega
  have step : ∀ f k i, i < 3 → wX_patternDigit_33 post (nI size) (nI idx) (nI wf) (nI wt) (gd_iI ((place : Int) - idx)) (nI n) (nI lc) (nI pc) (nI fw) (nI rw) (nI fl) (nI sw) (nI ss) (nI sk) (nI ba) (nI hyc) (nI ph) x_breakCount x_lineCount x_paragraphCount x_stale (gd_tI t) (gd_tI w) (gd_lI lg) (gd_kI kn) (gd_tI P) a_heads a_glyphs a_breakEnd a_breakNext a_breakHyphen a_breakTaken a_wayDemerits a_wayBefore a_lineFacts a_paragraphDemerits f (nI (k * 12 + hy_cc t wf wt place size idx i)) (nI (i + 1)) → wX_patternDigit_33 post (nI size) (nI idx) (nI wf) (nI wt) (gd_iI ((place : Int) - idx)) (nI n) (nI lc) (nI pc) (nI fw) (nI rw) (nI fl) (nI sw) (nI ss) (nI sk) (nI ba) (nI hyc) (nI ph) x_breakCount x_lineCount x_paragraphCount x_stale (gd_tI t) (gd_tI w) (gd_lI lg) (gd_kI kn) (gd_tI P) a_heads a_glyphs a_breakEnd a_breakNext a_breakHyphen a_breakTaken a_wayDemerits a_wayBefore a_lineFacts a_paragraphDemerits (f + 1) (nI k) (nI i) := by
    intro f k i hi3 H
    refine br_f (nI_ge (b := 3) hi3 (by decide)) ?_
    have hsum : gd_iI ((place : Int) - idx) + nI i = gd_iI ((place : Int) - idx + i) := by rw [gd_nat i, gd_add]
    refine pk_le size i (fun h => ?_) (fun h => ?_)
    · refine nm_r ?_ (nm_r (nI_1 i) H)
      rw [hy_cc, if_neg (by omega), show (12 : Int32) = nI 12 from rfl, pk_mul]
      show nI (k * 12) + (-1) + 1 = _
      grind
    · have T : ∀ c, hy_code t wf wt (place + 1 - idx + i) = c → nI k * 12 + nI c + 1 = nI (k * 12 + hy_cc t wf wt place size idx i) := by
        intro c hc
        rw [hy_cc, if_pos h, hc, show (12 : Int32) = nI 12 from rfl, pk_mul, nI_add, nI_1]; rfl
      refine gd_zlt ((place : Int) - idx + i) wf (fun h3 => ?_) (fun h3 => ?_) hsum (gd_nat wf) (by omega) (by omega)
      · refine nm_r (T 10 ?_) (nm_r (nI_1 i) H)
        rw [hy_code, if_pos (by omega)]
      · refine gd_zlt ((place : Int) - idx + i) wt (fun h4 => ?_) (fun h4 => ?_) hsum (gd_nat wt) (by omega) (by omega)
        · have e1 : gd_iI ((place : Int) - idx) + nI i = nI (place + 1 - idx + i - 1) := by
            rw [hsum, gd_nat]; congr 1; omega
          refine ⟨pk_in _ 48 (by omega) e1, nm_r (T (t (place + 1 - idx + i - 1)) ?_ ▸ ?_) (nm_r (nI_1 i) H)⟩
          · rw [hy_code, if_neg (by omega)]
          · rw [e1, gd_rt (by omega)]
        · refine nm_r (T 10 ?_) (nm_r (nI_1 i) H)
          rw [hy_code, if_pos (by omega)]
  refine step 3 0 0 (by omega) (step 2 _ 1 (by omega) (step 1 _ 2 (by omega) ?_))
  have c0 := hy_cc_lt (place := place) (size := size) (idx := idx) (i := 0) hl
  have c1 := hy_cc_lt (place := place) (size := size) (idx := idx) (i := 1) hl
  have c2 := hy_cc_lt (place := place) (size := size) (idx := idx) (i := 2) hl
  have ek : ((0 * 12 + hy_cc t wf wt place size idx 0) * 12 + hy_cc t wf wt place size idx 1) * 12 + hy_cc t wf wt place size idx 2 = hy_key t wf wt place size idx := by rw [hy_key]; omega
  have hk : hy_key t wf wt place size idx < 1728 := by rw [hy_key]; omega
  rw [ek]
  refine br_t (by decide) ⟨vp_in_nI hk (by omega), nm_r (gd_rt (by omega)) ⟨size - idx + 1, hx_div post (by omega) (size - idx) idx _ (by omega) (hP _) hp⟩⟩
theorem hx_great {post : Int32 → Prop} {wf wt place : Nat} (hP : ∀ k, P k < 2 ^ 31) (hw : wt ≤ 48) (h1 : wf + 2 ≤ place) (h2 : place + 2 ≤ wt) (hl : ∀ j, wf ≤ j → j < wt → t j < 10)
    (hp : post (nI (hy_mx (hy_D t P wf wt place)))) : wpX_greatestDigitAt post ((nI n), (nI lc), (nI pc), (nI fw), (nI rw), (nI fl), (nI sw), (nI ss), (nI sk), (nI ba), (nI hyc), (nI ph), x_breakCount, x_lineCount, x_paragraphCount, x_stale, (gd_tI t), (gd_tI w), (gd_lI lg), (gd_kI kn), (gd_tI P), a_heads, a_glyphs, a_breakEnd, a_breakNext, a_breakHyphen, a_breakTaken, a_wayDemerits, a_wayBefore, a_lineFacts, a_paragraphDemerits) (nI place) (nI wf) (nI wt) := by
  have inner : ∀ (J : Int32 → Int32 → Prop) (size g0 : Nat), 1 ≤ size → size ≤ 3 → (∀ k, hy_in (hy_D t P wf wt place) size g0 k < 2 ^ 31) → J (nI (hy_in (hy_D t P wf wt place) size g0 (size + 1))) (nI (size + 1)) → ∀ d k, k + d = size + 1 → wX_greatestDigitAt_15 post J (nI place) (nI wf) (nI wt) (nI size) (nI n) (nI lc) (nI pc) (nI fw) (nI rw) (nI fl) (nI sw) (nI ss) (nI sk) (nI ba) (nI hyc) (nI ph) x_breakCount x_lineCount x_paragraphCount x_stale (gd_tI t) (gd_tI w) (gd_lI lg) (gd_kI kn) (gd_tI P) a_heads a_glyphs a_breakEnd a_breakNext a_breakHyphen a_breakTaken a_wayDemerits a_wayBefore a_lineFacts a_paragraphDemerits (d + 1) (nI (hy_in (hy_D t P wf wt place) size g0 k)) (nI k) := by
    intro J size g0 s1 s3 hb hJ d
    induction d with
    | zero =>
      intro k hk
      rw [show k = size + 1 by omega]
      exact br_t (nI_lt (by omega) (by omega)) (nm_r (nI_1 size) hJ)
    | succ d ih =>
      intro k hk
      refine br_f (nI_nlt (by omega) (by omega)) (hx_digit hP hw h1 h2 hl s1 s3 (by omega) ?_)
      have h3 := ih (k + 1) (by omega)
      have hD := hy_D_lt (t := t) (P := P) (wf := wf) (wt := wt) (place := place) (size := size) (idx := k)
      rw [hy_in] at h3
      refine pk_le _ _ (fun h => ?_) (fun h => ?_) rfl rfl (by omega) (hb k)
      · rw [if_pos h] at h3
        exact nm_r (nI_1 k) h3
      · rw [if_neg (by omega)] at h3
        exact nm_r (nI_1 k) h3
  have bd : ∀ size g0 k, g0 < 10 → hy_in (hy_D t P wf wt place) size g0 k < 10 := by
    intro size g0 k h
    rcases (hy_in_ge (hy_D t P wf wt place) size g0 k).2.2 with e | ⟨j, _, e⟩
    · omega
    · rw [e]; exact hy_D_lt
  have b1 : ∀ k, hy_in (hy_D t P wf wt place) 1 0 k < 10 := fun k => bd 1 0 k (by omega)
  have b2 : ∀ k, hy_in (hy_D t P wf wt place) 2 (hy_in (hy_D t P wf wt place) 1 0 2) k < 10 := fun k => bd 2 _ k (b1 2)
  have b3 : ∀ k, hy_in (hy_D t P wf wt place) 3 (hy_in (hy_D t P wf wt place) 2 (hy_in (hy_D t P wf wt place) 1 0 2) 3) k < 10 := fun k => bd 3 _ k (b2 3)
  refine ⟨4, ?_⟩
  refine br_f (by decide) ⟨3, inner _ 1 0 (by omega) (by omega) (fun k => by have := b1 k; omega) ?_ 2 0 (by omega)⟩
  refine br_f (by decide) ⟨4, inner _ 2 (hy_in (hy_D t P wf wt place) 1 0 2) (by omega) (by omega) (fun k => by have := b2 k; omega) ?_ 3 0 (by omega)⟩
  refine br_f (by decide) ⟨5, inner _ 3 (hy_in (hy_D t P wf wt place) 2 (hy_in (hy_D t P wf wt place) 1 0 2) 3) (by omega) (by omega) (fun k => by have := b3 k; omega) ?_ 4 0 (by omega)⟩
  exact br_t (by decide) hp
theorem hx_may {post : Int32 → Prop} {i : Nat} (hn : n ≤ 48) (ht : ∀ i, t i ≤ 11) (hP : ∀ k, P k < 2 ^ 31) (hi : i < 2 ^ 31) (hp : post (gd_bI (hy_b t P n i))) : wpX_mayHyphenate post ((nI n), (nI lc), (nI pc), (nI fw), (nI rw), (nI fl), (nI sw), (nI ss), (nI sk), (nI ba), (nI hyc), (nI ph), x_breakCount, x_lineCount, x_paragraphCount, x_stale, (gd_tI t), (gd_tI w), (gd_lI lg), (gd_kI kn), (gd_tI P), a_heads, a_glyphs, a_breakEnd, a_breakNext, a_breakHyphen, a_breakTaken, a_wayDemerits, a_wayBefore, a_lineFacts, a_paragraphDemerits) (nI i) := by
  refine br_f (nI_pos hi) (pk_le n i (fun h => ?_) (fun h => ⟨vp_in_nI (by omega) (by omega), pk_lt (t i) 10 (fun h1 => ?_) (fun h1 => ?_) (gd_rt hi) rfl (by have := ht i; omega) (by omega)⟩))
  · rw [hy_b, decide_eq_false (by omega)] at hp; exact hp
  · obtain ⟨w1, w2, w3⟩ := wd_E_ok (t := t) (n := n) i
    have w4 := wd_E_le (t := t) (show i ≤ n by omega)
    have w5 := wd_E_ge (t := t) (n := n) ⟨h, h1⟩
    obtain ⟨v1, v2, v3⟩ := wd_s_ok (t := t) (n := n) i
    have fin : wX_mayHyphenate_95 post (nI i) (nI (wd_s t n i)) (nI (wd_E t n i)) (nI n) (nI lc) (nI pc) (nI fw) (nI rw) (nI fl) (nI sw) (nI ss) (nI sk) (nI ba) (nI hyc) (nI ph) x_breakCount x_lineCount x_paragraphCount x_stale (gd_tI t) (gd_tI w) (gd_lI lg) (gd_kI kn) (gd_tI P) a_heads a_glyphs a_breakEnd a_breakNext a_breakHyphen a_breakTaken a_wayDemerits a_wayBefore a_lineFacts a_paragraphDemerits := by
      refine pk_lt (i - wd_s t n i) 2 (fun h2 => ?_) (fun h2 => ?_) (pk_sub v1) rfl (by omega) (by omega)
      · rw [hy_b, decide_eq_false (by omega)] at hp; exact hp
      · refine pk_le 2 (wd_E t n i - i) (fun h3 => ?_) (fun h3 => ?_) rfl (pk_sub w1) (by omega) (by omega)
        · refine hx_great hP (by omega) (by omega) (by omega) (fun j a b => ?_) ⟨by decide, ?_⟩
          · rcases Nat.lt_or_ge j i with z | z
            · exact (v2 j a z).2
            · exact (w2 j z b).2
          · have hlt := hy_mx_lt (D := hy_D t P (wd_s t n i) (wd_E t n i) i) (fun a b => hy_D_lt)
            refine pk_eq (hy_mx (hy_D t P (wd_s t n i) (wd_E t n i) i) % 2) 1 (fun h4 => ?_) (fun h4 => ?_) (pk_rem (d := 2) (by omega) (by omega) (by omega)) rfl (by omega) (by omega)
            · rw [hy_b, decide_eq_true ⟨h, h1, by omega, by omega, h4⟩] at hp; exact hp
            · rw [hy_b, decide_eq_false (by omega)] at hp; exact hp
        · rw [hy_b, decide_eq_false (by omega)] at hp; exact hp
    have up : ∀ d j x3, x3 = nI j → j + d = wd_E t n i → i < j → wX_mayHyphenate_63 post (nI i) (nI (wd_s t n i)) (nI n) (nI lc) (nI pc) (nI fw) (nI rw) (nI fl) (nI sw) (nI ss) (nI sk) (nI ba) (nI hyc) (nI ph) x_breakCount x_lineCount x_paragraphCount x_stale (gd_tI t) (gd_tI w) (gd_lI lg) (gd_kI kn) (gd_tI P) a_heads a_glyphs a_breakEnd a_breakNext a_breakHyphen a_breakTaken a_wayDemerits a_wayBefore a_lineFacts a_paragraphDemerits (d + 1) x3 (nI j) := by
      intro d
      induction d with
      | zero =>
        intro j x3 hx hj hij
        have e : j = wd_E t n i := by omega
        subst hx
        rw [e]
        refine pk_le n (wd_E t n i) (fun _ => fin) (fun z => ⟨vp_in_nI (by omega) (by omega), ?_⟩)
        refine pk_le 10 (t (wd_E t n i)) (fun _ => fin) (fun z2 => absurd ⟨z, z2⟩ w3) rfl (gd_rt (by omega)) (by omega) (by have := ht (wd_E t n i); omega)
      | succ d ih =>
        intro j x3 hx hj hij
        have hj2 := w2 j (by omega) (by omega)
        refine br_f (nI_ge (by omega) (by omega)) ⟨vp_in_nI (by omega) (by omega), ?_⟩
        refine pk_le 10 (t j) (fun z => absurd hj2.2 (by omega)) (fun z2 => ?_) rfl (gd_rt (by omega)) (by omega) (by omega)
        exact nm_r (nI_1 j) (nm_r (nI_1 j) (ih (j + 1) _ rfl (by omega) (by omega)))
    have mid : wX_mayHyphenate_54 post (nI i) (nI (wd_s t n i)) (nI n) (nI lc) (nI pc) (nI fw) (nI rw) (nI fl) (nI sw) (nI ss) (nI sk) (nI ba) (nI hyc) (nI ph) x_breakCount x_lineCount x_paragraphCount x_stale (gd_tI t) (gd_tI w) (gd_lI lg) (gd_kI kn) (gd_tI P) a_heads a_glyphs a_breakEnd a_breakNext a_breakHyphen a_breakTaken a_wayDemerits a_wayBefore a_lineFacts a_paragraphDemerits :=
      nm_r (nI_1 i) (nm_r (nI_1 i) ⟨wd_E t n i - (i + 1) + 1, up _ (i + 1) _ rfl (by omega) (by omega)⟩)
    have dn : ∀ j, wd_s t n i ≤ j → j ≤ i → wX_mayHyphenate_31 post (nI i) (nI n) (nI lc) (nI pc) (nI fw) (nI rw) (nI fl) (nI sw) (nI ss) (nI sk) (nI ba) (nI hyc) (nI ph) x_breakCount x_lineCount x_paragraphCount x_stale (gd_tI t) (gd_tI w) (gd_lI lg) (gd_kI kn) (gd_tI P) a_heads a_glyphs a_breakEnd a_breakNext a_breakHyphen a_breakTaken a_wayDemerits a_wayBefore a_lineFacts a_paragraphDemerits (j - wd_s t n i + 1) (nI j) (nI j - 1) := by
      intro j
      induction j with
      | zero =>
        intro z1 z2
        have e : wd_s t n i = 0 := by omega
        rw [e] at mid ⊢
        exact br_t (by decide) mid
      | succ j ih =>
        intro z1 z2
        rw [nI_pred]
        refine br_f (nI_pos (by omega)) ⟨vp_in_nI (by omega) (by omega), ?_⟩
        refine pk_le 10 (t j) (fun z => ?_) (fun z => ?_) rfl (gd_rt (by omega)) (by omega) (by have := ht j; omega)
        · have e : wd_s t n i = j + 1 := by
            rcases Nat.lt_or_ge j (wd_s t n i) with y | y
            · omega
            · have := (v2 j y (by omega)).2; omega
          rw [e] at mid
          exact mid
        · have e : wd_s t n i ≤ j := by
            rcases Nat.lt_or_ge j (wd_s t n i) with y | y
            · have e : wd_s t n i = j + 1 := by omega
              rw [e] at v3
              rcases v3 with v3 | v3
              · omega
              · rw [show j + 1 - 1 = j by omega] at v3
                exact absurd ⟨by omega, z⟩ v3
            · exact y
          have h5 := ih e (by omega)
          rw [show j + 1 - wd_s t n i = j - wd_s t n i + 1 by omega]
          refine nm_r (e' := nI j - 1) ?_ h5
          grind
    exact nm_e ⟨_, dn i v1 (Nat.le_refl _)⟩
  · rw [hy_b, decide_eq_false (by omega)] at hp; exact hp
end
