/-! the pure shaping of a stretch that begins at s: the glyph at work, its head, its number, its final value -/
def sh_cg (t lg : Nat → Nat) (s : Nat) : Nat → Nat
  | 0 => t 0
  | i + 1 => if s < i + 1 ∧ t i < 10 ∧ t (i + 1) < 10 ∧ lg (10 * sh_cg t lg s i + t (i + 1)) < 10 then lg (10 * sh_cg t lg s i + t (i + 1)) else t (i + 1)
def sh_jn (t lg : Nat → Nat) (s : Nat) : Nat → Bool
  | 0 => false
  | i + 1 => decide (s < i + 1 ∧ t i < 10 ∧ t (i + 1) < 10 ∧ lg (10 * sh_cg t lg s i + t (i + 1)) < 10)
def sh_hd (t lg : Nat → Nat) (s : Nat) : Nat → Nat
  | 0 => 0
  | i + 1 => if sh_jn t lg s (i + 1) = true then sh_hd t lg s i else i + 1
def sh_od (t lg : Nat → Nat) (s : Nat) : Nat → Nat
  | 0 => 0
  | i + 1 => if i + 1 ≤ s then 0 else if sh_jn t lg s (i + 1) = true then sh_od t lg s i else sh_od t lg s i + 1
def sh_fg (t lg : Nat → Nat) (s : Nat) : Nat → Nat → Nat
  | 0, i => sh_cg t lg s i
  | d + 1, i => if sh_jn t lg s (i + 1) = true then sh_fg t lg s d (i + 1) else sh_cg t lg s i
def sh_fe (t lg : Nat → Nat) (s e i : Nat) : Nat := sh_fg t lg s (e - 1 - i) i
section
variable {t lg : Nat → Nat} {s : Nat}
theorem sh_jn_s (i : Nat) : sh_jn t lg s (i + 1) = true ↔ (s < i + 1 ∧ t i < 10 ∧ t (i + 1) < 10 ∧ lg (10 * sh_cg t lg s i + t (i + 1)) < 10) := by
  rw [sh_jn, decide_eq_true_eq]
theorem sh_cg_s (i : Nat) : sh_cg t lg s (i + 1) = if sh_jn t lg s (i + 1) = true then lg (10 * sh_cg t lg s i + t (i + 1)) else t (i + 1) := by
  rw [sh_cg]
  by_cases h : sh_jn t lg s (i + 1) = true
  · rw [if_pos h, if_pos ((sh_jn_s i).mp h)]
  · rw [if_neg h, if_neg (fun z => h ((sh_jn_s i).mpr z))]
theorem sh_cg_t {i : Nat} (h : sh_jn t lg s i = false) : sh_cg t lg s i = t i := by
  cases i with
  | zero => rfl
  | succ i => rw [sh_cg_s, if_neg (by rw [h]; decide)]
theorem sh_cg_lt {i : Nat} (h : t i < 10) : sh_cg t lg s i < 10 := by
  cases i with
  | zero => exact h
  | succ i =>
    rw [sh_cg_s]
    by_cases z : sh_jn t lg s (i + 1) = true
    · rw [if_pos z]; exact ((sh_jn_s i).mp z).2.2.2
    · rw [if_neg z]; exact h
theorem sh_hd_le (i : Nat) : sh_hd t lg s i ≤ i := by
  induction i with
  | zero => exact Nat.le_refl 0
  | succ i ih => rw [sh_hd]; split <;> omega
theorem sh_hd_ge {j i : Nat} (h : sh_jn t lg s (j + 1) = false) (hji : j + 1 ≤ i) : j + 1 ≤ sh_hd t lg s i := by
  induction i with
  | zero => omega
  | succ i ih =>
    rw [sh_hd]
    by_cases e : j = i
    · subst e; rw [if_neg (by rw [h]; decide)]; omega
    · have := ih (by omega)
      split <;> omega
theorem sh_hd_j {i : Nat} (h : sh_jn t lg s (i + 1) = true) : sh_hd t lg s (i + 1) = sh_hd t lg s i := by rw [sh_hd, if_pos h]
theorem sh_hd_n {i : Nat} (h : sh_jn t lg s i = false) : sh_hd t lg s i = i := by
  cases i with
  | zero => rfl
  | succ i => rw [sh_hd, if_neg (by rw [h]; decide)]
theorem sh_hd_i {i : Nat} : sh_hd t lg s i = i ↔ sh_jn t lg s i = false := by
  constructor
  · intro h
    cases i with
    | zero => rfl
    | succ i =>
      cases e : sh_jn t lg s (i + 1)
      · rfl
      · rw [sh_hd_j e] at h
        have := sh_hd_le (t := t) (lg := lg) (s := s) i
        omega
  · exact sh_hd_n
theorem sh_jn_0 {i : Nat} (h : i ≤ s) : sh_jn t lg s i = false := by
  cases i with
  | zero => rfl
  | succ i => rw [sh_jn, decide_eq_false_iff_not]; omega
theorem sh_hd_gs {i : Nat} (h : s ≤ i) : s ≤ sh_hd t lg s i := by
  cases s with
  | zero => omega
  | succ s => exact sh_hd_ge (sh_jn_0 (Nat.le_refl _)) h
theorem sh_jn_n {i : Nat} (h : ¬ t i < 10) : sh_jn t lg s i = false := by
  cases i with
  | zero => rfl
  | succ i => rw [sh_jn, decide_eq_false_iff_not]; omega
theorem sh_jn_p {i : Nat} (h : ¬ t i < 10) : sh_jn t lg s (i + 1) = false := by
  rw [sh_jn, decide_eq_false_iff_not]; omega
theorem sh_fg_1 (d i : Nat) : sh_fg t lg s (d + 1) i = if sh_jn t lg s (i + 1) = true then sh_fg t lg s d (i + 1) else sh_cg t lg s i := rfl
theorem sh_fg_s (d : Nat) : ∀ j, sh_fg t lg s (d + 1) j = if sh_hd t lg s j = sh_hd t lg s (j + d + 1) then sh_cg t lg s (j + d + 1) else sh_fg t lg s d j := by
  induction d with
  | zero =>
    intro j
    rw [sh_fg_1]
    cases h : sh_jn t lg s (j + 1)
    · have h1 : sh_hd t lg s (j + 0 + 1) = j + 1 := sh_hd_n h
      have h2 := sh_hd_le (t := t) (lg := lg) (s := s) j
      rw [if_neg (by decide), if_neg (by omega)]; rfl
    · rw [if_pos rfl, if_pos (sh_hd_j h).symm]; rfl
  | succ d ih =>
    intro j
    rw [sh_fg_1]
    cases h : sh_jn t lg s (j + 1)
    · have h1 : j + 1 ≤ sh_hd t lg s (j + (d + 1) + 1) := sh_hd_ge h (by omega)
      have h2 := sh_hd_le (t := t) (lg := lg) (s := s) j
      rw [if_neg (by decide), if_neg (by omega), sh_fg_1, if_neg (by rw [h]; decide)]
    · rw [if_pos rfl, ih (j + 1), sh_hd_j h]
      have e : j + 1 + d + 1 = j + (d + 1) + 1 := by omega
      rw [e]
      have e2 : sh_fg t lg s (d + 1) j = sh_fg t lg s d (j + 1) := by rw [sh_fg_1, if_pos h]
      rw [e2]
theorem sh_fe_s {j i : Nat} (h : j < i) : sh_fe t lg s (i + 1) j = if sh_hd t lg s j = sh_hd t lg s i then sh_cg t lg s i else sh_fe t lg s i j := by
  obtain ⟨d, rfl⟩ : ∃ d, i = j + d + 1 := ⟨i - j - 1, by omega⟩
  have e1 : j + d + 1 + 1 - 1 - j = d + 1 := by omega
  have e2 : j + d + 1 - 1 - j = d := by omega
  rw [sh_fe, sh_fe, e1, e2, sh_fg_s]
theorem sh_fe_0 {i : Nat} : sh_fe t lg s (i + 1) i = sh_cg t lg s i := by
  have e : i + 1 - 1 - i = 0 := by omega
  rw [sh_fe, e]; rfl
theorem sh_fg_lt (d : Nat) : ∀ j, t j < 10 → sh_fg t lg s d j < 10 := by
  induction d with
  | zero => intro j h; exact sh_cg_lt h
  | succ d ih =>
    intro j h
    rw [sh_fg_1]
    by_cases z : sh_jn t lg s (j + 1) = true
    · rw [if_pos z]; exact ih _ ((sh_jn_s j).mp z).2.2.1
    · rw [if_neg z]; exact sh_cg_lt h
theorem sh_fe_lt {e j : Nat} (h : t j < 10) : sh_fe t lg s e j < 10 := sh_fg_lt _ j h
theorem sh_fe_j {e i : Nat} (h : sh_jn t lg s (i + 1) = true) (hi : i + 1 < e) : sh_fe t lg s e i = sh_fe t lg s e (i + 1) := by
  obtain ⟨d, rfl⟩ : ∃ d, e = i + 1 + d + 1 := ⟨e - (i + 1) - 1, by omega⟩
  have e1 : i + 1 + d + 1 - 1 - i = d + 1 := by omega
  have e2 : i + 1 + d + 1 - 1 - (i + 1) = d := by omega
  rw [sh_fe, sh_fe, e1, e2, sh_fg_1, if_pos h]
/-- numbers of glyphs -/
theorem sh_od_0 {i : Nat} (h : i ≤ s) : sh_od t lg s i = 0 := by
  cases i with
  | zero => rfl
  | succ i => rw [sh_od, if_pos h]
theorem sh_od_j {i : Nat} (h : sh_jn t lg s (i + 1) = true) : sh_od t lg s (i + 1) = sh_od t lg s i := by
  rw [sh_od, if_neg (by have := (sh_jn_s i).mp h; omega), if_pos h]
theorem sh_od_n {i : Nat} (hs : s ≤ i) (h : sh_jn t lg s (i + 1) = false) : sh_od t lg s (i + 1) = sh_od t lg s i + 1 := by
  rw [sh_od, if_neg (by omega), if_neg (by rw [h]; decide)]
theorem sh_od_le {i : Nat} (hs : s ≤ i) : sh_od t lg s i ≤ i - s := by
  induction i with
  | zero => exact Nat.zero_le _
  | succ i ih =>
    rw [sh_od]
    split
    · omega
    · have := ih (by omega)
      split <;> omega
theorem sh_od_mono {j i : Nat} (hs : s ≤ j) (h : j ≤ i) : sh_od t lg s j ≤ sh_od t lg s i := by
  induction i with
  | zero => rw [show j = 0 by omega]; exact Nat.le_refl _
  | succ i ih =>
    by_cases e : j = i + 1
    · rw [e]; exact Nat.le_refl _
    · have h1 := ih (by omega)
      cases z : sh_jn t lg s (i + 1)
      · rw [sh_od_n (by omega) z]; omega
      · rw [sh_od_j z]; omega
theorem sh_od_hd {j i : Nat} (hs : s ≤ j) (h : j ≤ i) : sh_od t lg s j = sh_od t lg s i ↔ sh_hd t lg s j = sh_hd t lg s i := by
  induction i with
  | zero => rw [show j = 0 by omega]; exact ⟨fun _ => rfl, fun _ => rfl⟩
  | succ i ih =>
    by_cases e : j = i + 1
    · rw [e]; exact ⟨fun _ => rfl, fun _ => rfl⟩
    · have h1 := ih (by omega)
      cases z : sh_jn t lg s (i + 1)
      · rw [sh_od_n (by omega) z, sh_hd_n z]
        have h2 := sh_od_mono (t := t) (lg := lg) hs (show j ≤ i by omega)
        have h3 := sh_hd_le (t := t) (lg := lg) (s := s) j
        omega
      · rw [sh_od_j z, sh_hd_j z]; exact h1
end
/-! two stretches agree on a word that begins at s2 -/
section
variable {t lg : Nat → Nat} {s s2 : Nat}
theorem sh_cg_w (hs : s ≤ s2) (h0 : s2 = s ∨ ¬ t (s2 - 1) < 10) (d : Nat) : sh_cg t lg s (s2 + d) = sh_cg t lg s2 (s2 + d) := by
  have b : ∀ s', s' ≤ s2 → (s2 = s' ∨ ¬ t (s2 - 1) < 10) → sh_cg t lg s' s2 = t s2 := by
    intro s' h1 h2
    apply sh_cg_t
    rcases h2 with h2 | h2
    · exact sh_jn_0 (by omega)
    · cases s2 with
      | zero => rfl
      | succ k => exact sh_jn_p h2
  induction d with
  | zero => rw [Nat.add_zero, b s hs h0, b s2 (Nat.le_refl _) (Or.inl rfl)]
  | succ d ih =>
    show sh_cg t lg s (s2 + d + 1) = sh_cg t lg s2 (s2 + d + 1)
    rw [sh_cg, sh_cg, ih]
    have e : (s < s2 + d + 1 ∧ t (s2 + d) < 10 ∧ t (s2 + d + 1) < 10 ∧ lg (10 * sh_cg t lg s2 (s2 + d) + t (s2 + d + 1)) < 10) ↔ (s2 < s2 + d + 1 ∧ t (s2 + d) < 10 ∧ t (s2 + d + 1) < 10 ∧ lg (10 * sh_cg t lg s2 (s2 + d) + t (s2 + d + 1)) < 10) := by
      constructor <;> rintro ⟨h1, h2⟩ <;> exact ⟨by omega, h2⟩
    by_cases c : (s2 < s2 + d + 1 ∧ t (s2 + d) < 10 ∧ t (s2 + d + 1) < 10 ∧ lg (10 * sh_cg t lg s2 (s2 + d) + t (s2 + d + 1)) < 10)
    · rw [if_pos c, if_pos (e.mpr c)]
    · rw [if_neg c, if_neg (fun z => c (e.mp z))]
theorem sh_jn_w (hs : s ≤ s2) (h0 : s2 = s ∨ ¬ t (s2 - 1) < 10) {i : Nat} (hi : s2 ≤ i) : sh_jn t lg s i = sh_jn t lg s2 i := by
  by_cases e : i = s2
  · subst e
    rw [sh_jn_0 (s := i) (Nat.le_refl _)]
    rcases h0 with h0 | h0
    · exact sh_jn_0 (by omega)
    · cases i with
      | zero => rfl
      | succ k => exact sh_jn_p h0
  · obtain ⟨d, rfl⟩ : ∃ d, i = s2 + d + 1 := ⟨i - s2 - 1, by omega⟩
    rw [sh_jn, sh_jn, sh_cg_w hs h0 d]
    congr 1
    apply propext
    constructor <;> rintro ⟨h1, h2⟩ <;> exact ⟨by omega, h2⟩
theorem sh_fg_w (hs : s ≤ s2) (h0 : s2 = s ∨ ¬ t (s2 - 1) < 10) : ∀ (d i : Nat), s2 ≤ i → sh_fg t lg s d i = sh_fg t lg s2 d i := by
  intro d
  induction d with
  | zero =>
    intro i hi
    obtain ⟨k, rfl⟩ : ∃ k, i = s2 + k := ⟨i - s2, by omega⟩
    exact sh_cg_w hs h0 k
  | succ d ih =>
    intro i hi
    rw [sh_fg_1, sh_fg_1, ih (i + 1) (by omega), sh_jn_w hs h0 (by omega)]
    obtain ⟨k, rfl⟩ : ∃ k, i = s2 + k := ⟨i - s2, by omega⟩
    rw [sh_cg_w hs h0 k]
/-- where a word ends the rest of the line doesn't matter -/
theorem sh_fg_e {e : Nat} (he : ¬ t e < 10) : ∀ (d k i : Nat), i + 1 + d = e → sh_fg t lg s (d + k) i = sh_fg t lg s d i := by
  intro d
  induction d with
  | zero =>
    intro k i h
    cases k with
    | zero => rfl
    | succ k =>
      rw [show 0 + (k + 1) = k + 1 by omega, sh_fg_1, if_neg (by rw [sh_jn_n (by rw [show i + 1 = e by omega]; exact he)]; decide)]; rfl
  | succ d ih =>
    intro k i h
    rw [show d + 1 + k = d + k + 1 by omega, sh_fg_1, sh_fg_1, ih k (i + 1) (by omega)]
theorem sh_fe_w {e to i : Nat} (hs : s ≤ s2) (h0 : s2 = s ∨ ¬ t (s2 - 1) < 10) (h1 : s2 ≤ i) (h2 : i < e) (h3 : e ≤ to) (h4 : e = to ∨ ¬ t e < 10) : sh_fe t lg s to i = sh_fe t lg s2 e i := by
  rw [sh_fe, sh_fe, ← sh_fg_w hs h0 _ i h1]
  rcases h4 with h4 | h4
  · rw [h4]
  · obtain ⟨k, hk⟩ : ∃ k, to - 1 - i = e - 1 - i + k := ⟨to - e, by omega⟩
    rw [hk]
    exact sh_fg_e h4 _ k i (by omega)
end
