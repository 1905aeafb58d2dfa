/-! the running width of a line that begins at s and ends at e; the spaces in it -/
def rn_gp (t lg : Nat → Nat) (kn : Nat → Int) (sw : Nat) (s e i : Nat) : Int :=
  if s < i then (if t (i - 1) < 10 then kn (10 * sh_fe t lg s e (i - 1) + sh_fe t lg s e i) else (sw : Int)) else 0
def rn_x (t lg w : Nat → Nat) (kn : Nat → Int) (sw : Nat) (s e : Nat) : Nat → Int
  | 0 => 0
  | i + 1 => if i < s then 0 else if t i < 10 ∧ sh_jn t lg s i = false then rn_x t lg w kn sw s e i + rn_gp t lg kn sw s e i + (w (sh_fe t lg s e i) : Int) else rn_x t lg w kn sw s e i
def rn_sc (t : Nat → Nat) (s : Nat) : Nat → Nat
  | 0 => 0
  | i + 1 => if s < i ∧ t i < 10 ∧ ¬ t (i - 1) < 10 then rn_sc t s i + 1 else rn_sc t s i
section
variable {t lg w : Nat → Nat} {kn : Nat → Int} {sw s e : Nat}
theorem rn_x0 {i : Nat} (h : i ≤ s) : rn_x t lg w kn sw s e i = 0 := by
  cases i with
  | zero => rfl
  | succ i => rw [rn_x, if_pos (by omega)]
theorem rn_xh {i : Nat} (hs : s ≤ i) (h : t i < 10) (hj : sh_jn t lg s i = false) : rn_x t lg w kn sw s e (i + 1) = rn_x t lg w kn sw s e i + rn_gp t lg kn sw s e i + (w (sh_fe t lg s e i) : Int) := by
  rw [rn_x, if_neg (by omega), if_pos ⟨h, hj⟩]
theorem rn_xn {i : Nat} (hs : s ≤ i) (h : ¬ t i < 10 ∨ sh_jn t lg s i = true) : rn_x t lg w kn sw s e (i + 1) = rn_x t lg w kn sw s e i := by
  rw [rn_x, if_neg (by omega), if_neg]
  rintro ⟨a, b⟩
  rcases h with h | h
  · exact h a
  · rw [h] at b; exact absurd b (by decide)
theorem rn_sc0 {i : Nat} (h : i ≤ s + 1) : rn_sc t s i = 0 := by
  induction i with
  | zero => rfl
  | succ i ih => rw [rn_sc, if_neg (by omega)]; exact ih (by omega)
theorem rn_scy {i : Nat} (hs : s < i) (h : t i < 10) (hj : ¬ t (i - 1) < 10) : rn_sc t s (i + 1) = rn_sc t s i + 1 := by
  rw [rn_sc, if_pos ⟨hs, h, hj⟩]
theorem rn_scn {i : Nat} (h : ¬ t i < 10 ∨ t (i - 1) < 10) : rn_sc t s (i + 1) = rn_sc t s i := by
  rw [rn_sc, if_neg]
  rintro ⟨a, b, c⟩
  rcases h with h | h
  · exact h b
  · exact c h
theorem rn_sc_le (i : Nat) : rn_sc t s i ≤ i - s := by
  induction i with
  | zero => exact Nat.zero_le _
  | succ i ih => rw [rn_sc]; split <;> omega
theorem rn_gp_b (hsw : sw ≤ 20) (hk : ∀ i, -5 ≤ kn i ∧ kn i ≤ 5) (i : Nat) : -5 ≤ rn_gp t lg kn sw s e i ∧ rn_gp t lg kn sw s e i ≤ 20 := by
  rw [rn_gp]
  split
  · split
    · have := hk (10 * sh_fe t lg s e (i - 1) + sh_fe t lg s e i); omega
    · omega
  · omega
theorem rn_x_b (hsw : sw ≤ 20) (hk : ∀ i, -5 ≤ kn i ∧ kn i ≤ 5) (hw : ∀ i, w i ≤ 30) (i : Nat) : -5 * (i : Int) ≤ rn_x t lg w kn sw s e i ∧ rn_x t lg w kn sw s e i ≤ 50 * (i : Int) := by
  induction i with
  | zero => rw [rn_x]; omega
  | succ i ih =>
    rw [rn_x]
    split
    · omega
    · split
      · have h1 := rn_gp_b (t := t) (lg := lg) (s := s) (e := e) hsw hk i
        have h2 := hw (sh_fe t lg s e i)
        omega
      · omega
end
/-- a word [s2, e) within the line [s, to) -/
theorem rn_word {t lg w : Nat → Nat} {kn : Nat → Int} {sw s s2 e to : Nat} (hs : s ≤ s2) (h0 : s2 = s ∨ ¬ t (s2 - 1) < 10) (hl : ∀ i, s2 ≤ i → i < e → t i < 10) (h3 : e ≤ to) (h4 : e = to ∨ ¬ t e < 10) :
    ∀ d, s2 + d + 1 ≤ e → rn_x t lg w kn sw s to (s2 + d + 1) = rn_x t lg w kn sw s to s2 + rn_gp t lg kn sw s to s2 + rn_x t lg w kn sw s2 e (s2 + d + 1) := by
  intro d
  induction d with
  | zero =>
    intro hd
    have j1 : sh_jn t lg s s2 = false := by rw [sh_jn_w hs h0 (Nat.le_refl _)]; exact sh_jn_0 (Nat.le_refl _)
    have j2 : sh_jn t lg s2 s2 = false := sh_jn_0 (Nat.le_refl _)
    rw [Nat.add_zero, rn_xh hs (hl s2 (by omega) (by omega)) j1, rn_xh (Nat.le_refl _) (hl s2 (by omega) (by omega)) j2, rn_x0 (s := s2) (Nat.le_refl _), sh_fe_w hs h0 (Nat.le_refl _) (by omega) h3 h4]
    rw [show rn_gp t lg kn sw s2 e s2 = 0 by rw [rn_gp, if_neg (by omega)]]
    omega
  | succ d ih =>
    intro hd
    have ih := ih (by omega)
    have l1 : t (s2 + d + 1) < 10 := hl _ (by omega) (by omega)
    have jw : sh_jn t lg s (s2 + d + 1) = sh_jn t lg s2 (s2 + d + 1) := sh_jn_w hs h0 (by omega)
    show rn_x t lg w kn sw s to (s2 + d + 1 + 1) = _ + rn_x t lg w kn sw s2 e (s2 + d + 1 + 1)
    cases hj : sh_jn t lg s2 (s2 + d + 1)
    · rw [hj] at jw
      rw [rn_xh (by omega) l1 jw, rn_xh (by omega) l1 hj, ih, sh_fe_w hs h0 (by omega) (by omega) h3 h4]
      have g : rn_gp t lg kn sw s to (s2 + d + 1) = rn_gp t lg kn sw s2 e (s2 + d + 1) := by
        have l2 : t (s2 + d + 1 - 1) < 10 := hl _ (by omega) (by omega)
        rw [rn_gp, rn_gp, if_pos (show s < s2 + d + 1 by omega), if_pos (show s2 < s2 + d + 1 by omega), if_pos l2, if_pos l2, sh_fe_w hs h0 (by omega) (by omega) h3 h4, sh_fe_w hs h0 (by omega) (by omega) h3 h4]
      rw [g]
      omega
    · rw [hj] at jw
      rw [rn_xn (by omega) (Or.inr jw), rn_xn (by omega) (Or.inr hj), ih]
/-- over codes that are no letters nothing is added -/
theorem rn_flat {t lg w : Nat → Nat} {kn : Nat → Int} {sw s e i : Nat} (hs : s ≤ i) : ∀ d, (∀ j, i ≤ j → j < i + d → ¬ t j < 10) → rn_x t lg w kn sw s e (i + d) = rn_x t lg w kn sw s e i := by
  intro d
  induction d with
  | zero => intro _; rfl
  | succ d ih =>
    intro h
    show rn_x t lg w kn sw s e (i + d + 1) = _
    rw [rn_xn (by omega) (Or.inl (h _ (by omega) (by omega)))]
    exact ih (fun j a b => h j a (by omega))
theorem rn_sflat {t : Nat → Nat} {s i : Nat} : ∀ d, (∀ j, i ≤ j → j < i + d → ¬ t j < 10) → rn_sc t s (i + d) = rn_sc t s i := by
  intro d
  induction d with
  | zero => intro _; rfl
  | succ d ih =>
    intro h
    show rn_sc t s (i + d + 1) = _
    rw [rn_scn (Or.inl (h _ (by omega) (by omega)))]
    exact ih (fun j a b => h j a (by omega))
theorem rn_sword {t : Nat → Nat} {s i : Nat} : ∀ d, (∀ j, i ≤ j → j < i + d + 1 → t j < 10) → rn_sc t s (i + d + 1) = rn_sc t s (i + 1) := by
  intro d
  induction d with
  | zero => intro _; rfl
  | succ d ih =>
    intro h
    show rn_sc t s (i + d + 1 + 1) = _
    rw [rn_scn (Or.inr (by rw [show i + d + 1 - 1 = i + d by omega]; exact h _ (by omega) (by omega)))]
    exact ih (fun j a b => h j a (by omega))
