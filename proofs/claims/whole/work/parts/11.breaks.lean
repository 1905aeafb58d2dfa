/-! the breaks of the paragraph [fr, to) -/
def bk_s (t : Nat → Nat) : Nat → Nat → Nat
  | 0, i => i
  | d + 1, i => if t i = 10 then bk_s t d (i + 1) else i
def bk_sk (t : Nat → Nat) (to i : Nat) : Nat := bk_s t (to - i) i
theorem bk_s_ok {t : Nat → Nat} : ∀ d i, i ≤ bk_s t d i ∧ bk_s t d i ≤ i + d ∧ (∀ j, i ≤ j → j < bk_s t d i → t j = 10) ∧ (bk_s t d i = i + d ∨ t (bk_s t d i) ≠ 10) := by
  intro d
  induction d with
  | zero => intro i; exact ⟨Nat.le_refl _, Nat.le_refl _, fun j a b => absurd b (by rw [bk_s]; omega), Or.inl rfl⟩
  | succ d ih =>
    intro i
    rw [bk_s]
    by_cases h : t i = 10
    · rw [if_pos h]
      obtain ⟨a, b, c, e⟩ := ih (i + 1)
      refine ⟨by omega, by omega, fun j h1 h2 => ?_, by omega⟩
      by_cases z : j = i
      · rw [z]; exact h
      · exact c j (by omega) h2
    · rw [if_neg h]
      exact ⟨Nat.le_refl _, by omega, fun j a b => absurd a (by omega), Or.inr h⟩
theorem bk_sk_ok {t : Nat → Nat} {to i : Nat} (h : i ≤ to) : i ≤ bk_sk t to i ∧ bk_sk t to i ≤ to ∧ (∀ j, i ≤ j → j < bk_sk t to i → t j = 10) ∧ (bk_sk t to i = to ∨ t (bk_sk t to i) ≠ 10) := by
  obtain ⟨a, b, c, d⟩ := bk_s_ok (t := t) (to - i) i
  exact ⟨a, by rw [bk_sk]; omega, c, by rw [bk_sk]; omega⟩
theorem bk_sk_eq {t : Nat → Nat} {to i k : Nat} (h : i ≤ to) (h1 : i ≤ k) (h2 : k ≤ to) (h3 : ∀ j, i ≤ j → j < k → t j = 10) (h4 : k = to ∨ t k ≠ 10) : bk_sk t to i = k := by
  obtain ⟨a, b, c, d⟩ := bk_sk_ok (t := t) h
  rcases Nat.lt_trichotomy (bk_sk t to i) k with z | z | z
  · rcases d with d | d
    · omega
    · exact absurd (h3 _ a z) d
  · exact z
  · rcases h4 with h4 | h4
    · omega
    · exact absurd (c _ h1 z) h4
/-- a word ends behind the letter i -/
def bk_w (t : Nat → Nat) (to i : Nat) : Bool := decide (i + 1 = to ∨ ¬ t (i + 1) < 10)
def bk_m (t : Nat → Nat) (hy : Nat → Bool) (fr to : Nat) : Nat → Nat
  | 0 => 0
  | i + 1 => if fr ≤ i ∧ t i < 10 ∧ (hy i = true ∨ bk_w t to i = true) then bk_m t hy fr to i + 1 else bk_m t hy fr to i
def bk_E (t : Nat → Nat) (hy : Nat → Bool) (fr to : Nat) : Nat → Nat → Nat
  | 0 => fun _ => 0
  | i + 1 => fun k => if fr ≤ i ∧ t i < 10 ∧ (hy i = true ∨ bk_w t to i = true) ∧ k = bk_m t hy fr to i + 1 then (if hy i = true then i else i + 1) else bk_E t hy fr to i k
def bk_H (t : Nat → Nat) (hy : Nat → Bool) (fr to : Nat) : Nat → Nat → Bool
  | 0 => fun _ => false
  | i + 1 => fun k => if fr ≤ i ∧ t i < 10 ∧ (hy i = true ∨ bk_w t to i = true) ∧ k = bk_m t hy fr to i + 1 then hy i else bk_H t hy fr to i k
def bk_N (t : Nat → Nat) (hy : Nat → Bool) (fr to i k : Nat) : Nat := if k = 0 then bk_sk t to fr else if bk_H t hy fr to i k = true then bk_E t hy fr to i k else bk_sk t to (bk_E t hy fr to i k)
/-- what hyphenation gives: a letter on both sides -/
def bk_hy (t : Nat → Nat) (hy : Nat → Bool) (fr to : Nat) : Prop := ∀ i, fr ≤ i → i < to → hy i = true → fr < i ∧ t (i - 1) < 10 ∧ t i < 10 ∧ bk_w t to i = false
section
variable {t : Nat → Nat} {hy : Nat → Bool} {fr to : Nat}
theorem bk_new {i : Nat} (h : fr ≤ i ∧ t i < 10 ∧ (hy i = true ∨ bk_w t to i = true)) : bk_m t hy fr to (i + 1) = bk_m t hy fr to i + 1 ∧ bk_E t hy fr to (i + 1) (bk_m t hy fr to i + 1) = (if hy i = true then i else i + 1) ∧ bk_H t hy fr to (i + 1) (bk_m t hy fr to i + 1) = hy i := by
  refine ⟨by rw [bk_m, if_pos h], ?_, ?_⟩
  · exact if_pos ⟨h.1, h.2.1, h.2.2, rfl⟩
  · exact if_pos ⟨h.1, h.2.1, h.2.2, rfl⟩
theorem bk_old {i k : Nat} (h : k ≤ bk_m t hy fr to i) : bk_E t hy fr to (i + 1) k = bk_E t hy fr to i k ∧ bk_H t hy fr to (i + 1) k = bk_H t hy fr to i k := by
  refine ⟨?_, ?_⟩
  · exact if_neg (by omega)
  · exact if_neg (by omega)
theorem bk_non {i : Nat} (h : ¬ (fr ≤ i ∧ t i < 10 ∧ (hy i = true ∨ bk_w t to i = true))) : bk_m t hy fr to (i + 1) = bk_m t hy fr to i := by rw [bk_m, if_neg h]
theorem bk_oldN {i k : Nat} (h : k ≤ bk_m t hy fr to i) : bk_N t hy fr to (i + 1) k = bk_N t hy fr to i k := by
  rw [bk_N, bk_N, (bk_old h).1, (bk_old h).2]
theorem bk_m0 {i : Nat} (h : ∀ j, fr ≤ j → j < i → ¬ t j < 10) : bk_m t hy fr to i = 0 := by
  induction i with
  | zero => rfl
  | succ i ih =>
    rw [bk_non, ih (fun j a b => h j a (by omega))]
    rintro ⟨a, b, c⟩
    exact h i a (by omega) b
theorem bk_H0 (i : Nat) : bk_H t hy fr to i 0 = false := by
  induction i with
  | zero => rfl
  | succ i ih => rw [(bk_old (Nat.zero_le _)).2, ih]
theorem bk_mle {i : Nat} : bk_m t hy fr to i ≤ i - fr := by
  induction i with
  | zero => exact Nat.zero_le _
  | succ i ih => rw [bk_m]; split <;> omega
/-- the invariant of the scan -/
def bk_inv (t : Nat → Nat) (hy : Nat → Bool) (fr to i : Nat) : Prop :=
  (∀ k, 1 ≤ k → k ≤ bk_m t hy fr to i → fr < bk_E t hy fr to i k ∧ bk_E t hy fr to i k ≤ i ∧ t (bk_E t hy fr to i k - 1) < 10 ∧ (bk_H t hy fr to i k = true → t (bk_E t hy fr to i k) < 10 ∧ bk_E t hy fr to i k < i)) ∧
  (∀ k, 1 ≤ k → k < bk_m t hy fr to i → bk_E t hy fr to i k < bk_E t hy fr to i (k + 1)) ∧
  ((i < to ∧ t i < 10 ∧ fr < i ∧ t (i - 1) < 10) ∨ ∀ j, fr ≤ j → j < i → t j < 10 → 1 ≤ bk_m t hy fr to i ∧ j < bk_E t hy fr to i (bk_m t hy fr to i)) ∧
  (1 ≤ bk_m t hy fr to i → bk_E t hy fr to i (bk_m t hy fr to i) = i → i = fr ∨ (bk_w t to (i - 1) = true))
theorem bk_inv0 : bk_inv t hy fr to fr := by
  have e : bk_m t hy fr to fr = 0 := bk_m0 (fun j a b => absurd a (by omega))
  refine ⟨fun k a b => ?_, fun k a b => ?_, Or.inr (fun j a b => absurd a (by omega)), fun a => ?_⟩ <;> omega
theorem bk_invS {i : Nat} (hh : bk_hy t hy fr to) (hi : fr ≤ i) (hito : i < to) (I : bk_inv t hy fr to i) : bk_inv t hy fr to (i + 1) := by
  obtain ⟨I1, I2, I3, I4⟩ := I
  by_cases c : fr ≤ i ∧ t i < 10 ∧ (hy i = true ∨ bk_w t to i = true)
  · obtain ⟨n1, n2, n3⟩ := bk_new c
    have hEv : bk_E t hy fr to (i + 1) (bk_m t hy fr to i + 1) ≤ i + 1 ∧ i ≤ bk_E t hy fr to (i + 1) (bk_m t hy fr to i + 1) := by rw [n2]; split <;> omega
    have key : fr < bk_E t hy fr to (i + 1) (bk_m t hy fr to i + 1) ∧ t (bk_E t hy fr to (i + 1) (bk_m t hy fr to i + 1) - 1) < 10 ∧ (hy i = true → t (bk_E t hy fr to (i + 1) (bk_m t hy fr to i + 1)) < 10 ∧ bk_E t hy fr to (i + 1) (bk_m t hy fr to i + 1) < i + 1) := by
      rw [n2]
      by_cases z : hy i = true
      · rw [if_pos z]
        have := hh i hi hito z
        exact ⟨this.1, this.2.1, fun _ => ⟨this.2.2.1, by omega⟩⟩
      · rw [if_neg z]
        exact ⟨by omega, by rw [show i + 1 - 1 = i by omega]; exact c.2.1, fun y => absurd y z⟩
    have lastE : 1 ≤ bk_m t hy fr to i → bk_E t hy fr to i (bk_m t hy fr to i) < bk_E t hy fr to (i + 1) (bk_m t hy fr to i + 1) := by
      intro h
      have h1 := (I1 (bk_m t hy fr to i) h (Nat.le_refl _)).2.1
      rw [n2]
      by_cases z : hy i = true
      · rw [if_pos z]
        rcases Nat.lt_or_ge (bk_E t hy fr to i (bk_m t hy fr to i)) i with y | y
        · exact y
        · have e := I4 h (by omega)
          have h2 := hh i hi hito z
          rcases e with e | e
          · omega
          · rw [bk_w] at e
            have := of_decide_eq_true e
            rw [show i - 1 + 1 = i by omega] at this
            omega
      · rw [if_neg z]; omega
    refine ⟨fun k a b => ?_, fun k a b => ?_, ?_, fun a b => ?_⟩
    · rw [n1] at b
      by_cases z : k = bk_m t hy fr to i + 1
      · subst z
        rw [n3]
        exact ⟨key.1, hEv.1, key.2.1, key.2.2⟩
      · have o := bk_old (t := t) (hy := hy) (fr := fr) (to := to) (i := i) (k := k) (by omega)
        rw [o.1, o.2]
        have := I1 k a (by omega)
        exact ⟨this.1, by omega, this.2.2.1, fun y => ⟨(this.2.2.2 y).1, by have := (this.2.2.2 y).2; omega⟩⟩
    · rw [n1] at b
      have o := bk_old (t := t) (hy := hy) (fr := fr) (to := to) (i := i) (k := k) (by omega)
      rw [o.1]
      by_cases z : k = bk_m t hy fr to i
      · subst z
        exact lastE a
      · have o := bk_old (t := t) (hy := hy) (fr := fr) (to := to) (i := i) (k := k + 1) (by omega)
        rw [o.1]
        exact I2 k a (by omega)
    · rw [n1]
      by_cases z : bk_w t to i = true
      · right
        intro j a b d
        refine ⟨by omega, ?_⟩
        rw [n2, if_neg]
        · exact b
        · intro y
          have := (hh i hi hito y).2.2.2
          rw [z] at this
          exact absurd this (by decide)
      · left
        rw [bk_w, decide_eq_true_eq] at z
        exact ⟨by omega, by omega, by omega, by rw [show i + 1 - 1 = i by omega]; exact c.2.1⟩
    · right
      rw [n1, n2] at b
      rw [show i + 1 - 1 = i by omega]
      rcases c.2.2 with z | z
      · rw [if_pos z] at b; omega
      · exact z
  · have n1 := bk_non (hy := hy) c
    have o : ∀ k, k ≤ bk_m t hy fr to i → bk_E t hy fr to (i + 1) k = bk_E t hy fr to i k ∧ bk_H t hy fr to (i + 1) k = bk_H t hy fr to i k := fun k h => bk_old h
    refine ⟨fun k a b => ?_, fun k a b => ?_, ?_, fun a b => ?_⟩
    · rw [n1] at b
      rw [(o k b).1, (o k b).2]
      have := I1 k a (by omega)
      exact ⟨this.1, by omega, this.2.2.1, fun y => ⟨(this.2.2.2 y).1, by have := (this.2.2.2 y).2; omega⟩⟩
    · rw [n1] at b
      rw [(o k (by omega)).1, (o (k + 1) (by omega)).1]
      exact I2 k a b
    · by_cases z : t i < 10
      · left
        have z2 : ¬ bk_w t to i = true := fun y => c ⟨hi, z, Or.inr y⟩
        rw [bk_w, decide_eq_true_eq] at z2
        exact ⟨by omega, by omega, by omega, by rw [show i + 1 - 1 = i by omega]; exact z⟩
      · right
        intro j a b d
        rw [n1, (o _ (Nat.le_refl _)).1]
        have hj : j < i := by
          rcases Nat.lt_or_ge j i with y | y
          · exact y
          · have : j = i := by omega
            subst this; exact absurd d z
        rcases I3 with y | y
        · exact absurd y.2.1 z
        · exact y j a hj d
    · rw [n1] at a b
      rw [(o _ (Nat.le_refl _)).1] at b
      have := (I1 _ a (Nat.le_refl _)).2.1
      omega
theorem bk_invA (hh : bk_hy t hy fr to) : ∀ d, fr + d ≤ to → bk_inv t hy fr to (fr + d) := by
  intro d
  induction d with
  | zero => intro _; exact bk_inv0
  | succ d ih => intro h; exact bk_invS (i := fr + d) hh (by omega) (by omega) (ih (by omega))
end
/-- what the paragraph's breaks are, for those that use them -/
def bk_ok (t : Nat → Nat) (fr to m : Nat) (E N : Nat → Nat) (H : Nat → Bool) : Prop :=
  (∀ k, k < m → fr ≤ N k ∧ N k < E (k + 1) ∧ t (N k) < 10 ∧ (1 ≤ k → E k ≤ N k ∧ ∀ j, E k ≤ j → j < N k → ¬ t j < 10)) ∧ (∀ k, 1 ≤ k → k ≤ m → E k ≤ to ∧ t (E k - 1) < 10) ∧ (∀ j, fr ≤ j → j < N 0 → ¬ t j < 10) ∧ (∀ j, E m ≤ j → j < to → ¬ t j < 10) ∧ H 0 = false ∧ m ≤ to - fr
theorem bk_fin {t : Nat → Nat} {hy : Nat → Bool} {fr to : Nat} (ht : ∀ i, t i ≤ 11) (hft : fr ≤ to) (h11 : ∀ j, fr ≤ j → j < to → t j ≠ 11) (hh : bk_hy t hy fr to) (hm : 1 ≤ bk_m t hy fr to to) : bk_ok t fr to (bk_m t hy fr to to) (bk_E t hy fr to to) (bk_N t hy fr to to) (bk_H t hy fr to to) := by
  have I := bk_invA hh (to - fr) (by omega)
  rw [show fr + (to - fr) = to by omega] at I
  obtain ⟨I1, I2, I3, I4⟩ := I
  have skl : ∀ e l, fr ≤ e → e ≤ l → l < to → t l < 10 → bk_sk t to e ≤ l ∧ t (bk_sk t to e) < 10 ∧ e ≤ bk_sk t to e ∧ ∀ j, e ≤ j → j < bk_sk t to e → ¬ t j < 10 := by
    intro e l a b c d
    obtain ⟨s1, s2, s3, s4⟩ := bk_sk_ok (t := t) (show e ≤ to by omega)
    have h1 : bk_sk t to e ≤ l := by
      rcases Nat.lt_or_ge l (bk_sk t to e) with z | z
      · have := s3 l b z; omega
      · exact z
    refine ⟨h1, ?_, s1, fun j x y => by rw [s3 j x y]; omega⟩
    have := h11 (bk_sk t to e) (by omega) (by omega)
    have := ht (bk_sk t to e)
    omega
  refine ⟨fun k hk => ?_, fun k a b => ⟨(I1 k a b).2.1, (I1 k a b).2.2.1⟩, fun j a b => ?_, fun j a b => ?_, bk_H0 _, bk_mle⟩
  · have hn := I1 (k + 1) (by omega) (by omega)
    by_cases z : k = 0
    · subst z
      have := skl fr (bk_E t hy fr to to (0 + 1) - 1) (Nat.le_refl _) (by omega) (by omega) hn.2.2.1
      rw [bk_N, if_pos rfl]
      exact ⟨this.2.2.1, by omega, this.2.1, fun y => absurd y (by omega)⟩
    · have hk1 := I1 k (by omega) (by omega)
      have hlt := I2 k (by omega) hk
      rw [bk_N, if_neg z]
      by_cases y : bk_H t hy fr to to k = true
      · rw [if_pos y]
        exact ⟨by omega, hlt, (hk1.2.2.2 y).1, fun _ => ⟨Nat.le_refl _, fun j a b => absurd a (by omega)⟩⟩
      · rw [if_neg y]
        have := skl (bk_E t hy fr to to k) (bk_E t hy fr to to (k + 1) - 1) (by omega) (by omega) (by omega) hn.2.2.1
        exact ⟨by omega, by omega, this.2.1, fun _ => ⟨this.2.2.1, this.2.2.2⟩⟩
  · rw [bk_N, if_pos rfl] at b
    rw [(bk_sk_ok (t := t) hft).2.2.1 j a b]; omega
  · intro d
    rcases I3 with I3 | I3
    · omega
    · have h1 := (I1 _ hm (Nat.le_refl _)).1
      have := (I3 j (by omega) b d).2
      omega
/-- the next line's beginning lies before every later end -/
theorem bk_lt {t : Nat → Nat} {fr to m : Nat} {E N : Nat → Nat} {H : Nat → Bool} (h : bk_ok t fr to m E N H) {p k : Nat} (hpk : p < k) (hk : k ≤ m) : N p < E k := by
  obtain ⟨h1, h2⟩ := h
  induction k with
  | zero => omega
  | succ k ih =>
    by_cases z : p = k
    · rw [z]; exact (h1 k (by omega)).2.1
    · have a := ih (by omega) (by omega)
      have b := h1 k (by omega)
      have c := (b.2.2.2 (by omega)).1
      omega
