/-! the pure layout -/
abbrev pg_m (t P : Nat → Nat) (n fr to : Nat) : Nat := bk_m t (hy_b t P n) fr to to
abbrev pg_E (t P : Nat → Nat) (n fr to : Nat) : Nat → Nat := bk_E t (hy_b t P n) fr to to
abbrev pg_N (t P : Nat → Nat) (n fr to : Nat) : Nat → Nat := bk_N t (hy_b t P n) fr to to
abbrev pg_H (t P : Nat → Nat) (n fr to : Nat) : Nat → Bool := bk_H t (hy_b t P n) fr to to
def pg_σ (t w lg : Nat → Nat) (kn : Nat → Int) (P : Nat → Nat) (n sw ss sk fw rw fl ba hyc fr to : Nat) : dp_S := dp_all (ln_v t lg w kn sw ss sk fw rw fl ba hyc (pg_m t P n fr to) (pg_E t P n fr to) (pg_N t P n fr to) (pg_H t P n fr to)) (pg_m t P n fr to)
def pg_cs (t w lg : Nat → Nat) (kn : Nat → Int) (P : Nat → Nat) (n sw ss sk fw rw fl ba hyc fr to : Nat) : List Nat := pr_cs (ln_b t lg w kn sw ss sk fw rw fl (pg_m t P n fr to) (pg_E t P n fr to) (pg_N t P n fr to) (pg_H t P n fr to)) (pg_σ t w lg kn P n sw ss sk fw rw fl ba hyc fr to) (pg_m t P n fr to)
abbrev ly_S : Type := lt_T × Nat × Nat × (Nat → Int64)
def ly_p (t w lg : Nat → Nat) (kn : Nat → Int) (P : Nat → Nat) (n sw ss sk fw rw fl ba hyc fr to : Nat) (S : ly_S) : ly_S :=
  if bk_sk t to fr < to then (lt_seq (pg_E t P n fr to) (pg_N t P n fr to) (pg_H t P n fr to) (pg_m t P n fr to) S.2.2.1 S.1 S.2.1 0 0 (pg_cs t w lg kn P n sw ss sk fw rw fl ba hyc fr to), S.2.1 + (pg_cs t w lg kn P n sw ss sk fw rw fl ba hyc fr to).length, S.2.2.1 + 1, vp_updL S.2.2.2 S.2.2.1 (pr_v (pg_σ t w lg kn P n sw ss sk fw rw fl ba hyc fr to) (pg_m t P n fr to))) else S
def ly_at (t w lg : Nat → Nat) (kn : Nat → Int) (P : Nat → Nat) (n sw ss sk fw rw fl ba hyc : Nat) : Nat → ly_S × Nat
  | 0 => ((fun _ => (0, 0, false, 0, false, 0), 0, 0, fun _ => 0), 0)
  | i + 1 => if i = n ∨ t i = 11 then (ly_p t w lg kn P n sw ss sk fw rw fl ba hyc (ly_at t w lg kn P n sw ss sk fw rw fl ba hyc i).2 i (ly_at t w lg kn P n sw ss sk fw rw fl ba hyc i).1, i + 1) else ly_at t w lg kn P n sw ss sk fw rw fl ba hyc i
/-- a line is a stretch of one paragraph that begins and ends with a letter -/
def lt_val (t : Nat → Nat) (n : Nat) (r : lt_R) : Prop := r.1 < r.2.1 ∧ r.2.1 ≤ n ∧ t r.1 < 10 ∧ t (r.2.1 - 1) < 10 ∧ (∀ j, r.1 ≤ j → j < r.2.1 → t j ≠ 11) ∧ r.2.2.2.1 < 48
/-- numbers, lasts and paragraphs fit together -/
def lt_fit (lc par : Nat) (Λ : lt_T) : Prop := ∀ i, i < lc → ((Λ i).2.2.2.1 = 0 ↔ (i = 0 ∨ (Λ (i - 1)).2.2.2.2.2 ≠ (Λ i).2.2.2.2.2)) ∧ ((Λ i).2.2.2.2.1 = true ↔ (i + 1 = lc ∨ (Λ (i + 1)).2.2.2.2.2 ≠ (Λ i).2.2.2.2.2)) ∧ (Λ i).2.2.2.2.2 < par
theorem sq_low {E N : Nat → Nat} {H : Nat → Bool} {m par : Nat} : ∀ cs Λ lc p num i, i < lc → lt_seq E N H m par Λ lc p num cs i = Λ i := by
  intro cs
  induction cs with
  | nil => intro Λ lc p num i h; rfl
  | cons k l ih =>
    intro Λ lc p num i h
    rw [lt_seq, ih _ _ _ _ i (by omega), lt_un (by omega)]
theorem sq_row {t : Nat → Nat} {n fr to : Nat} {E N : Nat → Nat} {H : Nat → Bool} {m par : Nat} (hton : to ≤ n) (hn : n ≤ 48) (h11 : ∀ j, fr ≤ j → j < to → t j ≠ 11) (ok : bk_ok t fr to m E N H) : ∀ cs Λ lc p num, cs_ok m p cs → num ≤ p → ∀ i, lc ≤ i → i < lc + cs.length →
    lt_val t n (lt_seq E N H m par Λ lc p num cs i) ∧ (lt_seq E N H m par Λ lc p num cs i).2.2.2.1 = num + (i - lc) ∧ (lt_seq E N H m par Λ lc p num cs i).2.2.2.2.1 = decide (i + 1 = lc + cs.length) ∧ (lt_seq E N H m par Λ lc p num cs i).2.2.2.2.2 = par := by
  intro cs
  induction cs with
  | nil => intro Λ lc p num _ _ i h1 h2; rw [List.length_nil] at h2; omega
  | cons k l ih =>
    intro Λ lc p num hcs hnp i h1 h2
    rw [cs_ok] at hcs
    rw [List.length_cons] at h2 ⊢
    rw [lt_seq]
    by_cases e : i = lc
    · subst e
      rw [sq_low _ _ _ _ _ i (by omega), lt_us]
      have a := ok.1 p (by omega)
      have b := ok.2.1 k (by omega) hcs.2.1
      have c := bk_lt ok hcs.1 hcs.2.1
      have hmm := ok.2.2.2.2.2
      refine ⟨⟨c, ?_, a.2.2.1, b.2, fun j x y => h11 j ?_ ?_, ?_⟩, by show num = num + (i - i); omega, ?_, rfl⟩
      · show E k ≤ n; omega
      · have x : N p ≤ j := x
        omega
      · have y : j < E k := y
        omega
      · show num < 48; omega
      · show decide (k = m) = decide (i + 1 = i + (l.length + 1))
        congr 1
        apply propext
        cases l with
        | nil =>
          have := hcs.2.2
          rw [cs_ok] at this
          rw [List.length_nil]
          exact ⟨fun _ => rfl, fun _ => this⟩
        | cons q l' =>
          have := hcs.2.2
          rw [cs_ok] at this
          rw [List.length_cons]
          constructor <;> intro z <;> omega
    · have := ih (lt_up Λ lc (N p, E k, H k, num, decide (k = m), par)) (lc + 1) k (num + 1) hcs.2.2 (by omega) i (by omega) (by omega)
      refine ⟨this.1, by rw [this.2.1]; omega, ?_, this.2.2.2⟩
      rw [this.2.2.1]
      congr 1
      apply propext
      constructor <;> intro z <;> omega
/-- every letter from a break on lies in a line of the way -/
theorem sq_cov {t : Nat → Nat} {fr to : Nat} {E N : Nat → Nat} {H : Nat → Bool} {m par : Nat} (ok : bk_ok t fr to m E N H) (hm : 1 ≤ m) : ∀ cs Λ lc p num, cs_ok m p cs → ∀ j, (p = 0 → fr ≤ j) → (1 ≤ p → E p ≤ j) → j < to → t j < 10 →
    ∃ i, lc ≤ i ∧ i < lc + cs.length ∧ (lt_seq E N H m par Λ lc p num cs i).1 ≤ j ∧ j < (lt_seq E N H m par Λ lc p num cs i).2.1 := by
  intro cs
  induction cs with
  | nil =>
    intro Λ lc p num hcs j h1 h2 h3 h4
    rw [cs_ok] at hcs
    subst hcs
    exact absurd h4 (ok.2.2.2.1 j (h2 hm) h3)
  | cons k l ih =>
    intro Λ lc p num hcs j h1 h2 h3 h4
    rw [cs_ok] at hcs
    rw [lt_seq, List.length_cons]
    by_cases z : j < E k
    · refine ⟨lc, Nat.le_refl _, by omega, ?_⟩
      rw [sq_low _ _ _ _ _ lc (by omega), lt_us]
      refine ⟨?_, z⟩
      show N p ≤ j
      rcases Nat.lt_or_ge j (N p) with y | y
      · exfalso
        by_cases p0 : p = 0
        · subst p0
          exact ok.2.2.1 j (h1 rfl) y h4
        · exact ((ok.1 p (by omega)).2.2.2 (by omega)).2 j (h2 (by omega)) y h4
      · exact y
    · obtain ⟨i, a, b, c, d⟩ := ih (lt_up Λ lc (N p, E k, H k, num, decide (k = m), par)) (lc + 1) k (num + 1) hcs.2.2 j (fun h => by omega) (fun _ => by omega) h3 h4
      exact ⟨i, by omega, by omega, c, d⟩
/-- what is known of the layout before place i -/
def ly_ok (t w lg : Nat → Nat) (kn : Nat → Int) (P : Nat → Nat) (n sw ss sk fw rw fl ba hyc i : Nat) : Prop :=
  (ly_at t w lg kn P n sw ss sk fw rw fl ba hyc i).2 ≤ i ∧ ((ly_at t w lg kn P n sw ss sk fw rw fl ba hyc i).2 = 0 ∨ (t ((ly_at t w lg kn P n sw ss sk fw rw fl ba hyc i).2 - 1) = 11 ∨ (ly_at t w lg kn P n sw ss sk fw rw fl ba hyc i).2 = n + 1)) ∧ (∀ j, (ly_at t w lg kn P n sw ss sk fw rw fl ba hyc i).2 ≤ j → j < i → j ≠ n ∧ t j ≠ 11) ∧
  ((ly_at t w lg kn P n sw ss sk fw rw fl ba hyc i).1.2.1 ≤ (ly_at t w lg kn P n sw ss sk fw rw fl ba hyc i).2 ∧ (ly_at t w lg kn P n sw ss sk fw rw fl ba hyc i).1.2.1 ≤ n) ∧ (2 * (ly_at t w lg kn P n sw ss sk fw rw fl ba hyc i).1.2.2.1 ≤ n + 1 ∧ ((ly_at t w lg kn P n sw ss sk fw rw fl ba hyc i).2 ≤ n → 2 * (ly_at t w lg kn P n sw ss sk fw rw fl ba hyc i).1.2.2.1 ≤ (ly_at t w lg kn P n sw ss sk fw rw fl ba hyc i).2)) ∧
  (∀ k, k < (ly_at t w lg kn P n sw ss sk fw rw fl ba hyc i).1.2.1 → lt_val t n ((ly_at t w lg kn P n sw ss sk fw rw fl ba hyc i).1.1 k)) ∧ lt_fit (ly_at t w lg kn P n sw ss sk fw rw fl ba hyc i).1.2.1 (ly_at t w lg kn P n sw ss sk fw rw fl ba hyc i).1.2.2.1 (ly_at t w lg kn P n sw ss sk fw rw fl ba hyc i).1.1 ∧
  (∀ j, j < (ly_at t w lg kn P n sw ss sk fw rw fl ba hyc i).2 → j < n → t j < 10 → ∃ k, k < (ly_at t w lg kn P n sw ss sk fw rw fl ba hyc i).1.2.1 ∧ ((ly_at t w lg kn P n sw ss sk fw rw fl ba hyc i).1.1 k).1 ≤ j ∧ j < ((ly_at t w lg kn P n sw ss sk fw rw fl ba hyc i).1.1 k).2.1)
theorem pg_wf {t w lg : Nat → Nat} {kn : Nat → Int} {P : Nat → Nat} {n sw ss sk fw rw fl ba hyc ph fr to : Nat} (C : cf_ok t w lg kn n fw rw fl sw ss sk ba hyc ph) (hm : pg_m t P n fr to ≤ 48) : dp_wf (pg_σ t w lg kn P n sw ss sk fw rw fl ba hyc fr to) := dp_all_wf (ln_ok C) _ hm
theorem pg_cs_ok {t w lg : Nat → Nat} {kn : Nat → Int} {P : Nat → Nat} {n sw ss sk fw rw fl ba hyc ph fr to : Nat} (C : cf_ok t w lg kn n fw rw fl sw ss sk ba hyc ph) (hm : pg_m t P n fr to ≤ 48) : cs_ok (pg_m t P n fr to) 0 (pg_cs t w lg kn P n sw ss sk fw rw fl ba hyc fr to) := pr_cs_ok (pg_wf C hm) hm
theorem pg_len {t w lg : Nat → Nat} {kn : Nat → Int} {P : Nat → Nat} {n sw ss sk fw rw fl ba hyc ph fr to : Nat} (C : cf_ok t w lg kn n fw rw fl sw ss sk ba hyc ph) (hton : to ≤ n) : pg_m t P n fr to ≤ 48 ∧ (pg_cs t w lg kn P n sw ss sk fw rw fl ba hyc fr to).length ≤ to - fr := by
  have h1 := bk_mle (t := t) (hy := hy_b t P n) (fr := fr) (to := to) (i := to)
  have hn := C.1
  have hm : pg_m t P n fr to ≤ 48 := by show bk_m t (hy_b t P n) fr to to ≤ 48; omega
  have := cs_len _ _ (pg_cs_ok (sw := sw) (ss := ss) (sk := sk) (fw := fw) (rw := rw) (fl := fl) (ba := ba) (hyc := hyc) C hm)
  refine ⟨hm, ?_⟩
  have h3 : (pg_cs t w lg kn P n sw ss sk fw rw fl ba hyc fr to).length ≤ bk_m t (hy_b t P n) fr to to := by
    show _ ≤ pg_m t P n fr to
    omega
  omega
theorem pg_m1 {t P : Nat → Nat} {n fr to : Nat} (ht : ∀ i, t i ≤ 11) (hft : fr ≤ to) (hton : to ≤ n) (h11 : ∀ j, fr ≤ j → j < to → t j ≠ 11) (hto : to = n ∨ t to = 11) (hfr : fr = 0 ∨ t (fr - 1) = 11) (z : bk_sk t to fr < to) : 1 ≤ pg_m t P n fr to := by
  have hh : bk_hy t (hy_b t P n) fr to := bk_hyok hto hton hfr
  obtain ⟨s1, s2, s3, s4⟩ := bk_sk_ok (t := t) hft
  have BI := bk_invA hh (to - fr) (by omega)
  rw [show fr + (to - fr) = to by omega] at BI
  rcases BI.2.2.1 with y | y
  · omega
  · refine (y _ s1 z ?_).1
    have := h11 (bk_sk t to fr) s1 z
    have := ht (bk_sk t to fr)
    omega
theorem ly_okS {t w lg : Nat → Nat} {kn : Nat → Int} {P : Nat → Nat} {n sw ss sk fw rw fl ba hyc ph i : Nat} (C : cf_ok t w lg kn n fw rw fl sw ss sk ba hyc ph) (hi : i ≤ n) (I : ly_ok t w lg kn P n sw ss sk fw rw fl ba hyc i) : ly_ok t w lg kn P n sw ss sk fw rw fl ba hyc (i + 1) := by
  obtain ⟨I1, I2, I3, I4, I5, I6, I7, I8⟩ := I
  have hn := C.1
  have ht := C.2.1
  by_cases c : i = n ∨ t i = 11
  · have e : ly_at t w lg kn P n sw ss sk fw rw fl ba hyc (i + 1) = (ly_p t w lg kn P n sw ss sk fw rw fl ba hyc (ly_at t w lg kn P n sw ss sk fw rw fl ba hyc i).2 i (ly_at t w lg kn P n sw ss sk fw rw fl ba hyc i).1, i + 1) := by rw [ly_at, if_pos c]
    unfold ly_ok
    rw [e]
    generalize ly_at t w lg kn P n sw ss sk fw rw fl ba hyc i = S at *
    obtain ⟨⟨Λ, lc, par, V⟩, fr⟩ := S
    dsimp only at *
    have hfr : fr = 0 ∨ t (fr - 1) = 11 := by omega
    have h11 : ∀ j, fr ≤ j → j < i → t j ≠ 11 := fun j a b => (I3 j a b).2
    have tail : (i + 1 ≤ i + 1) ∧ (i + 1 = 0 ∨ t (i + 1 - 1) = 11 ∨ i + 1 = n + 1) ∧ (∀ j, i + 1 ≤ j → j < i + 1 → j ≠ n ∧ t j ≠ 11) := ⟨Nat.le_refl _, by rw [show i + 1 - 1 = i by omega]; omega, fun j a b => absurd a (by omega)⟩
    refine ⟨tail.1, tail.2.1, tail.2.2, ?_⟩
    obtain ⟨s1, s2, s3, s4⟩ := bk_sk_ok (t := t) (show fr ≤ i by omega)
    rw [ly_p]
    by_cases z : bk_sk t i fr < i
    · rw [if_pos z]
      dsimp only
      have hm1 := pg_m1 (P := P) ht (by omega) (by omega) h11 c hfr z
      have hlen := pg_len (P := P) (fr := fr) (to := i) C (by omega)
      have hcs := pg_cs_ok (P := P) (sw := sw) (ss := ss) (sk := sk) (fw := fw) (rw := rw) (fl := fl) (ba := ba) (hyc := hyc) C hlen.1
      have ok : bk_ok t fr i (pg_m t P n fr i) (pg_E t P n fr i) (pg_N t P n fr i) (pg_H t P n fr i) := bk_fin ht (by omega) h11 (bk_hyok c (by omega) hfr) hm1
      generalize pg_cs t w lg kn P n sw ss sk fw rw fl ba hyc fr i = cs at *
      have rows := sq_row (par := par) (show i ≤ n by omega) hn h11 ok cs Λ lc 0 0 hcs (Nat.le_refl _)
      have low := fun k (h : k < lc) => sq_low (E := pg_E t P n fr i) (N := pg_N t P n fr i) (H := pg_H t P n fr i) (m := pg_m t P n fr i) (par := par) cs Λ lc 0 0 k h
      have cov := sq_cov (par := par) ok hm1 cs Λ lc 0 0 hcs
      have hcpos : 1 ≤ cs.length := by
        cases cs with
        | nil => rw [cs_ok] at hcs; omega
        | cons k l => rw [List.length_cons]; omega
      generalize lt_seq (pg_E t P n fr i) (pg_N t P n fr i) (pg_H t P n fr i) (pg_m t P n fr i) par Λ lc 0 0 cs = Λ' at *
      refine ⟨⟨by omega, by omega⟩, ⟨by omega, fun _ => by omega⟩, ?_, ?_, ?_⟩
      · intro k hk
        by_cases q : k < lc
        · rw [low k q]; exact I6 k q
        · exact (rows k (by omega) hk).1
      · intro k hk
        by_cases q : k < lc
        · obtain ⟨f1, f2, f3⟩ := I7 k q
          rw [low k q]
          refine ⟨?_, ?_, by omega⟩
          · rw [f1]
            by_cases k0 : k = 0
            · simp [k0]
            · rw [low (k - 1) (by omega)]
          · rw [f2]
            by_cases q2 : k + 1 < lc
            · rw [low (k + 1) q2]
              constructor
              · rintro (y | y)
                · omega
                · exact Or.inr y
              · rintro (y | y)
                · omega
                · exact Or.inr y
            · have r := rows (k + 1) (by omega) (by omega)
              rw [r.2.2.2]
              constructor
              · intro _; right; omega
              · intro _; left; omega
        · have r := rows k (by omega) hk
          refine ⟨?_, ?_, by rw [r.2.2.2]; omega⟩
          · rw [r.2.1, r.2.2.2]
            by_cases q2 : k = lc
            · subst q2
              constructor
              · intro _
                by_cases k0 : k = 0
                · exact Or.inl k0
                · right
                  rw [low (k - 1) (by omega)]
                  have := (I7 (k - 1) (by omega)).2.2
                  omega
              · intro _; omega
            · have r2 := rows (k - 1) (by omega) (by omega)
              rw [r2.2.2.2]
              constructor
              · intro y; omega
              · rintro (y | y)
                · omega
                · exact absurd rfl y
          · rw [r.2.2.1, r.2.2.2, decide_eq_true_eq]
            by_cases q2 : k + 1 = lc + cs.length
            · exact ⟨fun _ => Or.inl q2, fun _ => q2⟩
            · have r2 := rows (k + 1) (by omega) (by omega)
              rw [r2.2.2.2]
              constructor
              · intro y; exact absurd y q2
              · rintro (y | y)
                · exact y
                · exact absurd rfl y
      · intro j h1 h2 h3
        by_cases q : j < fr
        · obtain ⟨k, a, b, d⟩ := I8 j q h2 h3
          exact ⟨k, by omega, by rw [low k a]; exact b, by rw [low k a]; exact d⟩
        · have hji : j < i := by
            rcases Nat.lt_or_ge j i with y | y
            · exact y
            · have : j = i := by omega
              subst this
              omega
          obtain ⟨k, a, b, d, f⟩ := cov j (fun _ => by omega) (fun h => absurd h (by omega)) hji h3
          exact ⟨k, b, d, f⟩
    · rw [if_neg z]
      dsimp only
      refine ⟨⟨by omega, by omega⟩, ⟨by omega, fun _ => by omega⟩, I6, I7, ?_⟩
      intro j h1 h2 h3
      by_cases q : j < fr
      · exact I8 j q h2 h3
      · exfalso
        have hji : j < i := by
          rcases Nat.lt_or_ge j i with y | y
          · exact y
          · have : j = i := by omega
            subst this
            omega
        have := s3 j (by omega) (by omega)
        omega
  · have e : ly_at t w lg kn P n sw ss sk fw rw fl ba hyc (i + 1) = ly_at t w lg kn P n sw ss sk fw rw fl ba hyc i := by rw [ly_at, if_neg c]
    unfold ly_ok
    rw [e]
    refine ⟨by omega, I2, fun j a b => ?_, I4, I5, I6, I7, I8⟩
    by_cases z : j = i
    · subst z; omega
    · exact I3 j a (by omega)
theorem ly_ok0 {t w lg : Nat → Nat} {kn : Nat → Int} {P : Nat → Nat} {n sw ss sk fw rw fl ba hyc : Nat} : ly_ok t w lg kn P n sw ss sk fw rw fl ba hyc 0 :=
  ⟨Nat.le_refl _, Or.inl rfl, fun j a b => absurd b (by omega), ⟨Nat.le_refl _, Nat.zero_le _⟩, ⟨Nat.zero_le _, fun _ => Nat.le_refl _⟩, fun k h => absurd h (Nat.not_lt_zero k), fun k h => absurd h (Nat.not_lt_zero k), fun j h => absurd h (Nat.not_lt_zero j)⟩
theorem ly_okA {t w lg : Nat → Nat} {kn : Nat → Int} {P : Nat → Nat} {n sw ss sk fw rw fl ba hyc ph : Nat} (C : cf_ok t w lg kn n fw rw fl sw ss sk ba hyc ph) : ∀ i, i ≤ n + 1 → ly_ok t w lg kn P n sw ss sk fw rw fl ba hyc i := by
  intro i
  induction i with
  | zero => intro _; exact ly_ok0
  | succ i ih => intro h; exact ly_okS C (by omega) (ih (by omega))
