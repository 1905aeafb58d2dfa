/-! the pure search for the best way: a table of states (value, state before) -/
abbrev dp_S : Type := Nat → Option (Nat × Nat)
def dp_up (σ : dp_S) (s : Nat) (x : Nat × Nat) : dp_S := fun j => if j = s then some x else σ j
def dp_bf (σ : dp_S) (s : Nat) : Nat := match σ s with
  | some x => x.2
  | none => 0
def dp_later (σ : dp_S) : Nat → Nat → Nat → Bool
  | 0, _, _ => false
  | f + 1, a, b => if a / 16 = b / 16 then (if a = b then false else if a < 16 then false else dp_later σ f (dp_bf σ a) (dp_bf σ b)) else decide (b / 16 < a / 16)
def dp_offer (σ : dp_S) (s tt fr : Nat) : dp_S := match σ s with
  | none => dp_up σ s (tt, fr)
  | some x => if x.1 < tt then σ else if tt = x.1 then (if dp_later σ 100 fr x.2 = true then dp_up σ s (tt, fr) else σ) else dp_up σ s (tt, fr)
def dp_nx (q : Nat) : Nat := if 3 ≤ q then 3 else q + 1
def dp_jp (c d : Nat) : Nat := if c + 1 < d ∨ d + 1 < c then 2000 else 0
def dp_s (ln : Nat → Nat → Nat → Option (Nat × Nat)) (p k : Nat) (σ : dp_S) (j : Nat) : dp_S := match σ (16 * p + j) with
  | none => σ
  | some x => match ln p k (j / 4) with
    | none => σ
    | some y => dp_offer σ (16 * k + 4 * dp_nx (j / 4) + y.1) (x.1 + y.2 + dp_jp y.1 (j % 4)) (16 * p + j)
def dp_e (ln : Nat → Nat → Nat → Option (Nat × Nat)) (p k : Nat) (σ : dp_S) : Nat → dp_S
  | 0 => σ
  | j + 1 => dp_s ln p k (dp_e ln p k σ j) j
def dp_row (ln : Nat → Nat → Nat → Option (Nat × Nat)) (k : Nat) (σ : dp_S) : Nat → dp_S
  | 0 => σ
  | p + 1 => dp_e ln p k (dp_row ln k σ p) 16
def dp_init : dp_S := fun s => if s = 1 then some (0, 0) else none
def dp_all (ln : Nat → Nat → Nat → Option (Nat × Nat)) : Nat → dp_S
  | 0 => dp_init
  | k + 1 => dp_row ln (k + 1) (dp_all ln k) (k + 1)
def dp_xi (ln : Nat → Nat → Nat → Option (Nat × Nat)) (a : Nat) (σ : dp_S) : Nat → dp_S
  | 0 => σ
  | j + 1 => dp_e ln a (a + 1 + j) (dp_xi ln a σ j) 16
def dp_x (ln : Nat → Nat → Nat → Option (Nat × Nat)) (m : Nat) : Nat → dp_S
  | 0 => dp_init
  | a + 1 => dp_xi ln a (dp_x ln m a) (m - a)
def dp_wf (σ : dp_S) : Prop := ∀ s x, σ s = some x → s < 784 ∧ x.1 ≤ (s / 16) * 101000000 ∧ (s < 16 → s = 1) ∧ (16 ≤ s → x.2 / 16 < s / 16 ∧ ∃ y, σ x.2 = some y)
def dp_ln (ln : Nat → Nat → Nat → Option (Nat × Nat)) : Prop := ∀ p k q y, ln p k q = some y → y.1 ≤ 3 ∧ y.2 ≤ 100990000
def dp_lim (k p : Nat) (σ : dp_S) : Prop := ∀ s x, s / 16 = k → σ s = some x → x.2 / 16 ≤ p
section
variable {ln : Nat → Nat → Nat → Option (Nat × Nat)} {σ σ2 : dp_S}
theorem dp_us {s : Nat} {x : Nat × Nat} : dp_up σ s x s = some x := if_pos rfl
theorem dp_un {s j : Nat} {x : Nat × Nat} (h : j ≠ s) : dp_up σ s x j = σ j := if_neg h
theorem dp_bfs {s : Nat} {x : Nat × Nat} (h : σ s = some x) : dp_bf σ s = x.2 := by rw [dp_bf, h]
/-- an offer keeps the table or stores the offered -/
theorem dp_offer_c (s tt fr : Nat) : dp_offer σ s tt fr = σ ∨ dp_offer σ s tt fr = dp_up σ s (tt, fr) := by
  rw [dp_offer]
  split
  · exact Or.inr rfl
  · split
    · exact Or.inl rfl
    · split
      · split
        · exact Or.inr rfl
        · exact Or.inl rfl
      · exact Or.inr rfl
theorem dp_up_wf {s tt fr k p : Nat} (W : dp_wf σ) (hk : k ≤ 48) (h1 : s / 16 = k) (hf : fr / 16 = p) (hp : p < k) (hr : ∃ y, σ fr = some y) (ht : tt ≤ k * 101000000) : dp_wf (dp_up σ s (tt, fr)) := by
  intro j x hx
  have keep : ∀ q y, σ q = some y → ∃ y, dp_up σ s (tt, fr) q = some y := by
    intro q y h
    by_cases e : q = s
    · exact ⟨_, by rw [e]; exact dp_us⟩
    · exact ⟨y, by rw [dp_un e]; exact h⟩
  by_cases e : j = s
  · subst e
    rw [dp_us] at hx
    cases hx
    refine ⟨by omega, by rw [h1]; exact ht, by omega, fun _ => ⟨by omega, ?_⟩⟩
    obtain ⟨y, hy⟩ := hr
    exact keep _ _ hy
  · rw [dp_un e] at hx
    obtain ⟨w1, w2, w3, w4⟩ := W j x hx
    refine ⟨w1, w2, w3, fun h => ⟨(w4 h).1, ?_⟩⟩
    obtain ⟨y, hy⟩ := (w4 h).2
    exact keep _ _ hy
theorem dp_s_c (p k j : Nat) : dp_s ln p k σ j = σ ∨ ∃ x y, σ (16 * p + j) = some x ∧ ln p k (j / 4) = some y ∧ dp_s ln p k σ j = dp_offer σ (16 * k + 4 * dp_nx (j / 4) + y.1) (x.1 + y.2 + dp_jp y.1 (j % 4)) (16 * p + j) := by
  rw [dp_s]
  cases h1 : σ (16 * p + j) with
  | none => exact Or.inl rfl
  | some x =>
    cases h2 : ln p k (j / 4) with
    | none => exact Or.inl rfl
    | some y => exact Or.inr ⟨x, y, rfl, rfl, rfl⟩
theorem dp_nx_b (q : Nat) : dp_nx q ≤ 3 := by rw [dp_nx]; split <;> omega
theorem dp_jp_b (c d : Nat) : dp_jp c d ≤ 2000 := by rw [dp_jp]; split <;> omega
theorem dp_off_wf {s tt fr k p : Nat} (W : dp_wf σ) (hk : k ≤ 48) (h1 : s / 16 = k) (hf : fr / 16 = p) (hp : p < k) (hr : ∃ y, σ fr = some y) (ht : tt ≤ k * 101000000) : dp_wf (dp_offer σ s tt fr) := by
  rcases dp_offer_c (σ := σ) s tt fr with h | h
  · rw [h]; exact W
  · rw [h]; exact dp_up_wf W hk h1 hf hp hr ht
theorem dp_tt {s j p k : Nat} {x y : Nat × Nat} (W : dp_wf σ) (hL : dp_ln ln) (hp : p < k) (hj : j < 16) (hx : σ (16 * p + j) = some x) (hy : ln p k (j / 4) = some y) : x.1 + y.2 + dp_jp y.1 (j % 4) ≤ k * 101000000 ∧ (16 * k + 4 * dp_nx (j / 4) + y.1) / 16 = k ∧ y.1 ≤ 3 ∧ y.2 ≤ 100990000 := by
  have h1 := (W _ _ hx).2.1
  have h2 := hL _ _ _ _ hy
  have h3 := dp_jp_b y.1 (j % 4)
  have h4 := dp_nx_b (j / 4)
  rw [show (16 * p + j) / 16 = p by omega] at h1
  refine ⟨?_, by omega, h2⟩
  have : p * 101000000 + 101000000 ≤ k * 101000000 := by omega
  omega
theorem dp_s_wf {p k j : Nat} (W : dp_wf σ) (hL : dp_ln ln) (hk : k ≤ 48) (hp : p < k) (hj : j < 16) : dp_wf (dp_s ln p k σ j) := by
  rcases dp_s_c (ln := ln) (σ := σ) p k j with h | ⟨x, y, hx, hy, h⟩
  · rw [h]; exact W
  · rw [h]
    obtain ⟨t1, t2, t3, t4⟩ := dp_tt (s := 0) W hL hp hj hx hy
    exact dp_off_wf W hk t2 (show (16 * p + j) / 16 = p by omega) hp ⟨x, hx⟩ t1
theorem dp_s_fr {p k j s : Nat} (hL : dp_ln ln) (hs : s / 16 ≠ k) : dp_s ln p k σ j s = σ s := by
  rcases dp_s_c (ln := ln) (σ := σ) p k j with h | ⟨x, y, hx, hy, h⟩
  · rw [h]
  · rw [h]
    have h2 := hL _ _ _ _ hy
    have h4 := dp_nx_b (j / 4)
    rcases dp_offer_c (σ := σ) (16 * k + 4 * dp_nx (j / 4) + y.1) (x.1 + y.2 + dp_jp y.1 (j % 4)) (16 * p + j) with q | q
    · rw [q]
    · rw [q, dp_un (by omega)]
theorem dp_s_lim {p k j : Nat} (hj : j < 16) (hl : dp_lim k p σ) : dp_lim k p (dp_s ln p k σ j) := by
  rcases dp_s_c (ln := ln) (σ := σ) p k j with h | ⟨x, y, hx, hy, h⟩
  · rw [h]; exact hl
  · rw [h]
    rcases dp_offer_c (σ := σ) (16 * k + 4 * dp_nx (j / 4) + y.1) (x.1 + y.2 + dp_jp y.1 (j % 4)) (16 * p + j) with q | q
    · rw [q]; exact hl
    · rw [q]
      intro s z h1 h2
      by_cases e : s = 16 * k + 4 * dp_nx (j / 4) + y.1
      · rw [e, dp_us] at h2
        cases h2
        show (16 * p + j) / 16 ≤ p
        omega
      · rw [dp_un e] at h2
        exact hl s z h1 h2
theorem dp_e_wf {p k : Nat} (W : dp_wf σ) (hL : dp_ln ln) (hk : k ≤ 48) (hp : p < k) : ∀ j, j ≤ 16 → dp_wf (dp_e ln p k σ j) := by
  intro j
  induction j with
  | zero => intro _; exact W
  | succ j ih => intro h; exact dp_s_wf (ih (by omega)) hL hk hp (by omega)
theorem dp_e_fr {p k s : Nat} (hL : dp_ln ln) (hs : s / 16 ≠ k) : ∀ j, dp_e ln p k σ j s = σ s := by
  intro j
  induction j with
  | zero => rfl
  | succ j ih => rw [dp_e, dp_s_fr hL hs, ih]
theorem dp_e_lim {p k : Nat} (hl : dp_lim k p σ) : ∀ j, j ≤ 16 → dp_lim k p (dp_e ln p k σ j) := by
  intro j
  induction j with
  | zero => intro _; exact hl
  | succ j ih => intro h; exact dp_s_lim (by omega) (ih (by omega))
theorem dp_row_wf {k : Nat} (W : dp_wf σ) (hL : dp_ln ln) (hk : k ≤ 48) : ∀ p, p ≤ k → dp_wf (dp_row ln k σ p) := by
  intro p
  induction p with
  | zero => intro _; exact W
  | succ p ih => intro h; exact dp_e_wf (ih (by omega)) hL hk (by omega) 16 (Nat.le_refl _)
theorem dp_row_fr {k s : Nat} (hL : dp_ln ln) (hs : s / 16 ≠ k) : ∀ p, dp_row ln k σ p s = σ s := by
  intro p
  induction p with
  | zero => rfl
  | succ p ih => rw [dp_row, dp_e_fr hL hs, ih]
theorem dp_row_lim {k : Nat} (h0 : ∀ s, s / 16 = k → σ s = none) : ∀ p, dp_lim k p (dp_row ln k σ p) := by
  intro p
  induction p with
  | zero =>
    intro s x h1 h2
    rw [dp_row, h0 s h1] at h2
    exact absurd h2 (by simp)
  | succ p ih =>
    intro s x h1 h2
    have := dp_e_lim (ln := ln) ih 16 (Nat.le_refl _) s x h1 h2
    omega
theorem dp_init_wf : dp_wf dp_init := by
  intro s x h
  rw [dp_init] at h
  by_cases e : s = 1
  · rw [if_pos e] at h
    cases h
    exact ⟨by omega, by omega, fun _ => e, fun h => absurd h (by omega)⟩
  · rw [if_neg e] at h
    exact absurd h (by simp)
theorem dp_all_wf (hL : dp_ln ln) : ∀ k, k ≤ 48 → dp_wf (dp_all ln k) := by
  intro k
  induction k with
  | zero => intro _; exact dp_init_wf
  | succ k ih => intro h; exact dp_row_wf (ih (by omega)) hL h _ (Nat.le_refl _)
theorem dp_all_no (hL : dp_ln ln) : ∀ k s, k < s / 16 → dp_all ln k s = none := by
  intro k
  induction k with
  | zero => intro s h; rw [dp_all, dp_init, if_neg (by omega)]
  | succ k ih => intro s h; rw [dp_all, dp_row_fr hL (by omega), ih s (by omega)]
theorem dp_all_st (hL : dp_ln ln) {s j : Nat} (hs : s / 16 ≤ j) : ∀ d, dp_all ln (j + d) s = dp_all ln j s := by
  intro d
  induction d with
  | zero => rfl
  | succ d ih =>
    show dp_all ln (j + d + 1) s = _
    rw [dp_all, dp_row_fr hL (by omega), ih]
/-- two tables that agree up to block p and on block k -/
def dp_ag (p k : Nat) (σ σ2 : dp_S) : Prop := ∀ s, (s / 16 ≤ p ∨ s / 16 = k) → σ s = σ2 s
theorem dp_lat_ag {p : Nat} (W : dp_wf σ2) (hA : ∀ s, s / 16 ≤ p → σ s = σ2 s) : ∀ f u v x y, σ2 u = some x → σ2 v = some y → u / 16 ≤ p → v / 16 ≤ p → dp_later σ f u v = dp_later σ2 f u v := by
  intro f
  induction f with
  | zero => intro u v x y _ _ _ _; rfl
  | succ f ih =>
    intro u v x y hu hv h1 h2
    have e1 : dp_bf σ u = x.2 := dp_bfs (by rw [hA u h1]; exact hu)
    have e2 : dp_bf σ v = y.2 := dp_bfs (by rw [hA v h2]; exact hv)
    rw [dp_later, dp_later, e1, e2, dp_bfs hu, dp_bfs hv]
    by_cases c1 : u / 16 = v / 16
    · rw [if_pos c1, if_pos c1]
      by_cases c2 : u = v
      · rw [if_pos c2, if_pos c2]
      · rw [if_neg c2, if_neg c2]
        by_cases c3 : u < 16
        · rw [if_pos c3, if_pos c3]
        · rw [if_neg c3, if_neg c3]
          obtain ⟨a1, z1, a2⟩ := (W u x hu).2.2.2 (by omega)
          obtain ⟨b1, z2, b2⟩ := (W v y hv).2.2.2 (by omega)
          exact ih x.2 y.2 z1 z2 a2 b2 (by omega) (by omega)
    · rw [if_neg c1, if_neg c1]
theorem dp_s_ag {p k j : Nat} (W : dp_wf σ2) (hL : dp_ln ln) (hl : dp_lim k p σ2) (hp : p < k) (hj : j < 16) (hA : dp_ag p k σ σ2) : dp_ag p k (dp_s ln p k σ j) (dp_s ln p k σ2 j) := by
  have e0 : σ (16 * p + j) = σ2 (16 * p + j) := hA _ (Or.inl (by omega))
  rw [dp_s, dp_s, e0]
  cases h1 : σ2 (16 * p + j) with
  | none => exact hA
  | some x =>
    cases h2 : ln p k (j / 4) with
    | none => exact hA
    | some y =>
      obtain ⟨t1, t2, t3, t4⟩ := dp_tt (s := 0) W hL hp hj h1 h2
      show dp_ag p k (dp_offer σ (16 * k + 4 * dp_nx (j / 4) + y.1) (x.1 + y.2 + dp_jp y.1 (j % 4)) (16 * p + j)) (dp_offer σ2 (16 * k + 4 * dp_nx (j / 4) + y.1) (x.1 + y.2 + dp_jp y.1 (j % 4)) (16 * p + j))
      generalize x.1 + y.2 + dp_jp y.1 (j % 4) = tt at *
      generalize 16 * k + 4 * dp_nx (j / 4) + y.1 = s at *
      have e1 : σ s = σ2 s := hA _ (Or.inr t2)
      have hup : ∀ z, dp_ag p k (dp_up σ s z) (dp_up σ2 s z) := by
        intro z q hq
        by_cases e : q = s
        · rw [e, dp_us, dp_us]
        · rw [dp_un e, dp_un e]; exact hA q hq
      rw [dp_offer, dp_offer, e1]
      cases h3 : σ2 s with
      | none => exact hup _
      | some z =>
        show dp_ag p k (if z.1 < tt then σ else if tt = z.1 then (if dp_later σ 100 (16 * p + j) z.2 = true then dp_up σ s (tt, 16 * p + j) else σ) else dp_up σ s (tt, 16 * p + j)) (if z.1 < tt then σ2 else if tt = z.1 then (if dp_later σ2 100 (16 * p + j) z.2 = true then dp_up σ2 s (tt, 16 * p + j) else σ2) else dp_up σ2 s (tt, 16 * p + j))
        by_cases c1 : z.1 < tt
        · rw [if_pos c1, if_pos c1]; exact hA
        · rw [if_neg c1, if_neg c1]
          by_cases c2 : tt = z.1
          · rw [if_pos c2, if_pos c2]
            obtain ⟨b1, z2, b2⟩ := (W s z h3).2.2.2 (by omega)
            have hb := hl s z t2 h3
            have el := dp_lat_ag (σ := σ) (p := p) W (fun q hq => hA q (Or.inl hq)) 100 (16 * p + j) z.2 x z2 h1 b2 (by omega) hb
            rw [el]
            by_cases c3 : dp_later σ2 100 (16 * p + j) z.2 = true
            · rw [if_pos c3, if_pos c3]; exact hup _
            · rw [if_neg c3, if_neg c3]; exact hA
          · rw [if_neg c2, if_neg c2]; exact hup _
theorem dp_e_ag {p k : Nat} (W : dp_wf σ2) (hL : dp_ln ln) (hk : k ≤ 48) (hl : dp_lim k p σ2) (hp : p < k) (hA : dp_ag p k σ σ2) : ∀ j, j ≤ 16 → dp_ag p k (dp_e ln p k σ j) (dp_e ln p k σ2 j) := by
  intro j
  induction j with
  | zero => intro _; exact hA
  | succ j ih => intro h; exact dp_s_ag (dp_e_wf W hL hk hp j (by omega)) hL (dp_e_lim hl j (by omega)) hp (by omega) (ih (by omega))
/-- X's order against Y's -/
def dp_xinv (ln : Nat → Nat → Nat → Option (Nat × Nat)) (m a b : Nat) (σ : dp_S) : Prop :=
  ∀ s, (s / 16 ≤ a → σ s = dp_all ln (s / 16) s) ∧ (a < s / 16 → s / 16 < b → σ s = dp_row ln (s / 16) (dp_all ln (s / 16 - 1)) (a + 1) s) ∧ (a < s / 16 → b ≤ s / 16 → s / 16 ≤ m → σ s = dp_row ln (s / 16) (dp_all ln (s / 16 - 1)) a s)
theorem dp_xinvS {m a b : Nat} (hL : dp_ln ln) (hm : m ≤ 48) (hab : a < b) (hbm : b ≤ m) (I : dp_xinv ln m a b σ) : dp_xinv ln m a (b + 1) (dp_e ln a b σ 16) := by
  have W : dp_wf (dp_row ln b (dp_all ln (b - 1)) a) := dp_row_wf (dp_all_wf hL _ (by omega)) hL (by omega) a (by omega)
  have hl : dp_lim b a (dp_row ln b (dp_all ln (b - 1)) a) := dp_row_lim (fun s h => dp_all_no hL _ s (by omega)) a
  have hA : dp_ag a b σ (dp_row ln b (dp_all ln (b - 1)) a) := by
    intro s hs
    rcases hs with hs | hs
    · rw [(I s).1 hs, dp_row_fr hL (by omega)]
      have := dp_all_st (ln := ln) hL (s := s) (j := s / 16) (Nat.le_refl _) (b - 1 - s / 16)
      rw [show s / 16 + (b - 1 - s / 16) = b - 1 by omega] at this
      exact this.symm
    · have := (I s).2.2 (by omega) (by omega) (by omega)
      rw [hs] at this
      exact this
  have hE := dp_e_ag W hL (by omega) hl hab hA 16 (Nat.le_refl _)
  intro s
  by_cases hs : s / 16 = b
  · refine ⟨fun h => absurd h (by omega), fun _ _ => ?_, fun _ h => absurd h (by omega)⟩
    rw [hE s (Or.inr hs), hs]
    rfl
  · rw [dp_e_fr hL hs]
    refine ⟨(I s).1, fun h1 h2 => (I s).2.1 h1 (by omega), fun h1 h2 h3 => (I s).2.2 h1 (by omega) h3⟩
theorem dp_xi_inv {m a : Nat} (hL : dp_ln ln) (hm : m ≤ 48) (I : dp_xinv ln m a (a + 1) σ) : ∀ j, a + j ≤ m → dp_xinv ln m a (a + 1 + j) (dp_xi ln a σ j) := by
  intro j
  induction j with
  | zero => intro _; exact I
  | succ j ih => intro h; exact dp_xinvS (b := a + 1 + j) hL hm (by omega) (by omega) (ih (by omega))
theorem dp_x_inv {m : Nat} (hL : dp_ln ln) (hm : m ≤ 48) : ∀ a, a ≤ m → dp_xinv ln m a (a + 1) (dp_x ln m a) := by
  intro a
  induction a with
  | zero =>
    intro _ s
    refine ⟨fun h => ?_, fun h1 h2 => absurd h1 (by omega), fun h1 h2 h3 => ?_⟩
    · rw [show s / 16 = 0 by omega]; rfl
    · show dp_init s = dp_row ln (s / 16) (dp_all ln (s / 16 - 1)) 0 s
      rw [dp_row, dp_all_no hL _ s (by omega), dp_init, if_neg (by omega)]
  | succ a ih =>
    intro h
    have I := dp_xi_inv hL hm (ih (by omega)) (m - a) (by omega)
    rw [show a + 1 + (m - a) = m + 1 by omega] at I
    intro s
    show ((s / 16 ≤ a + 1 → dp_xi ln a (dp_x ln m a) (m - a) s = _) ∧ _)
    obtain ⟨i1, i2, i3⟩ := I s
    refine ⟨fun h1 => ?_, fun h1 h2 => absurd h1 (by omega), fun h1 h2 h3 => i2 (by omega) (by omega)⟩
    by_cases e : s / 16 ≤ a
    · exact i1 e
    · have e1 : s / 16 = a + 1 := by omega
      have := i2 (by omega) (by omega)
      rw [e1] at this ⊢
      exact this
theorem dp_x_all {m : Nat} (hL : dp_ln ln) (hm : m ≤ 48) {s : Nat} (hs : s / 16 ≤ m) : dp_x ln m m s = dp_all ln m s := by
  rw [(dp_x_inv hL hm m (Nat.le_refl _) s).1 hs]
  have := dp_all_st (ln := ln) hL (s := s) (j := s / 16) (Nat.le_refl _) (m - s / 16)
  rw [show s / 16 + (m - s / 16) = m by omega] at this
  exact this.symm
theorem dp_xi_wf {a m : Nat} (W : dp_wf σ) (hL : dp_ln ln) (hm : m ≤ 48) : ∀ j, a + j ≤ m → dp_wf (dp_xi ln a σ j) := by
  intro j
  induction j with
  | zero => intro _; exact W
  | succ j ih => intro h; exact dp_e_wf (ih (by omega)) hL (by omega) (by omega) 16 (Nat.le_refl _)
theorem dp_x_wf {m : Nat} (hL : dp_ln ln) (hm : m ≤ 48) : ∀ a, a ≤ m → dp_wf (dp_x ln m a) := by
  intro a
  induction a with
  | zero => intro _; exact dp_init_wf
  | succ a ih => intro h; exact dp_xi_wf (ih (by omega)) hL hm (m - a) (by omega)
end
