theorem iv_up (a b : Int32) (i : Nat) : upd (fun j => if j < i then a else b) i a = fun j => if j < i + 1 then a else b := by
  funext j
  by_cases e : j = i
  · rw [e, pk_us, if_pos (by omega)]
  · rw [pk_un e]
    by_cases h : j < i
    · rw [if_pos h, if_pos (by omega)]
    · rw [if_neg h, if_neg (by omega)]
theorem iv_0 (a b : Int32) : (fun _ => b) = fun j : Nat => if j < 0 then a else b := by
  funext j; rw [if_neg (by omega)]
theorem iv_x2 (post : SX → Prop) (hp : post (0, 0, 0, 100, 100, 0, 6, 3, 2, 200, 50, 6, 0, 0, 0, 1, (fun _ => 0), (fun j => if j < 10 then (10 : Int32) else 0), (fun j => if j < 100 then (-1 : Int32) else 0), (fun _ => 0), (fun _ => 0), (fun _ => 0), (fun _ => 0), (fun _ => 0), (fun _ => 0), (fun _ => 0), (fun _ => 0), (fun _ => 0), (fun _ => 0), (fun _ => 0), (fun _ => 0))) : ∀ d i, i + d = 100 → wX_init_239 post 0 0 0 100 100 0 6 3 2 200 50 6 0 0 0 1 (d + 1) (nI i) (fun _ => 0) (fun j => if j < 10 then (10 : Int32) else 0) (fun j => if j < i then (-1 : Int32) else 0) (fun _ => 0) (fun _ => 0) (fun _ => 0) (fun _ => 0) (fun _ => 0) (fun _ => 0) (fun _ => 0) (fun _ => 0) (fun _ => 0) (fun _ => 0) (fun _ => 0) (fun _ => 0) := by
  intro d
  induction d with
  | zero =>
    intro i hi
    have : i = 100 := by omega
    subst this
    exact br_t (by decide) hp
  | succ d ih =>
    intro i hi
    refine br_f (nI_ge (b := 100) (by omega) (by decide)) ⟨vp_in_nI (by omega) (by omega), nm_r (e' := fun j => if j < i + 1 then (-1 : Int32) else 0) ?_ (nm_r (nI_1 i) (ih (i + 1) (by omega)))⟩
    rw [nI_clamp (by omega)]
    exact iv_up (-1) 0 i
theorem iv_x1 (post : SX → Prop) (hp : post (0, 0, 0, 100, 100, 0, 6, 3, 2, 200, 50, 6, 0, 0, 0, 1, (fun _ => 0), (fun j => if j < 10 then (10 : Int32) else 0), (fun j => if j < 100 then (-1 : Int32) else 0), (fun _ => 0), (fun _ => 0), (fun _ => 0), (fun _ => 0), (fun _ => 0), (fun _ => 0), (fun _ => 0), (fun _ => 0), (fun _ => 0), (fun _ => 0), (fun _ => 0), (fun _ => 0))) : ∀ d i, i + d = 10 → wX_init_217 post 0 0 0 100 100 0 6 3 2 200 50 6 0 0 0 1 (d + 1) (nI i) (fun _ => 0) (fun j => if j < i then (10 : Int32) else 0) (fun _ => 0) (fun _ => 0) (fun _ => 0) (fun _ => 0) (fun _ => 0) (fun _ => 0) (fun _ => 0) (fun _ => 0) (fun _ => 0) (fun _ => 0) (fun _ => 0) (fun _ => 0) (fun _ => 0) := by
  intro d
  induction d with
  | zero =>
    intro i hi
    have : i = 10 := by omega
    subst this
    refine br_t (by decide) ⟨101, ?_⟩
    have := iv_x2 post hp 100 0 (by omega)
    rw [← iv_0] at this
    exact this
  | succ d ih =>
    intro i hi
    refine br_f (nI_ge (b := 10) (by omega) (by decide)) ⟨vp_in_nI (by omega) (by omega), nm_r (e' := fun j => if j < i + 1 then (10 : Int32) else 0) ?_ (nm_r (nI_1 i) (ih (i + 1) (by omega)))⟩
    rw [nI_clamp (by omega)]
    exact iv_up 10 0 i
theorem iv_x {post : SX → Prop} (hp : post (0, 0, 0, 100, 100, 0, 6, 3, 2, 200, 50, 6, 0, 0, 0, 1, (fun _ => 0), (fun j => if j < 10 then (10 : Int32) else 0), (fun j => if j < 100 then (-1 : Int32) else 0), (fun _ => 0), (fun _ => 0), (fun _ => 0), (fun _ => 0), (fun _ => 0), (fun _ => 0), (fun _ => 0), (fun _ => 0), (fun _ => 0), (fun _ => 0), (fun _ => 0), (fun _ => 0))) : wpX_init post := by
  have := iv_x1 post hp 10 0 (by omega)
  rw [← iv_0] at this
  exact ⟨_, this⟩
theorem iv_y2 (post : SY → Prop) (hp : post (0, 0, 0, 100, 100, 0, 6, 3, 2, 200, 50, 6, 0, 0, 0, 0, 0, 0, 0, (fun _ => 0), (fun j => if j < 10 then (10 : Int32) else 0), (fun j => if j < 100 then (-1 : Int32) else 0), (fun _ => 0), (fun _ => 0), (fun _ => 0), (fun _ => 0), (fun _ => 0), (fun _ => 0), (fun _ => 0), (fun _ => 0), (fun _ => 0), (fun _ => 0), (fun _ => 0), (fun _ => 0), (fun _ => 0), (fun _ => 0), (fun _ => 0), (fun _ => 0), (fun _ => 0), (fun _ => 0), (fun _ => 0), (fun _ => 0), (fun _ => 0))) : ∀ d i, i + d = 100 → wY_init_269 post 0 0 0 100 100 0 6 3 2 200 50 6 0 0 0 0 0 0 0 (d + 1) (nI i) (fun _ => 0) (fun j => if j < 10 then (10 : Int32) else 0) (fun j => if j < i then (-1 : Int32) else 0) (fun _ => 0) (fun _ => 0) (fun _ => 0) (fun _ => 0) (fun _ => 0) (fun _ => 0) (fun _ => 0) (fun _ => 0) (fun _ => 0) (fun _ => 0) (fun _ => 0) (fun _ => 0) (fun _ => 0) (fun _ => 0) (fun _ => 0) (fun _ => 0) (fun _ => 0) (fun _ => 0) (fun _ => 0) (fun _ => 0) (fun _ => 0) := by
  intro d
  induction d with
  | zero =>
    intro i hi
    have : i = 100 := by omega
    subst this
    exact br_t (by decide) hp
  | succ d ih =>
    intro i hi
    refine br_f (nI_ge (b := 100) (by omega) (by decide)) ⟨vp_in_nI (by omega) (by omega), nm_r (e' := fun j => if j < i + 1 then (-1 : Int32) else 0) ?_ (nm_r (nI_1 i) (ih (i + 1) (by omega)))⟩
    rw [nI_clamp (by omega)]
    exact iv_up (-1) 0 i
theorem iv_y1 (post : SY → Prop) (hp : post (0, 0, 0, 100, 100, 0, 6, 3, 2, 200, 50, 6, 0, 0, 0, 0, 0, 0, 0, (fun _ => 0), (fun j => if j < 10 then (10 : Int32) else 0), (fun j => if j < 100 then (-1 : Int32) else 0), (fun _ => 0), (fun _ => 0), (fun _ => 0), (fun _ => 0), (fun _ => 0), (fun _ => 0), (fun _ => 0), (fun _ => 0), (fun _ => 0), (fun _ => 0), (fun _ => 0), (fun _ => 0), (fun _ => 0), (fun _ => 0), (fun _ => 0), (fun _ => 0), (fun _ => 0), (fun _ => 0), (fun _ => 0), (fun _ => 0), (fun _ => 0))) : ∀ d i, i + d = 10 → wY_init_247 post 0 0 0 100 100 0 6 3 2 200 50 6 0 0 0 0 0 0 0 (d + 1) (nI i) (fun _ => 0) (fun j => if j < i then (10 : Int32) else 0) (fun _ => 0) (fun _ => 0) (fun _ => 0) (fun _ => 0) (fun _ => 0) (fun _ => 0) (fun _ => 0) (fun _ => 0) (fun _ => 0) (fun _ => 0) (fun _ => 0) (fun _ => 0) (fun _ => 0) (fun _ => 0) (fun _ => 0) (fun _ => 0) (fun _ => 0) (fun _ => 0) (fun _ => 0) (fun _ => 0) (fun _ => 0) (fun _ => 0) := by
  intro d
  induction d with
  | zero =>
    intro i hi
    have : i = 10 := by omega
    subst this
    refine br_t (by decide) ⟨101, ?_⟩
    have := iv_y2 post hp 100 0 (by omega)
    rw [← iv_0] at this
    exact this
  | succ d ih =>
    intro i hi
    refine br_f (nI_ge (b := 10) (by omega) (by decide)) ⟨vp_in_nI (by omega) (by omega), nm_r (e' := fun j => if j < i + 1 then (10 : Int32) else 0) ?_ (nm_r (nI_1 i) (ih (i + 1) (by omega)))⟩
    rw [nI_clamp (by omega)]
    exact iv_up 10 0 i
theorem iv_y {post : SY → Prop} (hp : post (0, 0, 0, 100, 100, 0, 6, 3, 2, 200, 50, 6, 0, 0, 0, 0, 0, 0, 0, (fun _ => 0), (fun j => if j < 10 then (10 : Int32) else 0), (fun j => if j < 100 then (-1 : Int32) else 0), (fun _ => 0), (fun _ => 0), (fun _ => 0), (fun _ => 0), (fun _ => 0), (fun _ => 0), (fun _ => 0), (fun _ => 0), (fun _ => 0), (fun _ => 0), (fun _ => 0), (fun _ => 0), (fun _ => 0), (fun _ => 0), (fun _ => 0), (fun _ => 0), (fun _ => 0), (fun _ => 0), (fun _ => 0), (fun _ => 0), (fun _ => 0))) : wpY_init post := by
  have := iv_y1 post hp 10 0 (by omega)
  rw [← iv_0] at this
  exact ⟨_, this⟩
theorem i_vc0 : wpX_init (fun u => wpY_init (fun v => i_Rel 0 u v)) := by
  refine iv_x (iv_y ?_)
  have ew : (fun j => if j < 10 then (10 : Int32) else 0) = gd_tI (fun j => if j < 10 then 10 else 0) := by
    funext j
    rw [gd_tI]
    by_cases h : j < 10
    · rw [if_pos h, if_pos h]; rfl
    · rw [if_neg h, if_neg h]; rfl
  have el : (fun j => if j < 100 then (-1 : Int32) else 0) = gd_lI (fun j => if j < 100 then 10 else 0) := by
    funext j
    rw [gd_lI]
    by_cases h : j < 100
    · simp only [if_pos h]; rfl
    · simp only [if_neg h]; rfl
  rw [ew, el]
  refine rl_mk (n := 0) (lc := 0) (pc := 0) (fw := 100) (rw := 100) (fl := 0) (sw := 6) (ss := 3) (sk := 2) (ba := 200) (hyc := 50) (ph := 6) (t := fun _ => 0) (kn := fun _ => 0) (P := fun _ => 0) (pa := fun _ => 0) (pb := fun _ => 0) (pq := fun _ => 0) (pd := fun _ => 0) ⟨⟨by omega, fun _ => Nat.zero_le _, fun i => ?_, fun _ => (show (-5 : Int) ≤ 0 ∧ (0 : Int) ≤ 5 by omega), by omega, by omega, by omega, by omega, by omega, by omega, by omega, by omega, by omega, by omega⟩, by decide, ⟨by omega, fun p h => absurd h (by omega), fun p q _ h => absurd h (by omega), fun k h => absurd rfl h, fun k => Nat.zero_le _⟩, Or.inl ⟨rfl, rfl⟩⟩
  dsimp only
  split <;> omega
