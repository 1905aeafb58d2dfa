/-! rows of kit/rows (pk_*), and the pictures of arrays -/
theorem pk_us {f : Nat → Int32} {k : Nat} {x : Int32} : upd f k x k = x := if_pos rfl
theorem pk_un {f : Nat → Int32} {k j : Nat} {x : Int32} (h : j ≠ k) : upd f k x j = f j := if_neg h
theorem pk_uLs {f : Nat → Int64} {k : Nat} {x : Int64} : vp_updL f k x k = x := if_pos rfl
theorem pk_uLn {f : Nat → Int64} {k j : Nat} {x : Int64} (h : j ≠ k) : vp_updL f k x j = f j := if_neg h
theorem pk_sub {a b : Nat} (h : b ≤ a) : nI a - nI b = nI (a - b) := by
  obtain ⟨c, rfl⟩ : ∃ c, a = c + b := ⟨a - b, by omega⟩
  rw [← nI_add, Int32.add_sub_cancel, Nat.add_sub_cancel]
theorem pk_m1 (n : Nat) : nI (n + 1) + (-1) = nI n := by
  rw [← nI_1, Int32.add_assoc, show (1 : Int32) + (-1) = 0 from rfl, Int32.add_zero]
theorem pk_mul (a b : Nat) : nI a * nI b = nI (a * b) := (Int32.ofNat_mul a b).symm
theorem pk_div {a d : Nat} (ha : a < 2 ^ 31) (h0 : 0 < d) (hd : d < 2 ^ 31) : nI a / nI d = nI (a / d) := by
  apply Int32.toInt_inj.mp
  rw [lg_idiv_nonneg (by rw [nI_toInt ha]; omega) (by rw [nI_toInt hd]; omega), nI_toInt ha, nI_toInt hd, nI_toInt (Nat.lt_of_le_of_lt (Nat.div_le_self a d) ha)]
  first | rfl | exact (Int.natCast_ediv _ _).symm
theorem pk_rem {a d : Nat} (ha : a < 2 ^ 31) (h0 : 0 < d) (hd : d < 2 ^ 31) : nI a - nI a / nI d * nI d = nI (a % d) := by
  rw [pk_div ha h0 hd, pk_mul, pk_sub (Nat.div_mul_le_self a d)]
  exact congrArg nI (by have := Nat.div_add_mod' a d; omega)
theorem pk_sub_toInt {a b : Nat} (ha : a < 2 ^ 30) (hb : b < 2 ^ 30) : (nI a - nI b).toInt = (a : Int) - b := by
  rw [Int32.toInt_sub, nI_toInt (by omega), nI_toInt (by omega)]
  exact Int.bmod_eq_of_le (by omega) (by omega)
theorem pk_sneg {a b : Nat} (hb : b < 2 ^ 30) (h : a < b) : nI a - nI b < 0 := by
  rw [Int32.lt_iff_toInt_lt, pk_sub_toInt (by omega) hb, show (0 : Int32).toInt = 0 from by decide]
  omega
theorem pk_ix (x : Int32) {n : Nat} (hn : n < 2 ^ 31) : x < 0 ∨ nI n ≤ x ∨ ∃ j : Nat, j < n ∧ x = nI j := by
  by_cases h : x < 0
  · exact Or.inl h
  · obtain ⟨j, hj, rfl⟩ := nI_of h
    by_cases h2 : j < n
    · exact Or.inr (Or.inr ⟨j, h2, rfl⟩)
    · exact Or.inr (Or.inl (nI_le (by omega) hj))
theorem pk_le {x y : Int32} {A B : Prop} (a b : Nat) (f : a ≤ b → A) (g : b < a → B) (hx : x = nI a := by rfl) (hy : y = nI b := by rfl) (ha : a < 2 ^ 31 := by omega) (hb : b < 2 ^ 31 := by omega) : (x ≤ y → A) ∧ (¬ x ≤ y → B) := by
  subst hx hy
  rw [nI_leI ha hb]
  exact ⟨f, fun z => g (by omega)⟩
theorem pk_lt {x y : Int32} {A B : Prop} (a b : Nat) (f : a < b → A) (g : b ≤ a → B) (hx : x = nI a := by rfl) (hy : y = nI b := by rfl) (ha : a < 2 ^ 31 := by omega) (hb : b < 2 ^ 31 := by omega) : (x < y → A) ∧ (¬ x < y → B) := by
  subst hx hy
  rw [nI_ltI ha hb]
  exact ⟨f, fun z => g (by omega)⟩
theorem pk_eq {x y : Int32} {A B : Prop} (a b : Nat) (f : a = b → A) (g : a ≠ b → B) (hx : x = nI a := by rfl) (hy : y = nI b := by rfl) (ha : a < 2 ^ 31 := by omega) (hb : b < 2 ^ 31 := by omega) : (x = y → A) ∧ (¬ x = y → B) := by
  subst hx hy
  rw [nI_eq ha hb]
  exact ⟨f, g⟩
theorem pk_in {x : Int32} (n N : Nat) (h : n < N) (hx : x = nI n := by rfl) (hN : N < 2 ^ 31 := by omega) : vp_in x N := by
  subst hx
  exact vp_in_nI h hN
theorem pk_cl {x : Int32} (n : Nat) (hx : x = nI n := by rfl) (h : n < 2 ^ 31 := by omega) : x.toNatClampNeg = n := by
  subst hx
  exact nI_clamp h
theorem pk_tn {n : Nat} (h : n < 2 ^ 32) : (nI n).toBitVec.toNat = n := Nat.mod_eq_of_lt h
theorem pk_lT {n : Nat} (h : n < 2 ^ 63) : (lN n).toInt = (n : Int) := lg_ofNat_toInt h
theorem pk_lLT {a b : Nat} (ha : a < 2 ^ 63) (hb : b < 2 ^ 63) : lN a < lN b ↔ a < b := by
  rw [Int64.lt_iff_toInt_lt, pk_lT ha, pk_lT hb]; omega
theorem pk_lLE {a b : Nat} (ha : a < 2 ^ 63) (hb : b < 2 ^ 63) : lN a ≤ lN b ↔ a ≤ b := by
  rw [Int64.le_iff_toInt_le, pk_lT ha, pk_lT hb]; omega
theorem pk_lEQ {a b : Nat} (ha : a < 2 ^ 63) (hb : b < 2 ^ 63) : lN a = lN b ↔ a = b := by
  rw [← Int64.toInt_inj, pk_lT ha, pk_lT hb]; omega
theorem pk_lOf {x : Int64} (h : ¬ x < 0) : ∃ k : Nat, k < 2 ^ 63 ∧ x = lN k := by
  rw [Int64.lt_iff_toInt_lt] at h
  have h0 : (0 : Int64).toInt = 0 := by decide
  have hx := Int64.toInt_lt x
  refine ⟨x.toInt.toNat, by omega, Int64.toInt_inj.mp ?_⟩
  rw [pk_lT (by omega)]
  omega
theorem pk_lDiv {a b : Nat} (ha : a < 2 ^ 63) (h0 : 0 < b) (hb : b < 2 ^ 63) : lN a / lN b = lN (a / b) := by
  apply Int64.toInt_inj.mp
  rw [lg_ldiv_nonneg (by rw [pk_lT ha]; omega) (by rw [pk_lT hb]; omega), pk_lT ha, pk_lT hb, pk_lT (Nat.lt_of_le_of_lt (Nat.div_le_self a b) ha)]
  rfl
theorem pk_lRem {a b : Nat} (ha : a < 2 ^ 63) (h0 : 0 < b) (hb : b < 2 ^ 63) : lN a - lN a / lN b * lN b = lN (a % b) := by
  rw [pk_lDiv ha h0 hb, lN_mul, lN_sub (Nat.div_mul_le_self a b)]
  exact congrArg lN (by have := Nat.div_add_mod' a b; omega)
theorem pk_least (P : Nat → Prop) (h : ∃ k, P k) : ∃ k, P k ∧ ∀ j, j < k → ¬ P j := by
  obtain ⟨k, hk⟩ := h
  induction k using Nat.strongRecOn with
  | ind k ih =>
    by_cases e : ∃ j, j < k ∧ P j
    · obtain ⟨j, hj, pj⟩ := e
      exact ih j hj pj
    · exact ⟨k, hk, fun j hj pj => e ⟨j, hj, pj⟩⟩
/-- an array of naturals, of ligatures (10 or more: none), of integers, of truths -/
def gd_tI (t : Nat → Nat) : Nat → Int32 := fun i => nI (t i)
def gd_lI (l : Nat → Nat) : Nat → Int32 := fun i => if l i < 10 then nI (l i) else -1
def gd_iI (z : Int) : Int32 := Int32.ofInt z
def gd_kI (k : Nat → Int) : Nat → Int32 := fun i => gd_iI (k i)
def gd_bI (b : Bool) : Int32 := cond b 1 0
def gd_un (f : Nat → Nat) (k x : Nat) : Nat → Nat := fun j => if j = k then x else f j
theorem gd_toInt {z : Int} (h1 : -1073741824 ≤ z) (h2 : z ≤ 1073741824) : (gd_iI z).toInt = z := Int32.toInt_ofInt_of_le (by omega) (by omega)
theorem gd_nat (n : Nat) : nI n = gd_iI n := Int32.ofInt_eq_ofNat.symm
theorem gd_add (a b : Int) : gd_iI a + gd_iI b = gd_iI (a + b) := (Int32.ofInt_add a b).symm
theorem gd_sub (a b : Int) : gd_iI a - gd_iI b = gd_iI (a - b) := (Int32.ofInt_sub a b).symm
theorem gd_mul (a b : Int) : gd_iI a * gd_iI b = gd_iI (a * b) := (Int32.ofInt_mul a b).symm
theorem gd_neg (a : Int) : -gd_iI a = gd_iI (-a) := (Int32.ofInt_neg a).symm
theorem gd_0 : gd_iI 0 = 0 := rfl
theorem gd_zle {x y : Int32} {A B : Prop} (a b : Int) (f : a ≤ b → A) (g : b < a → B) (hx : x = gd_iI a := by rfl) (hy : y = gd_iI b := by rfl) (ha : -1073741824 ≤ a ∧ a ≤ 1073741824 := by omega) (hb : -1073741824 ≤ b ∧ b ≤ 1073741824 := by omega) : (x ≤ y → A) ∧ (¬ x ≤ y → B) := by
  subst hx hy
  rw [Int32.le_iff_toInt_le, gd_toInt ha.1 ha.2, gd_toInt hb.1 hb.2]
  exact ⟨f, fun z => g (by omega)⟩
theorem gd_zlt {x y : Int32} {A B : Prop} (a b : Int) (f : a < b → A) (g : b ≤ a → B) (hx : x = gd_iI a := by rfl) (hy : y = gd_iI b := by rfl) (ha : -1073741824 ≤ a ∧ a ≤ 1073741824 := by omega) (hb : -1073741824 ≤ b ∧ b ≤ 1073741824 := by omega) : (x < y → A) ∧ (¬ x < y → B) := by
  subst hx hy
  rw [Int32.lt_iff_toInt_lt, gd_toInt ha.1 ha.2, gd_toInt hb.1 hb.2]
  exact ⟨f, fun z => g (by omega)⟩
theorem gd_zeq {x y : Int32} {A B : Prop} (a b : Int) (f : a = b → A) (g : a ≠ b → B) (hx : x = gd_iI a := by rfl) (hy : y = gd_iI b := by rfl) (ha : -1073741824 ≤ a ∧ a ≤ 1073741824 := by omega) (hb : -1073741824 ≤ b ∧ b ≤ 1073741824 := by omega) : (x = y → A) ∧ (¬ x = y → B) := by
  subst hx hy
  rw [← Int32.toInt_inj, gd_toInt ha.1 ha.2, gd_toInt hb.1 hb.2]
  exact ⟨f, g⟩
/-- an integer is a small one -/
theorem gd_of (x : Int32) : x = gd_iI x.toInt := (Int32.ofInt_toInt x).symm
theorem gd_rt {t : Nat → Nat} {i : Nat} (h : i < 2 ^ 31) : gd_tI t (nI i).toNatClampNeg = nI (t i) := by rw [nI_clamp h]; rfl
theorem gd_rk {k : Nat → Int} {i : Nat} (h : i < 2 ^ 31) : gd_kI k (nI i).toNatClampNeg = gd_iI (k i) := by rw [nI_clamp h]; rfl
theorem gd_ra {a : Nat → Int32} {i : Nat} (h : i < 2 ^ 31) : a (nI i).toNatClampNeg = a i := by rw [nI_clamp h]
theorem gd_rL {a : Nat → Int64} {i : Nat} (h : i < 2 ^ 31) : a (nI i).toNatClampNeg = a i := by rw [nI_clamp h]
theorem gd_b0 : vp_nar .boolean 0 = 0 := rfl
theorem gd_b1 : vp_nar .boolean 1 = 1 := rfl
theorem gd_bn (b : Bool) : vp_nar .boolean (gd_bI b) = gd_bI b := by cases b <;> rfl
theorem gd_li {l : Nat → Nat} {i : Nat} (h : l i < 10) : gd_lI l i = nI (l i) := if_pos h
theorem gd_lo {l : Nat → Nat} {i : Nat} (h : ¬ l i < 10) : gd_lI l i = -1 := if_neg h
theorem gd_nm1 {n : Nat} (h : n < 2 ^ 31) : ¬ nI n = -1 := by
  intro e
  have := congrArg Int32.toInt e
  rw [nI_toInt h] at this
  have h2 : (-1 : Int32).toInt = -1 := by decide
  omega
theorem gd_bt {b : Bool} {A B : Prop} (f : b = false → A) (g : b = true → B) : (gd_bI b = 0 → A) ∧ (¬ gd_bI b = 0 → B) := by
  cases b
  · exact br_t rfl (f rfl)
  · exact br_f (by decide) (g rfl)
/-- a branch over a truth of a read cell -/
theorem gd_bx {x : Int32} {A B : Prop} (b : Bool) (hx : x = gd_bI b) (f : b = false → A) (g : b = true → B) : (x = 0 → A) ∧ (¬ x = 0 → B) := by
  subst hx
  exact gd_bt f g
/-- a value by naturals, or too small, or too great -/
theorem gd_in {x : Int32} (h : 0 ≤ x) : ∃ j : Nat, j < 2 ^ 31 ∧ x = nI j := nI_of (Int32.not_lt.mpr h)
theorem gd_p1 {i : Nat} (h : 0 < i) : nI i - 1 = nI (i - 1) := by
  obtain ⟨k, rfl⟩ : ∃ k, i = k + 1 := ⟨i - 1, by omega⟩
  exact nI_pred k
theorem gd_q1 {i : Nat} (h : 0 < i) : nI i + (-1) = nI (i - 1) := by
  obtain ⟨k, rfl⟩ : ∃ k, i = k + 1 := ⟨i - 1, by omega⟩
  exact pk_m1 k
