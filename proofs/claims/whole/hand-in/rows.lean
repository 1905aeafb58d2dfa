section
/-! rows of kit/rows (pk_*), and the pictures of arrays -/
theorem pk_us {f : Nat → Int32} {k : Nat} {x : Int32} : upd f k x k = x := if_pos rfl
theorem pk_un {f : Nat → Int32} {k j : Nat} {x : Int32} (h : j ≠ k) : upd f k x j = f j := if_neg h
theorem pk_uLs {f : Nat → Int64} {k : Nat} {x : Int64} : vp_updL f k x k = x := if_pos rfl
theorem pk_uLn {f : Nat → Int64} {k j : Nat} {x : Int64} (h : j ≠ k) : vp_updL f k x j = f j := if_neg h
theorem pk_sub {a b : Nat} (h : b ≤ a) : nI a - nI b = nI (a - b) := by
  obtain ⟨c, rfl⟩ : ∃ c, a = c + b := ⟨a - b, by omega⟩
  rw [← nI_add, Int32.add_sub_cancel, Nat.add_sub_cancel]
theorem pk_m1 (n : Nat) : nI (n + 1) + (-1) = nI n := by
  rw [← nI_1, Int32.add_assoc, show (1 : Int32) + (-1) = 0 from rfl, Int32.add_zero]
theorem pk_mul (a b : Nat) : nI a * nI b = nI (a * b) := (Int32.ofNat_mul a b).symm
theorem pk_div {a d : Nat} (ha : a < 2 ^ 31) (h0 : 0 < d) (hd : d < 2 ^ 31) : nI a / nI d = nI (a / d) := by
  apply Int32.toInt_inj.mp
  rw [lg_idiv_nonneg (by rw [nI_toInt ha]; omega) (by rw [nI_toInt hd]; omega), nI_toInt ha, nI_toInt hd, nI_toInt (Nat.lt_of_le_of_lt (Nat.div_le_self a d) ha)]
  first | rfl | exact (Int.natCast_ediv _ _).symm
theorem pk_rem {a d : Nat} (ha : a < 2 ^ 31) (h0 : 0 < d) (hd : d < 2 ^ 31) : nI a - nI a / nI d * nI d = nI (a % d) := by
  rw [pk_div ha h0 hd, pk_mul, pk_sub (Nat.div_mul_le_self a d)]
  exact congrArg nI (by have := Nat.div_add_mod' a d; omega)
theorem pk_sub_toInt {a b : Nat} (ha : a < 2 ^ 30) (hb : b < 2 ^ 30) : (nI a - nI b).toInt = (a : Int) - b := by
  rw [Int32.toInt_sub, nI_toInt (by omega), nI_toInt (by omega)]
  exact Int.bmod_eq_of_le (by omega) (by omega)
theorem pk_sneg {a b : Nat} (hb : b < 2 ^ 30) (h : a < b) : nI a - nI b < 0 := by
  rw [Int32.lt_iff_toInt_lt, pk_sub_toInt (by omega) hb, show (0 : Int32).toInt = 0 from by decide]
  omega
theorem pk_ix (x : Int32) {n : Nat} (hn : n < 2 ^ 31) : x < 0 ∨ nI n ≤ x ∨ ∃ j : Nat, j < n ∧ x = nI j := by
  by_cases h : x < 0
  · exact Or.inl h
  · obtain ⟨j, hj, rfl⟩ := nI_of h
    by_cases h2 : j < n
    · exact Or.inr (Or.inr ⟨j, h2, rfl⟩)
    · exact Or.inr (Or.inl (nI_le (by omega) hj))
theorem pk_le {x y : Int32} {A B : Prop} (a b : Nat) (f : a ≤ b → A) (g : b < a → B) (hx : x = nI a := by rfl) (hy : y = nI b := by rfl) (ha : a < 2 ^ 31 := by omega) (hb : b < 2 ^ 31 := by omega) : (x ≤ y → A) ∧ (¬ x ≤ y → B) := by
  subst hx hy
  rw [nI_leI ha hb]
  exact ⟨f, fun z => g (by omega)⟩
theorem pk_lt {x y : Int32} {A B : Prop} (a b : Nat) (f : a < b → A) (g : b ≤ a → B) (hx : x = nI a := by rfl) (hy : y = nI b := by rfl) (ha : a < 2 ^ 31 := by omega) (hb : b < 2 ^ 31 := by omega) : (x < y → A) ∧ (¬ x < y → B) := by
  subst hx hy
  rw [nI_ltI ha hb]
  exact ⟨f, fun z => g (by omega)⟩
theorem pk_eq {x y : Int32} {A B : Prop} (a b : Nat) (f : a = b → A) (g : a ≠ b → B) (hx : x = nI a := by rfl) (hy : y = nI b := by rfl) (ha : a < 2 ^ 31 := by omega) (hb : b < 2 ^ 31 := by omega) : (x = y → A) ∧ (¬ x = y → B) := by
  subst hx hy
  rw [nI_eq ha hb]
  exact ⟨f, g⟩
theorem pk_in {x : Int32} (n N : Nat) (h : n < N) (hx : x = nI n := by rfl) (hN : N < 2 ^ 31 := by omega) : vp_in x N := by
  subst hx
  exact vp_in_nI h hN
theorem pk_cl {x : Int32} (n : Nat) (hx : x = nI n := by rfl) (h : n < 2 ^ 31 := by omega) : x.toNatClampNeg = n := by
  subst hx
  exact nI_clamp h
theorem pk_tn {n : Nat} (h : n < 2 ^ 32) : (nI n).toBitVec.toNat = n := Nat.mod_eq_of_lt h
theorem pk_lT {n : Nat} (h : n < 2 ^ 63) : (lN n).toInt = (n : Int) := lg_ofNat_toInt h
theorem pk_lLT {a b : Nat} (ha : a < 2 ^ 63) (hb : b < 2 ^ 63) : lN a < lN b ↔ a < b := by
  rw [Int64.lt_iff_toInt_lt, pk_lT ha, pk_lT hb]; omega
theorem pk_lLE {a b : Nat} (ha : a < 2 ^ 63) (hb : b < 2 ^ 63) : lN a ≤ lN b ↔ a ≤ b := by
  rw [Int64.le_iff_toInt_le, pk_lT ha, pk_lT hb]; omega
theorem pk_lEQ {a b : Nat} (ha : a < 2 ^ 63) (hb : b < 2 ^ 63) : lN a = lN b ↔ a = b := by
  rw [← Int64.toInt_inj, pk_lT ha, pk_lT hb]; omega
theorem pk_lOf {x : Int64} (h : ¬ x < 0) : ∃ k : Nat, k < 2 ^ 63 ∧ x = lN k := by
  rw [Int64.lt_iff_toInt_lt] at h
  have h0 : (0 : Int64).toInt = 0 := by decide
  have hx := Int64.toInt_lt x
  refine ⟨x.toInt.toNat, by omega, Int64.toInt_inj.mp ?_⟩
  rw [pk_lT (by omega)]
  omega
theorem pk_lDiv {a b : Nat} (ha : a < 2 ^ 63) (h0 : 0 < b) (hb : b < 2 ^ 63) : lN a / lN b = lN (a / b) := by
  apply Int64.toInt_inj.mp
  rw [lg_ldiv_nonneg (by rw [pk_lT ha]; omega) (by rw [pk_lT hb]; omega), pk_lT ha, pk_lT hb, pk_lT (Nat.lt_of_le_of_lt (Nat.div_le_self a b) ha)]
  rfl
theorem pk_lRem {a b : Nat} (ha : a < 2 ^ 63) (h0 : 0 < b) (hb : b < 2 ^ 63) : lN a - lN a / lN b * lN b = lN (a % b) := by
  rw [pk_lDiv ha h0 hb, lN_mul, lN_sub (Nat.div_mul_le_self a b)]
  exact congrArg lN (by have := Nat.div_add_mod' a b; omega)
theorem pk_least (P : Nat → Prop) (h : ∃ k, P k) : ∃ k, P k ∧ ∀ j, j < k → ¬ P j := by
  obtain ⟨k, hk⟩ := h
  induction k using Nat.strongRecOn with
  | ind k ih =>
    by_cases e : ∃ j, j < k ∧ P j
    · obtain ⟨j, hj, pj⟩ := e
      exact ih j hj pj
    · exact ⟨k, hk, fun j hj pj => e ⟨j, hj, pj⟩⟩
/-- an array of naturals, of ligatures (10 or more: none), of integers, of truths -/
def gd_tI (t : Nat → Nat) : Nat → Int32 := fun i => nI (t i)
def gd_lI (l : Nat → Nat) : Nat → Int32 := fun i => if l i < 10 then nI (l i) else -1
def gd_iI (z : Int) : Int32 := Int32.ofInt z
def gd_kI (k : Nat → Int) : Nat → Int32 := fun i => gd_iI (k i)
def gd_bI (b : Bool) : Int32 := cond b 1 0
def gd_un (f : Nat → Nat) (k x : Nat) : Nat → Nat := fun j => if j = k then x else f j
theorem gd_toInt {z : Int} (h1 : -1073741824 ≤ z) (h2 : z ≤ 1073741824) : (gd_iI z).toInt = z := Int32.toInt_ofInt_of_le (by omega) (by omega)
theorem gd_nat (n : Nat) : nI n = gd_iI n := Int32.ofInt_eq_ofNat.symm
theorem gd_add (a b : Int) : gd_iI a + gd_iI b = gd_iI (a + b) := (Int32.ofInt_add a b).symm
theorem gd_sub (a b : Int) : gd_iI a - gd_iI b = gd_iI (a - b) := (Int32.ofInt_sub a b).symm
theorem gd_mul (a b : Int) : gd_iI a * gd_iI b = gd_iI (a * b) := (Int32.ofInt_mul a b).symm
theorem gd_neg (a : Int) : -gd_iI a = gd_iI (-a) := (Int32.ofInt_neg a).symm
theorem gd_0 : gd_iI 0 = 0 := rfl
theorem gd_zle {x y : Int32} {A B : Prop} (a b : Int) (f : a ≤ b → A) (g : b < a → B) (hx : x = gd_iI a := by rfl) (hy : y = gd_iI b := by rfl) (ha : -1073741824 ≤ a ∧ a ≤ 1073741824 := by omega) (hb : -1073741824 ≤ b ∧ b ≤ 1073741824 := by omega) : (x ≤ y → A) ∧ (¬ x ≤ y → B) := by
  subst hx hy
  rw [Int32.le_iff_toInt_le, gd_toInt ha.1 ha.2, gd_toInt hb.1 hb.2]
  exact ⟨f, fun z => g (by omega)⟩
theorem gd_zlt {x y : Int32} {A B : Prop} (a b : Int) (f : a < b → A) (g : b ≤ a → B) (hx : x = gd_iI a := by rfl) (hy : y = gd_iI b := by rfl) (ha : -1073741824 ≤ a ∧ a ≤ 1073741824 := by omega) (hb : -1073741824 ≤ b ∧ b ≤ 1073741824 := by omega) : (x < y → A) ∧ (¬ x < y → B) := by
  subst hx hy
  rw [Int32.lt_iff_toInt_lt, gd_toInt ha.1 ha.2, gd_toInt hb.1 hb.2]
  exact ⟨f, fun z => g (by omega)⟩
theorem gd_zeq {x y : Int32} {A B : Prop} (a b : Int) (f : a = b → A) (g : a ≠ b → B) (hx : x = gd_iI a := by rfl) (hy : y = gd_iI b := by rfl) (ha : -1073741824 ≤ a ∧ a ≤ 1073741824 := by omega) (hb : -1073741824 ≤ b ∧ b ≤ 1073741824 := by omega) : (x = y → A) ∧ (¬ x = y → B) := by
  subst hx hy
  rw [← Int32.toInt_inj, gd_toInt ha.1 ha.2, gd_toInt hb.1 hb.2]
  exact ⟨f, g⟩
/-- an integer is a small one -/
theorem gd_of (x : Int32) : x = gd_iI x.toInt := (Int32.ofInt_toInt x).symm
theorem gd_rt {t : Nat → Nat} {i : Nat} (h : i < 2 ^ 31) : gd_tI t (nI i).toNatClampNeg = nI (t i) := by rw [nI_clamp h]; rfl
theorem gd_rk {k : Nat → Int} {i : Nat} (h : i < 2 ^ 31) : gd_kI k (nI i).toNatClampNeg = gd_iI (k i) := by rw [nI_clamp h]; rfl
theorem gd_ra {a : Nat → Int32} {i : Nat} (h : i < 2 ^ 31) : a (nI i).toNatClampNeg = a i := by rw [nI_clamp h]
theorem gd_rL {a : Nat → Int64} {i : Nat} (h : i < 2 ^ 31) : a (nI i).toNatClampNeg = a i := by rw [nI_clamp h]
theorem gd_b0 : vp_nar .boolean 0 = 0 := rfl
theorem gd_b1 : vp_nar .boolean 1 = 1 := rfl
theorem gd_bn (b : Bool) : vp_nar .boolean (gd_bI b) = gd_bI b := by cases b <;> rfl
theorem gd_li {l : Nat → Nat} {i : Nat} (h : l i < 10) : gd_lI l i = nI (l i) := if_pos h
theorem gd_lo {l : Nat → Nat} {i : Nat} (h : ¬ l i < 10) : gd_lI l i = -1 := if_neg h
theorem gd_nm1 {n : Nat} (h : n < 2 ^ 31) : ¬ nI n = -1 := by
  intro e
  have := congrArg Int32.toInt e
  rw [nI_toInt h] at this
  have h2 : (-1 : Int32).toInt = -1 := by decide
  omega
theorem gd_bt {b : Bool} {A B : Prop} (f : b = false → A) (g : b = true → B) : (gd_bI b = 0 → A) ∧ (¬ gd_bI b = 0 → B) := by
  cases b
  · exact br_t rfl (f rfl)
  · exact br_f (by decide) (g rfl)
/-- a branch over a truth of a read cell -/
theorem gd_bx {x : Int32} {A B : Prop} (b : Bool) (hx : x = gd_bI b) (f : b = false → A) (g : b = true → B) : (x = 0 → A) ∧ (¬ x = 0 → B) := by
  subst hx
  exact gd_bt f g
/-- a value by naturals, or too small, or too great -/
theorem gd_in {x : Int32} (h : 0 ≤ x) : ∃ j : Nat, j < 2 ^ 31 ∧ x = nI j := nI_of (Int32.not_lt.mpr h)
theorem gd_p1 {i : Nat} (h : 0 < i) : nI i - 1 = nI (i - 1) := by
  obtain ⟨k, rfl⟩ : ∃ k, i = k + 1 := ⟨i - 1, by omega⟩
  exact nI_pred k
theorem gd_q1 {i : Nat} (h : 0 < i) : nI i + (-1) = nI (i - 1) := by
  obtain ⟨k, rfl⟩ : ∃ k, i = k + 1 := ⟨i - 1, by omega⟩
  exact pk_m1 k
end
section
/-! the pure shaping of a stretch that begins at s: the glyph at work, its head, its number, its final value -/
def sh_cg (t lg : Nat → Nat) (s : Nat) : Nat → Nat
  | 0 => t 0
  | i + 1 => if s < i + 1 ∧ t i < 10 ∧ t (i + 1) < 10 ∧ lg (10 * sh_cg t lg s i + t (i + 1)) < 10 then lg (10 * sh_cg t lg s i + t (i + 1)) else t (i + 1)
def sh_jn (t lg : Nat → Nat) (s : Nat) : Nat → Bool
  | 0 => false
  | i + 1 => decide (s < i + 1 ∧ t i < 10 ∧ t (i + 1) < 10 ∧ lg (10 * sh_cg t lg s i + t (i + 1)) < 10)
def sh_hd (t lg : Nat → Nat) (s : Nat) : Nat → Nat
  | 0 => 0
  | i + 1 => if sh_jn t lg s (i + 1) = true then sh_hd t lg s i else i + 1
def sh_od (t lg : Nat → Nat) (s : Nat) : Nat → Nat
  | 0 => 0
  | i + 1 => if i + 1 ≤ s then 0 else if sh_jn t lg s (i + 1) = true then sh_od t lg s i else sh_od t lg s i + 1
def sh_fg (t lg : Nat → Nat) (s : Nat) : Nat → Nat → Nat
  | 0, i => sh_cg t lg s i
  | d + 1, i => if sh_jn t lg s (i + 1) = true then sh_fg t lg s d (i + 1) else sh_cg t lg s i
def sh_fe (t lg : Nat → Nat) (s e i : Nat) : Nat := sh_fg t lg s (e - 1 - i) i
section
variable {t lg : Nat → Nat} {s : Nat}
theorem sh_jn_s (i : Nat) : sh_jn t lg s (i + 1) = true ↔ (s < i + 1 ∧ t i < 10 ∧ t (i + 1) < 10 ∧ lg (10 * sh_cg t lg s i + t (i + 1)) < 10) := by
  rw [sh_jn, decide_eq_true_eq]
theorem sh_cg_s (i : Nat) : sh_cg t lg s (i + 1) = if sh_jn t lg s (i + 1) = true then lg (10 * sh_cg t lg s i + t (i + 1)) else t (i + 1) := by
  rw [sh_cg]
  by_cases h : sh_jn t lg s (i + 1) = true
  · rw [if_pos h, if_pos ((sh_jn_s i).mp h)]
  · rw [if_neg h, if_neg (fun z => h ((sh_jn_s i).mpr z))]
theorem sh_cg_t {i : Nat} (h : sh_jn t lg s i = false) : sh_cg t lg s i = t i := by
  cases i with
  | zero => rfl
  | succ i => rw [sh_cg_s, if_neg (by rw [h]; decide)]
theorem sh_cg_lt {i : Nat} (h : t i < 10) : sh_cg t lg s i < 10 := by
  cases i with
  | zero => exact h
  | succ i =>
    rw [sh_cg_s]
    by_cases z : sh_jn t lg s (i + 1) = true
    · rw [if_pos z]; exact ((sh_jn_s i).mp z).2.2.2
    · rw [if_neg z]; exact h
theorem sh_hd_le (i : Nat) : sh_hd t lg s i ≤ i := by
  induction i with
  | zero => exact Nat.le_refl 0
  | succ i ih => rw [sh_hd]; split <;> omega
theorem sh_hd_ge {j i : Nat} (h : sh_jn t lg s (j + 1) = false) (hji : j + 1 ≤ i) : j + 1 ≤ sh_hd t lg s i := by
  induction i with
  | zero => omega
  | succ i ih =>
    rw [sh_hd]
    by_cases e : j = i
    · subst e; rw [if_neg (by rw [h]; decide)]; omega
    · have := ih (by omega)
      split <;> omega
theorem sh_hd_j {i : Nat} (h : sh_jn t lg s (i + 1) = true) : sh_hd t lg s (i + 1) = sh_hd t lg s i := by rw [sh_hd, if_pos h]
theorem sh_hd_n {i : Nat} (h : sh_jn t lg s i = false) : sh_hd t lg s i = i := by
  cases i with
  | zero => rfl
  | succ i => rw [sh_hd, if_neg (by rw [h]; decide)]
theorem sh_hd_i {i : Nat} : sh_hd t lg s i = i ↔ sh_jn t lg s i = false := by
  constructor
  · intro h
    cases i with
    | zero => rfl
    | succ i =>
      cases e : sh_jn t lg s (i + 1)
      · rfl
      · rw [sh_hd_j e] at h
        have := sh_hd_le (t := t) (lg := lg) (s := s) i
        omega
  · exact sh_hd_n
theorem sh_jn_0 {i : Nat} (h : i ≤ s) : sh_jn t lg s i = false := by
  cases i with
  | zero => rfl
  | succ i => rw [sh_jn, decide_eq_false_iff_not]; omega
theorem sh_hd_gs {i : Nat} (h : s ≤ i) : s ≤ sh_hd t lg s i := by
  cases s with
  | zero => omega
  | succ s => exact sh_hd_ge (sh_jn_0 (Nat.le_refl _)) h
theorem sh_jn_n {i : Nat} (h : ¬ t i < 10) : sh_jn t lg s i = false := by
  cases i with
  | zero => rfl
  | succ i => rw [sh_jn, decide_eq_false_iff_not]; omega
theorem sh_jn_p {i : Nat} (h : ¬ t i < 10) : sh_jn t lg s (i + 1) = false := by
  rw [sh_jn, decide_eq_false_iff_not]; omega
theorem sh_fg_1 (d i : Nat) : sh_fg t lg s (d + 1) i = if sh_jn t lg s (i + 1) = true then sh_fg t lg s d (i + 1) else sh_cg t lg s i := rfl
theorem sh_fg_s (d : Nat) : ∀ j, sh_fg t lg s (d + 1) j = if sh_hd t lg s j = sh_hd t lg s (j + d + 1) then sh_cg t lg s (j + d + 1) else sh_fg t lg s d j := by
  induction d with
  | zero =>
    intro j
    rw [sh_fg_1]
    cases h : sh_jn t lg s (j + 1)
    · have h1 : sh_hd t lg s (j + 0 + 1) = j + 1 := sh_hd_n h
      have h2 := sh_hd_le (t := t) (lg := lg) (s := s) j
      rw [if_neg (by decide), if_neg (by omega)]; rfl
    · rw [if_pos rfl, if_pos (sh_hd_j h).symm]; rfl
  | succ d ih =>
    intro j
    rw [sh_fg_1]
    cases h : sh_jn t lg s (j + 1)
    · have h1 : j + 1 ≤ sh_hd t lg s (j + (d + 1) + 1) := sh_hd_ge h (by omega)
      have h2 := sh_hd_le (t := t) (lg := lg) (s := s) j
      rw [if_neg (by decide), if_neg (by omega), sh_fg_1, if_neg (by rw [h]; decide)]
    · rw [if_pos rfl, ih (j + 1), sh_hd_j h]
      have e : j + 1 + d + 1 = j + (d + 1) + 1 := by omega
      rw [e]
      have e2 : sh_fg t lg s (d + 1) j = sh_fg t lg s d (j + 1) := by rw [sh_fg_1, if_pos h]
      rw [e2]
theorem sh_fe_s {j i : Nat} (h : j < i) : sh_fe t lg s (i + 1) j = if sh_hd t lg s j = sh_hd t lg s i then sh_cg t lg s i else sh_fe t lg s i j := by
  obtain ⟨d, rfl⟩ : ∃ d, i = j + d + 1 := ⟨i - j - 1, by omega⟩
  have e1 : j + d + 1 + 1 - 1 - j = d + 1 := by omega
  have e2 : j + d + 1 - 1 - j = d := by omega
  rw [sh_fe, sh_fe, e1, e2, sh_fg_s]
theorem sh_fe_0 {i : Nat} : sh_fe t lg s (i + 1) i = sh_cg t lg s i := by
  have e : i + 1 - 1 - i = 0 := by omega
  rw [sh_fe, e]; rfl
theorem sh_fg_lt (d : Nat) : ∀ j, t j < 10 → sh_fg t lg s d j < 10 := by
  induction d with
  | zero => intro j h; exact sh_cg_lt h
  | succ d ih =>
    intro j h
    rw [sh_fg_1]
    by_cases z : sh_jn t lg s (j + 1) = true
    · rw [if_pos z]; exact ih _ ((sh_jn_s j).mp z).2.2.1
    · rw [if_neg z]; exact sh_cg_lt h
theorem sh_fe_lt {e j : Nat} (h : t j < 10) : sh_fe t lg s e j < 10 := sh_fg_lt _ j h
theorem sh_fe_j {e i : Nat} (h : sh_jn t lg s (i + 1) = true) (hi : i + 1 < e) : sh_fe t lg s e i = sh_fe t lg s e (i + 1) := by
  obtain ⟨d, rfl⟩ : ∃ d, e = i + 1 + d + 1 := ⟨e - (i + 1) - 1, by omega⟩
  have e1 : i + 1 + d + 1 - 1 - i = d + 1 := by omega
  have e2 : i + 1 + d + 1 - 1 - (i + 1) = d := by omega
  rw [sh_fe, sh_fe, e1, e2, sh_fg_1, if_pos h]
/-- numbers of glyphs -/
theorem sh_od_0 {i : Nat} (h : i ≤ s) : sh_od t lg s i = 0 := by
  cases i with
  | zero => rfl
  | succ i => rw [sh_od, if_pos h]
theorem sh_od_j {i : Nat} (h : sh_jn t lg s (i + 1) = true) : sh_od t lg s (i + 1) = sh_od t lg s i := by
  rw [sh_od, if_neg (by have := (sh_jn_s i).mp h; omega), if_pos h]
theorem sh_od_n {i : Nat} (hs : s ≤ i) (h : sh_jn t lg s (i + 1) = false) : sh_od t lg s (i + 1) = sh_od t lg s i + 1 := by
  rw [sh_od, if_neg (by omega), if_neg (by rw [h]; decide)]
theorem sh_od_le {i : Nat} (hs : s ≤ i) : sh_od t lg s i ≤ i - s := by
  induction i with
  | zero => exact Nat.zero_le _
  | succ i ih =>
    rw [sh_od]
    split
    · omega
    · have := ih (by omega)
      split <;> omega
theorem sh_od_mono {j i : Nat} (hs : s ≤ j) (h : j ≤ i) : sh_od t lg s j ≤ sh_od t lg s i := by
  induction i with
  | zero => rw [show j = 0 by omega]; exact Nat.le_refl _
  | succ i ih =>
    by_cases e : j = i + 1
    · rw [e]; exact Nat.le_refl _
    · have h1 := ih (by omega)
      cases z : sh_jn t lg s (i + 1)
      · rw [sh_od_n (by omega) z]; omega
      · rw [sh_od_j z]; omega
theorem sh_od_hd {j i : Nat} (hs : s ≤ j) (h : j ≤ i) : sh_od t lg s j = sh_od t lg s i ↔ sh_hd t lg s j = sh_hd t lg s i := by
  induction i with
  | zero => rw [show j = 0 by omega]; exact ⟨fun _ => rfl, fun _ => rfl⟩
  | succ i ih =>
    by_cases e : j = i + 1
    · rw [e]; exact ⟨fun _ => rfl, fun _ => rfl⟩
    · have h1 := ih (by omega)
      cases z : sh_jn t lg s (i + 1)
      · rw [sh_od_n (by omega) z, sh_hd_n z]
        have h2 := sh_od_mono (t := t) (lg := lg) hs (show j ≤ i by omega)
        have h3 := sh_hd_le (t := t) (lg := lg) (s := s) j
        omega
      · rw [sh_od_j z, sh_hd_j z]; exact h1
end
/-! two stretches agree on a word that begins at s2 -/
section
variable {t lg : Nat → Nat} {s s2 : Nat}
theorem sh_cg_w (hs : s ≤ s2) (h0 : s2 = s ∨ ¬ t (s2 - 1) < 10) (d : Nat) : sh_cg t lg s (s2 + d) = sh_cg t lg s2 (s2 + d) := by
  have b : ∀ s', s' ≤ s2 → (s2 = s' ∨ ¬ t (s2 - 1) < 10) → sh_cg t lg s' s2 = t s2 := by
    intro s' h1 h2
    apply sh_cg_t
    rcases h2 with h2 | h2
    · exact sh_jn_0 (by omega)
    · cases s2 with
      | zero => rfl
      | succ k => exact sh_jn_p h2
  induction d with
  | zero => rw [Nat.add_zero, b s hs h0, b s2 (Nat.le_refl _) (Or.inl rfl)]
  | succ d ih =>
    show sh_cg t lg s (s2 + d + 1) = sh_cg t lg s2 (s2 + d + 1)
    rw [sh_cg, sh_cg, ih]
    have e : (s < s2 + d + 1 ∧ t (s2 + d) < 10 ∧ t (s2 + d + 1) < 10 ∧ lg (10 * sh_cg t lg s2 (s2 + d) + t (s2 + d + 1)) < 10) ↔ (s2 < s2 + d + 1 ∧ t (s2 + d) < 10 ∧ t (s2 + d + 1) < 10 ∧ lg (10 * sh_cg t lg s2 (s2 + d) + t (s2 + d + 1)) < 10) := by
      constructor <;> rintro ⟨h1, h2⟩ <;> exact ⟨by omega, h2⟩
    by_cases c : (s2 < s2 + d + 1 ∧ t (s2 + d) < 10 ∧ t (s2 + d + 1) < 10 ∧ lg (10 * sh_cg t lg s2 (s2 + d) + t (s2 + d + 1)) < 10)
    · rw [if_pos c, if_pos (e.mpr c)]
    · rw [if_neg c, if_neg (fun z => c (e.mp z))]
theorem sh_jn_w (hs : s ≤ s2) (h0 : s2 = s ∨ ¬ t (s2 - 1) < 10) {i : Nat} (hi : s2 ≤ i) : sh_jn t lg s i = sh_jn t lg s2 i := by
  by_cases e : i = s2
  · subst e
    rw [sh_jn_0 (s := i) (Nat.le_refl _)]
    rcases h0 with h0 | h0
    · exact sh_jn_0 (by omega)
    · cases i with
      | zero => rfl
      | succ k => exact sh_jn_p h0
  · obtain ⟨d, rfl⟩ : ∃ d, i = s2 + d + 1 := ⟨i - s2 - 1, by omega⟩
    rw [sh_jn, sh_jn, sh_cg_w hs h0 d]
    congr 1
    apply propext
    constructor <;> rintro ⟨h1, h2⟩ <;> exact ⟨by omega, h2⟩
theorem sh_fg_w (hs : s ≤ s2) (h0 : s2 = s ∨ ¬ t (s2 - 1) < 10) : ∀ (d i : Nat), s2 ≤ i → sh_fg t lg s d i = sh_fg t lg s2 d i := by
  intro d
  induction d with
  | zero =>
    intro i hi
    obtain ⟨k, rfl⟩ : ∃ k, i = s2 + k := ⟨i - s2, by omega⟩
    exact sh_cg_w hs h0 k
  | succ d ih =>
    intro i hi
    rw [sh_fg_1, sh_fg_1, ih (i + 1) (by omega), sh_jn_w hs h0 (by omega)]
    obtain ⟨k, rfl⟩ : ∃ k, i = s2 + k := ⟨i - s2, by omega⟩
    rw [sh_cg_w hs h0 k]
/-- where a word ends the rest of the line doesn't matter -/
theorem sh_fg_e {e : Nat} (he : ¬ t e < 10) : ∀ (d k i : Nat), i + 1 + d = e → sh_fg t lg s (d + k) i = sh_fg t lg s d i := by
  intro d
  induction d with
  | zero =>
    intro k i h
    cases k with
    | zero => rfl
    | succ k =>
      rw [show 0 + (k + 1) = k + 1 by omega, sh_fg_1, if_neg (by rw [sh_jn_n (by rw [show i + 1 = e by omega]; exact he)]; decide)]; rfl
  | succ d ih =>
    intro k i h
    rw [show d + 1 + k = d + k + 1 by omega, sh_fg_1, sh_fg_1, ih k (i + 1) (by omega)]
theorem sh_fe_w {e to i : Nat} (hs : s ≤ s2) (h0 : s2 = s ∨ ¬ t (s2 - 1) < 10) (h1 : s2 ≤ i) (h2 : i < e) (h3 : e ≤ to) (h4 : e = to ∨ ¬ t e < 10) : sh_fe t lg s to i = sh_fe t lg s2 e i := by
  rw [sh_fe, sh_fe, ← sh_fg_w hs h0 _ i h1]
  rcases h4 with h4 | h4
  · rw [h4]
  · obtain ⟨k, hk⟩ : ∃ k, to - 1 - i = e - 1 - i + k := ⟨to - e, by omega⟩
    rw [hk]
    exact sh_fg_e h4 _ k i (by omega)
end
end
section
/-! the running width of a line that begins at s and ends at e; the spaces in it -/
def rn_gp (t lg : Nat → Nat) (kn : Nat → Int) (sw : Nat) (s e i : Nat) : Int :=
  if s < i then (if t (i - 1) < 10 then kn (10 * sh_fe t lg s e (i - 1) + sh_fe t lg s e i) else (sw : Int)) else 0
def rn_x (t lg w : Nat → Nat) (kn : Nat → Int) (sw : Nat) (s e : Nat) : Nat → Int
  | 0 => 0
  | i + 1 => if i < s then 0 else if t i < 10 ∧ sh_jn t lg s i = false then rn_x t lg w kn sw s e i + rn_gp t lg kn sw s e i + (w (sh_fe t lg s e i) : Int) else rn_x t lg w kn sw s e i
def rn_sc (t : Nat → Nat) (s : Nat) : Nat → Nat
  | 0 => 0
  | i + 1 => if s < i ∧ t i < 10 ∧ ¬ t (i - 1) < 10 then rn_sc t s i + 1 else rn_sc t s i
section
variable {t lg w : Nat → Nat} {kn : Nat → Int} {sw s e : Nat}
theorem rn_x0 {i : Nat} (h : i ≤ s) : rn_x t lg w kn sw s e i = 0 := by
  cases i with
  | zero => rfl
  | succ i => rw [rn_x, if_pos (by omega)]
theorem rn_xh {i : Nat} (hs : s ≤ i) (h : t i < 10) (hj : sh_jn t lg s i = false) : rn_x t lg w kn sw s e (i + 1) = rn_x t lg w kn sw s e i + rn_gp t lg kn sw s e i + (w (sh_fe t lg s e i) : Int) := by
  rw [rn_x, if_neg (by omega), if_pos ⟨h, hj⟩]
theorem rn_xn {i : Nat} (hs : s ≤ i) (h : ¬ t i < 10 ∨ sh_jn t lg s i = true) : rn_x t lg w kn sw s e (i + 1) = rn_x t lg w kn sw s e i := by
  rw [rn_x, if_neg (by omega), if_neg]
  rintro ⟨a, b⟩
  rcases h with h | h
  · exact h a
  · rw [h] at b; exact absurd b (by decide)
theorem rn_sc0 {i : Nat} (h : i ≤ s + 1) : rn_sc t s i = 0 := by
  induction i with
  | zero => rfl
  | succ i ih => rw [rn_sc, if_neg (by omega)]; exact ih (by omega)
theorem rn_scy {i : Nat} (hs : s < i) (h : t i < 10) (hj : ¬ t (i - 1) < 10) : rn_sc t s (i + 1) = rn_sc t s i + 1 := by
  rw [rn_sc, if_pos ⟨hs, h, hj⟩]
theorem rn_scn {i : Nat} (h : ¬ t i < 10 ∨ t (i - 1) < 10) : rn_sc t s (i + 1) = rn_sc t s i := by
  rw [rn_sc, if_neg]
  rintro ⟨a, b, c⟩
  rcases h with h | h
  · exact h b
  · exact c h
theorem rn_sc_le (i : Nat) : rn_sc t s i ≤ i - s := by
  induction i with
  | zero => exact Nat.zero_le _
  | succ i ih => rw [rn_sc]; split <;> omega
theorem rn_gp_b (hsw : sw ≤ 20) (hk : ∀ i, -5 ≤ kn i ∧ kn i ≤ 5) (i : Nat) : -5 ≤ rn_gp t lg kn sw s e i ∧ rn_gp t lg kn sw s e i ≤ 20 := by
  rw [rn_gp]
  split
  · split
    · have := hk (10 * sh_fe t lg s e (i - 1) + sh_fe t lg s e i); omega
    · omega
  · omega
theorem rn_x_b (hsw : sw ≤ 20) (hk : ∀ i, -5 ≤ kn i ∧ kn i ≤ 5) (hw : ∀ i, w i ≤ 30) (i : Nat) : -5 * (i : Int) ≤ rn_x t lg w kn sw s e i ∧ rn_x t lg w kn sw s e i ≤ 50 * (i : Int) := by
  induction i with
  | zero => rw [rn_x]; omega
  | succ i ih =>
    rw [rn_x]
    split
    · omega
    · split
      · have h1 := rn_gp_b (t := t) (lg := lg) (s := s) (e := e) hsw hk i
        have h2 := hw (sh_fe t lg s e i)
        omega
      · omega
end
/-- a word [s2, e) within the line [s, to) -/
theorem rn_word {t lg w : Nat → Nat} {kn : Nat → Int} {sw s s2 e to : Nat} (hs : s ≤ s2) (h0 : s2 = s ∨ ¬ t (s2 - 1) < 10) (hl : ∀ i, s2 ≤ i → i < e → t i < 10) (h3 : e ≤ to) (h4 : e = to ∨ ¬ t e < 10) :
    ∀ d, s2 + d + 1 ≤ e → rn_x t lg w kn sw s to (s2 + d + 1) = rn_x t lg w kn sw s to s2 + rn_gp t lg kn sw s to s2 + rn_x t lg w kn sw s2 e (s2 + d + 1) := by
  intro d
  induction d with
  | zero =>
    intro hd
    have j1 : sh_jn t lg s s2 = false := by rw [sh_jn_w hs h0 (Nat.le_refl _)]; exact sh_jn_0 (Nat.le_refl _)
    have j2 : sh_jn t lg s2 s2 = false := sh_jn_0 (Nat.le_refl _)
    rw [Nat.add_zero, rn_xh hs (hl s2 (by omega) (by omega)) j1, rn_xh (Nat.le_refl _) (hl s2 (by omega) (by omega)) j2, rn_x0 (s := s2) (Nat.le_refl _), sh_fe_w hs h0 (Nat.le_refl _) (by omega) h3 h4]
    rw [show rn_gp t lg kn sw s2 e s2 = 0 by rw [rn_gp, if_neg (by omega)]]
    omega
  | succ d ih =>
    intro hd
    have ih := ih (by omega)
    have l1 : t (s2 + d + 1) < 10 := hl _ (by omega) (by omega)
    have jw : sh_jn t lg s (s2 + d + 1) = sh_jn t lg s2 (s2 + d + 1) := sh_jn_w hs h0 (by omega)
    show rn_x t lg w kn sw s to (s2 + d + 1 + 1) = _ + rn_x t lg w kn sw s2 e (s2 + d + 1 + 1)
    cases hj : sh_jn t lg s2 (s2 + d + 1)
    · rw [hj] at jw
      rw [rn_xh (by omega) l1 jw, rn_xh (by omega) l1 hj, ih, sh_fe_w hs h0 (by omega) (by omega) h3 h4]
      have g : rn_gp t lg kn sw s to (s2 + d + 1) = rn_gp t lg kn sw s2 e (s2 + d + 1) := by
        have l2 : t (s2 + d + 1 - 1) < 10 := hl _ (by omega) (by omega)
        rw [rn_gp, rn_gp, if_pos (show s < s2 + d + 1 by omega), if_pos (show s2 < s2 + d + 1 by omega), if_pos l2, if_pos l2, sh_fe_w hs h0 (by omega) (by omega) h3 h4, sh_fe_w hs h0 (by omega) (by omega) h3 h4]
      rw [g]
      omega
    · rw [hj] at jw
      rw [rn_xn (by omega) (Or.inr jw), rn_xn (by omega) (Or.inr hj), ih]
/-- over codes that are no letters nothing is added -/
theorem rn_flat {t lg w : Nat → Nat} {kn : Nat → Int} {sw s e i : Nat} (hs : s ≤ i) : ∀ d, (∀ j, i ≤ j → j < i + d → ¬ t j < 10) → rn_x t lg w kn sw s e (i + d) = rn_x t lg w kn sw s e i := by
  intro d
  induction d with
  | zero => intro _; rfl
  | succ d ih =>
    intro h
    show rn_x t lg w kn sw s e (i + d + 1) = _
    rw [rn_xn (by omega) (Or.inl (h _ (by omega) (by omega)))]
    exact ih (fun j a b => h j a (by omega))
theorem rn_sflat {t : Nat → Nat} {s i : Nat} : ∀ d, (∀ j, i ≤ j → j < i + d → ¬ t j < 10) → rn_sc t s (i + d) = rn_sc t s i := by
  intro d
  induction d with
  | zero => intro _; rfl
  | succ d ih =>
    intro h
    show rn_sc t s (i + d + 1) = _
    rw [rn_scn (Or.inl (h _ (by omega) (by omega)))]
    exact ih (fun j a b => h j a (by omega))
theorem rn_sword {t : Nat → Nat} {s i : Nat} : ∀ d, (∀ j, i ≤ j → j < i + d + 1 → t j < 10) → rn_sc t s (i + d + 1) = rn_sc t s (i + 1) := by
  intro d
  induction d with
  | zero => intro _; rfl
  | succ d ih =>
    intro h
    show rn_sc t s (i + d + 1 + 1) = _
    rw [rn_scn (Or.inr (by rw [show i + d + 1 - 1 = i + d by omega]; exact h _ (by omega) (by omega)))]
    exact ih (fun j a b => h j a (by omega))
end
section
section
variable {n lc pc fw rw fl sw ss sk ba hyc ph : Nat} {t w lg : Nat → Nat} {kn : Nat → Int}
variable {x_breakCount x_lineCount x_paragraphCount x_stale : Int32} {a_patterns a_heads a_glyphs a_breakEnd a_breakNext a_breakHyphen a_breakTaken a_wayBefore a_lineFacts : Nat → Int32} {a_wayDemerits a_paragraphDemerits : Nat → Int64}
theorem xs_loop (post : SX → Prop) {s e : Nat} (he : e ≤ 48) (ht : ∀ i, t i ≤ 11)
    (hp : ∀ a_heads a_glyphs, (∀ j, s ≤ j → j < e → t j < 10 → a_heads j = nI (sh_hd t lg s j) ∧ a_glyphs (sh_hd t lg s j) = nI (sh_fe t lg s e j)) → post ((nI n), (nI lc), (nI pc), (nI fw), (nI rw), (nI fl), (nI sw), (nI ss), (nI sk), (nI ba), (nI hyc), (nI ph), x_breakCount, x_lineCount, x_paragraphCount, x_stale, (gd_tI t), (gd_tI w), (gd_lI lg), (gd_kI kn), a_patterns, a_heads, a_glyphs, a_breakEnd, a_breakNext, a_breakHyphen, a_breakTaken, a_wayDemerits, a_wayBefore, a_lineFacts, a_paragraphDemerits)) :
    ∀ d i, i + d = e → s ≤ i → ∀ x3 a_heads a_glyphs, (s < i → t (i - 1) < 10 → x3 = nI (sh_hd t lg s (i - 1))) → (∀ j, s ≤ j → j < i → t j < 10 → a_heads j = nI (sh_hd t lg s j) ∧ a_glyphs (sh_hd t lg s j) = nI (sh_fe t lg s i j)) → wX_shape_5 post (nI s) (nI e) (nI n) (nI lc) (nI pc) (nI fw) (nI rw) (nI fl) (nI sw) (nI ss) (nI sk) (nI ba) (nI hyc) (nI ph) x_breakCount x_lineCount x_paragraphCount x_stale (d + 1) x3 (nI i) (gd_tI t) (gd_tI w) (gd_lI lg) (gd_kI kn) a_patterns a_heads a_glyphs a_breakEnd a_breakNext a_breakHyphen a_breakTaken a_wayDemerits a_wayBefore a_lineFacts a_paragraphDemerits := by
  intro d
  induction d with
  | zero =>
    intro i hi hs x3 a_heads a_glyphs hx hI
    have : i = e := by omega
    subst this
    exact br_t (nI_le (Nat.le_refl _) (by omega)) (hp _ _ hI)
  | succ d ih =>
    intro i hi hs x3 a_heads a_glyphs hx hI
    have A : ∀ z0, z0 = -1 → t i < 10 → sh_jn t lg s i = false → wX_shape_84 post (wX_shape_5 post (nI s) (nI e) (nI n) (nI lc) (nI pc) (nI fw) (nI rw) (nI fl) (nI sw) (nI ss) (nI sk) (nI ba) (nI hyc) (nI ph) x_breakCount x_lineCount x_paragraphCount x_stale (d + 1)) (nI s) (nI e) x3 (nI i) z0 (nI n) (nI lc) (nI pc) (nI fw) (nI rw) (nI fl) (nI sw) (nI ss) (nI sk) (nI ba) (nI hyc) (nI ph) x_breakCount x_lineCount x_paragraphCount x_stale (gd_tI t) (gd_tI w) (gd_lI lg) (gd_kI kn) a_patterns a_heads a_glyphs a_breakEnd a_breakNext a_breakHyphen a_breakTaken a_wayDemerits a_wayBefore a_lineFacts a_paragraphDemerits := by
      intro z0 hz hl hj
      refine br_t hz ⟨vp_in_nI (by omega) (by omega), vp_in_nI (by omega) (by omega), nm_r (e' := upd a_glyphs i (nI (t i))) (by rw [gd_rt (by omega), nI_clamp (by omega)]) ⟨vp_in_nI (by omega) (by omega), nm_r (e' := upd a_heads i (nI i)) (by rw [nI_clamp (by omega)]) (nm_r (nI_1 i) (ih (i + 1) (by omega) (by omega) _ _ _ ?_ ?_))⟩⟩
      · intro _ _
        rw [show i + 1 - 1 = i by omega, sh_hd_n hj]
      · intro j h1 h2 h3
        by_cases e1 : j = i
        · subst e1
          rw [sh_hd_n hj, pk_us, pk_us, sh_fe_0, sh_cg_t hj]
          exact ⟨rfl, rfl⟩
        · have h4 := sh_hd_le (t := t) (lg := lg) (s := s) j
          have h5 : sh_hd t lg s i = i := sh_hd_n hj
          rw [pk_un e1, pk_un (by omega), sh_fe_s (by omega), if_neg (by omega)]
          exact hI j h1 (by omega) h3
    have B : ∀ z0, z0 = nI (lg (10 * sh_cg t lg s (i - 1) + t i)) → t i < 10 → sh_jn t lg s i = true → wX_shape_84 post (wX_shape_5 post (nI s) (nI e) (nI n) (nI lc) (nI pc) (nI fw) (nI rw) (nI fl) (nI sw) (nI ss) (nI sk) (nI ba) (nI hyc) (nI ph) x_breakCount x_lineCount x_paragraphCount x_stale (d + 1)) (nI s) (nI e) x3 (nI i) z0 (nI n) (nI lc) (nI pc) (nI fw) (nI rw) (nI fl) (nI sw) (nI ss) (nI sk) (nI ba) (nI hyc) (nI ph) x_breakCount x_lineCount x_paragraphCount x_stale (gd_tI t) (gd_tI w) (gd_lI lg) (gd_kI kn) a_patterns a_heads a_glyphs a_breakEnd a_breakNext a_breakHyphen a_breakTaken a_wayDemerits a_wayBefore a_lineFacts a_paragraphDemerits := by
      intro z0 hz hl hj
      obtain ⟨k, rfl⟩ : ∃ k, i = k + 1 := by
        cases i with
        | zero => exact absurd hj Bool.false_ne_true
        | succ k => exact ⟨k, rfl⟩
      have hj' := (sh_jn_s k).mp hj
      have hx3 := hx hj'.1 hj'.2.1
      rw [show k + 1 - 1 = k by omega] at hx3 hz
      have h6 := sh_hd_le (t := t) (lg := lg) (s := s) k
      subst hx3
      refine br_f (by rw [hz]; exact gd_nm1 (by omega)) ⟨vp_in_nI (by omega) (by omega), nm_r (e' := upd a_glyphs (sh_hd t lg s k) z0) (by rw [nI_clamp (by omega)]) ⟨vp_in_nI (by omega) (by omega), nm_r (e' := upd a_heads (k + 1) (nI (sh_hd t lg s k))) (by rw [nI_clamp (by omega)]) (nm_r (nI_1 (k + 1)) (ih (k + 1 + 1) (by omega) (by omega) _ _ _ ?_ ?_))⟩⟩
      · intro _ _
        rw [show k + 1 + 1 - 1 = k + 1 by omega, sh_hd_j hj]
      · intro j h1 h2 h3
        have hcg : sh_cg t lg s (k + 1) = lg (10 * sh_cg t lg s k + t (k + 1)) := by rw [sh_cg_s, if_pos hj]
        by_cases e1 : j = k + 1
        · subst e1
          rw [sh_hd_j hj, pk_us, pk_us, sh_fe_0, hcg, hz]
          exact ⟨rfl, rfl⟩
        · rw [pk_un e1, sh_fe_s (by omega), sh_hd_j hj]
          by_cases e2 : sh_hd t lg s j = sh_hd t lg s k
          · rw [e2, pk_us, if_pos rfl, hcg, hz]
            refine ⟨?_, rfl⟩
            rw [← e2]
            exact (hI j h1 (by omega) h3).1
          · rw [pk_un e2, if_neg e2]
            exact hI j h1 (by omega) h3
    refine br_f (nI_ge (by omega) (by omega)) ⟨vp_in_nI (by omega) (by omega), ?_⟩
    refine pk_lt (t i) 10 (fun hl => ?_) (fun hl => ?_) (gd_rt (by omega)) rfl (by have := ht i; omega) (by omega)
    · refine pk_le i s (fun his => ?_) (fun his => ?_)
      · exact br_t rfl (A _ rfl hl (sh_jn_0 his))
      · refine ⟨pk_in (i - 1) 48 (by omega) (gd_p1 (by omega)), ?_⟩
        refine pk_le 10 (t (i - 1)) (fun h1 => ?_) (fun h1 => ?_) rfl (by rw [gd_p1 (by omega), gd_rt (by omega)]) (by omega) (by have := ht (i - 1); omega)
        · refine br_t rfl (A _ rfl hl ?_)
          obtain ⟨k, rfl⟩ : ∃ k, i = k + 1 := ⟨i - 1, by omega⟩
          exact sh_jn_p (by rw [show k + 1 - 1 = k by omega] at h1; omega)
        · have hx3 := hx his h1
          have h6 := sh_hd_le (t := t) (lg := lg) (s := s) (i - 1)
          have hg := (hI (i - 1) (by omega) (by omega) h1).2
          have hfe : sh_fe t lg s i (i - 1) = sh_cg t lg s (i - 1) := by
            have := sh_fe_0 (t := t) (lg := lg) (s := s) (i := i - 1)
            rwa [show i - 1 + 1 = i by omega] at this
          rw [hfe] at hg
          have hc : sh_cg t lg s (i - 1) < 10 := sh_cg_lt h1
          have hv : (a_glyphs x3.toNatClampNeg) * 10 + gd_tI t (nI i).toNatClampNeg = nI (10 * sh_cg t lg s (i - 1) + t i) := by
            rw [hx3, nI_clamp (by omega), hg, gd_rt (by omega), show (10 : Int32) = nI 10 from rfl, pk_mul, nI_add, Nat.mul_comm]
          have hji : sh_jn t lg s i = decide (lg (10 * sh_cg t lg s (i - 1) + t i) < 10) := by
            obtain ⟨k, rfl⟩ : ∃ k, i = k + 1 := ⟨i - 1, by omega⟩
            rw [show k + 1 - 1 = k by omega] at h1 ⊢
            rw [sh_jn]
            congr 1
            apply propext
            constructor
            · exact fun h => h.2.2.2
            · exact fun h => ⟨his, h1, hl, h⟩
          refine br_f (by decide) ⟨pk_in _ 48 (by omega) hx3, vp_in_nI (by omega) (by omega), pk_in (10 * sh_cg t lg s (i - 1) + t i) 100 (by omega) hv, ?_⟩
          by_cases hlg : lg (10 * sh_cg t lg s (i - 1) + t i) < 10
          · exact B _ (by rw [hv, nI_clamp (by omega), gd_li hlg]) hl (by rw [hji]; exact decide_eq_true hlg)
          · exact A _ (by rw [hv, nI_clamp (by omega), gd_lo hlg]) hl (by rw [hji]; exact decide_eq_false hlg)
    · refine nm_r (nI_1 i) (ih (i + 1) (by omega) (by omega) _ _ _ ?_ ?_)
      · intro _ h
        rw [show i + 1 - 1 = i by omega] at h
        omega
      · intro j h1 h2 h3
        have e1 : j ≠ i := by rintro rfl; omega
        have h4 := sh_hd_le (t := t) (lg := lg) (s := s) j
        have h5 : sh_hd t lg s i = i := sh_hd_n (sh_jn_n (by omega))
        rw [sh_fe_s (by omega), if_neg (by omega)]
        exact hI j h1 (by omega) h3
/-- what X's shaping of a line [s, e) leaves: heads and glyphs -/
def xs_ok (t lg : Nat → Nat) (s e : Nat) (a_heads a_glyphs : Nat → Int32) : Prop := ∀ j, s ≤ j → j < e → t j < 10 → a_heads j = nI (sh_hd t lg s j) ∧ a_glyphs (sh_hd t lg s j) = nI (sh_fe t lg s e j)
theorem xs_shape {post : SX → Prop} {s e : Nat} (hs : s ≤ e) (he : e ≤ 48) (ht : ∀ i, t i ≤ 11)
    (hp : ∀ a_heads a_glyphs, xs_ok t lg s e a_heads a_glyphs → post ((nI n), (nI lc), (nI pc), (nI fw), (nI rw), (nI fl), (nI sw), (nI ss), (nI sk), (nI ba), (nI hyc), (nI ph), x_breakCount, x_lineCount, x_paragraphCount, x_stale, (gd_tI t), (gd_tI w), (gd_lI lg), (gd_kI kn), a_patterns, a_heads, a_glyphs, a_breakEnd, a_breakNext, a_breakHyphen, a_breakTaken, a_wayDemerits, a_wayBefore, a_lineFacts, a_paragraphDemerits)) : wpX_shape post ((nI n), (nI lc), (nI pc), (nI fw), (nI rw), (nI fl), (nI sw), (nI ss), (nI sk), (nI ba), (nI hyc), (nI ph), x_breakCount, x_lineCount, x_paragraphCount, x_stale, (gd_tI t), (gd_tI w), (gd_lI lg), (gd_kI kn), a_patterns, a_heads, a_glyphs, a_breakEnd, a_breakNext, a_breakHyphen, a_breakTaken, a_wayDemerits, a_wayBefore, a_lineFacts, a_paragraphDemerits) (nI s) (nI e) :=
  ⟨e - s + 1, xs_loop post he ht hp (e - s) s (by omega) (Nat.le_refl _) _ _ _ (fun h => absurd h (by omega)) (fun j h1 h2 => absurd h1 (by omega))⟩
end
end
section
def xr_adj (ex sp : Int32) (q : Nat) : Int32 := if sp = 0 then 0 else (ex * nI q) / sp
theorem xr_adj0 (ex sp : Int32) : xr_adj ex sp 0 = 0 := by
  rw [xr_adj]
  split
  · rfl
  · rw [nI_0, Int32.mul_zero, Int32.zero_div]
section
variable {n lc pc fw rw fl sw ss sk ba hyc ph : Nat} {t w lg : Nat → Nat} {kn : Nat → Int}
variable {x_breakCount x_lineCount x_paragraphCount x_stale : Int32} {a_patterns a_heads a_glyphs a_breakEnd a_breakNext a_breakHyphen a_breakTaken a_wayBefore a_lineFacts : Nat → Int32} {a_wayDemerits a_paragraphDemerits : Nat → Int64}
theorem xr_loop (post : Int32 → Prop) {s e g : Nat} {ex sp : Int32} (he : e ≤ 48) (ht : ∀ i, t i ≤ 11) (hok : xs_ok t lg s e a_heads a_glyphs) (hg : s ≤ g ∧ g ≤ e)
    (hp1 : g < e → post (gd_iI (rn_x t lg w kn sw s e g + rn_gp t lg kn sw s e g) + xr_adj ex sp (rn_sc t s (g + 1))))
    (hg1 : g < e → t g < 10 ∧ sh_jn t lg s g = false)
    (hp2 : g = e → post (gd_iI (rn_x t lg w kn sw s e e) + xr_adj ex sp (rn_sc t s e))) :
    ∀ d i, i + d = e → s ≤ i → i ≤ g → ∀ x6 x7 x8, (s < i → t (i - 1) < 10 → x7 = nI (sh_hd t lg s (i - 1))) → x6 = gd_iI (rn_x t lg w kn sw s e i) + xr_adj ex sp (rn_sc t s i) → x8 = nI (rn_sc t s i) → wX_reach_12 post (nI s) (nI e) (nI g) ex sp (nI n) (nI lc) (nI pc) (nI fw) (nI rw) (nI fl) (nI sw) (nI ss) (nI sk) (nI ba) (nI hyc) (nI ph) x_breakCount x_lineCount x_paragraphCount x_stale (gd_tI t) (gd_tI w) (gd_lI lg) (gd_kI kn) a_patterns a_heads a_glyphs a_breakEnd a_breakNext a_breakHyphen a_breakTaken a_wayDemerits a_wayBefore a_lineFacts a_paragraphDemerits (d + 1) x6 x7 x8 (nI i) := by
  intro d
  induction d with
  | zero =>
    intro i hi hs hig x6 x7 x8 h7 h6 h8
    have : i = e := by omega
    subst this
    refine br_t (nI_le (Nat.le_refl _) (by omega)) ?_
    rw [h6]
    exact hp2 (by omega)
  | succ d ih =>
    intro i hi hs hig x6 x7 x8 h7 h6 h8
    have hsc := rn_sc_le (t := t) (s := s) i
    have C : ∀ x6 x8, t i < 10 → sh_jn t lg s i = false → x6 = gd_iI (rn_x t lg w kn sw s e i + rn_gp t lg kn sw s e i) + xr_adj ex sp (rn_sc t s (i + 1)) → x8 = nI (rn_sc t s (i + 1)) → wX_reach_147 post (wX_reach_12 post (nI s) (nI e) (nI g) ex sp (nI n) (nI lc) (nI pc) (nI fw) (nI rw) (nI fl) (nI sw) (nI ss) (nI sk) (nI ba) (nI hyc) (nI ph) x_breakCount x_lineCount x_paragraphCount x_stale (gd_tI t) (gd_tI w) (gd_lI lg) (gd_kI kn) a_patterns a_heads a_glyphs a_breakEnd a_breakNext a_breakHyphen a_breakTaken a_wayDemerits a_wayBefore a_lineFacts a_paragraphDemerits (d + 1)) (nI s) (nI e) (nI g) ex sp x6 x8 (nI i) (nI n) (nI lc) (nI pc) (nI fw) (nI rw) (nI fl) (nI sw) (nI ss) (nI sk) (nI ba) (nI hyc) (nI ph) x_breakCount x_lineCount x_paragraphCount x_stale (gd_tI t) (gd_tI w) (gd_lI lg) (gd_kI kn) a_patterns a_heads a_glyphs a_breakEnd a_breakNext a_breakHyphen a_breakTaken a_wayDemerits a_wayBefore a_lineFacts a_paragraphDemerits := by
      intro x6 x8 hl hj h6 h8
      have hgl : a_glyphs (nI i).toNatClampNeg = nI (sh_fe t lg s e i) := by
        have h1 := (hok i hs (by omega) hl).2
        rw [sh_hd_n hj] at h1
        rw [nI_clamp (by omega), h1]
      have hf : sh_fe t lg s e i < 10 := sh_fe_lt hl
      refine pk_eq i g (fun h => ?_) (fun h => ?_)
      · subst h
        rw [h6]
        exact hp1 (by omega)
      · refine ⟨vp_in_nI (by omega) (by omega), pk_in _ 10 hf hgl, ?_⟩
        refine nm_r (e' := gd_iI (rn_x t lg w kn sw s e (i + 1)) + xr_adj ex sp (rn_sc t s (i + 1))) ?_ (nm_r (nI_1 i) (ih (i + 1) (by omega) (by omega) (by omega) _ _ _ ?_ rfl h8))
        · rw [hgl, gd_rt (by omega), h6, rn_xh hs hl hj, ← gd_add (_ + _), gd_nat]
          grind
        · intro _ _
          rw [show i + 1 - 1 = i by omega, sh_hd_n hj]
    refine br_f (nI_ge (by omega) (by omega)) ⟨vp_in_nI (by omega) (by omega), ?_⟩
    refine pk_le 10 (t i) (fun hl => ?_) (fun hl => ?_) rfl (gd_rt (by omega)) (by omega) (by have := ht i; omega)
    · have hne : i ≠ g := by
        rintro rfl
        have := (hg1 (by omega)).1
        omega
      refine nm_r (nI_1 i) (ih (i + 1) (by omega) (by omega) (by omega) _ _ _ ?_ ?_ ?_)
      · intro _ h
        rw [show i + 1 - 1 = i by omega] at h
        omega
      · rw [h6, rn_xn hs (Or.inl (by omega)), rn_scn (Or.inl (by omega))]
      · rw [h8, rn_scn (Or.inl (by omega))]
    · refine ⟨vp_in_nI (by omega) (by omega), ?_⟩
      have hh := (hok i hs (by omega) hl).1
      have hhle := sh_hd_le (t := t) (lg := lg) (s := s) i
      refine pk_eq (sh_hd t lg s i) i (fun hd => ?_) (fun hd => ?_) (by rw [nI_clamp (by omega), hh]) rfl (by omega) (by omega)
      · have hj : sh_jn t lg s i = false := sh_hd_i.mp hd
        refine pk_le i s (fun his => ?_) (fun his => ?_)
        · have : i = s := by omega
          subst this
          refine br_t (nI_le (by omega) (by omega)) (C _ _ hl hj ?_ ?_)
          · rw [h6, show rn_gp t lg kn sw i e i = 0 by rw [rn_gp, if_neg (by omega)], Int.add_zero, rn_sc0 (by omega), rn_sc0 (by omega)]
          · rw [h8, rn_sc0 (by omega), rn_sc0 (by omega)]
        · refine ⟨pk_in (i - 1) 48 (by omega) (gd_p1 (by omega)), ?_⟩
          refine pk_le 10 (t (i - 1)) (fun h1 => ?_) (fun h1 => ?_) rfl (by rw [gd_p1 (by omega), gd_rt (by omega)]) (by omega) (by have := ht (i - 1); omega)
          · have hgp : rn_gp t lg kn sw s e i = (sw : Int) := by rw [rn_gp, if_pos his, if_neg (by omega)]
            have hs1 : rn_sc t s (i + 1) = rn_sc t s i + 1 := rn_scy his hl (by omega)
            refine br_f (nI_ge (by omega) (by omega)) ?_
            refine nm_e (br_c (fun z => ?_) (fun z => ⟨z, z, ?_⟩))
            · refine nm_e (nm_e (C _ _ hl hj ?_ ?_))
              · rw [h6, hgp, xr_adj, xr_adj, if_pos z, if_pos z, ← gd_add, gd_nat]
                grind
              · rw [h8, hs1, nI_1]
            · refine nm_e (nm_e (C _ _ hl hj ?_ ?_))
              · rw [h6, hgp, xr_adj, xr_adj, if_neg z, if_neg z, ← gd_add, gd_nat sw, hs1, h8, nI_1]
                grind
              · rw [h8, hs1, nI_1]
          · have hgp : rn_gp t lg kn sw s e i = kn (10 * sh_fe t lg s e (i - 1) + sh_fe t lg s e i) := by rw [rn_gp, if_pos his, if_pos h1]
            have hx7 := h7 his h1
            have h9 := sh_hd_le (t := t) (lg := lg) (s := s) (i - 1)
            have g1 : a_glyphs x7.toNatClampNeg = nI (sh_fe t lg s e (i - 1)) := by
              rw [hx7, nI_clamp (by omega), (hok (i - 1) (by omega) (by omega) h1).2]
            have g2 : a_glyphs (nI i).toNatClampNeg = nI (sh_fe t lg s e i) := by
              have h1 := (hok i hs (by omega) hl).2
              rw [sh_hd_n hj] at h1
              rw [nI_clamp (by omega), h1]
            have f1 : sh_fe t lg s e (i - 1) < 10 := sh_fe_lt h1
            have f2 : sh_fe t lg s e i < 10 := sh_fe_lt hl
            have hv : a_glyphs x7.toNatClampNeg * 10 + a_glyphs (nI i).toNatClampNeg = nI (10 * sh_fe t lg s e (i - 1) + sh_fe t lg s e i) := by
              rw [g1, g2, show (10 : Int32) = nI 10 from rfl, pk_mul, nI_add, Nat.mul_comm]
            refine ⟨pk_in _ 48 (by omega) hx7, vp_in_nI (by omega) (by omega), pk_in _ 100 (by omega) hv, ?_⟩
            refine nm_e (C _ _ hl hj ?_ ?_)
            · rw [h6, hgp, hv, gd_rk (by omega), rn_scn (Or.inr h1), ← gd_add]
              grind
            · rw [h8, rn_scn (Or.inr h1)]
      · have hj : sh_jn t lg s i = true := by
          cases z : sh_jn t lg s i
          · exact absurd (sh_hd_n z) hd
          · rfl
        have hne : i ≠ g := by
          rintro rfl
          have := (hg1 (by omega)).2
          rw [hj] at this
          exact absurd this (by decide)
        obtain ⟨k, rfl⟩ : ∃ k, i = k + 1 := by
          cases i with
          | zero => exact absurd hj Bool.false_ne_true
          | succ k => exact ⟨k, rfl⟩
        have hj' := (sh_jn_s k).mp hj
        refine nm_r (nI_1 (k + 1)) (ih (k + 1 + 1) (by omega) (by omega) (by omega) _ _ _ ?_ ?_ ?_)
        · intro _ _
          rw [show k + 1 + 1 - 1 = k + 1 by omega, sh_hd_j hj]
          exact h7 hj'.1 hj'.2.1
        · rw [h6, rn_xn hs (Or.inr hj), rn_scn (i := k + 1) (Or.inr (show t (k + 1 - 1) < 10 from hj'.2.1))]
        · rw [h8, rn_scn (i := k + 1) (Or.inr (show t (k + 1 - 1) < 10 from hj'.2.1))]
/-- where the line ends (target: its end) -/
theorem xr_end {post : Int32 → Prop} {s e : Nat} {ex sp : Int32} (hs : s ≤ e) (he : e ≤ 48) (ht : ∀ i, t i ≤ 11) (hok : xs_ok t lg s e a_heads a_glyphs)
    (hp : post (gd_iI (rn_x t lg w kn sw s e e) + xr_adj ex sp (rn_sc t s e))) : wpX_reach post ((nI n), (nI lc), (nI pc), (nI fw), (nI rw), (nI fl), (nI sw), (nI ss), (nI sk), (nI ba), (nI hyc), (nI ph), x_breakCount, x_lineCount, x_paragraphCount, x_stale, (gd_tI t), (gd_tI w), (gd_lI lg), (gd_kI kn), a_patterns, a_heads, a_glyphs, a_breakEnd, a_breakNext, a_breakHyphen, a_breakTaken, a_wayDemerits, a_wayBefore, a_lineFacts, a_paragraphDemerits) (nI s) (nI e) (nI e) ex sp :=
  ⟨e - s + 1, xr_loop post he ht hok ⟨hs, Nat.le_refl _⟩ (fun h => absurd h (by omega)) (fun h => absurd h (by omega)) (fun _ => hp) (e - s) s (by omega) (Nat.le_refl _) hs _ _ _ (fun h => absurd h (by omega)) (by rw [rn_x0 (Nat.le_refl _), rn_sc0 (by omega), xr_adj0]; rfl) (by rw [rn_sc0 (by omega)]; rfl)⟩
theorem xr_at {post : Int32 → Prop} {s e g : Nat} {ex sp : Int32} (hs : s ≤ g) (hge : g < e) (he : e ≤ 48) (ht : ∀ i, t i ≤ 11) (hok : xs_ok t lg s e a_heads a_glyphs) (hg1 : t g < 10) (hg2 : sh_jn t lg s g = false)
    (hp : post (gd_iI (rn_x t lg w kn sw s e g + rn_gp t lg kn sw s e g) + xr_adj ex sp (rn_sc t s (g + 1)))) : wpX_reach post ((nI n), (nI lc), (nI pc), (nI fw), (nI rw), (nI fl), (nI sw), (nI ss), (nI sk), (nI ba), (nI hyc), (nI ph), x_breakCount, x_lineCount, x_paragraphCount, x_stale, (gd_tI t), (gd_tI w), (gd_lI lg), (gd_kI kn), a_patterns, a_heads, a_glyphs, a_breakEnd, a_breakNext, a_breakHyphen, a_breakTaken, a_wayDemerits, a_wayBefore, a_lineFacts, a_paragraphDemerits) (nI s) (nI e) (nI g) ex sp :=
  ⟨e - s + 1, xr_loop post he ht hok ⟨hs, by omega⟩ (fun _ => hp) (fun _ => ⟨hg1, hg2⟩) (fun h => absurd h (by omega)) (e - s) s (by omega) (Nat.le_refl _) hs _ _ _ (fun h => absurd h (by omega)) (by rw [rn_x0 (Nat.le_refl _), rn_sc0 (by omega), xr_adj0]; rfl) (by rw [rn_sc0 (by omega)]; rfl)⟩
/-- X counts the spaces of a line -/
theorem xc_loop (post : Int32 → Prop) {s e : Nat} (he : e ≤ 48) (ht : ∀ i, t i ≤ 11) (hp : post (nI (rn_sc t s e))) :
    ∀ d i, i + d = e → s < i → ∀ x3, x3 = nI (rn_sc t s i) → wX_spacesIn_7 post (nI e) (nI n) (nI lc) (nI pc) (nI fw) (nI rw) (nI fl) (nI sw) (nI ss) (nI sk) (nI ba) (nI hyc) (nI ph) x_breakCount x_lineCount x_paragraphCount x_stale (gd_tI t) (gd_tI w) (gd_lI lg) (gd_kI kn) a_patterns a_heads a_glyphs a_breakEnd a_breakNext a_breakHyphen a_breakTaken a_wayDemerits a_wayBefore a_lineFacts a_paragraphDemerits (d + 1) x3 (nI i) := by
  intro d
  induction d with
  | zero =>
    intro i hi hs x3 h3
    have : i = e := by omega
    subst this
    refine br_t (nI_le (Nat.le_refl _) (by omega)) ?_
    rw [h3]
    exact hp
  | succ d ih =>
    intro i hi hs x3 h3
    refine br_f (nI_ge (by omega) (by omega)) ⟨vp_in_nI (by omega) (by omega), ?_⟩
    refine pk_le 10 (t i) (fun hl => ?_) (fun hl => ?_) rfl (gd_rt (by omega)) (by omega) (by have := ht i; omega)
    · exact nm_r (nI_1 i) (ih (i + 1) (by omega) (by omega) _ (by rw [h3, rn_scn (Or.inl (by omega))]))
    · refine ⟨pk_in (i - 1) 48 (by omega) (gd_p1 (by omega)), ?_⟩
      refine pk_lt (t (i - 1)) 10 (fun h1 => ?_) (fun h1 => ?_) (by rw [gd_p1 (by omega), gd_rt (by omega)]) rfl (by have := ht (i - 1); omega) (by omega)
      · exact nm_r (nI_1 i) (ih (i + 1) (by omega) (by omega) _ (by rw [h3, rn_scn (Or.inr h1)]))
      · exact nm_e (nm_r (nI_1 i) (ih (i + 1) (by omega) (by omega) _ (by rw [h3, rn_scy hs hl (by omega), nI_1])))
theorem xc_spaces {post : Int32 → Prop} {s e : Nat} (hs : s < e) (he : e ≤ 48) (ht : ∀ i, t i ≤ 11) (hp : post (nI (rn_sc t s e))) : wpX_spacesIn post ((nI n), (nI lc), (nI pc), (nI fw), (nI rw), (nI fl), (nI sw), (nI ss), (nI sk), (nI ba), (nI hyc), (nI ph), x_breakCount, x_lineCount, x_paragraphCount, x_stale, (gd_tI t), (gd_tI w), (gd_lI lg), (gd_kI kn), a_patterns, a_heads, a_glyphs, a_breakEnd, a_breakNext, a_breakHyphen, a_breakTaken, a_wayDemerits, a_wayBefore, a_lineFacts, a_paragraphDemerits) (nI s) (nI e) :=
  nm_r (nI_1 s) ⟨e - (s + 1) + 1, xc_loop post he ht hp (e - (s + 1)) (s + 1) (by omega) (by omega) _ (by rw [rn_sc0 (by omega)]; rfl)⟩
end
end
section
def ys_ok (t lg : Nat → Nat) (s e : Nat) (b_glyphs b_glyphOf : Nat → Int32) : Prop := ∀ j, s ≤ j → j < e → b_glyphOf j = nI (sh_od t lg s j) ∧ b_glyphs (sh_od t lg s j) = nI (sh_fe t lg s e j)
/-- the next head behind i0 -/
theorem ys_next {t lg w : Nat → Nat} {kn : Nat → Int} {sw s e i0 : Nat} (hl : ∀ i, s ≤ i → i < e → t i < 10) (hs : s ≤ i0) : ∀ d k, k + d = e → i0 < k → sh_od t lg s (k - 1) = sh_od t lg s i0 →
    ∃ i1, k ≤ i1 ∧ i1 ≤ e ∧ rn_x t lg w kn sw s e i1 = rn_x t lg w kn sw s e k ∧ sh_od t lg s (i1 - 1) = sh_od t lg s i0 ∧ (i1 < e → sh_od t lg s i1 = sh_od t lg s i0 + 1 ∧ sh_jn t lg s i1 = false) := by
  intro d
  induction d with
  | zero => intro k hk h1 h2; exact ⟨k, Nat.le_refl _, by omega, rfl, h2, fun h => absurd h (by omega)⟩
  | succ d ih =>
    intro k hk h1 h2
    obtain ⟨m, rfl⟩ : ∃ m, k = m + 1 := ⟨k - 1, by omega⟩
    rw [show m + 1 - 1 = m by omega] at h2
    cases z : sh_jn t lg s (m + 1)
    · exact ⟨m + 1, Nat.le_refl _, by omega, rfl, h2, fun _ => ⟨by rw [sh_od_n (by omega) z, h2], z⟩⟩
    · obtain ⟨i1, a, b, c, d', f⟩ := ih (m + 1 + 1) (by omega) (by omega) (by rw [show m + 1 + 1 - 1 = m + 1 by omega, sh_od_j z, h2])
      exact ⟨i1, by omega, b, by rw [c, rn_xn (by omega) (Or.inr z)], d', f⟩
section
variable {n lc pc fw rw fl sw ss sk ba hyc ph : Nat} {t w lg : Nat → Nat} {kn : Nat → Int}
variable {y_ready y_glyphCount y_breaks y_natural y_spaces y_lineCount y_paragraphs : Int32} {b_patA b_patB b_patC b_patDigits b_glyphs b_glyphOf b_bEnd b_bNext b_bHyphen b_before b_way b_lFrom b_lTo b_lNumber b_lParagraph b_lPage b_lHyphen b_lLast : Nat → Int32} {b_least b_best : Nat → Int64}
theorem ys_sum (post : Int32 → SY → Prop) {s e : Nat} (hse : s < e) (he : e ≤ 48) (hl : ∀ i, s ≤ i → i < e → t i < 10) (hok : ys_ok t lg s e b_glyphs b_glyphOf)
    (hp : post (gd_iI (rn_x t lg w kn sw s e e)) ((nI n), (nI lc), (nI pc), (nI fw), (nI rw), (nI fl), (nI sw), (nI ss), (nI sk), (nI ba), (nI hyc), (nI ph), y_ready, (nI (sh_od t lg s (e - 1) + 1)), y_breaks, y_natural, y_spaces, y_lineCount, y_paragraphs, (gd_tI t), (gd_tI w), (gd_lI lg), (gd_kI kn), b_patA, b_patB, b_patC, b_patDigits, b_glyphs, b_glyphOf, b_bEnd, b_bNext, b_bHyphen, b_least, b_before, b_way, b_lFrom, b_lTo, b_lNumber, b_lParagraph, b_lPage, b_lHyphen, b_lLast, b_best)) :
    ∀ F i0 g x3, e - i0 < F → s ≤ i0 → i0 ≤ e → (i0 < e → sh_od t lg s i0 = g ∧ sh_jn t lg s i0 = false) → (g = 0 → i0 = s) → (0 < g → s < i0 ∧ sh_od t lg s (i0 - 1) + 1 = g) → x3 = gd_iI (rn_x t lg w kn sw s e i0) → wY_shape_117 post (nI n) (nI lc) (nI pc) (nI fw) (nI rw) (nI fl) (nI sw) (nI ss) (nI sk) (nI ba) (nI hyc) (nI ph) y_ready (nI (sh_od t lg s (e - 1) + 1)) y_breaks y_natural y_spaces y_lineCount y_paragraphs (gd_tI t) (gd_tI w) (gd_lI lg) (gd_kI kn) b_patA b_patB b_patC b_patDigits b_glyphs b_glyphOf b_bEnd b_bNext b_bHyphen b_least b_before b_way b_lFrom b_lTo b_lNumber b_lParagraph b_lPage b_lHyphen b_lLast b_best F x3 (nI g) := by
  intro F
  induction F with
  | zero => intro i0 g x3 h; omega
  | succ F ih =>
    intro i0 g x3 hF hs hi hh h0 h1 hx
    have hcq := sh_od_le (t := t) (lg := lg) (s := s) (i := e - 1) (by omega)
    by_cases hie : i0 = e
    · subst hie
      have hg : g = sh_od t lg s (i0 - 1) + 1 := by
        rcases Nat.eq_zero_or_pos g with z | z
        · have := h0 z; omega
        · exact (h1 z).2.symm
      refine br_t (by rw [hg]; exact nI_le (Nat.le_refl _) (by omega)) ?_
      rw [hx]
      exact hp
    · obtain ⟨ho, hj⟩ := hh (by omega)
      have hm := sh_od_mono (t := t) (lg := lg) (s := s) (j := i0) (i := e - 1) hs (by omega)
      have hli := hl i0 hs (by omega)
      have g2 : b_glyphs (nI g).toNatClampNeg = nI (sh_fe t lg s e i0) := by
        rw [nI_clamp (by omega), ← ho, (hok i0 hs (by omega)).2]
      have f2 : sh_fe t lg s e i0 < 10 := sh_fe_lt hli
      refine br_f (nI_ge (by omega) (by omega)) ⟨vp_in_nI (by omega) (by omega), pk_in _ 10 f2 g2, ?_⟩
      obtain ⟨i1, a1, a2, a3, a4, a5⟩ := ys_next (w := w) (kn := kn) (sw := sw) hl hs (e - (i0 + 1)) (i0 + 1) (by omega) (by omega) (by rw [show i0 + 1 - 1 = i0 by omega])
      have N : ∀ x3, x3 = gd_iI (rn_x t lg w kn sw s e (i0 + 1)) → wY_shape_117 post (nI n) (nI lc) (nI pc) (nI fw) (nI rw) (nI fl) (nI sw) (nI ss) (nI sk) (nI ba) (nI hyc) (nI ph) y_ready (nI (sh_od t lg s (e - 1) + 1)) y_breaks y_natural y_spaces y_lineCount y_paragraphs (gd_tI t) (gd_tI w) (gd_lI lg) (gd_kI kn) b_patA b_patB b_patC b_patDigits b_glyphs b_glyphOf b_bEnd b_bNext b_bHyphen b_least b_before b_way b_lFrom b_lTo b_lNumber b_lParagraph b_lPage b_lHyphen b_lLast b_best F x3 (nI (g + 1)) := fun x3 hx => ih i1 (g + 1) x3 (by omega) (by omega) a2 (fun h => by rw [← ho]; exact a5 h) (fun h => absurd h (by omega)) (fun _ => ⟨by omega, by rw [a4, ho]⟩) (by rw [hx, a3])
      refine nm_e (pk_le g 0 (fun hg => ?_) (fun hg => ?_) rfl rfl (by omega) (by omega))
      · refine nm_r (nI_1 g) (N _ ?_)
        have := h0 (by omega)
        subst this
        rw [rn_xh (Nat.le_refl _) hli hj, hx, g2, gd_rt (by omega), show rn_gp t lg kn sw i0 e i0 = 0 by rw [rn_gp, if_neg (by omega)], gd_nat, gd_add, Int.add_zero]
      · obtain ⟨b1, b2⟩ := h1 hg
        have hlp := hl (i0 - 1) (by omega) (by omega)
        have g1 : b_glyphs (nI g - 1).toNatClampNeg = nI (sh_fe t lg s e (i0 - 1)) := by
          rw [gd_p1 hg, nI_clamp (by omega), show g - 1 = sh_od t lg s (i0 - 1) by omega, (hok (i0 - 1) (by omega) (by omega)).2]
        have f1 : sh_fe t lg s e (i0 - 1) < 10 := sh_fe_lt hlp
        have hv : 10 * b_glyphs (nI g - 1).toNatClampNeg + b_glyphs (nI g).toNatClampNeg = nI (10 * sh_fe t lg s e (i0 - 1) + sh_fe t lg s e i0) := by
          rw [g1, g2, show (10 : Int32) = nI 10 from rfl, pk_mul, nI_add]
        refine ⟨pk_in (g - 1) 48 (by omega) (gd_p1 hg), vp_in_nI (by omega) (by omega), pk_in _ 100 (by omega) hv, ?_⟩
        refine nm_e (nm_r (nI_1 g) (N _ ?_))
        rw [rn_xh hs hli hj, hv, gd_rk (by omega), hx, g2, gd_rt (by omega), gd_nat, gd_add, gd_add, show rn_gp t lg kn sw s e i0 = kn (10 * sh_fe t lg s e (i0 - 1) + sh_fe t lg s e i0) by rw [rn_gp, if_pos b1, if_pos hlp]]
        congr 1
        omega
theorem ys_loop (post : Int32 → SY → Prop) {s e : Nat} (hse : s < e) (he : e ≤ 48) (ht : ∀ i, t i ≤ 11) (hl : ∀ i, s ≤ i → i < e → t i < 10)
    (hp : ∀ b_glyphs b_glyphOf, ys_ok t lg s e b_glyphs b_glyphOf → post (gd_iI (rn_x t lg w kn sw s e e)) ((nI n), (nI lc), (nI pc), (nI fw), (nI rw), (nI fl), (nI sw), (nI ss), (nI sk), (nI ba), (nI hyc), (nI ph), y_ready, (nI (sh_od t lg s (e - 1) + 1)), y_breaks, y_natural, y_spaces, y_lineCount, y_paragraphs, (gd_tI t), (gd_tI w), (gd_lI lg), (gd_kI kn), b_patA, b_patB, b_patC, b_patDigits, b_glyphs, b_glyphOf, b_bEnd, b_bNext, b_bHyphen, b_least, b_before, b_way, b_lFrom, b_lTo, b_lNumber, b_lParagraph, b_lPage, b_lHyphen, b_lLast, b_best)) :
    ∀ d i, i + d = e → s ≤ i → ∀ m b_glyphs b_glyphOf, (i = s → m = 0) → (s < i → m = sh_od t lg s (i - 1) + 1) → (∀ j, s ≤ j → j < i → b_glyphOf j = nI (sh_od t lg s j) ∧ b_glyphs (sh_od t lg s j) = nI (sh_fe t lg s i j)) →
      wY_shape_7 post (nI e) (nI n) (nI lc) (nI pc) (nI fw) (nI rw) (nI fl) (nI sw) (nI ss) (nI sk) (nI ba) (nI hyc) (nI ph) y_ready y_breaks y_natural y_spaces y_lineCount y_paragraphs (d + 1) (nI i) (nI m) (gd_tI t) (gd_tI w) (gd_lI lg) (gd_kI kn) b_patA b_patB b_patC b_patDigits b_glyphs b_glyphOf b_bEnd b_bNext b_bHyphen b_least b_before b_way b_lFrom b_lTo b_lNumber b_lParagraph b_lPage b_lHyphen b_lLast b_best := by
  intro d
  induction d with
  | zero =>
    intro i hi hs m b_glyphs b_glyphOf h0 h1 hI
    have : i = e := by omega
    subst this
    rw [h1 (by omega)]
    refine br_t (nI_le (Nat.le_refl _) (by omega)) ⟨i - s + 1, ?_⟩
    exact ys_sum post hse he hl hI (hp _ _ hI) (i - s + 1) s 0 0 (by omega) (Nat.le_refl _) (by omega) (fun _ => ⟨sh_od_0 (Nat.le_refl _), sh_jn_0 (Nat.le_refl _)⟩) (fun _ => rfl) (fun h => absurd h (by omega)) (by rw [rn_x0 (Nat.le_refl _)]; rfl)
  | succ d ih =>
    intro i hi hs m b_glyphs b_glyphOf h0 h1 hI
    have hli := hl i hs (by omega)
    have hm48 : m < 48 := by
      rcases Nat.lt_or_ge s i with z | z
      · have := sh_od_le (t := t) (lg := lg) (s := s) (i := i - 1) (by omega)
        have := h1 z
        omega
      · have := h0 (by omega); omega
    have A : ∀ z0, z0 = -1 → sh_jn t lg s i = false → wY_shape_49 post (wY_shape_7 post (nI e) (nI n) (nI lc) (nI pc) (nI fw) (nI rw) (nI fl) (nI sw) (nI ss) (nI sk) (nI ba) (nI hyc) (nI ph) y_ready y_breaks y_natural y_spaces y_lineCount y_paragraphs (d + 1)) (nI e) (nI i) z0 (nI n) (nI lc) (nI pc) (nI fw) (nI rw) (nI fl) (nI sw) (nI ss) (nI sk) (nI ba) (nI hyc) (nI ph) y_ready (nI m) y_breaks y_natural y_spaces y_lineCount y_paragraphs (gd_tI t) (gd_tI w) (gd_lI lg) (gd_kI kn) b_patA b_patB b_patC b_patDigits b_glyphs b_glyphOf b_bEnd b_bNext b_bHyphen b_least b_before b_way b_lFrom b_lTo b_lNumber b_lParagraph b_lPage b_lHyphen b_lLast b_best := by
      intro z0 hz hj
      have hod : sh_od t lg s i = m := by
        rcases Nat.lt_or_ge s i with z | z
        · obtain ⟨k, rfl⟩ : ∃ k, i = k + 1 := ⟨i - 1, by omega⟩
          have h2 := h1 z
          rw [show k + 1 - 1 = k by omega] at h2
          rw [sh_od_n (by omega) hj, h2]
        · rw [sh_od_0 z, h0 (by omega)]
      refine br_t (by rw [hz]; decide) (nm_r (nI_1 m) ⟨vp_in_nI (by omega) (by omega), vp_in_nI (by omega) (by omega), nm_r (e' := upd b_glyphs m (nI (t i))) (by rw [gd_rt (by omega), nI_clamp (by omega)]) ?_⟩)
      refine ⟨vp_in_nI (by omega) (by omega), nm_r (e' := upd b_glyphOf i (nI m)) (by rw [nI_clamp (by omega), nI_pred]) (nm_r (nI_1 i) (ih (i + 1) (by omega) (by omega) (m + 1) _ _ (fun h => absurd h (by omega)) (fun _ => by rw [show i + 1 - 1 = i by omega, hod]) ?_))⟩
      intro j h2 h3
      by_cases e1 : j = i
      · subst e1
        rw [pk_us, hod, pk_us, sh_fe_0, sh_cg_t hj]
        exact ⟨rfl, rfl⟩
      · have h4 := sh_od_mono (t := t) (lg := lg) (s := s) (j := j) (i := i - 1) h2 (by omega)
        have h5 := h1 (by omega)
        have h6 : sh_hd t lg s j ≠ sh_hd t lg s i := fun z => by
          have := (sh_od_hd (t := t) (lg := lg) h2 (show j ≤ i by omega)).mpr z
          omega
        rw [pk_un e1, pk_un (by omega), sh_fe_s (by omega), if_neg h6]
        exact hI j h2 (by omega)
    have B : ∀ z0, z0 = nI (lg (10 * sh_cg t lg s (i - 1) + t i)) → sh_jn t lg s i = true → wY_shape_49 post (wY_shape_7 post (nI e) (nI n) (nI lc) (nI pc) (nI fw) (nI rw) (nI fl) (nI sw) (nI ss) (nI sk) (nI ba) (nI hyc) (nI ph) y_ready y_breaks y_natural y_spaces y_lineCount y_paragraphs (d + 1)) (nI e) (nI i) z0 (nI n) (nI lc) (nI pc) (nI fw) (nI rw) (nI fl) (nI sw) (nI ss) (nI sk) (nI ba) (nI hyc) (nI ph) y_ready (nI m) y_breaks y_natural y_spaces y_lineCount y_paragraphs (gd_tI t) (gd_tI w) (gd_lI lg) (gd_kI kn) b_patA b_patB b_patC b_patDigits b_glyphs b_glyphOf b_bEnd b_bNext b_bHyphen b_least b_before b_way b_lFrom b_lTo b_lNumber b_lParagraph b_lPage b_lHyphen b_lLast b_best := by
      intro z0 hz hj
      obtain ⟨k, rfl⟩ : ∃ k, i = k + 1 := by
        cases i with
        | zero => exact absurd hj Bool.false_ne_true
        | succ k => exact ⟨k, rfl⟩
      have hj' := (sh_jn_s k).mp hj
      have hmk := h1 hj'.1
      rw [show k + 1 - 1 = k by omega] at hz hmk
      subst hmk
      have hcg : sh_cg t lg s (k + 1) = lg (10 * sh_cg t lg s k + t (k + 1)) := by rw [sh_cg_s, if_pos hj]
      refine br_f (by rw [hz]; exact nI_pos (by omega)) ⟨pk_in (sh_od t lg s k) 48 (by omega) (nI_pred _), nm_r (e' := upd b_glyphs (sh_od t lg s k) z0) (by rw [nI_pred, nI_clamp (by omega)]) ⟨vp_in_nI (by omega) (by omega), nm_r (e' := upd b_glyphOf (k + 1) (nI (sh_od t lg s k))) (by rw [nI_clamp (by omega), nI_pred]) (nm_r (nI_1 (k + 1)) (ih (k + 1 + 1) (by omega) (by omega) (sh_od t lg s k + 1) _ _ (fun h => absurd h (by omega)) (fun _ => by rw [show k + 1 + 1 - 1 = k + 1 by omega, sh_od_j hj]) ?_))⟩⟩
      intro j h2 h3
      by_cases e1 : j = k + 1
      · subst e1
        rw [pk_us, sh_od_j hj, pk_us, sh_fe_0, hcg, hz]
        exact ⟨rfl, rfl⟩
      · rw [pk_un e1, sh_fe_s (by omega), sh_hd_j hj]
        have hoh := sh_od_hd (t := t) (lg := lg) h2 (show j ≤ k by omega)
        by_cases e2 : sh_od t lg s j = sh_od t lg s k
        · rw [e2, pk_us, if_pos (hoh.mp e2), hcg, hz]
          refine ⟨?_, rfl⟩
          rw [← e2]
          exact (hI j h2 (by omega)).1
        · rw [pk_un e2, if_neg (fun z => e2 (hoh.mpr z))]
          exact hI j h2 (by omega)
    refine br_f (nI_ge (by omega) (by omega)) ?_
    refine pk_le m 0 (fun hm => ?_) (fun hm => ?_) rfl rfl (by omega) (by omega)
    · refine A _ rfl (sh_jn_0 ?_)
      rcases Nat.lt_or_ge s i with z | z
      · have := h1 z; omega
      · exact z
    · have hsi : s < i := by
        rcases Nat.lt_or_ge s i with z | z
        · exact z
        · have := h0 (by omega); omega
      have hm1 := h1 hsi
      have hlp := hl (i - 1) (by omega) (by omega)
      have hc : sh_cg t lg s (i - 1) < 10 := sh_cg_lt hlp
      have hg : b_glyphs (nI m - 1).toNatClampNeg = nI (sh_cg t lg s (i - 1)) := by
        have := sh_fe_0 (t := t) (lg := lg) (s := s) (i := i - 1)
        rw [show i - 1 + 1 = i by omega] at this
        rw [gd_p1 hm, nI_clamp (by omega), show m - 1 = sh_od t lg s (i - 1) by omega, (hI (i - 1) (by omega) (by omega)).2, this]
      have hv : 10 * b_glyphs (nI m - 1).toNatClampNeg + gd_tI t (nI i).toNatClampNeg = nI (10 * sh_cg t lg s (i - 1) + t i) := by
        rw [hg, gd_rt (by omega), show (10 : Int32) = nI 10 from rfl, pk_mul, nI_add]
      have hji : sh_jn t lg s i = decide (lg (10 * sh_cg t lg s (i - 1) + t i) < 10) := by
        obtain ⟨k, rfl⟩ : ∃ k, i = k + 1 := ⟨i - 1, by omega⟩
        rw [show k + 1 - 1 = k by omega] at hlp ⊢
        rw [sh_jn]
        congr 1
        apply propext
        constructor
        · exact fun h => h.2.2.2
        · exact fun h => ⟨hsi, hlp, hli, h⟩
      refine ⟨pk_in (m - 1) 48 (by omega) (gd_p1 hm), vp_in_nI (by omega) (by omega), pk_in (10 * sh_cg t lg s (i - 1) + t i) 100 (by omega) hv, ?_⟩
      by_cases hlg : lg (10 * sh_cg t lg s (i - 1) + t i) < 10
      · exact B _ (by rw [hv, nI_clamp (by omega), gd_li hlg]) (by rw [hji]; exact decide_eq_true hlg)
      · exact A _ (by rw [hv, nI_clamp (by omega), gd_lo hlg]) (by rw [hji]; exact decide_eq_false hlg)
theorem ys_shape {post : Int32 → SY → Prop} {s e : Nat} (hse : s < e) (he : e ≤ 48) (ht : ∀ i, t i ≤ 11) (hl : ∀ i, s ≤ i → i < e → t i < 10)
    (hp : ∀ b_glyphs b_glyphOf, ys_ok t lg s e b_glyphs b_glyphOf → post (gd_iI (rn_x t lg w kn sw s e e)) ((nI n), (nI lc), (nI pc), (nI fw), (nI rw), (nI fl), (nI sw), (nI ss), (nI sk), (nI ba), (nI hyc), (nI ph), y_ready, (nI (sh_od t lg s (e - 1) + 1)), y_breaks, y_natural, y_spaces, y_lineCount, y_paragraphs, (gd_tI t), (gd_tI w), (gd_lI lg), (gd_kI kn), b_patA, b_patB, b_patC, b_patDigits, b_glyphs, b_glyphOf, b_bEnd, b_bNext, b_bHyphen, b_least, b_before, b_way, b_lFrom, b_lTo, b_lNumber, b_lParagraph, b_lPage, b_lHyphen, b_lLast, b_best)) : wpY_shape post ((nI n), (nI lc), (nI pc), (nI fw), (nI rw), (nI fl), (nI sw), (nI ss), (nI sk), (nI ba), (nI hyc), (nI ph), y_ready, y_glyphCount, y_breaks, y_natural, y_spaces, y_lineCount, y_paragraphs, (gd_tI t), (gd_tI w), (gd_lI lg), (gd_kI kn), b_patA, b_patB, b_patC, b_patDigits, b_glyphs, b_glyphOf, b_bEnd, b_bNext, b_bHyphen, b_least, b_before, b_way, b_lFrom, b_lTo, b_lNumber, b_lParagraph, b_lPage, b_lHyphen, b_lLast, b_best) (nI s) (nI e) :=
  ⟨e - s + 1, ys_loop post hse he ht hl hp (e - s) s (by omega) (Nat.le_refl _) 0 _ _ (fun _ => rfl) (fun h => absurd h (by omega)) (fun j h1 h2 => absurd h1 (by omega))⟩
end
end
section
/-- the end and the beginning of the word about a place -/
def wd_e (t : Nat → Nat) (n : Nat) : Nat → Nat → Nat
  | 0, i => i
  | d + 1, i => if i < n ∧ t i < 10 then wd_e t n d (i + 1) else i
def wd_s (t : Nat → Nat) (n : Nat) : Nat → Nat
  | 0 => 0
  | i + 1 => if i < n ∧ t i < 10 then wd_s t n i else i + 1
def wd_E (t : Nat → Nat) (n i : Nat) : Nat := wd_e t n (n - i) i
theorem wd_e_ok {t : Nat → Nat} {n : Nat} : ∀ d i, n ≤ i + d → i ≤ wd_e t n d i ∧ (∀ j, i ≤ j → j < wd_e t n d i → j < n ∧ t j < 10) ∧ ¬ (wd_e t n d i < n ∧ t (wd_e t n d i) < 10) := by
  intro d
  induction d with
  | zero => intro i h; exact ⟨Nat.le_refl _, fun j a b => absurd b (by rw [wd_e]; omega), by rw [wd_e]; omega⟩
  | succ d ih =>
    intro i h
    by_cases c : i < n ∧ t i < 10
    · obtain ⟨a, b, e⟩ := ih (i + 1) (by omega)
      rw [wd_e, if_pos c]
      refine ⟨by omega, fun j h1 h2 => ?_, e⟩
      by_cases z : j = i
      · rw [z]; exact c
      · exact b j (by omega) h2
    · rw [wd_e, if_neg c]
      exact ⟨Nat.le_refl _, fun j h1 h2 => absurd h1 (by omega), c⟩
theorem wd_E_ok {t : Nat → Nat} {n : Nat} (i : Nat) : i ≤ wd_E t n i ∧ (∀ j, i ≤ j → j < wd_E t n i → j < n ∧ t j < 10) ∧ ¬ (wd_E t n i < n ∧ t (wd_E t n i) < 10) := wd_e_ok _ _ (by omega)
theorem wd_E_le {t : Nat → Nat} {n i : Nat} (h : i ≤ n) : wd_E t n i ≤ n := by
  obtain ⟨a, b, c⟩ := wd_E_ok (t := t) (n := n) i
  rcases Nat.lt_or_ge n (wd_E t n i) with z | z
  · have := (b n h z).1; omega
  · exact z
theorem wd_E_ge {t : Nat → Nat} {n i : Nat} (h : i < n ∧ t i < 10) : i < wd_E t n i := by
  obtain ⟨a, b, c⟩ := wd_E_ok (t := t) (n := n) i
  rcases Nat.lt_or_ge i (wd_E t n i) with z | z
  · exact z
  · have : wd_E t n i = i := by omega
    rw [this] at c
    exact absurd h c
theorem wd_s_ok {t : Nat → Nat} {n : Nat} (i : Nat) : wd_s t n i ≤ i ∧ (∀ j, wd_s t n i ≤ j → j < i → j < n ∧ t j < 10) ∧ (wd_s t n i = 0 ∨ ¬ (wd_s t n i - 1 < n ∧ t (wd_s t n i - 1) < 10)) := by
  induction i with
  | zero => exact ⟨Nat.le_refl _, fun j a b => absurd b (by omega), Or.inl rfl⟩
  | succ i ih =>
    obtain ⟨a, b, c⟩ := ih
    by_cases h : i < n ∧ t i < 10
    · rw [wd_s, if_pos h]
      refine ⟨by omega, fun j h1 h2 => ?_, c⟩
      by_cases z : j = i
      · rw [z]; exact h
      · exact b j h1 (by omega)
    · rw [wd_s, if_neg h]
      exact ⟨Nat.le_refl _, fun j h1 h2 => absurd h1 (by omega), Or.inr h⟩
section
variable {n lc pc fw rw fl sw ss sk ba hyc ph : Nat} {t w lg : Nat → Nat} {kn : Nat → Int}
variable {y_ready y_glyphCount y_breaks y_natural y_spaces y_lineCount y_paragraphs : Int32} {b_patA b_patB b_patC b_patDigits b_glyphs b_glyphOf b_bEnd b_bNext b_bHyphen b_before b_way b_lFrom b_lTo b_lNumber b_lParagraph b_lPage b_lHyphen b_lLast : Nat → Int32} {b_least b_best : Nat → Int64}
theorem yl_is {post : Int32 → Prop} {i : Nat} (hn : n ≤ 48) (hi : i < 2 ^ 31) (ht : ∀ i, t i ≤ 11) (hp : post (gd_bI (decide (i < n ∧ t i < 10)))) : wpY_isLetter post ((nI n), (nI lc), (nI pc), (nI fw), (nI rw), (nI fl), (nI sw), (nI ss), (nI sk), (nI ba), (nI hyc), (nI ph), y_ready, y_glyphCount, y_breaks, y_natural, y_spaces, y_lineCount, y_paragraphs, (gd_tI t), (gd_tI w), (gd_lI lg), (gd_kI kn), b_patA, b_patB, b_patC, b_patDigits, b_glyphs, b_glyphOf, b_bEnd, b_bNext, b_bHyphen, b_least, b_before, b_way, b_lFrom, b_lTo, b_lNumber, b_lParagraph, b_lPage, b_lHyphen, b_lLast, b_best) (nI i) := by
  refine br_f (nI_pos (by omega)) (pk_le n i (fun h => ?_) (fun h => ⟨vp_in_nI (by omega) (by omega), pk_le 10 (t i) (fun h1 => ?_) (fun h1 => ?_) rfl (gd_rt (by omega)) (by omega) (by have := ht i; omega)⟩))
  · rw [decide_eq_false (by omega)] at hp; exact hp
  · rw [decide_eq_false (by omega)] at hp; exact hp
  · rw [decide_eq_true (show i < n ∧ t i < 10 from ⟨h, h1⟩)] at hp; exact hp
theorem yl_neg {post : Int32 → Prop} {x : Int32} (hx : x < 0) (hp : post 0) : wpY_isLetter post ((nI n), (nI lc), (nI pc), (nI fw), (nI rw), (nI fl), (nI sw), (nI ss), (nI sk), (nI ba), (nI hyc), (nI ph), y_ready, y_glyphCount, y_breaks, y_natural, y_spaces, y_lineCount, y_paragraphs, (gd_tI t), (gd_tI w), (gd_lI lg), (gd_kI kn), b_patA, b_patB, b_patC, b_patDigits, b_glyphs, b_glyphOf, b_bEnd, b_bNext, b_bHyphen, b_least, b_before, b_way, b_lFrom, b_lTo, b_lNumber, b_lParagraph, b_lPage, b_lHyphen, b_lLast, b_best) x := br_t hx hp
theorem yl_end {post : Int32 → Prop} {i : Nat} (hn : n ≤ 48) (hi : i ≤ n) (ht : ∀ i, t i ≤ 11) (hp : post (nI (wd_E t n i))) : wpY_wordEnd post ((nI n), (nI lc), (nI pc), (nI fw), (nI rw), (nI fl), (nI sw), (nI ss), (nI sk), (nI ba), (nI hyc), (nI ph), y_ready, y_glyphCount, y_breaks, y_natural, y_spaces, y_lineCount, y_paragraphs, (gd_tI t), (gd_tI w), (gd_lI lg), (gd_kI kn), b_patA, b_patB, b_patC, b_patDigits, b_glyphs, b_glyphOf, b_bEnd, b_bNext, b_bHyphen, b_least, b_before, b_way, b_lFrom, b_lTo, b_lNumber, b_lParagraph, b_lPage, b_lHyphen, b_lLast, b_best) (nI i) := by
  have key : ∀ d i, i ≤ n → n ≤ i + d → ∀ hp : post (nI (wd_e t n d i)), wY_wordEnd_2 post (nI n) (nI lc) (nI pc) (nI fw) (nI rw) (nI fl) (nI sw) (nI ss) (nI sk) (nI ba) (nI hyc) (nI ph) y_ready y_glyphCount y_breaks y_natural y_spaces y_lineCount y_paragraphs (gd_tI t) (gd_tI w) (gd_lI lg) (gd_kI kn) b_patA b_patB b_patC b_patDigits b_glyphs b_glyphOf b_bEnd b_bNext b_bHyphen b_least b_before b_way b_lFrom b_lTo b_lNumber b_lParagraph b_lPage b_lHyphen b_lLast b_best (d + 1) (nI i) := by
    intro d
    induction d with
    | zero =>
      intro i h1 h2 hp
      unfold wY_wordEnd_2
      refine yl_is (i := i) hn (by omega) ht ?_
      rw [decide_eq_false (by omega)]
      exact br_t rfl hp
    | succ d ih =>
      intro i h1 h2 hp
      unfold wY_wordEnd_2
      refine yl_is (i := i) hn (by omega) ht ?_
      by_cases c : i < n ∧ t i < 10
      · rw [wd_e, if_pos c] at hp
        rw [decide_eq_true c]
        exact br_f (by decide) (nm_r (nI_1 i) (ih (i + 1) (by omega) (by omega) hp))
      · rw [wd_e, if_neg c] at hp
        rw [decide_eq_false c]
        exact br_t rfl hp
  exact ⟨_, key (n - i) i hi (by omega) hp⟩
theorem yl_start {post : Int32 → Prop} {i : Nat} (hn : n ≤ 48) (hi : i ≤ 100) (ht : ∀ i, t i ≤ 11) (hp : post (nI (wd_s t n i))) : wpY_wordStart post ((nI n), (nI lc), (nI pc), (nI fw), (nI rw), (nI fl), (nI sw), (nI ss), (nI sk), (nI ba), (nI hyc), (nI ph), y_ready, y_glyphCount, y_breaks, y_natural, y_spaces, y_lineCount, y_paragraphs, (gd_tI t), (gd_tI w), (gd_lI lg), (gd_kI kn), b_patA, b_patB, b_patC, b_patDigits, b_glyphs, b_glyphOf, b_bEnd, b_bNext, b_bHyphen, b_least, b_before, b_way, b_lFrom, b_lTo, b_lNumber, b_lParagraph, b_lPage, b_lHyphen, b_lLast, b_best) (nI i) := by
  have key : ∀ i, i ≤ 100 → ∀ hp : post (nI (wd_s t n i)), wY_wordStart_2 post (nI n) (nI lc) (nI pc) (nI fw) (nI rw) (nI fl) (nI sw) (nI ss) (nI sk) (nI ba) (nI hyc) (nI ph) y_ready y_glyphCount y_breaks y_natural y_spaces y_lineCount y_paragraphs (gd_tI t) (gd_tI w) (gd_lI lg) (gd_kI kn) b_patA b_patB b_patC b_patDigits b_glyphs b_glyphOf b_bEnd b_bNext b_bHyphen b_least b_before b_way b_lFrom b_lTo b_lNumber b_lParagraph b_lPage b_lHyphen b_lLast b_best (i + 1) (nI i) := by
    intro i
    induction i with
    | zero =>
      intro _ hp
      unfold wY_wordStart_2
      exact yl_neg (x := nI 0 - 1) (by decide) (br_t rfl hp)
    | succ i ih =>
      intro h hp
      unfold wY_wordStart_2
      rw [nI_pred]
      refine yl_is (i := i) hn (by omega) ht ?_
      by_cases c : i < n ∧ t i < 10
      · rw [wd_s, if_pos c] at hp
        rw [decide_eq_true c]
        exact br_f (by decide) (nm_r (pk_m1 i) (ih (by omega) hp))
      · rw [wd_s, if_neg c] at hp
        rw [decide_eq_false c]
        exact br_t rfl hp
  exact ⟨_, key i hi hp⟩
/-- skipping spaces -/
theorem yk_skip (post : SY → Prop) (J : Int32 → Int32 → Int32 → Int32 → Int32 → Int32 → Int32 → Int32 → Int32 → Int32 → Int32 → Int32 → Int32 → Int32 → Int32 → Int32 → Int32 → Int32 → Int32 → Int32 → (Nat → Int32) → (Nat → Int32) → (Nat → Int32) → (Nat → Int32) → (Nat → Int32) → (Nat → Int32) → (Nat → Int32) → (Nat → Int32) → (Nat → Int32) → (Nat → Int32) → (Nat → Int32) → (Nat → Int32) → (Nat → Int32) → (Nat → Int64) → (Nat → Int32) → (Nat → Int32) → (Nat → Int32) → (Nat → Int32) → (Nat → Int32) → (Nat → Int32) → (Nat → Int32) → (Nat → Int32) → (Nat → Int32) → (Nat → Int64) → Prop) {e : Nat} (he : e ≤ 48) (ht : ∀ i, t i ≤ 11) :
    ∀ d i, i + d = e → (∀ k, i ≤ k → k ≤ e → (∀ j, i ≤ j → j < k → t j = 10) → (k = e ∨ t k ≠ 10) → wY_walk_89 post J (nI e) (nI k) (nI n) (nI lc) (nI pc) (nI fw) (nI rw) (nI fl) (nI sw) (nI ss) (nI sk) (nI ba) (nI hyc) (nI ph) y_ready y_glyphCount y_breaks y_natural y_spaces y_lineCount y_paragraphs (gd_tI t) (gd_tI w) (gd_lI lg) (gd_kI kn) b_patA b_patB b_patC b_patDigits b_glyphs b_glyphOf b_bEnd b_bNext b_bHyphen b_least b_before b_way b_lFrom b_lTo b_lNumber b_lParagraph b_lPage b_lHyphen b_lLast b_best) → wY_walk_65 post J (nI e) (nI n) (nI lc) (nI pc) (nI fw) (nI rw) (nI fl) (nI sw) (nI ss) (nI sk) (nI ba) (nI hyc) (nI ph) y_ready y_glyphCount y_breaks y_natural y_spaces y_lineCount y_paragraphs (gd_tI t) (gd_tI w) (gd_lI lg) (gd_kI kn) b_patA b_patB b_patC b_patDigits b_glyphs b_glyphOf b_bEnd b_bNext b_bHyphen b_least b_before b_way b_lFrom b_lTo b_lNumber b_lParagraph b_lPage b_lHyphen b_lLast b_best (d + 1) (nI i) := by
  intro d
  induction d with
  | zero =>
    intro i hi h
    have : i = e := by omega
    subst this
    exact br_t (nI_le (Nat.le_refl _) (by omega)) (h i (Nat.le_refl _) (Nat.le_refl _) (fun j a b => absurd a (by omega)) (Or.inl rfl))
  | succ d ih =>
    intro i hi h
    refine br_f (nI_ge (by omega) (by omega)) ⟨vp_in_nI (by omega) (by omega), ?_⟩
    refine pk_eq (t i) 10 (fun hl => ?_) (fun hl => ?_) (gd_rt (by omega)) rfl (by have := ht i; omega) (by omega)
    · refine nm_r (nI_1 i) (ih (i + 1) (by omega) (fun k h1 h2 h3 h4 => h k (by omega) h2 (fun j a b => ?_) h4))
      by_cases z : j = i
      · rw [z]; exact hl
      · exact h3 j (by omega) b
    · exact h i (Nat.le_refl _) (by omega) (fun j a b => absurd a (by omega)) (Or.inr hl)
theorem yk_loop (post : SY → Prop) {s e : Nat} (hn : n ≤ 48) (he : e ≤ n) (ht : ∀ i, t i ≤ 11) (h11 : ∀ j, s ≤ j → j < e → t j ≠ 11) (h5 : Int)
    (hp : ∀ y_glyphCount b_glyphs b_glyphOf, post ((nI n), (nI lc), (nI pc), (nI fw), (nI rw), (nI fl), (nI sw), (nI ss), (nI sk), (nI ba), (nI hyc), (nI ph), y_ready, y_glyphCount, y_breaks, (gd_iI (rn_x t lg w kn sw s e e + h5)), (nI (rn_sc t s e)), y_lineCount, y_paragraphs, (gd_tI t), (gd_tI w), (gd_lI lg), (gd_kI kn), b_patA, b_patB, b_patC, b_patDigits, b_glyphs, b_glyphOf, b_bEnd, b_bNext, b_bHyphen, b_least, b_before, b_way, b_lFrom, b_lTo, b_lNumber, b_lParagraph, b_lPage, b_lHyphen, b_lLast, b_best)) :
    ∀ F i, e - i < F → s ≤ i → i ≤ e → (i < e → t i < 10 ∧ (i = s ∨ ¬ t (i - 1) < 10)) → ∀ y_glyphCount y_natural y_spaces b_glyphs b_glyphOf, (i < e → y_natural = gd_iI (rn_x t lg w kn sw s e i + rn_gp t lg kn sw s e i + h5) ∧ y_spaces = nI (rn_sc t s (i + 1))) → (i = e → y_natural = gd_iI (rn_x t lg w kn sw s e e + h5) ∧ y_spaces = nI (rn_sc t s e)) →
      wY_walk_21 post (nI e) F (nI i) (nI n) (nI lc) (nI pc) (nI fw) (nI rw) (nI fl) (nI sw) (nI ss) (nI sk) (nI ba) (nI hyc) (nI ph) y_ready y_glyphCount y_breaks y_natural y_spaces y_lineCount y_paragraphs (gd_tI t) (gd_tI w) (gd_lI lg) (gd_kI kn) b_patA b_patB b_patC b_patDigits b_glyphs b_glyphOf b_bEnd b_bNext b_bHyphen b_least b_before b_way b_lFrom b_lTo b_lNumber b_lParagraph b_lPage b_lHyphen b_lLast b_best := by
  intro F
  induction F with
  | zero => intro i h; omega
  | succ F ih =>
    intro i hF hs hie hw y_glyphCount y_natural y_spaces b_glyphs b_glyphOf h1 h2
    by_cases hi : i = e
    · obtain ⟨r1, r2⟩ := h2 hi
      subst hi r1 r2
      exact br_t (nI_le (Nat.le_refl _) (by omega)) (hp _ _ _)
    · obtain ⟨hli, hw0⟩ := hw (by omega)
      obtain ⟨r1, r2⟩ := h1 (by omega)
      subst r1 r2
      have K : ∀ e2, i < e2 → e2 ≤ e → (∀ j, i ≤ j → j < e2 → t j < 10) → (e2 = e ∨ ¬ t e2 < 10) → wY_walk_44 post (wY_walk_21 post (nI e) F) (nI e) (nI i) (nI e2) (nI n) (nI lc) (nI pc) (nI fw) (nI rw) (nI fl) (nI sw) (nI ss) (nI sk) (nI ba) (nI hyc) (nI ph) y_ready y_glyphCount y_breaks (gd_iI (rn_x t lg w kn sw s e i + rn_gp t lg kn sw s e i + h5)) (nI (rn_sc t s (i + 1))) y_lineCount y_paragraphs (gd_tI t) (gd_tI w) (gd_lI lg) (gd_kI kn) b_patA b_patB b_patC b_patDigits b_glyphs b_glyphOf b_bEnd b_bNext b_bHyphen b_least b_before b_way b_lFrom b_lTo b_lNumber b_lParagraph b_lPage b_lHyphen b_lLast b_best := by
        intro e2 a1 a2 a3 a4
        refine ys_shape a1 (by omega) ht a3 (fun b_glyphs b_glyphOf hok => ?_)
        have hx : gd_iI (rn_x t lg w kn sw s e i + rn_gp t lg kn sw s e i + h5) + gd_iI (rn_x t lg w kn sw i e2 e2) = gd_iI (rn_x t lg w kn sw s e e2 + h5) := by
          have := rn_word (lg := lg) (w := w) (kn := kn) (sw := sw) hs hw0 a3 a2 a4 (e2 - i - 1) (by omega)
          rw [show i + (e2 - i - 1) + 1 = e2 by omega] at this
          rw [this, gd_add]
          congr 1
          omega
        refine nm_r hx ⟨e - e2 + 1, yk_skip post _ (by omega) ht (e - e2) e2 (by omega) (fun k c1 c2 c3 c4 => ?_)⟩
        have hxk : rn_x t lg w kn sw s e k = rn_x t lg w kn sw s e e2 := by
          have := rn_flat (t := t) (lg := lg) (w := w) (kn := kn) (sw := sw) (s := s) (e := e) (i := e2) (by omega) (k - e2) (fun j d1 d2 => by rw [c3 j d1 (by omega)]; omega)
          rwa [show e2 + (k - e2) = k by omega] at this
        have hsk : rn_sc t s k = rn_sc t s (i + 1) := by
          have q1 := rn_sflat (t := t) (s := s) (i := e2) (k - e2) (fun j d1 d2 => by rw [c3 j d1 (by omega)]; omega)
          have q2 := rn_sword (t := t) (s := s) (i := i) (e2 - i - 1) (fun j d1 d2 => a3 j d1 (by omega))
          rw [show e2 + (k - e2) = k by omega] at q1
          rw [show i + (e2 - i - 1) + 1 = e2 by omega] at q2
          rw [q1, q2]
        by_cases hk : k = e
        · refine br_t (nI_le (by omega) (by omega)) (ih k (by omega) (by omega) (by omega) (fun h => absurd h (by omega)) _ _ _ _ _ (fun h => absurd h (by omega)) (fun _ => ⟨?_, ?_⟩))
          · rw [← hxk, hk]
          · rw [← hsk, hk]
        · have hk2 : e2 < k := by
            rcases Nat.lt_or_ge e2 k with z | z
            · exact z
            · have z2 : k = e2 := by omega
              subst z2
              have := h11 k (by omega) (by omega)
              have := ht k
              omega
          have hlk : t k < 10 := by
            have := h11 k (by omega) (by omega)
            have := ht k
            omega
          have hpk : ¬ t (k - 1) < 10 := by rw [c3 (k - 1) (by omega) (by omega)]; omega
          refine br_f (nI_ge (by omega) (by omega)) (nm_e (nm_r (nI_1 _) (ih k (by omega) (by omega) (by omega) (fun _ => ⟨hlk, Or.inr hpk⟩) _ _ _ _ _ (fun _ => ⟨?_, ?_⟩) (fun h => absurd h hk))))
          · rw [hxk, show rn_gp t lg kn sw s e k = (sw : Int) by rw [rn_gp, if_pos (by omega), if_neg hpk], gd_nat, gd_add]
            congr 1
            omega
          · rw [rn_scy (by omega) hlk hpk, hsk]
      refine br_f (nI_ge (by omega) (by omega)) (yl_end hn (by omega) ht ?_)
      obtain ⟨w1, w2, w3⟩ := wd_E_ok (t := t) (n := n) i
      have w4 := wd_E_le (t := t) (show i ≤ n by omega)
      have w5 := wd_E_ge (t := t) (n := n) ⟨by omega, hli⟩
      refine pk_le (wd_E t n i) e (fun h => ?_) (fun h => ?_)
      · refine K _ w5 h (fun j a b => (w2 j a b).2) ?_
        rcases Nat.lt_or_ge (wd_E t n i) e with z | z
        · exact Or.inr (fun y => w3 ⟨by omega, y⟩)
        · exact Or.inl (by omega)
      · exact K e (by omega) (Nat.le_refl _) (fun j a b => (w2 j a (by omega)).2) (Or.inl rfl)
/-- Y's walk over the line [s, e) -/
theorem yk_walk {post : SY → Prop} {s e : Nat} (hn : n ≤ 48) (hse : s < e) (he : e ≤ n) (ht : ∀ i, t i ≤ 11) (hl : t s < 10) (h11 : ∀ j, s ≤ j → j < e → t j ≠ 11) (b : Bool)
    (hp : ∀ y_glyphCount b_glyphs b_glyphOf, post ((nI n), (nI lc), (nI pc), (nI fw), (nI rw), (nI fl), (nI sw), (nI ss), (nI sk), (nI ba), (nI hyc), (nI ph), y_ready, y_glyphCount, y_breaks, (gd_iI (rn_x t lg w kn sw s e e + (cond b 5 0))), (nI (rn_sc t s e)), y_lineCount, y_paragraphs, (gd_tI t), (gd_tI w), (gd_lI lg), (gd_kI kn), b_patA, b_patB, b_patC, b_patDigits, b_glyphs, b_glyphOf, b_bEnd, b_bNext, b_bHyphen, b_least, b_before, b_way, b_lFrom, b_lTo, b_lNumber, b_lParagraph, b_lPage, b_lHyphen, b_lLast, b_best)) : wpY_walk post ((nI n), (nI lc), (nI pc), (nI fw), (nI rw), (nI fl), (nI sw), (nI ss), (nI sk), (nI ba), (nI hyc), (nI ph), y_ready, y_glyphCount, y_breaks, y_natural, y_spaces, y_lineCount, y_paragraphs, (gd_tI t), (gd_tI w), (gd_lI lg), (gd_kI kn), b_patA, b_patB, b_patC, b_patDigits, b_glyphs, b_glyphOf, b_bEnd, b_bNext, b_bHyphen, b_least, b_before, b_way, b_lFrom, b_lTo, b_lNumber, b_lParagraph, b_lPage, b_lHyphen, b_lLast, b_best) (nI s) (nI e) (gd_bI b) := by
  have g0 : rn_gp t lg kn sw s e s = 0 := by rw [rn_gp, if_neg (by omega)]
  cases b
  · refine br_t rfl ⟨e - s + 1, yk_loop post hn he ht h11 0 hp (e - s + 1) s (by omega) (Nat.le_refl _) (by omega) (fun _ => ⟨hl, Or.inl rfl⟩) _ _ _ _ _ (fun _ => ⟨?_, ?_⟩) (fun h => absurd h (by omega))⟩
    · rw [rn_x0 (Nat.le_refl _), g0]; rfl
    · rw [rn_sc0 (by omega)]; rfl
  · refine br_f (by decide) ⟨e - s + 1, yk_loop post hn he ht h11 5 hp (e - s + 1) s (by omega) (Nat.le_refl _) (by omega) (fun _ => ⟨hl, Or.inl rfl⟩) _ _ _ _ _ (fun _ => ⟨?_, ?_⟩) (fun h => absurd h (by omega))⟩
    · rw [rn_x0 (Nat.le_refl _), g0]; rfl
    · rw [rn_sc0 (by omega)]; rfl
end
end
section
/-! hyphenation: the codes about a place, the key of the pattern of a size that puts its digit idx there, the greatest digit -/
def hy_code (t : Nat → Nat) (wf wt m : Nat) : Nat := if m < wf + 1 ∨ wt + 1 ≤ m then 10 else t (m - 1)
def hy_cc (t : Nat → Nat) (wf wt place size idx i : Nat) : Nat := if i < size then hy_code t wf wt (place + 1 - idx + i) + 1 else 0
def hy_key (t : Nat → Nat) (wf wt place size idx : Nat) : Nat := (hy_cc t wf wt place size idx 0 * 12 + hy_cc t wf wt place size idx 1) * 12 + hy_cc t wf wt place size idx 2
def hy_D (t P : Nat → Nat) (wf wt place size idx : Nat) : Nat := P (hy_key t wf wt place size idx) / 10 ^ (size - idx) % 10
def hy_in (D : Nat → Nat → Nat) (size g0 : Nat) : Nat → Nat
  | 0 => g0
  | k + 1 => if D size k ≤ hy_in D size g0 k then hy_in D size g0 k else D size k
def hy_mx (D : Nat → Nat → Nat) : Nat := hy_in D 3 (hy_in D 2 (hy_in D 1 0 2) 3) 4
def hy_b (t P : Nat → Nat) (n place : Nat) : Bool := decide (place < n ∧ t place < 10 ∧ wd_s t n place + 2 ≤ place ∧ place + 2 ≤ wd_E t n place ∧ hy_mx (hy_D t P (wd_s t n place) (wd_E t n place) place) % 2 = 1)
theorem hy_in_ge (D : Nat → Nat → Nat) (size g0 k : Nat) : g0 ≤ hy_in D size g0 k ∧ (∀ j, j < k → D size j ≤ hy_in D size g0 k) ∧ (hy_in D size g0 k = g0 ∨ ∃ j, j < k ∧ hy_in D size g0 k = D size j) := by
  induction k with
  | zero => exact ⟨Nat.le_refl _, fun j h => absurd h (by omega), Or.inl rfl⟩
  | succ k ih =>
    obtain ⟨a, b, c⟩ := ih
    rw [hy_in]
    by_cases h : D size k ≤ hy_in D size g0 k
    · rw [if_pos h]
      refine ⟨a, fun j hj => ?_, ?_⟩
      · by_cases e : j = k
        · rw [e]; exact h
        · exact b j (by omega)
      · rcases c with c | ⟨j, c1, c2⟩
        · exact Or.inl c
        · exact Or.inr ⟨j, by omega, c2⟩
    · rw [if_neg h]
      refine ⟨by omega, fun j hj => ?_, Or.inr ⟨k, by omega, rfl⟩⟩
      by_cases e : j = k
      · rw [e]; exact Nat.le_refl _
      · have := b j (by omega); omega
theorem hy_mx_ok (D : Nat → Nat → Nat) : (∀ size idx, 1 ≤ size → size ≤ 3 → idx ≤ size → D size idx ≤ hy_mx D) ∧ (hy_mx D = 0 ∨ ∃ size idx, 1 ≤ size ∧ size ≤ 3 ∧ idx ≤ size ∧ hy_mx D = D size idx) := by
  obtain ⟨a1, b1, c1⟩ := hy_in_ge D 1 0 2
  obtain ⟨a2, b2, c2⟩ := hy_in_ge D 2 (hy_in D 1 0 2) 3
  obtain ⟨a3, b3, c3⟩ := hy_in_ge D 3 (hy_in D 2 (hy_in D 1 0 2) 3) 4
  have e : hy_mx D = hy_in D 3 (hy_in D 2 (hy_in D 1 0 2) 3) 4 := rfl
  rw [← e] at a3 b3 c3
  constructor
  · intro size idx h1 h2 h3
    have : size = 1 ∨ size = 2 ∨ size = 3 := by omega
    rcases this with rfl | rfl | rfl
    · have := b1 idx (by omega); omega
    · have := b2 idx (by omega); omega
    · exact b3 idx (by omega)
  · rcases c3 with c3 | ⟨j, j1, j2⟩
    · rcases c2 with c2 | ⟨j, j1, j2⟩
      · rcases c1 with c1 | ⟨j, j1, j2⟩
        · left; omega
        · right; exact ⟨1, j, by omega, by omega, by omega, by omega⟩
      · right; exact ⟨2, j, by omega, by omega, by omega, by omega⟩
    · right; exact ⟨3, j, by omega, by omega, by omega, j2⟩
theorem hy_cc_lt {t : Nat → Nat} {wf wt place size idx i : Nat} (hl : ∀ j, wf ≤ j → j < wt → t j < 10) : hy_cc t wf wt place size idx i < 12 := by
  rw [hy_cc]
  split
  · rw [hy_code]
    split
    · omega
    · have := hl (place + 1 - idx + i - 1) (by omega) (by omega); omega
  · omega
theorem hy_D_lt {t P : Nat → Nat} {wf wt place size idx : Nat} : hy_D t P wf wt place size idx < 10 := Nat.mod_lt _ (by omega)
theorem hy_mx_lt {D : Nat → Nat → Nat} (h : ∀ a b, D a b < 10) : hy_mx D < 10 := by
  rcases (hy_mx_ok D).2 with e | ⟨a, b, _, _, _, e⟩
  · omega
  · rw [e]; exact h a b
section
variable {n lc pc fw rw fl sw ss sk ba hyc ph : Nat} {t w lg : Nat → Nat} {kn : Nat → Int}
variable {P : Nat → Nat}
variable {x_breakCount x_lineCount x_paragraphCount x_stale : Int32} {a_patterns a_heads a_glyphs a_breakEnd a_breakNext a_breakHyphen a_breakTaken a_wayBefore a_lineFacts : Nat → Int32} {a_wayDemerits a_paragraphDemerits : Nat → Int64}
theorem hx_div (post : Int32 → Prop) {size : Nat} (hs : size < 1000) : ∀ d j v, j + d = size → v < 2 ^ 31 → post (nI (v / 10 ^ d % 10)) → wX_patternDigit_115 post (nI size) (nI n) (nI lc) (nI pc) (nI fw) (nI rw) (nI fl) (nI sw) (nI ss) (nI sk) (nI ba) (nI hyc) (nI ph) x_breakCount x_lineCount x_paragraphCount x_stale (gd_tI t) (gd_tI w) (gd_lI lg) (gd_kI kn) a_patterns a_heads a_glyphs a_breakEnd a_breakNext a_breakHyphen a_breakTaken a_wayDemerits a_wayBefore a_lineFacts a_paragraphDemerits (d + 1) (nI v) (nI j) := by
  intro d
  induction d with
  | zero =>
    intro j v hj hv hp
    refine br_t (nI_le (by omega) (by omega)) ⟨by decide, ?_⟩
    rw [show (10 : Int32) = nI 10 from rfl, pk_rem hv (by omega) (by omega)]
    rw [show v / 10 ^ 0 = v by omega] at hp
    exact hp
  | succ d ih =>
    intro j v hj hv hp
    refine br_f (nI_ge (by omega) (by omega)) ⟨by decide, nm_r (e' := nI (v / 10)) (pk_div (d := 10) hv (by omega) (by omega)) (nm_r (nI_1 j) (ih (j + 1) (v / 10) (by omega) (by omega) ?_))⟩
    rw [Nat.div_div_eq_div_mul, show 10 * 10 ^ d = 10 ^ (d + 1) by rw [Nat.pow_succ, Nat.mul_comm]]
    exact hp
theorem hx_digit {post : Int32 → Prop} {wf wt place size idx : Nat} (hP : ∀ k, P k < 2 ^ 31) (hw : wt ≤ 48) (h1 : wf + 2 ≤ place) (h2 : place + 2 ≤ wt) (hl : ∀ j, wf ≤ j → j < wt → t j < 10) (hs1 : 1 ≤ size) (hs3 : size ≤ 3) (hi : idx ≤ size)
    (hp : post (nI (hy_D t P wf wt place size idx))) : wpX_patternDigit post ((nI n), (nI lc), (nI pc), (nI fw), (nI rw), (nI fl), (nI sw), (nI ss), (nI sk), (nI ba), (nI hyc), (nI ph), x_breakCount, x_lineCount, x_paragraphCount, x_stale, (gd_tI t), (gd_tI w), (gd_lI lg), (gd_kI kn), (gd_tI P), a_heads, a_glyphs, a_breakEnd, a_breakNext, a_breakHyphen, a_breakTaken, a_wayDemerits, a_wayBefore, a_lineFacts, a_paragraphDemerits) (nI place) (nI size) (nI idx) (nI wf) (nI wt) := by
  refine nm_r (e' := gd_iI ((place : Int) - idx)) (by rw [gd_nat, gd_nat idx, gd_sub]) ?_
  refine br_f ?_ (br_t ?_ ⟨4, ?_⟩)
  · rw [Int32.lt_iff_toInt_lt, gd_toInt (by omega) (by omega), gd_nat, show (1 : Int32) = gd_iI 1 from rfl, gd_sub, gd_toInt (by omega) (by omega)]; omega
  · rw [Int32.le_iff_toInt_le, gd_nat, gd_nat wt, gd_add, show (1 : Int32) = gd_iI 1 from rfl, gd_add, gd_toInt (by omega) (by omega), gd_toInt (by omega) (by omega)]; omega
  have step : ∀ f k i, i < 3 → wX_patternDigit_33 post (nI size) (nI idx) (nI wf) (nI wt) (gd_iI ((place : Int) - idx)) (nI n) (nI lc) (nI pc) (nI fw) (nI rw) (nI fl) (nI sw) (nI ss) (nI sk) (nI ba) (nI hyc) (nI ph) x_breakCount x_lineCount x_paragraphCount x_stale (gd_tI t) (gd_tI w) (gd_lI lg) (gd_kI kn) (gd_tI P) a_heads a_glyphs a_breakEnd a_breakNext a_breakHyphen a_breakTaken a_wayDemerits a_wayBefore a_lineFacts a_paragraphDemerits f (nI (k * 12 + hy_cc t wf wt place size idx i)) (nI (i + 1)) → wX_patternDigit_33 post (nI size) (nI idx) (nI wf) (nI wt) (gd_iI ((place : Int) - idx)) (nI n) (nI lc) (nI pc) (nI fw) (nI rw) (nI fl) (nI sw) (nI ss) (nI sk) (nI ba) (nI hyc) (nI ph) x_breakCount x_lineCount x_paragraphCount x_stale (gd_tI t) (gd_tI w) (gd_lI lg) (gd_kI kn) (gd_tI P) a_heads a_glyphs a_breakEnd a_breakNext a_breakHyphen a_breakTaken a_wayDemerits a_wayBefore a_lineFacts a_paragraphDemerits (f + 1) (nI k) (nI i) := by
    intro f k i hi3 H
    refine br_f (nI_ge (b := 3) hi3 (by decide)) ?_
    have hsum : gd_iI ((place : Int) - idx) + nI i = gd_iI ((place : Int) - idx + i) := by rw [gd_nat i, gd_add]
    refine pk_le size i (fun h => ?_) (fun h => ?_)
    · refine nm_r ?_ (nm_r (nI_1 i) H)
      rw [hy_cc, if_neg (by omega), show (12 : Int32) = nI 12 from rfl, pk_mul]
      show nI (k * 12) + (-1) + 1 = _
      grind
    · have T : ∀ c, hy_code t wf wt (place + 1 - idx + i) = c → nI k * 12 + nI c + 1 = nI (k * 12 + hy_cc t wf wt place size idx i) := by
        intro c hc
        rw [hy_cc, if_pos h, hc, show (12 : Int32) = nI 12 from rfl, pk_mul, nI_add, nI_1]; rfl
      refine gd_zlt ((place : Int) - idx + i) wf (fun h3 => ?_) (fun h3 => ?_) hsum (gd_nat wf) (by omega) (by omega)
      · refine nm_r (T 10 ?_) (nm_r (nI_1 i) H)
        rw [hy_code, if_pos (by omega)]
      · refine gd_zlt ((place : Int) - idx + i) wt (fun h4 => ?_) (fun h4 => ?_) hsum (gd_nat wt) (by omega) (by omega)
        · have e1 : gd_iI ((place : Int) - idx) + nI i = nI (place + 1 - idx + i - 1) := by
            rw [hsum, gd_nat]; congr 1; omega
          refine ⟨pk_in _ 48 (by omega) e1, nm_r (T (t (place + 1 - idx + i - 1)) ?_ ▸ ?_) (nm_r (nI_1 i) H)⟩
          · rw [hy_code, if_neg (by omega)]
          · rw [e1, gd_rt (by omega)]
        · refine nm_r (T 10 ?_) (nm_r (nI_1 i) H)
          rw [hy_code, if_pos (by omega)]
  refine step 3 0 0 (by omega) (step 2 _ 1 (by omega) (step 1 _ 2 (by omega) ?_))
  have c0 := hy_cc_lt (place := place) (size := size) (idx := idx) (i := 0) hl
  have c1 := hy_cc_lt (place := place) (size := size) (idx := idx) (i := 1) hl
  have c2 := hy_cc_lt (place := place) (size := size) (idx := idx) (i := 2) hl
  have ek : ((0 * 12 + hy_cc t wf wt place size idx 0) * 12 + hy_cc t wf wt place size idx 1) * 12 + hy_cc t wf wt place size idx 2 = hy_key t wf wt place size idx := by rw [hy_key]; omega
  have hk : hy_key t wf wt place size idx < 1728 := by rw [hy_key]; omega
  rw [ek]
  refine br_t (by decide) ⟨vp_in_nI hk (by omega), nm_r (gd_rt (by omega)) ⟨size - idx + 1, hx_div post (by omega) (size - idx) idx _ (by omega) (hP _) hp⟩⟩
theorem hx_great {post : Int32 → Prop} {wf wt place : Nat} (hP : ∀ k, P k < 2 ^ 31) (hw : wt ≤ 48) (h1 : wf + 2 ≤ place) (h2 : place + 2 ≤ wt) (hl : ∀ j, wf ≤ j → j < wt → t j < 10)
    (hp : post (nI (hy_mx (hy_D t P wf wt place)))) : wpX_greatestDigitAt post ((nI n), (nI lc), (nI pc), (nI fw), (nI rw), (nI fl), (nI sw), (nI ss), (nI sk), (nI ba), (nI hyc), (nI ph), x_breakCount, x_lineCount, x_paragraphCount, x_stale, (gd_tI t), (gd_tI w), (gd_lI lg), (gd_kI kn), (gd_tI P), a_heads, a_glyphs, a_breakEnd, a_breakNext, a_breakHyphen, a_breakTaken, a_wayDemerits, a_wayBefore, a_lineFacts, a_paragraphDemerits) (nI place) (nI wf) (nI wt) := by
  have inner : ∀ (J : Int32 → Int32 → Prop) (size g0 : Nat), 1 ≤ size → size ≤ 3 → (∀ k, hy_in (hy_D t P wf wt place) size g0 k < 2 ^ 31) → J (nI (hy_in (hy_D t P wf wt place) size g0 (size + 1))) (nI (size + 1)) → ∀ d k, k + d = size + 1 → wX_greatestDigitAt_15 post J (nI place) (nI wf) (nI wt) (nI size) (nI n) (nI lc) (nI pc) (nI fw) (nI rw) (nI fl) (nI sw) (nI ss) (nI sk) (nI ba) (nI hyc) (nI ph) x_breakCount x_lineCount x_paragraphCount x_stale (gd_tI t) (gd_tI w) (gd_lI lg) (gd_kI kn) (gd_tI P) a_heads a_glyphs a_breakEnd a_breakNext a_breakHyphen a_breakTaken a_wayDemerits a_wayBefore a_lineFacts a_paragraphDemerits (d + 1) (nI (hy_in (hy_D t P wf wt place) size g0 k)) (nI k) := by
    intro J size g0 s1 s3 hb hJ d
    induction d with
    | zero =>
      intro k hk
      rw [show k = size + 1 by omega]
      exact br_t (nI_lt (by omega) (by omega)) (nm_r (nI_1 size) hJ)
    | succ d ih =>
      intro k hk
      refine br_f (nI_nlt (by omega) (by omega)) (hx_digit hP hw h1 h2 hl s1 s3 (by omega) ?_)
      have h3 := ih (k + 1) (by omega)
      have hD := hy_D_lt (t := t) (P := P) (wf := wf) (wt := wt) (place := place) (size := size) (idx := k)
      rw [hy_in] at h3
      refine pk_le _ _ (fun h => ?_) (fun h => ?_) rfl rfl (by omega) (hb k)
      · rw [if_pos h] at h3
        exact nm_r (nI_1 k) h3
      · rw [if_neg (by omega)] at h3
        exact nm_r (nI_1 k) h3
  have bd : ∀ size g0 k, g0 < 10 → hy_in (hy_D t P wf wt place) size g0 k < 10 := by
    intro size g0 k h
    rcases (hy_in_ge (hy_D t P wf wt place) size g0 k).2.2 with e | ⟨j, _, e⟩
    · omega
    · rw [e]; exact hy_D_lt
  have b1 : ∀ k, hy_in (hy_D t P wf wt place) 1 0 k < 10 := fun k => bd 1 0 k (by omega)
  have b2 : ∀ k, hy_in (hy_D t P wf wt place) 2 (hy_in (hy_D t P wf wt place) 1 0 2) k < 10 := fun k => bd 2 _ k (b1 2)
  have b3 : ∀ k, hy_in (hy_D t P wf wt place) 3 (hy_in (hy_D t P wf wt place) 2 (hy_in (hy_D t P wf wt place) 1 0 2) 3) k < 10 := fun k => bd 3 _ k (b2 3)
  refine ⟨4, ?_⟩
  refine br_f (by decide) ⟨3, inner _ 1 0 (by omega) (by omega) (fun k => by have := b1 k; omega) ?_ 2 0 (by omega)⟩
  refine br_f (by decide) ⟨4, inner _ 2 (hy_in (hy_D t P wf wt place) 1 0 2) (by omega) (by omega) (fun k => by have := b2 k; omega) ?_ 3 0 (by omega)⟩
  refine br_f (by decide) ⟨5, inner _ 3 (hy_in (hy_D t P wf wt place) 2 (hy_in (hy_D t P wf wt place) 1 0 2) 3) (by omega) (by omega) (fun k => by have := b3 k; omega) ?_ 4 0 (by omega)⟩
  exact br_t (by decide) hp
theorem hx_may {post : Int32 → Prop} {i : Nat} (hn : n ≤ 48) (ht : ∀ i, t i ≤ 11) (hP : ∀ k, P k < 2 ^ 31) (hi : i < 2 ^ 31) (hp : post (gd_bI (hy_b t P n i))) : wpX_mayHyphenate post ((nI n), (nI lc), (nI pc), (nI fw), (nI rw), (nI fl), (nI sw), (nI ss), (nI sk), (nI ba), (nI hyc), (nI ph), x_breakCount, x_lineCount, x_paragraphCount, x_stale, (gd_tI t), (gd_tI w), (gd_lI lg), (gd_kI kn), (gd_tI P), a_heads, a_glyphs, a_breakEnd, a_breakNext, a_breakHyphen, a_breakTaken, a_wayDemerits, a_wayBefore, a_lineFacts, a_paragraphDemerits) (nI i) := by
  refine br_f (nI_pos hi) (pk_le n i (fun h => ?_) (fun h => ⟨vp_in_nI (by omega) (by omega), pk_lt (t i) 10 (fun h1 => ?_) (fun h1 => ?_) (gd_rt hi) rfl (by have := ht i; omega) (by omega)⟩))
  · rw [hy_b, decide_eq_false (by omega)] at hp; exact hp
  · obtain ⟨w1, w2, w3⟩ := wd_E_ok (t := t) (n := n) i
    have w4 := wd_E_le (t := t) (show i ≤ n by omega)
    have w5 := wd_E_ge (t := t) (n := n) ⟨h, h1⟩
    obtain ⟨v1, v2, v3⟩ := wd_s_ok (t := t) (n := n) i
    have fin : wX_mayHyphenate_95 post (nI i) (nI (wd_s t n i)) (nI (wd_E t n i)) (nI n) (nI lc) (nI pc) (nI fw) (nI rw) (nI fl) (nI sw) (nI ss) (nI sk) (nI ba) (nI hyc) (nI ph) x_breakCount x_lineCount x_paragraphCount x_stale (gd_tI t) (gd_tI w) (gd_lI lg) (gd_kI kn) (gd_tI P) a_heads a_glyphs a_breakEnd a_breakNext a_breakHyphen a_breakTaken a_wayDemerits a_wayBefore a_lineFacts a_paragraphDemerits := by
      refine pk_lt (i - wd_s t n i) 2 (fun h2 => ?_) (fun h2 => ?_) (pk_sub v1) rfl (by omega) (by omega)
      · rw [hy_b, decide_eq_false (by omega)] at hp; exact hp
      · refine pk_le 2 (wd_E t n i - i) (fun h3 => ?_) (fun h3 => ?_) rfl (pk_sub w1) (by omega) (by omega)
        · refine hx_great hP (by omega) (by omega) (by omega) (fun j a b => ?_) ⟨by decide, ?_⟩
          · rcases Nat.lt_or_ge j i with z | z
            · exact (v2 j a z).2
            · exact (w2 j z b).2
          · have hlt := hy_mx_lt (D := hy_D t P (wd_s t n i) (wd_E t n i) i) (fun a b => hy_D_lt)
            refine pk_eq (hy_mx (hy_D t P (wd_s t n i) (wd_E t n i) i) % 2) 1 (fun h4 => ?_) (fun h4 => ?_) (pk_rem (d := 2) (by omega) (by omega) (by omega)) rfl (by omega) (by omega)
            · rw [hy_b, decide_eq_true ⟨h, h1, by omega, by omega, h4⟩] at hp; exact hp
            · rw [hy_b, decide_eq_false (by omega)] at hp; exact hp
        · rw [hy_b, decide_eq_false (by omega)] at hp; exact hp
    have up : ∀ d j x3, x3 = nI j → j + d = wd_E t n i → i < j → wX_mayHyphenate_63 post (nI i) (nI (wd_s t n i)) (nI n) (nI lc) (nI pc) (nI fw) (nI rw) (nI fl) (nI sw) (nI ss) (nI sk) (nI ba) (nI hyc) (nI ph) x_breakCount x_lineCount x_paragraphCount x_stale (gd_tI t) (gd_tI w) (gd_lI lg) (gd_kI kn) (gd_tI P) a_heads a_glyphs a_breakEnd a_breakNext a_breakHyphen a_breakTaken a_wayDemerits a_wayBefore a_lineFacts a_paragraphDemerits (d + 1) x3 (nI j) := by
      intro d
      induction d with
      | zero =>
        intro j x3 hx hj hij
        have e : j = wd_E t n i := by omega
        subst hx
        rw [e]
        refine pk_le n (wd_E t n i) (fun _ => fin) (fun z => ⟨vp_in_nI (by omega) (by omega), ?_⟩)
        refine pk_le 10 (t (wd_E t n i)) (fun _ => fin) (fun z2 => absurd ⟨z, z2⟩ w3) rfl (gd_rt (by omega)) (by omega) (by have := ht (wd_E t n i); omega)
      | succ d ih =>
        intro j x3 hx hj hij
        have hj2 := w2 j (by omega) (by omega)
        refine br_f (nI_ge (by omega) (by omega)) ⟨vp_in_nI (by omega) (by omega), ?_⟩
        refine pk_le 10 (t j) (fun z => absurd hj2.2 (by omega)) (fun z2 => ?_) rfl (gd_rt (by omega)) (by omega) (by omega)
        exact nm_r (nI_1 j) (nm_r (nI_1 j) (ih (j + 1) _ rfl (by omega) (by omega)))
    have mid : wX_mayHyphenate_54 post (nI i) (nI (wd_s t n i)) (nI n) (nI lc) (nI pc) (nI fw) (nI rw) (nI fl) (nI sw) (nI ss) (nI sk) (nI ba) (nI hyc) (nI ph) x_breakCount x_lineCount x_paragraphCount x_stale (gd_tI t) (gd_tI w) (gd_lI lg) (gd_kI kn) (gd_tI P) a_heads a_glyphs a_breakEnd a_breakNext a_breakHyphen a_breakTaken a_wayDemerits a_wayBefore a_lineFacts a_paragraphDemerits :=
      nm_r (nI_1 i) (nm_r (nI_1 i) ⟨wd_E t n i - (i + 1) + 1, up _ (i + 1) _ rfl (by omega) (by omega)⟩)
    have dn : ∀ j, wd_s t n i ≤ j → j ≤ i → wX_mayHyphenate_31 post (nI i) (nI n) (nI lc) (nI pc) (nI fw) (nI rw) (nI fl) (nI sw) (nI ss) (nI sk) (nI ba) (nI hyc) (nI ph) x_breakCount x_lineCount x_paragraphCount x_stale (gd_tI t) (gd_tI w) (gd_lI lg) (gd_kI kn) (gd_tI P) a_heads a_glyphs a_breakEnd a_breakNext a_breakHyphen a_breakTaken a_wayDemerits a_wayBefore a_lineFacts a_paragraphDemerits (j - wd_s t n i + 1) (nI j) (nI j - 1) := by
      intro j
      induction j with
      | zero =>
        intro z1 z2
        have e : wd_s t n i = 0 := by omega
        rw [e] at mid ⊢
        exact br_t (by decide) mid
      | succ j ih =>
        intro z1 z2
        rw [nI_pred]
        refine br_f (nI_pos (by omega)) ⟨vp_in_nI (by omega) (by omega), ?_⟩
        refine pk_le 10 (t j) (fun z => ?_) (fun z => ?_) rfl (gd_rt (by omega)) (by omega) (by have := ht j; omega)
        · have e : wd_s t n i = j + 1 := by
            rcases Nat.lt_or_ge j (wd_s t n i) with y | y
            · omega
            · have := (v2 j y (by omega)).2; omega
          rw [e] at mid
          exact mid
        · have e : wd_s t n i ≤ j := by
            rcases Nat.lt_or_ge j (wd_s t n i) with y | y
            · have e : wd_s t n i = j + 1 := by omega
              rw [e] at v3
              rcases v3 with v3 | v3
              · omega
              · rw [show j + 1 - 1 = j by omega] at v3
                exact absurd ⟨by omega, z⟩ v3
            · exact y
          have h5 := ih e (by omega)
          rw [show j + 1 - wd_s t n i = j - wd_s t n i + 1 by omega]
          refine nm_r (e' := nI j - 1) ?_ h5
          grind
    exact nm_e ⟨_, dn i v1 (Nat.le_refl _)⟩
  · rw [hy_b, decide_eq_false (by omega)] at hp; exact hp
end
end
section
/-! the reference's list of patterns against the table by keys -/
def pt_key (a b c : Nat) : Nat := ((a + 1) * 12 + b) * 12 + c
def pt_L (b c : Nat) : Nat := if b = 0 then 1 else if c = 0 then 2 else 3
def pt_row (P : Nat → Nat) (A B C G : Int32) (a b c d : Nat) : Prop := A = nI a ∧ B = gd_iI ((b : Int) - 1) ∧ C = gd_iI ((c : Int) - 1) ∧ G = nI d ∧ (a ≤ 10 ∧ b ≤ 11 ∧ c ≤ 11 ∧ (b = 0 → c = 0)) ∧ (0 < d ∧ d ≤ 9999) ∧ P (pt_key a b c) = d
def pt_ok (P : Nat → Nat) (pc : Nat) (b_patA b_patB b_patC b_patDigits : Nat → Int32) (pa pb pq pd : Nat → Nat) : Prop :=
  pc ≤ 10 ∧ (∀ p, p < pc → pt_row P (b_patA p) (b_patB p) (b_patC p) (b_patDigits p) (pa p) (pb p) (pq p) (pd p)) ∧
  (∀ p q, p < q → q < pc → pt_key (pa p) (pb p) (pq p) ≠ pt_key (pa q) (pb q) (pq q)) ∧ (∀ k, P k ≠ 0 → ∃ p, p < pc ∧ pt_key (pa p) (pb p) (pq p) = k) ∧ (∀ k, P k ≤ 9999)
theorem pt_inj {a b c a' b' c' : Nat} (h1 : b ≤ 11) (h2 : c ≤ 11) (h3 : b' ≤ 11) (h4 : c' ≤ 11) (h : pt_key a b c = pt_key a' b' c') : a = a' ∧ b = b' ∧ c = c' := by
  simp only [pt_key] at h; omega
theorem pt_L_b (b c : Nat) : 1 ≤ pt_L b c ∧ pt_L b c ≤ 3 := by
  rw [pt_L]; split
  · omega
  · split <;> omega
def pt_l (a b c k : Nat) : Nat := if k = 0 then a + 1 else if k = 1 then b else c
section
variable {t P : Nat → Nat} {wf wt place : Nat}
theorem hy_keyeq {a b c size idx : Nat} (hl : ∀ j, wf ≤ j → j < wt → t j < 10) (hb : b ≤ 11) (hc : c ≤ 11) : pt_key a b c = hy_key t wf wt place size idx ↔ (hy_cc t wf wt place size idx 0 = a + 1 ∧ hy_cc t wf wt place size idx 1 = b ∧ hy_cc t wf wt place size idx 2 = c) := by
  have c0 := hy_cc_lt (place := place) (size := size) (idx := idx) (i := 0) hl
  have c1 := hy_cc_lt (place := place) (size := size) (idx := idx) (i := 1) hl
  have c2 := hy_cc_lt (place := place) (size := size) (idx := idx) (i := 2) hl
  simp only [pt_key, hy_key]
  omega
theorem hy_keyL {a b c size idx : Nat} (hl : ∀ j, wf ≤ j → j < wt → t j < 10) (hb : b ≤ 11) (hc : c ≤ 11) (h1 : 1 ≤ size) (h3 : size ≤ 3) (h : pt_key a b c = hy_key t wf wt place size idx) : pt_L b c = size := by
  obtain ⟨e0, e1, e2⟩ := (hy_keyeq hl hb hc).mp h
  rw [hy_cc] at e1 e2
  rw [pt_L]
  by_cases s1 : 1 < size
  · rw [if_pos s1] at e1
    rw [if_neg (by omega)]
    by_cases s2 : 2 < size
    · rw [if_pos s2] at e2
      rw [if_neg (by omega)]; omega
    · rw [if_neg s2] at e2
      rw [if_pos (by omega)]; omega
  · rw [if_neg s1] at e1
    rw [if_pos (by omega)]; omega
end
/-- the greatest digit so far: of the patterns before p, and of p before k -/
def yh_inv (t : Nat → Nat) (wf wt place pc : Nat) (pa pb pq pd : Nat → Nat) (p k g : Nat) : Prop :=
  (∀ p' k', p' < pc → k' ≤ pt_L (pb p') (pq p') → (p' < p ∨ p' = p ∧ k' < k) → pt_key (pa p') (pb p') (pq p') = hy_key t wf wt place (pt_L (pb p') (pq p')) k' → pd p' / 10 ^ (pt_L (pb p') (pq p') - k') % 10 ≤ g) ∧
  (g = 0 ∨ ∃ p' k', p' < pc ∧ k' ≤ pt_L (pb p') (pq p') ∧ pt_key (pa p') (pb p') (pq p') = hy_key t wf wt place (pt_L (pb p') (pq p')) k' ∧ pd p' / 10 ^ (pt_L (pb p') (pq p') - k') % 10 = g)
theorem yh_max {t P : Nat → Nat} {wf wt place pc g : Nat} {pa pb pq pd : Nat → Nat} {b_patA b_patB b_patC b_patDigits : Nat → Int32} (hl : ∀ j, wf ≤ j → j < wt → t j < 10) (hpt : pt_ok P pc b_patA b_patB b_patC b_patDigits pa pb pq pd)
    (h : yh_inv t wf wt place pc pa pb pq pd pc 0 g) : g = hy_mx (hy_D t P wf wt place) := by
  obtain ⟨q1, q2, q3, q4, q5⟩ := hpt
  obtain ⟨h1, h2⟩ := h
  obtain ⟨m1, m2⟩ := hy_mx_ok (hy_D t P wf wt place)
  apply Nat.le_antisymm
  · rcases h2 with h2 | ⟨p, k, a, b, c, d⟩
    · omega
    · obtain ⟨_, _, _, _, _, _, e⟩ := q2 p a
      have := m1 (pt_L (pb p) (pq p)) k (pt_L_b _ _).1 (pt_L_b _ _).2 b
      rw [hy_D, ← c, e] at this
      omega
  · rcases m2 with m2 | ⟨size, idx, a, b, c, d⟩
    · omega
    · rw [d]
      by_cases z : P (hy_key t wf wt place size idx) = 0
      · rw [hy_D, z, Nat.zero_div]; exact Nat.zero_le _
      · obtain ⟨p, e1, e2⟩ := q4 _ z
        obtain ⟨_, _, _, _, f, _, e⟩ := q2 p e1
        have hL := hy_keyL hl f.2.1 f.2.2.1 a b e2
        have := h1 p idx e1 (by rw [hL]; exact c) (Or.inl e1) (by rw [hL]; exact e2)
        rw [hL] at this
        rw [hy_D, ← e2, e]
        exact this
section
variable {n lc pc fw rw fl sw ss sk ba hyc ph : Nat} {t w lg : Nat → Nat} {kn : Nat → Int}
variable {P pa pb pq pd : Nat → Nat}
variable {y_ready y_glyphCount y_breaks y_natural y_spaces y_lineCount y_paragraphs : Int32} {b_patA b_patB b_patC b_patDigits b_glyphs b_glyphOf b_bEnd b_bNext b_bHyphen b_before b_way b_lFrom b_lTo b_lNumber b_lParagraph b_lPage b_lHyphen b_lLast : Nat → Int32} {b_least b_best : Nat → Int64}
theorem yh_div (post : Int32 → Prop) {k : Nat} (hk : k < 1000) : ∀ d v, v < 2 ^ 31 → d < 1000 → post (nI (v / 10 ^ d % 10)) → wY_digit_39 post (nI k) (nI n) (nI lc) (nI pc) (nI fw) (nI rw) (nI fl) (nI sw) (nI ss) (nI sk) (nI ba) (nI hyc) (nI ph) y_ready y_glyphCount y_breaks y_natural y_spaces y_lineCount y_paragraphs (gd_tI t) (gd_tI w) (gd_lI lg) (gd_kI kn) b_patA b_patB b_patC b_patDigits b_glyphs b_glyphOf b_bEnd b_bNext b_bHyphen b_least b_before b_way b_lFrom b_lTo b_lNumber b_lParagraph b_lPage b_lHyphen b_lLast b_best (d + 1) (nI v) (nI (k + d)) := by
  intro d
  induction d with
  | zero =>
    intro v hv _ hp
    refine br_t (nI_le (by omega) (by omega)) ⟨by decide, ?_⟩
    rw [show (10 : Int32) = nI 10 from rfl, pk_rem hv (by omega) (by omega)]
    rw [show v / 10 ^ 0 = v by omega] at hp
    exact hp
  | succ d ih =>
    intro v hv hd hp
    refine br_f (nI_ge (by omega) (by omega)) ⟨by decide, nm_r (e' := nI (v / 10)) (pk_div (d := 10) hv (by omega) (by omega)) (nm_r (pk_m1 (k + d)) (ih (v / 10) (by omega) (by omega) ?_))⟩
    rw [Nat.div_div_eq_div_mul, show 10 * 10 ^ d = 10 ^ (d + 1) by rw [Nat.pow_succ, Nat.mul_comm]]
    exact hp
/-- the branch by a pattern's letters -/
theorem yh_br {A B C : Prop} {p : Nat} (hp : p < 10) (h : pt_row P (b_patA p) (b_patB p) (b_patC p) (b_patDigits p) (pa p) (pb p) (pq p) (pd p)) (h3 : pt_L (pb p) (pq p) = 3 → A) (h2 : pt_L (pb p) (pq p) = 2 → B) (h1 : pt_L (pb p) (pq p) = 1 → C) :
    vp_in (nI p) 10 ∧ (((0 ≤ b_patB (nI p).toNatClampNeg → (vp_in (nI p) 10 ∧ ((0 ≤ b_patC (nI p).toNatClampNeg → A) ∧ (¬ 0 ≤ b_patC (nI p).toNatClampNeg → B)))) ∧ (¬ 0 ≤ b_patB (nI p).toNatClampNeg → C))) := by
  obtain ⟨r1, r2, r3, r4, r5, r6, r7⟩ := h
  refine ⟨vp_in_nI hp (by omega), ?_⟩
  refine gd_zle 0 ((pb p : Int) - 1) (fun b1 => ⟨vp_in_nI hp (by omega), ?_⟩) (fun b1 => ?_) rfl (by rw [nI_clamp (by omega), r2]) (by omega) (by omega)
  · refine gd_zle 0 ((pq p : Int) - 1) (fun b2 => ?_) (fun b2 => ?_) rfl (by rw [nI_clamp (by omega), r3]) (by omega) (by omega)
    · exact h3 (by rw [pt_L, if_neg (by omega), if_neg (by omega)])
    · exact h2 (by rw [pt_L, if_neg (by omega), if_pos (by omega)])
  · exact h1 (by rw [pt_L, if_pos (by omega)])
theorem yh_digit {post : Int32 → Prop} {p k : Nat} (hp10 : p < 10) (h : pt_row P (b_patA p) (b_patB p) (b_patC p) (b_patDigits p) (pa p) (pb p) (pq p) (pd p)) (hk : k ≤ pt_L (pb p) (pq p))
    (hp : post (nI (pd p / 10 ^ (pt_L (pb p) (pq p) - k) % 10))) : wpY_digit post ((nI n), (nI lc), (nI pc), (nI fw), (nI rw), (nI fl), (nI sw), (nI ss), (nI sk), (nI ba), (nI hyc), (nI ph), y_ready, y_glyphCount, y_breaks, y_natural, y_spaces, y_lineCount, y_paragraphs, (gd_tI t), (gd_tI w), (gd_lI lg), (gd_kI kn), b_patA, b_patB, b_patC, b_patDigits, b_glyphs, b_glyphOf, b_bEnd, b_bNext, b_bHyphen, b_least, b_before, b_way, b_lFrom, b_lTo, b_lNumber, b_lParagraph, b_lPage, b_lHyphen, b_lLast, b_best) (nI p) (nI k) := by
  have hb := pt_L_b (pb p) (pq p)
  obtain ⟨r1, r2, r3, r4, r5, r6, r7⟩ := id h
  have key : ∀ L, pt_L (pb p) (pq p) = L → wY_digit_27 post (nI p) (nI k) (nI L) (nI n) (nI lc) (nI pc) (nI fw) (nI rw) (nI fl) (nI sw) (nI ss) (nI sk) (nI ba) (nI hyc) (nI ph) y_ready y_glyphCount y_breaks y_natural y_spaces y_lineCount y_paragraphs (gd_tI t) (gd_tI w) (gd_lI lg) (gd_kI kn) b_patA b_patB b_patC b_patDigits b_glyphs b_glyphOf b_bEnd b_bNext b_bHyphen b_least b_before b_way b_lFrom b_lTo b_lNumber b_lParagraph b_lPage b_lHyphen b_lLast b_best := by
    intro L hL
    refine ⟨vp_in_nI hp10 (by omega), nm_r (e' := nI (pd p)) (by rw [nI_clamp (by omega), r4]) ⟨L - k + 1, ?_⟩⟩
    have := yh_div (n := n) (lc := lc) (pc := pc) (fw := fw) (rw := rw) (fl := fl) (sw := sw) (ss := ss) (sk := sk) (ba := ba) (hyc := hyc) (ph := ph) (t := t) (w := w) (lg := lg) (kn := kn) (y_ready := y_ready) (y_glyphCount := y_glyphCount) (y_breaks := y_breaks) (y_natural := y_natural) (y_spaces := y_spaces) (y_lineCount := y_lineCount) (y_paragraphs := y_paragraphs) (b_patA := b_patA) (b_patB := b_patB) (b_patC := b_patC) (b_patDigits := b_patDigits) (b_glyphs := b_glyphs) (b_glyphOf := b_glyphOf) (b_bEnd := b_bEnd) (b_bNext := b_bNext) (b_bHyphen := b_bHyphen) (b_least := b_least) (b_before := b_before) (b_way := b_way) (b_lFrom := b_lFrom) (b_lTo := b_lTo) (b_lNumber := b_lNumber) (b_lParagraph := b_lParagraph) (b_lPage := b_lPage) (b_lHyphen := b_lHyphen) (b_lLast := b_lLast) (b_best := b_best) post (k := k) (by omega) (L - k) (pd p) (by omega) (by omega) (by rw [← hL]; exact hp)
    rw [show k + (L - k) = L by omega] at this
    exact this
  exact yh_br hp10 h (fun e => key 3 e) (fun e => key 2 e) (fun e => key 1 e)
theorem yh_meets {post : Int32 → Prop} {p k wf wt place : Nat} (hp10 : p < 10) (hw : wt ≤ 48) (h1 : wf + 2 ≤ place) (h2 : place + 2 ≤ wt) (hl : ∀ j, wf ≤ j → j < wt → t j < 10) (h : pt_row P (b_patA p) (b_patB p) (b_patC p) (b_patDigits p) (pa p) (pb p) (pq p) (pd p)) (hk : k ≤ pt_L (pb p) (pq p))
    (hp : post (gd_bI (decide (pt_key (pa p) (pb p) (pq p) = hy_key t wf wt place (pt_L (pb p) (pq p)) k)))) : wpY_meets post ((nI n), (nI lc), (nI pc), (nI fw), (nI rw), (nI fl), (nI sw), (nI ss), (nI sk), (nI ba), (nI hyc), (nI ph), y_ready, y_glyphCount, y_breaks, y_natural, y_spaces, y_lineCount, y_paragraphs, (gd_tI t), (gd_tI w), (gd_lI lg), (gd_kI kn), b_patA, b_patB, b_patC, b_patDigits, b_glyphs, b_glyphOf, b_bEnd, b_bNext, b_bHyphen, b_least, b_before, b_way, b_lFrom, b_lTo, b_lNumber, b_lParagraph, b_lPage, b_lHyphen, b_lLast, b_best) (nI p) (nI place - nI k) (nI wf) (nI wt) := by
  have hb := pt_L_b (pb p) (pq p)
  obtain ⟨r1, r2, r3, r4, r5, r6, r7⟩ := id h
  have ke := hy_keyeq (place := place) (a := pa p) (size := pt_L (pb p) (pq p)) (idx := k) hl r5.2.1 r5.2.2.1
  have ho : nI place - nI k = gd_iI ((place : Int) - k) := by rw [gd_nat, gd_nat k, gd_sub]
  have key : ∀ d m, m + d = pt_L (pb p) (pq p) → (∀ j, j < m → hy_cc t wf wt place (pt_L (pb p) (pq p)) k j = pt_l (pa p) (pb p) (pq p) j) → wY_meets_32 post (nI p) (nI place - nI k) (nI wf) (nI wt) (nI (pt_L (pb p) (pq p))) (nI n) (nI lc) (nI pc) (nI fw) (nI rw) (nI fl) (nI sw) (nI ss) (nI sk) (nI ba) (nI hyc) (nI ph) y_ready y_glyphCount y_breaks y_natural y_spaces y_lineCount y_paragraphs (gd_tI t) (gd_tI w) (gd_lI lg) (gd_kI kn) b_patA b_patB b_patC b_patDigits b_glyphs b_glyphOf b_bEnd b_bNext b_bHyphen b_least b_before b_way b_lFrom b_lTo b_lNumber b_lParagraph b_lPage b_lHyphen b_lLast b_best (d + 1) (nI m) := by
    intro d
    induction d with
    | zero =>
      intro m hm hI
      refine br_t (nI_le (by omega) (by omega)) ?_
      have : pt_key (pa p) (pb p) (pq p) = hy_key t wf wt place (pt_L (pb p) (pq p)) k := by
        rw [ke]
        have i0 := hI 0 (by omega)
        refine ⟨i0, ?_, ?_⟩
        · by_cases z : 1 < m
          · exact hI 1 z
          · have : pb p = 0 := by
              rw [pt_L] at hm
              by_cases y : pb p = 0
              · exact y
              · rw [if_neg y] at hm; split at hm <;> omega
            rw [hy_cc, if_neg (by omega), this]
        · by_cases z : 2 < m
          · exact hI 2 z
          · have : pq p = 0 := by
              rw [pt_L] at hm
              by_cases y : pb p = 0
              · exact r5.2.2.2 y
              · rw [if_neg y] at hm
                by_cases y2 : pq p = 0
                · exact y2
                · rw [if_neg y2] at hm; omega
            rw [hy_cc, if_neg (by omega), this]
      rw [decide_eq_true this] at hp
      exact hp
    | succ d ih =>
      intro m hm hI
      refine br_f (nI_ge (by omega) (by omega)) ?_
      -- the pattern's letter
      have hpl : ∀ post' : Int32 → Prop, post' (gd_iI ((pt_l (pa p) (pb p) (pq p) m : Int) - 1)) → wpY_patLetter post' ((nI n), (nI lc), (nI pc), (nI fw), (nI rw), (nI fl), (nI sw), (nI ss), (nI sk), (nI ba), (nI hyc), (nI ph), y_ready, y_glyphCount, y_breaks, y_natural, y_spaces, y_lineCount, y_paragraphs, (gd_tI t), (gd_tI w), (gd_lI lg), (gd_kI kn), b_patA, b_patB, b_patC, b_patDigits, b_glyphs, b_glyphOf, b_bEnd, b_bNext, b_bHyphen, b_least, b_before, b_way, b_lFrom, b_lTo, b_lNumber, b_lParagraph, b_lPage, b_lHyphen, b_lLast, b_best) (nI p) (nI m) := by
        intro post' hp'
        refine pk_eq m 0 (fun e => ⟨vp_in_nI hp10 (by omega), ?_⟩) (fun e => pk_eq m 1 (fun e1 => ⟨vp_in_nI hp10 (by omega), ?_⟩) (fun e1 => ⟨vp_in_nI hp10 (by omega), ?_⟩))
        · rw [nI_clamp (by omega), r1, gd_nat]
          rw [pt_l, if_pos e] at hp'
          rw [show ((pa p + 1 : Nat) : Int) - 1 = (pa p : Int) by omega] at hp'
          exact hp'
        · rw [nI_clamp (by omega), r2]
          rw [pt_l, if_neg e, if_pos e1] at hp'
          exact hp'
        · rw [nI_clamp (by omega), r3]
          rw [pt_l, if_neg e, if_neg e1] at hp'
          exact hp'
      refine hpl _ ?_
      have hsum : nI place - nI k + nI m = gd_iI ((place : Int) - k + m) := by rw [ho, gd_nat m, gd_add]
      have hcm : hy_cc t wf wt place (pt_L (pb p) (pq p)) k m = hy_code t wf wt (place + 1 - k + m) + 1 := by rw [hy_cc, if_pos (by omega)]
      have hcl := hy_cc_lt (place := place) (size := pt_L (pb p) (pq p)) (idx := k) (i := m) hl
      have hlm : pt_l (pa p) (pb p) (pq p) m ≤ 11 := by rw [pt_l]; split; omega; split <;> omega
      have hiw : ∀ post' : Int32 → Prop, post' (gd_iI (hy_code t wf wt (place + 1 - k + m))) → wpY_inWord post' ((nI n), (nI lc), (nI pc), (nI fw), (nI rw), (nI fl), (nI sw), (nI ss), (nI sk), (nI ba), (nI hyc), (nI ph), y_ready, y_glyphCount, y_breaks, y_natural, y_spaces, y_lineCount, y_paragraphs, (gd_tI t), (gd_tI w), (gd_lI lg), (gd_kI kn), b_patA, b_patB, b_patC, b_patDigits, b_glyphs, b_glyphOf, b_bEnd, b_bNext, b_bHyphen, b_least, b_before, b_way, b_lFrom, b_lTo, b_lNumber, b_lParagraph, b_lPage, b_lHyphen, b_lLast, b_best) (nI wf) (nI wt) (nI place - nI k + nI m) := by
        intro post' hp'
        refine gd_zeq ((place : Int) - k + m) ((wf : Int) - 1) (fun e => ?_) (fun e => ?_) hsum (by rw [gd_nat]; exact gd_sub _ 1) (by omega) (by omega)
        · rw [hy_code, if_pos (by omega)] at hp'; exact hp'
        · refine gd_zeq ((place : Int) - k + m) wt (fun e2 => ?_) (fun e2 => ?_) hsum (gd_nat wt) (by omega) (by omega)
          · rw [hy_code, if_pos (by omega)] at hp'; exact hp'
          · refine gd_zlt ((place : Int) - k + m) wf (fun e3 => absurd e3 (by omega)) (fun e3 => ?_) hsum (gd_nat wf) (by omega) (by omega)
            refine gd_zle ((place : Int) - k + m) wt (fun e4 => ?_) (fun e4 => absurd e4 (by omega)) hsum (gd_nat wt) (by omega) (by omega)
            have e1 : nI place - nI k + nI m = nI (place + 1 - k + m - 1) := by rw [hsum, gd_nat]; congr 1; omega
            refine ⟨pk_in _ 48 (by omega) e1, ?_⟩
            rw [hy_code, if_neg (by omega)] at hp'
            rw [e1, gd_rt (by omega), gd_nat]
            exact hp'
      refine hiw _ ?_
      have nx : hy_cc t wf wt place (pt_L (pb p) (pq p)) k m = pt_l (pa p) (pb p) (pq p) m → wY_meets_32 post (nI p) (nI place - nI k) (nI wf) (nI wt) (nI (pt_L (pb p) (pq p))) (nI n) (nI lc) (nI pc) (nI fw) (nI rw) (nI fl) (nI sw) (nI ss) (nI sk) (nI ba) (nI hyc) (nI ph) y_ready y_glyphCount y_breaks y_natural y_spaces y_lineCount y_paragraphs (gd_tI t) (gd_tI w) (gd_lI lg) (gd_kI kn) b_patA b_patB b_patC b_patDigits b_glyphs b_glyphOf b_bEnd b_bNext b_bHyphen b_least b_before b_way b_lFrom b_lTo b_lNumber b_lParagraph b_lPage b_lHyphen b_lLast b_best (d + 1) (nI (m + 1)) := by
        intro e
        refine ih (m + 1) (by omega) (fun j hj => ?_)
        by_cases z : j = m
        · rw [z]; exact e
        · exact hI j (by omega)
      refine gd_zeq (hy_code t wf wt (place + 1 - k + m) : Int) ((pt_l (pa p) (pb p) (pq p) m : Int) - 1) (fun e => ?_) (fun e => ?_) rfl rfl (by omega) (by omega)
      · have e' : hy_cc t wf wt place (pt_L (pb p) (pq p)) k m = pt_l (pa p) (pb p) (pq p) m := by omega
        refine gd_zeq ((pt_l (pa p) (pb p) (pq p) m : Int) - 1) 10 (fun e2 => ?_) (fun e2 => ?_) rfl rfl (by omega) (by omega)
        · have hc10 : hy_code t wf wt (place + 1 - k + m) = 10 := by omega
          have hpos : place + 1 - k + m < wf + 1 ∨ wt + 1 ≤ place + 1 - k + m := by
            rw [hy_code] at hc10
            by_cases z : place + 1 - k + m < wf + 1 ∨ wt + 1 ≤ place + 1 - k + m
            · exact z
            · rw [if_neg z] at hc10
              have := hl (place + 1 - k + m - 1) (by omega) (by omega)
              omega
          refine pk_eq m 0 (fun e3 => ?_) (fun e3 => ?_)
          · refine gd_zeq ((place : Int) - k) ((wf : Int) - 1) (fun e4 => ?_) (fun e4 => False.elim (by omega)) ho (by rw [gd_nat]; exact gd_sub _ 1) (by omega) (by omega)
            exact nm_r (nI_1 m) (nx e')
          · refine gd_zeq ((place : Int) - k + m) wt (fun e4 => ?_) (fun e4 => False.elim (by omega)) hsum (gd_nat wt) (by omega) (by omega)
            exact nm_r (nI_1 m) (nx e')
        · exact nm_r (nI_1 m) (nx e')
      · have : ¬ pt_key (pa p) (pb p) (pq p) = hy_key t wf wt place (pt_L (pb p) (pq p)) k := by
          intro z
          obtain ⟨z0, z1, z2⟩ := ke.mp z
          have hm3 : m = 0 ∨ m = 1 ∨ m = 2 := by omega
          rcases hm3 with rfl | rfl | rfl
          · rw [pt_l, if_pos rfl] at e; omega
          · rw [pt_l, if_neg (by omega), if_pos rfl] at e; omega
          · rw [pt_l, if_neg (by omega), if_neg (by omega)] at e; omega
        rw [decide_eq_false this] at hp
        exact hp
  have fin : ∀ L, pt_L (pb p) (pq p) = L → ∃ n32 : Nat, wY_meets_32 post (nI p) (nI place - nI k) (nI wf) (nI wt) (nI L) (nI n) (nI lc) (nI pc) (nI fw) (nI rw) (nI fl) (nI sw) (nI ss) (nI sk) (nI ba) (nI hyc) (nI ph) y_ready y_glyphCount y_breaks y_natural y_spaces y_lineCount y_paragraphs (gd_tI t) (gd_tI w) (gd_lI lg) (gd_kI kn) b_patA b_patB b_patC b_patDigits b_glyphs b_glyphOf b_bEnd b_bNext b_bHyphen b_least b_before b_way b_lFrom b_lTo b_lNumber b_lParagraph b_lPage b_lHyphen b_lLast b_best n32 0 := by
    intro L e
    subst e
    exact ⟨_, key (pt_L (pb p) (pq p)) 0 (by omega) (fun j hj => absurd hj (by omega))⟩
  exact yh_br hp10 h (fun e => fin 3 e) (fun e => fin 2 e) (fun e => fin 1 e)
theorem yh_inner (post : Int32 → Prop) (J : Int32 → Int32 → Prop) {p wf wt place : Nat} (hpc : p < pc) (hw : wt ≤ 48) (h1 : wf + 2 ≤ place) (h2 : place + 2 ≤ wt) (hl : ∀ j, wf ≤ j → j < wt → t j < 10) (hpt : pt_ok P pc b_patA b_patB b_patC b_patDigits pa pb pq pd)
    (hJ : ∀ g, g < 10 → yh_inv t wf wt place pc pa pb pq pd (p + 1) 0 g → J (nI g) (nI (p + 1))) :
    ∀ d k g, k + d = pt_L (pb p) (pq p) + 1 → g < 10 → yh_inv t wf wt place pc pa pb pq pd p k g → wY_hyphen_87 post J (nI place) (nI wf) (nI wt) (nI p) (nI (pt_L (pb p) (pq p))) (nI n) (nI lc) (nI pc) (nI fw) (nI rw) (nI fl) (nI sw) (nI ss) (nI sk) (nI ba) (nI hyc) (nI ph) y_ready y_glyphCount y_breaks y_natural y_spaces y_lineCount y_paragraphs (gd_tI t) (gd_tI w) (gd_lI lg) (gd_kI kn) b_patA b_patB b_patC b_patDigits b_glyphs b_glyphOf b_bEnd b_bNext b_bHyphen b_least b_before b_way b_lFrom b_lTo b_lNumber b_lParagraph b_lPage b_lHyphen b_lLast b_best (d + 1) (nI g) (nI k) := by
  have hpc10 := hpt.1
  have hrow := hpt.2.1 p hpc
  have hb := pt_L_b (pb p) (pq p)
  intro d
  induction d with
  | zero =>
    intro k g hk hg hI
    refine br_t (nI_lt (by omega) (by omega)) (nm_r (nI_1 p) (hJ g hg ⟨fun p' k' a b c e => hI.1 p' k' a b ?_ e, hI.2⟩))
    rcases c with c | c
    · by_cases z : p' = p
      · subst z; exact Or.inr ⟨rfl, by omega⟩
      · exact Or.inl (by omega)
    · omega
  | succ d ih =>
    intro k g hk hg hI
    refine br_f (nI_nlt (by omega) (by omega)) (yh_digit (by omega) hrow (by omega) ?_)
    have hm : pd p / 10 ^ (pt_L (pb p) (pq p) - k) % 10 < 10 := Nat.mod_lt _ (by omega)
    have same : (pt_key (pa p) (pb p) (pq p) = hy_key t wf wt place (pt_L (pb p) (pq p)) k → pd p / 10 ^ (pt_L (pb p) (pq p) - k) % 10 ≤ g) → yh_inv t wf wt place pc pa pb pq pd p (k + 1) g := by
      intro hx
      refine ⟨fun p' k' a b c e => ?_, hI.2⟩
      by_cases z : p' = p ∧ k' = k
      · obtain ⟨rfl, rfl⟩ := z
        exact hx e
      · exact hI.1 p' k' a b (by omega) e
    refine pk_le _ g (fun z => ?_) (fun z => ?_) rfl rfl (by omega) (by omega)
    · exact nm_r (nI_1 k) (ih (k + 1) g (by omega) hg (same (fun _ => z)))
    · refine yh_meets (by omega) hw h1 h2 hl hrow (by omega) ?_
      refine gd_bt (fun z2 => ?_) (fun z2 => ?_)
      · exact nm_r (nI_1 k) (ih (k + 1) g (by omega) hg (same (fun y => absurd y (of_decide_eq_false z2))))
      · refine nm_r (nI_1 k) (ih (k + 1) _ (by omega) hm ⟨fun p' k' a b c e => ?_, Or.inr ⟨p, k, hpc, by omega, of_decide_eq_true z2, rfl⟩⟩)
        by_cases y : p' = p ∧ k' = k
        · obtain ⟨rfl, rfl⟩ := y
          exact Nat.le_refl _
        · have := hI.1 p' k' a b (by omega) e
          omega
theorem yh_hyphen {post : Int32 → Prop} {i : Nat} (hn : n ≤ 48) (ht : ∀ i, t i ≤ 11) (hpt : pt_ok P pc b_patA b_patB b_patC b_patDigits pa pb pq pd) (hi : i < 2 ^ 31) (hp : post (gd_bI (hy_b t P n i))) : wpY_hyphen post ((nI n), (nI lc), (nI pc), (nI fw), (nI rw), (nI fl), (nI sw), (nI ss), (nI sk), (nI ba), (nI hyc), (nI ph), y_ready, y_glyphCount, y_breaks, y_natural, y_spaces, y_lineCount, y_paragraphs, (gd_tI t), (gd_tI w), (gd_lI lg), (gd_kI kn), b_patA, b_patB, b_patC, b_patDigits, b_glyphs, b_glyphOf, b_bEnd, b_bNext, b_bHyphen, b_least, b_before, b_way, b_lFrom, b_lTo, b_lNumber, b_lParagraph, b_lPage, b_lHyphen, b_lLast, b_best) (nI i) := by
  unfold wpY_hyphen
  dsimp only
  refine yl_is hn hi ht ?_
  refine gd_bt (fun z => ?_) (fun z => ?_)
  · have := of_decide_eq_false z
    rw [hy_b, decide_eq_false (by omega)] at hp; exact hp
  · obtain ⟨h, h1⟩ := of_decide_eq_true z
    refine yl_start hn (by omega) ht (yl_end hn (by omega) ht ?_)
    obtain ⟨w1, w2, w3⟩ := wd_E_ok (t := t) (n := n) i
    have w4 := wd_E_le (t := t) (show i ≤ n by omega)
    obtain ⟨v1, v2, v3⟩ := wd_s_ok (t := t) (n := n) i
    have hpc10 := hpt.1
    refine pk_lt (i - wd_s t n i) 2 (fun h2 => ?_) (fun h2 => ?_) (pk_sub v1) rfl (by omega) (by omega)
    · rw [hy_b, decide_eq_false (by omega)] at hp; exact hp
    · refine pk_le 2 (wd_E t n i - i) (fun h3 => ?_) (fun h3 => ?_) rfl (pk_sub w1) (by omega) (by omega)
      · have hl : ∀ j, wd_s t n i ≤ j → j < wd_E t n i → t j < 10 := by
          intro j a b
          rcases Nat.lt_or_ge j i with y | y
          · exact (v2 j a y).2
          · exact (w2 j y b).2
        have loop : ∀ d p g, p + d = pc → g < 10 → yh_inv t (wd_s t n i) (wd_E t n i) i pc pa pb pq pd p 0 g → wY_hyphen_44 post (nI i) (nI (wd_s t n i)) (nI (wd_E t n i)) (nI n) (nI lc) (nI pc) (nI fw) (nI rw) (nI fl) (nI sw) (nI ss) (nI sk) (nI ba) (nI hyc) (nI ph) y_ready y_glyphCount y_breaks y_natural y_spaces y_lineCount y_paragraphs (gd_tI t) (gd_tI w) (gd_lI lg) (gd_kI kn) b_patA b_patB b_patC b_patDigits b_glyphs b_glyphOf b_bEnd b_bNext b_bHyphen b_least b_before b_way b_lFrom b_lTo b_lNumber b_lParagraph b_lPage b_lHyphen b_lLast b_best (d + 1) (nI g) (nI p) := by
          intro d
          induction d with
          | zero =>
            intro p g hpd hg hI
            have e : p = pc := by omega
            subst e
            have hm := yh_max hl hpt hI
            refine br_t (nI_le (Nat.le_refl _) (by omega)) ⟨by decide, ?_⟩
            refine pk_eq (g % 2) 1 (fun h4 => ?_) (fun h4 => ?_) (pk_rem (d := 2) (by omega) (by omega) (by omega)) rfl (by omega) (by omega)
            · rw [hy_b, decide_eq_true ⟨h, h1, by omega, by omega, by rw [← hm]; exact h4⟩] at hp; exact hp
            · rw [hy_b, decide_eq_false (by rw [← hm]; omega)] at hp; exact hp
          | succ d ih =>
            intro p g hpd hg hI
            refine br_f (nI_ge (by omega) (by omega)) ?_
            have hb := pt_L_b (pb p) (pq p)
            have fin : ∀ L, pt_L (pb p) (pq p) = L → ∃ n87 : Nat, wY_hyphen_87 post (wY_hyphen_44 post (nI i) (nI (wd_s t n i)) (nI (wd_E t n i)) (nI n) (nI lc) (nI pc) (nI fw) (nI rw) (nI fl) (nI sw) (nI ss) (nI sk) (nI ba) (nI hyc) (nI ph) y_ready y_glyphCount y_breaks y_natural y_spaces y_lineCount y_paragraphs (gd_tI t) (gd_tI w) (gd_lI lg) (gd_kI kn) b_patA b_patB b_patC b_patDigits b_glyphs b_glyphOf b_bEnd b_bNext b_bHyphen b_least b_before b_way b_lFrom b_lTo b_lNumber b_lParagraph b_lPage b_lHyphen b_lLast b_best (d + 1)) (nI i) (nI (wd_s t n i)) (nI (wd_E t n i)) (nI p) (nI L) (nI n) (nI lc) (nI pc) (nI fw) (nI rw) (nI fl) (nI sw) (nI ss) (nI sk) (nI ba) (nI hyc) (nI ph) y_ready y_glyphCount y_breaks y_natural y_spaces y_lineCount y_paragraphs (gd_tI t) (gd_tI w) (gd_lI lg) (gd_kI kn) b_patA b_patB b_patC b_patDigits b_glyphs b_glyphOf b_bEnd b_bNext b_bHyphen b_least b_before b_way b_lFrom b_lTo b_lNumber b_lParagraph b_lPage b_lHyphen b_lLast b_best n87 (nI g) 0 := by
              intro L e
              subst e
              exact ⟨_, yh_inner post _ (by omega) (by omega) (by omega) (by omega) hl hpt (fun g' hg' hI' => ih (p + 1) g' (by omega) hg' hI') (pt_L (pb p) (pq p) + 1) 0 g (by omega) hg hI⟩
            exact yh_br (by omega) (hpt.2.1 p (by omega)) (fun e => fin 3 e) (fun e => fin 2 e) (fun e => fin 1 e)
        exact ⟨_, loop pc 0 0 (by omega) (by omega) ⟨fun p' k' a b c e => absurd c (by omega), Or.inl rfl⟩⟩
      · rw [hy_b, decide_eq_false (by omega)] at hp; exact hp
end
end
section
/-! badness, kind of line, the width due -/
def bd_g (ss sk : Nat) (d : Int) (sp : Nat) : Nat := sp * (if 0 < d then ss else sk)
def bd_q (ss sk : Nat) (d : Int) (sp : Nat) : Nat := (100 * d.natAbs * d.natAbs * d.natAbs) / (bd_g ss sk d sp * bd_g ss sk d sp * bd_g ss sk d sp)
def bd_v (ss sk : Nat) (d : Int) (sp : Nat) (last : Bool) : Int :=
  if d = 0 ∨ (0 < d ∧ last = true) then 0 else if d < 0 ∧ bd_g ss sk d sp < d.natAbs then -1 else if bd_g ss sk d sp = 0 then 10000 else if bd_q ss sk d sp ≤ 10000 then (bd_q ss sk d sp : Int) else 10000
def bd_c (b d : Int) : Nat := if 12 < b then (if 0 ≤ d then (if 100 ≤ b then 3 else 2) else 0) else 1
def bd_due (fw rw fl q : Nat) : Nat := if fl ≤ q then rw else fw
theorem bd_v_b (ss sk : Nat) (d : Int) (sp : Nat) (last : Bool) : -1 ≤ bd_v ss sk d sp last ∧ bd_v ss sk d sp last ≤ 10000 := by
  rw [bd_v]; split
  · omega
  · split
    · omega
    · split
      · omega
      · split <;> omega
theorem bd_c_b (b d : Int) : bd_c b d ≤ 3 := by
  rw [bd_c]; split
  · split
    · split <;> omega
    · omega
  · omega
theorem bd_negT {a : Nat} (ha : a < 2 ^ 62) : (-(lN a)).toInt = -(a : Int) := by
  rw [Int64.toInt_neg, pk_lT (by omega)]; exact Int.bmod_eq_of_le (by omega) (by omega)
theorem bd_ndiv {a b : Nat} (ha : a < 2 ^ 62) (h0 : 0 < b) (hb : b < 2 ^ 62) : (-(lN a)) / lN b = -(lN (a / b)) := by
  have hq : a / b ≤ a := Nat.div_le_self a b
  apply Int64.toInt_inj.mp
  rw [Int64.toInt_div_of_ne_right, bd_negT ha, bd_negT (Nat.lt_of_le_of_lt hq ha), pk_lT (by omega), Int.neg_tdiv, Int.natCast_ediv, Int.tdiv_eq_ediv_of_nonneg (by omega)]
  intro e
  have := congrArg Int64.toInt e
  rw [pk_lT (by omega)] at this
  have h2 : (-1 : Int64).toInt = -1 := by decide
  omega
theorem bd_neg64 {a : Nat} (ha : a < 2 ^ 30) : (-(nI a)).toInt64 = -(lN a) := by
  apply Int64.toInt_inj.mp
  rw [Int32.toInt_toInt64, Int64.toInt_neg, Int32.toInt_neg, nI_toInt (by omega), pk_lT (by omega), Int.bmod_eq_of_le (by omega) (by omega), Int.bmod_eq_of_le (by omega) (by omega)]
theorem bd_cube {a : Nat} (ha : a ≤ 10000) : a * a * a ≤ 1000000000000 := by
  have h1 : a * a ≤ 10000 * 10000 := Nat.mul_le_mul ha ha
  have h2 : a * a * a ≤ 10000 * 10000 * 10000 := Nat.mul_le_mul h1 ha
  omega
theorem bd_fits {ss sk sp : Nat} {d : Int} (hd : -10000 ≤ d ∧ d ≤ 10000) (h1 : ss ≤ 20) (h2 : sk ≤ 20) (h3 : sp ≤ 48) : bd_g ss sk d sp ≤ 960 ∧ 100 * d.natAbs * d.natAbs * d.natAbs < 2 ^ 62 ∧ bd_g ss sk d sp * bd_g ss sk d sp * bd_g ss sk d sp < 2 ^ 62 := by
  have hg : bd_g ss sk d sp ≤ 960 := by
    rw [bd_g]
    have : sp * (if 0 < d then ss else sk) ≤ 48 * 20 := Nat.mul_le_mul h3 (by split <;> omega)
    omega
  refine ⟨hg, ?_, ?_⟩
  · have := bd_cube (a := d.natAbs) (by omega)
    have e : 100 * d.natAbs * d.natAbs * d.natAbs = 100 * (d.natAbs * d.natAbs * d.natAbs) := by grind
    omega
  · have := bd_cube (a := bd_g ss sk d sp) (by omega)
    omega
section
variable {n lc pc fw rw fl sw ss sk ba hyc ph : Nat} {t w lg : Nat → Nat} {kn : Nat → Int}
variable {x_breakCount x_lineCount x_paragraphCount x_stale : Int32} {a_patterns a_heads a_glyphs a_breakEnd a_breakNext a_breakHyphen a_breakTaken a_wayBefore a_lineFacts : Nat → Int32} {a_wayDemerits a_paragraphDemerits : Nat → Int64}
theorem bx_62 {post : Int32 → Prop} {d : Int} {sp : Nat} {last : Bool} (hd : -10000 ≤ d ∧ d ≤ 10000) (h1 : ss ≤ 20) (h2 : sk ≤ 20) (h3 : sp ≤ 48) (c1 : ¬ (d = 0 ∨ (0 < d ∧ last = true))) (c2 : ¬ (d < 0 ∧ bd_g ss sk d sp < d.natAbs))
    (hp : post (gd_iI (bd_v ss sk d sp last))) : wX_badnessOf_62 post (lN d.natAbs) (lN (bd_g ss sk d sp)) (nI n) (nI lc) (nI pc) (nI fw) (nI rw) (nI fl) (nI sw) (nI ss) (nI sk) (nI ba) (nI hyc) (nI ph) x_breakCount x_lineCount x_paragraphCount x_stale (gd_tI t) (gd_tI w) (gd_lI lg) (gd_kI kn) a_patterns a_heads a_glyphs a_breakEnd a_breakNext a_breakHyphen a_breakTaken a_wayDemerits a_wayBefore a_lineFacts a_paragraphDemerits := by
  obtain ⟨b1, b2, b3⟩ := bd_fits (sp := sp) hd h1 h2 h3
  rw [bd_v, if_neg c1, if_neg c2] at hp
  refine br_c (fun z => ?_) (fun z => ?_)
  · rw [if_pos ((pk_lEQ (b := 0) (by omega) (by omega)).mp z)] at hp
    exact hp
  · have z0 : bd_g ss sk d sp ≠ 0 := fun y => z (by rw [y]; rfl)
    rw [if_neg z0] at hp
    have zp : 0 < bd_g ss sk d sp * bd_g ss sk d sp * bd_g ss sk d sp := Nat.mul_pos (Nat.mul_pos (by omega) (by omega)) (by omega)
    refine ⟨?_, nm_r (e' := lN (bd_q ss sk d sp)) ?_ ?_⟩
    · rw [lN_mul, lN_mul]
      intro y
      have := (pk_lEQ (b := 0) (by omega) (by omega)).mp y
      omega
    · rw [show (100 : Int64) = lN 100 from rfl, lN_mul, lN_mul, lN_mul, lN_mul, lN_mul, pk_lDiv (by omega) zp (by omega)]; rfl
    · have hq : bd_q ss sk d sp ≤ 100 * d.natAbs * d.natAbs * d.natAbs := Nat.div_le_self _ _
      refine br_c (fun y => ?_) (fun y => ?_)
      · have y2 := (pk_lLE (b := 10000) (by omega) (by omega)).mp y
        rw [if_pos y2] at hp
        rw [lN_i, gd_nat]
        exact hp
      · have y2 : ¬ bd_q ss sk d sp ≤ 10000 := fun q => y ((pk_lLE (b := 10000) (by omega) (by omega)).mpr q)
        rw [if_neg y2] at hp
        exact hp
theorem bx_bad {post : Int32 → Prop} {d : Int} {sp : Nat} {last : Bool} (hd : -10000 ≤ d ∧ d ≤ 10000) (h1 : ss ≤ 20) (h2 : sk ≤ 20) (h3 : sp ≤ 48)
    (hp : post (gd_iI (bd_v ss sk d sp last))) : wpX_badnessOf post ((nI n), (nI lc), (nI pc), (nI fw), (nI rw), (nI fl), (nI sw), (nI ss), (nI sk), (nI ba), (nI hyc), (nI ph), x_breakCount, x_lineCount, x_paragraphCount, x_stale, (gd_tI t), (gd_tI w), (gd_lI lg), (gd_kI kn), a_patterns, a_heads, a_glyphs, a_breakEnd, a_breakNext, a_breakHyphen, a_breakTaken, a_wayDemerits, a_wayBefore, a_lineFacts, a_paragraphDemerits) (gd_iI d) (nI sp) (gd_bI last) := by
  obtain ⟨b1, b2, b3⟩ := bd_fits (sp := sp) hd h1 h2 h3
  refine gd_zeq d 0 (fun e => ?_) (fun e => ?_) rfl rfl (by omega) (by omega)
  · rw [bd_v, if_pos (Or.inl e)] at hp; exact hp
  have neg : d < 0 → wX_badnessOf_14 post (gd_iI d) (nI sp) (nI n) (nI lc) (nI pc) (nI fw) (nI rw) (nI fl) (nI sw) (nI ss) (nI sk) (nI ba) (nI hyc) (nI ph) x_breakCount x_lineCount x_paragraphCount x_stale (gd_tI t) (gd_tI w) (gd_lI lg) (gd_kI kn) a_patterns a_heads a_glyphs a_breakEnd a_breakNext a_breakHyphen a_breakTaken a_wayDemerits a_wayBefore a_lineFacts a_paragraphDemerits := by
    intro hneg
    have hdn : gd_iI d = -(nI d.natAbs) := by rw [gd_nat, gd_neg]; congr 1; omega
    have hgv : nI sp * nI sk = nI (bd_g ss sk d sp) := by rw [pk_mul, bd_g, if_neg (by omega)]
    refine gd_zle d 0 (fun _ => ?_) (fun y => absurd y (by omega)) rfl rfl (by omega) (by omega)
    refine gd_zle d 0 (fun _ => ?_) (fun y => absurd y (by omega)) rfl rfl (by omega) (by omega)
    refine nm_r (e' := lN (bd_g ss sk d sp)) (by rw [hgv, nI_l (by omega)]) ?_
    have hoff : (-(gd_iI d)).toInt64 = lN d.natAbs := by
      rw [gd_neg, show -d = (d.natAbs : Int) by omega, ← gd_nat, nI_l (by omega)]
    rw [hoff]
    refine gd_zle 0 d (fun y => absurd y (by omega)) (fun _ => ?_) rfl rfl (by omega) (by omega)
    refine br_c (fun y => ?_) (fun y => ?_)
    · have y2 := (pk_lLE (by omega) (by omega)).mp y
      exact bx_62 hd h1 h2 h3 (by omega) (by omega) hp
    · have y2 : ¬ d.natAbs ≤ bd_g ss sk d sp := fun q => y ((pk_lLE (by omega) (by omega)).mpr q)
      rw [bd_v, if_neg (by omega), if_pos (by omega)] at hp
      exact hp
  have pos : 0 < d → last = false → wX_badnessOf_14 post (gd_iI d) (nI sp) (nI n) (nI lc) (nI pc) (nI fw) (nI rw) (nI fl) (nI sw) (nI ss) (nI sk) (nI ba) (nI hyc) (nI ph) x_breakCount x_lineCount x_paragraphCount x_stale (gd_tI t) (gd_tI w) (gd_lI lg) (gd_kI kn) a_patterns a_heads a_glyphs a_breakEnd a_breakNext a_breakHyphen a_breakTaken a_wayDemerits a_wayBefore a_lineFacts a_paragraphDemerits := by
    intro hpos hlast
    have hgv : nI sp * nI ss = nI (bd_g ss sk d sp) := by rw [pk_mul, bd_g, if_pos hpos]
    refine gd_zle d 0 (fun y => absurd y (by omega)) (fun _ => ?_) rfl rfl (by omega) (by omega)
    refine gd_zle d 0 (fun y => absurd y (by omega)) (fun _ => ?_) rfl rfl (by omega) (by omega)
    refine nm_r (e' := lN (bd_g ss sk d sp)) (by rw [hgv, nI_l (by omega)]) ?_
    have hoff : (gd_iI d).toInt64 = lN d.natAbs := by
      rw [show d = (d.natAbs : Int) by omega, ← gd_nat, nI_l (by omega)]; rfl
    rw [hoff]
    refine gd_zle 0 d (fun _ => ?_) (fun y => absurd y (by omega)) rfl rfl (by omega) (by omega)
    exact bx_62 hd h1 h2 h3 (by rw [hlast]; simp; omega) (by omega) hp
  refine gd_zle d 0 (fun y => neg (by omega)) (fun y => ?_) rfl rfl (by omega) (by omega)
  refine gd_bt (fun z => pos y z) (fun z => ?_)
  rw [bd_v, if_pos (Or.inr ⟨y, z⟩)] at hp; exact hp
theorem bx_cls {post : Int32 → Prop} {b d : Int} (hb : -1 ≤ b ∧ b ≤ 10000) (hd : -10000 ≤ d ∧ d ≤ 10000) (hp : post (nI (bd_c b d))) : wpX_classOf post (gd_iI b) (gd_iI d) := by
  refine gd_zlt 12 b (fun y => gd_zle 0 d (fun y2 => gd_zle 100 b (fun y3 => ?_) (fun y3 => ?_) rfl rfl (by omega) (by omega)) (fun y2 => ?_) rfl rfl (by omega) (by omega)) (fun y => ?_) rfl rfl (by omega) (by omega)
  · rw [bd_c, if_pos y, if_pos y2, if_pos y3] at hp; exact hp
  · rw [bd_c, if_pos y, if_pos y2, if_neg (by omega)] at hp; exact hp
  · rw [bd_c, if_pos y, if_neg (by omega)] at hp; exact hp
  · rw [bd_c, if_neg (by omega)] at hp; exact hp
theorem bx_due {post : Int32 → Prop} {q : Nat} (hq : q < 1000) (h3 : fl ≤ 3) (hp : post (nI (bd_due fw rw fl q))) : wpX_widthDue post ((nI n), (nI lc), (nI pc), (nI fw), (nI rw), (nI fl), (nI sw), (nI ss), (nI sk), (nI ba), (nI hyc), (nI ph), x_breakCount, x_lineCount, x_paragraphCount, x_stale, (gd_tI t), (gd_tI w), (gd_lI lg), (gd_kI kn), a_patterns, a_heads, a_glyphs, a_breakEnd, a_breakNext, a_breakHyphen, a_breakTaken, a_wayDemerits, a_wayBefore, a_lineFacts, a_paragraphDemerits) (nI q) := by
  refine pk_le fl q (fun y => ?_) (fun y => ?_)
  · rw [bd_due, if_pos y] at hp; exact hp
  · rw [bd_due, if_neg (by omega)] at hp; exact hp
theorem bx_nat {post : Int32 → SX → Prop} {a b s e : Nat} {h : Bool} (ht : ∀ i, t i ≤ 11) (ha : a < 49) (hb : b < 49) (hN : a_breakNext a = nI s) (hE : a_breakEnd b = nI e) (hH : a_breakHyphen b = gd_bI h) (hs : s ≤ e) (he : e ≤ 48)
    (hp : ∀ a_heads a_glyphs, post (gd_iI (rn_x t lg w kn sw s e e + cond h 5 0)) ((nI n), (nI lc), (nI pc), (nI fw), (nI rw), (nI fl), (nI sw), (nI ss), (nI sk), (nI ba), (nI hyc), (nI ph), x_breakCount, x_lineCount, x_paragraphCount, x_stale, (gd_tI t), (gd_tI w), (gd_lI lg), (gd_kI kn), a_patterns, a_heads, a_glyphs, a_breakEnd, a_breakNext, a_breakHyphen, a_breakTaken, a_wayDemerits, a_wayBefore, a_lineFacts, a_paragraphDemerits)) : wpX_naturalWidth post ((nI n), (nI lc), (nI pc), (nI fw), (nI rw), (nI fl), (nI sw), (nI ss), (nI sk), (nI ba), (nI hyc), (nI ph), x_breakCount, x_lineCount, x_paragraphCount, x_stale, (gd_tI t), (gd_tI w), (gd_lI lg), (gd_kI kn), a_patterns, a_heads, a_glyphs, a_breakEnd, a_breakNext, a_breakHyphen, a_breakTaken, a_wayDemerits, a_wayBefore, a_lineFacts, a_paragraphDemerits) (nI a) (nI b) := by
  refine ⟨vp_in_nI ha (by omega), nm_r (e' := nI s) (by rw [nI_clamp (by omega), hN]) ⟨vp_in_nI hb (by omega), nm_r (e' := nI e) (by rw [nI_clamp (by omega), hE]) ?_⟩⟩
  refine xs_shape hs he ht (fun a_heads a_glyphs hok => ?_)
  refine xr_end hs he ht hok ⟨vp_in_nI hb (by omega), ?_⟩
  rw [show xr_adj 0 0 (rn_sc t s e) = 0 by rw [xr_adj, if_pos rfl], Int32.add_zero]
  refine gd_bx h (by rw [nI_clamp (by omega), hH]) (fun z => ?_) (fun z => ?_)
  · have := hp a_heads a_glyphs
    rw [z] at this
    rw [show rn_x t lg w kn sw s e e = rn_x t lg w kn sw s e e + cond false 5 0 from (Int.add_zero _).symm]
    exact this
  · have := hp a_heads a_glyphs
    rw [z] at this
    rw [show (5 : Int32) = gd_iI 5 from rfl, gd_add]
    exact this
end
section
variable {n lc pc fw rw fl sw ss sk ba hyc ph : Nat} {t w lg : Nat → Nat} {kn : Nat → Int}
variable {y_ready y_glyphCount y_breaks y_natural y_spaces y_lineCount y_paragraphs : Int32} {b_patA b_patB b_patC b_patDigits b_glyphs b_glyphOf b_bEnd b_bNext b_bHyphen b_before b_way b_lFrom b_lTo b_lNumber b_lParagraph b_lPage b_lHyphen b_lLast : Nat → Int32} {b_least b_best : Nat → Int64}
theorem by_bad {post : Int32 → Prop} {d : Int} {sp : Nat} {last : Bool} (hd : -10000 ≤ d ∧ d ≤ 10000) (h1 : ss ≤ 20) (h2 : sk ≤ 20) (h3 : sp ≤ 48)
    (hp : post (gd_iI (bd_v ss sk d sp last))) : wpY_badness post ((nI n), (nI lc), (nI pc), (nI fw), (nI rw), (nI fl), (nI sw), (nI ss), (nI sk), (nI ba), (nI hyc), (nI ph), y_ready, y_glyphCount, y_breaks, y_natural, (nI sp), y_lineCount, y_paragraphs, (gd_tI t), (gd_tI w), (gd_lI lg), (gd_kI kn), b_patA, b_patB, b_patC, b_patDigits, b_glyphs, b_glyphOf, b_bEnd, b_bNext, b_bHyphen, b_least, b_before, b_way, b_lFrom, b_lTo, b_lNumber, b_lParagraph, b_lPage, b_lHyphen, b_lLast, b_best) (gd_iI d) (gd_bI last) := by
  obtain ⟨b1, b2, b3⟩ := bd_fits (sp := sp) hd h1 h2 h3
  refine gd_zeq d 0 (fun e => ?_) (fun e => ?_) rfl rfl (by omega) (by omega)
  · rw [bd_v, if_pos (Or.inl e)] at hp; exact hp
  have fin : ∀ c1 : ¬ (d = 0 ∨ (0 < d ∧ last = true)), ∀ c2 : ¬ (d < 0 ∧ bd_g ss sk d sp < d.natAbs), wY_badness_51 post (gd_iI d) (lN (bd_g ss sk d sp)) (nI n) (nI lc) (nI pc) (nI fw) (nI rw) (nI fl) (nI sw) (nI ss) (nI sk) (nI ba) (nI hyc) (nI ph) y_ready y_glyphCount y_breaks y_natural (nI sp) y_lineCount y_paragraphs (gd_tI t) (gd_tI w) (gd_lI lg) (gd_kI kn) b_patA b_patB b_patC b_patDigits b_glyphs b_glyphOf b_bEnd b_bNext b_bHyphen b_least b_before b_way b_lFrom b_lTo b_lNumber b_lParagraph b_lPage b_lHyphen b_lLast b_best := by
    intro c1 c2
    rw [bd_v, if_neg c1, if_neg c2] at hp
    refine br_c (fun z => ?_) (fun z => ?_)
    · rw [if_pos ((pk_lEQ (b := 0) (by omega) (by omega)).mp z)] at hp
      exact hp
    · have z0 : bd_g ss sk d sp ≠ 0 := fun y => z (by rw [y]; rfl)
      rw [if_neg z0] at hp
      have zp : 0 < bd_g ss sk d sp * bd_g ss sk d sp * bd_g ss sk d sp := Nat.mul_pos (Nat.mul_pos (by omega) (by omega)) (by omega)
      have hq : bd_q ss sk d sp ≤ 100 * d.natAbs * d.natAbs * d.natAbs := Nat.div_le_self _ _
      have last93 : wY_badness_93 post (lN (bd_q ss sk d sp)) (nI n) (nI lc) (nI pc) (nI fw) (nI rw) (nI fl) (nI sw) (nI ss) (nI sk) (nI ba) (nI hyc) (nI ph) y_ready y_glyphCount y_breaks y_natural (nI sp) y_lineCount y_paragraphs (gd_tI t) (gd_tI w) (gd_lI lg) (gd_kI kn) b_patA b_patB b_patC b_patDigits b_glyphs b_glyphOf b_bEnd b_bNext b_bHyphen b_least b_before b_way b_lFrom b_lTo b_lNumber b_lParagraph b_lPage b_lHyphen b_lLast b_best := by
        refine br_c (fun y => ?_) (fun y => ?_)
        · have y2 := (pk_lLE (b := 10000) (by omega) (by omega)).mp y
          rw [if_pos y2] at hp
          rw [lN_i, gd_nat]
          exact hp
        · have y2 : ¬ bd_q ss sk d sp ≤ 10000 := fun q => y ((pk_lLE (b := 10000) (by omega) (by omega)).mpr q)
          rw [if_neg y2] at hp
          exact hp
      have nz : ¬ lN (bd_g ss sk d sp) * lN (bd_g ss sk d sp) * lN (bd_g ss sk d sp) = 0 := by
        rw [lN_mul, lN_mul]
        intro y
        have := (pk_lEQ (b := 0) (by omega) (by omega)).mp y
        omega
      rcases Int.lt_or_gt_of_ne e with hneg | hpos
      · have hdn : (gd_iI d).toInt64 = -(lN d.natAbs) := by
          rw [← bd_neg64 (by omega), gd_nat, gd_neg]; congr 2; omega
        refine ⟨nz, nm_r (e' := -(lN (bd_q ss sk d sp))) ?_ ?_⟩
        · rw [hdn, show (100 : Int64) * -(lN d.natAbs) * -(lN d.natAbs) * -(lN d.natAbs) = -(100 * lN d.natAbs * lN d.natAbs * lN d.natAbs) by grind, show (100 : Int64) = lN 100 from rfl, lN_mul, lN_mul, lN_mul, lN_mul, lN_mul, bd_ndiv (by omega) zp (by omega)]; rfl
        · have tq : (-(lN (bd_q ss sk d sp))).toInt = -((bd_q ss sk d sp : Nat) : Int) := by
            rw [Int64.toInt_neg, pk_lT (by omega)]; exact Int.bmod_eq_of_le (by omega) (by omega)
          refine br_c (fun y => ?_) (fun y => ?_)
          · rw [Int64.le_iff_toInt_le, tq, show (0 : Int64).toInt = 0 from by decide] at y
            have z : bd_q ss sk d sp = 0 := by omega
            have e2 : -(lN (bd_q ss sk d sp)) = lN (bd_q ss sk d sp) := by rw [z]; rfl
            rw [e2]
            exact last93
          · refine nm_r (e' := lN (bd_q ss sk d sp)) ?_ last93
            exact Int64.neg_neg
      · have hdn : (gd_iI d).toInt64 = lN d.natAbs := by
          rw [show d = (d.natAbs : Int) by omega, ← gd_nat, nI_l (by omega)]; rfl
        refine ⟨nz, nm_r (e' := lN (bd_q ss sk d sp)) ?_ ?_⟩
        · rw [hdn, show (100 : Int64) = lN 100 from rfl, lN_mul, lN_mul, lN_mul, lN_mul, lN_mul, pk_lDiv (by omega) zp (by omega)]; rfl
        · exact br_t ((pk_lLE (a := 0) (by omega) (by omega)).mpr (by omega)) last93
  have neg : d < 0 → wY_badness_14 post (gd_iI d) (nI n) (nI lc) (nI pc) (nI fw) (nI rw) (nI fl) (nI sw) (nI ss) (nI sk) (nI ba) (nI hyc) (nI ph) y_ready y_glyphCount y_breaks y_natural (nI sp) y_lineCount y_paragraphs (gd_tI t) (gd_tI w) (gd_lI lg) (gd_kI kn) b_patA b_patB b_patC b_patDigits b_glyphs b_glyphOf b_bEnd b_bNext b_bHyphen b_least b_before b_way b_lFrom b_lTo b_lNumber b_lParagraph b_lPage b_lHyphen b_lLast b_best := by
    intro hneg
    refine gd_zle d 0 (fun _ => ?_) (fun y => absurd y (by omega)) rfl rfl (by omega) (by omega)
    refine nm_r (e' := lN (bd_g ss sk d sp)) (by rw [nI_l (by omega), nI_l (by omega), lN_mul, bd_g, if_neg (by omega)]) ?_
    have hoff : (-(gd_iI d)).toInt64 = lN d.natAbs := by
      rw [gd_neg, show -d = (d.natAbs : Int) by omega, ← gd_nat, nI_l (by omega)]
    refine gd_zle 0 d (fun y => absurd y (by omega)) (fun _ => ?_) rfl rfl (by omega) (by omega)
    rw [hoff]
    refine br_c (fun y => ?_) (fun y => ?_)
    · have y2 := (pk_lLE (by omega) (by omega)).mp y
      exact fin (by omega) (by omega)
    · have y2 : ¬ d.natAbs ≤ bd_g ss sk d sp := fun q => y ((pk_lLE (by omega) (by omega)).mpr q)
      rw [bd_v, if_neg (by omega), if_pos (by omega)] at hp
      exact hp
  have pos : 0 < d → last = false → wY_badness_14 post (gd_iI d) (nI n) (nI lc) (nI pc) (nI fw) (nI rw) (nI fl) (nI sw) (nI ss) (nI sk) (nI ba) (nI hyc) (nI ph) y_ready y_glyphCount y_breaks y_natural (nI sp) y_lineCount y_paragraphs (gd_tI t) (gd_tI w) (gd_lI lg) (gd_kI kn) b_patA b_patB b_patC b_patDigits b_glyphs b_glyphOf b_bEnd b_bNext b_bHyphen b_least b_before b_way b_lFrom b_lTo b_lNumber b_lParagraph b_lPage b_lHyphen b_lLast b_best := by
    intro hpos hlast
    refine gd_zle d 0 (fun y => absurd y (by omega)) (fun _ => ?_) rfl rfl (by omega) (by omega)
    refine nm_r (e' := lN (bd_g ss sk d sp)) (by rw [nI_l (by omega), nI_l (by omega), lN_mul, bd_g, if_pos hpos]) ?_
    refine gd_zle 0 d (fun _ => ?_) (fun y => absurd y (by omega)) rfl rfl (by omega) (by omega)
    exact fin (by rw [hlast]; simp; omega) (by omega)
  refine gd_zle d 0 (fun y => neg (by omega)) (fun y => ?_) rfl rfl (by omega) (by omega)
  refine gd_bt (fun z => pos y z) (fun z => ?_)
  rw [bd_v, if_pos (Or.inr ⟨y, z⟩)] at hp; exact hp
theorem by_cls {post : Int32 → Prop} {b d : Int} (hb : -1 ≤ b ∧ b ≤ 10000) (hd : -10000 ≤ d ∧ d ≤ 10000) (hp : post (nI (bd_c b d))) : wpY_classOf post ((nI n), (nI lc), (nI pc), (nI fw), (nI rw), (nI fl), (nI sw), (nI ss), (nI sk), (nI ba), (nI hyc), (nI ph), y_ready, y_glyphCount, y_breaks, y_natural, y_spaces, y_lineCount, y_paragraphs, (gd_tI t), (gd_tI w), (gd_lI lg), (gd_kI kn), b_patA, b_patB, b_patC, b_patDigits, b_glyphs, b_glyphOf, b_bEnd, b_bNext, b_bHyphen, b_least, b_before, b_way, b_lFrom, b_lTo, b_lNumber, b_lParagraph, b_lPage, b_lHyphen, b_lLast, b_best) (gd_iI b) (gd_iI d) := by
  refine gd_zlt 12 b (fun y => gd_zle 0 d (fun y2 => gd_zle 100 b (fun y3 => ?_) (fun y3 => ?_) rfl rfl (by omega) (by omega)) (fun y2 => ?_) rfl rfl (by omega) (by omega)) (fun y => ?_) rfl rfl (by omega) (by omega)
  · rw [bd_c, if_pos y, if_pos y2, if_pos y3] at hp; exact hp
  · rw [bd_c, if_pos y, if_pos y2, if_neg (by omega)] at hp; exact hp
  · rw [bd_c, if_pos y, if_neg (by omega)] at hp; exact hp
  · rw [bd_c, if_neg (by omega)] at hp; exact hp
theorem by_due {post : Int32 → Prop} {q : Nat} (hq : q < 1000) (h3 : fl ≤ 3) (hp : post (nI (bd_due fw rw fl q))) : wpY_should post ((nI n), (nI lc), (nI pc), (nI fw), (nI rw), (nI fl), (nI sw), (nI ss), (nI sk), (nI ba), (nI hyc), (nI ph), y_ready, y_glyphCount, y_breaks, y_natural, y_spaces, y_lineCount, y_paragraphs, (gd_tI t), (gd_tI w), (gd_lI lg), (gd_kI kn), b_patA, b_patB, b_patC, b_patDigits, b_glyphs, b_glyphOf, b_bEnd, b_bNext, b_bHyphen, b_least, b_before, b_way, b_lFrom, b_lTo, b_lNumber, b_lParagraph, b_lPage, b_lHyphen, b_lLast, b_best) (nI q) := by
  refine pk_le fl q (fun y => ?_) (fun y => ?_)
  · rw [bd_due, if_pos y] at hp; exact hp
  · rw [bd_due, if_neg (by omega)] at hp; exact hp
theorem by_meas {post : SY → Prop} {a b s e : Nat} {h : Bool} (hn : n ≤ 48) (ht : ∀ i, t i ≤ 11) (ha : a < 50) (hb : b < 50) (hN : b_bNext a = nI s) (hE : b_bEnd b = nI e) (hH : b_bHyphen b = gd_bI h) (hse : s < e) (he : e ≤ n) (hl : t s < 10) (h11 : ∀ j, s ≤ j → j < e → t j ≠ 11)
    (hp : ∀ y_glyphCount b_glyphs b_glyphOf, post ((nI n), (nI lc), (nI pc), (nI fw), (nI rw), (nI fl), (nI sw), (nI ss), (nI sk), (nI ba), (nI hyc), (nI ph), y_ready, y_glyphCount, y_breaks, (gd_iI (rn_x t lg w kn sw s e e + (cond h 5 0))), (nI (rn_sc t s e)), y_lineCount, y_paragraphs, (gd_tI t), (gd_tI w), (gd_lI lg), (gd_kI kn), b_patA, b_patB, b_patC, b_patDigits, b_glyphs, b_glyphOf, b_bEnd, b_bNext, b_bHyphen, b_least, b_before, b_way, b_lFrom, b_lTo, b_lNumber, b_lParagraph, b_lPage, b_lHyphen, b_lLast, b_best)) : wpY_measureLine post ((nI n), (nI lc), (nI pc), (nI fw), (nI rw), (nI fl), (nI sw), (nI ss), (nI sk), (nI ba), (nI hyc), (nI ph), y_ready, y_glyphCount, y_breaks, y_natural, y_spaces, y_lineCount, y_paragraphs, (gd_tI t), (gd_tI w), (gd_lI lg), (gd_kI kn), b_patA, b_patB, b_patC, b_patDigits, b_glyphs, b_glyphOf, b_bEnd, b_bNext, b_bHyphen, b_least, b_before, b_way, b_lFrom, b_lTo, b_lNumber, b_lParagraph, b_lPage, b_lHyphen, b_lLast, b_best) (nI a) (nI b) := by
  refine ⟨vp_in_nI ha (by omega), vp_in_nI hb (by omega), vp_in_nI hb (by omega), ?_⟩
  rw [nI_clamp (show a < 2 ^ 31 by omega), nI_clamp (show b < 2 ^ 31 by omega), hN, hE, hH]
  exact yk_walk hn hse he ht hl h11 h (fun y_glyphCount b_glyphs b_glyphOf => hp _ _ _)
end
end
section
/-! the breaks of the paragraph [fr, to) -/
def bk_s (t : Nat → Nat) : Nat → Nat → Nat
  | 0, i => i
  | d + 1, i => if t i = 10 then bk_s t d (i + 1) else i
def bk_sk (t : Nat → Nat) (to i : Nat) : Nat := bk_s t (to - i) i
theorem bk_s_ok {t : Nat → Nat} : ∀ d i, i ≤ bk_s t d i ∧ bk_s t d i ≤ i + d ∧ (∀ j, i ≤ j → j < bk_s t d i → t j = 10) ∧ (bk_s t d i = i + d ∨ t (bk_s t d i) ≠ 10) := by
  intro d
  induction d with
  | zero => intro i; exact ⟨Nat.le_refl _, Nat.le_refl _, fun j a b => absurd b (by rw [bk_s]; omega), Or.inl rfl⟩
  | succ d ih =>
    intro i
    rw [bk_s]
    by_cases h : t i = 10
    · rw [if_pos h]
      obtain ⟨a, b, c, e⟩ := ih (i + 1)
      refine ⟨by omega, by omega, fun j h1 h2 => ?_, by omega⟩
      by_cases z : j = i
      · rw [z]; exact h
      · exact c j (by omega) h2
    · rw [if_neg h]
      exact ⟨Nat.le_refl _, by omega, fun j a b => absurd a (by omega), Or.inr h⟩
theorem bk_sk_ok {t : Nat → Nat} {to i : Nat} (h : i ≤ to) : i ≤ bk_sk t to i ∧ bk_sk t to i ≤ to ∧ (∀ j, i ≤ j → j < bk_sk t to i → t j = 10) ∧ (bk_sk t to i = to ∨ t (bk_sk t to i) ≠ 10) := by
  obtain ⟨a, b, c, d⟩ := bk_s_ok (t := t) (to - i) i
  exact ⟨a, by rw [bk_sk]; omega, c, by rw [bk_sk]; omega⟩
theorem bk_sk_eq {t : Nat → Nat} {to i k : Nat} (h : i ≤ to) (h1 : i ≤ k) (h2 : k ≤ to) (h3 : ∀ j, i ≤ j → j < k → t j = 10) (h4 : k = to ∨ t k ≠ 10) : bk_sk t to i = k := by
  obtain ⟨a, b, c, d⟩ := bk_sk_ok (t := t) h
  rcases Nat.lt_trichotomy (bk_sk t to i) k with z | z | z
  · rcases d with d | d
    · omega
    · exact absurd (h3 _ a z) d
  · exact z
  · rcases h4 with h4 | h4
    · omega
    · exact absurd (c _ h1 z) h4
/-- a word ends behind the letter i -/
def bk_w (t : Nat → Nat) (to i : Nat) : Bool := decide (i + 1 = to ∨ ¬ t (i + 1) < 10)
def bk_m (t : Nat → Nat) (hy : Nat → Bool) (fr to : Nat) : Nat → Nat
  | 0 => 0
  | i + 1 => if fr ≤ i ∧ t i < 10 ∧ (hy i = true ∨ bk_w t to i = true) then bk_m t hy fr to i + 1 else bk_m t hy fr to i
def bk_E (t : Nat → Nat) (hy : Nat → Bool) (fr to : Nat) : Nat → Nat → Nat
  | 0 => fun _ => 0
  | i + 1 => fun k => if fr ≤ i ∧ t i < 10 ∧ (hy i = true ∨ bk_w t to i = true) ∧ k = bk_m t hy fr to i + 1 then (if hy i = true then i else i + 1) else bk_E t hy fr to i k
def bk_H (t : Nat → Nat) (hy : Nat → Bool) (fr to : Nat) : Nat → Nat → Bool
  | 0 => fun _ => false
  | i + 1 => fun k => if fr ≤ i ∧ t i < 10 ∧ (hy i = true ∨ bk_w t to i = true) ∧ k = bk_m t hy fr to i + 1 then hy i else bk_H t hy fr to i k
def bk_N (t : Nat → Nat) (hy : Nat → Bool) (fr to i k : Nat) : Nat := if k = 0 then bk_sk t to fr else if bk_H t hy fr to i k = true then bk_E t hy fr to i k else bk_sk t to (bk_E t hy fr to i k)
/-- what hyphenation gives: a letter on both sides -/
def bk_hy (t : Nat → Nat) (hy : Nat → Bool) (fr to : Nat) : Prop := ∀ i, fr ≤ i → i < to → hy i = true → fr < i ∧ t (i - 1) < 10 ∧ t i < 10 ∧ bk_w t to i = false
section
variable {t : Nat → Nat} {hy : Nat → Bool} {fr to : Nat}
theorem bk_new {i : Nat} (h : fr ≤ i ∧ t i < 10 ∧ (hy i = true ∨ bk_w t to i = true)) : bk_m t hy fr to (i + 1) = bk_m t hy fr to i + 1 ∧ bk_E t hy fr to (i + 1) (bk_m t hy fr to i + 1) = (if hy i = true then i else i + 1) ∧ bk_H t hy fr to (i + 1) (bk_m t hy fr to i + 1) = hy i := by
  refine ⟨by rw [bk_m, if_pos h], ?_, ?_⟩
  · exact if_pos ⟨h.1, h.2.1, h.2.2, rfl⟩
  · exact if_pos ⟨h.1, h.2.1, h.2.2, rfl⟩
theorem bk_old {i k : Nat} (h : k ≤ bk_m t hy fr to i) : bk_E t hy fr to (i + 1) k = bk_E t hy fr to i k ∧ bk_H t hy fr to (i + 1) k = bk_H t hy fr to i k := by
  refine ⟨?_, ?_⟩
  · exact if_neg (by omega)
  · exact if_neg (by omega)
theorem bk_non {i : Nat} (h : ¬ (fr ≤ i ∧ t i < 10 ∧ (hy i = true ∨ bk_w t to i = true))) : bk_m t hy fr to (i + 1) = bk_m t hy fr to i := by rw [bk_m, if_neg h]
theorem bk_oldN {i k : Nat} (h : k ≤ bk_m t hy fr to i) : bk_N t hy fr to (i + 1) k = bk_N t hy fr to i k := by
  rw [bk_N, bk_N, (bk_old h).1, (bk_old h).2]
theorem bk_m0 {i : Nat} (h : ∀ j, fr ≤ j → j < i → ¬ t j < 10) : bk_m t hy fr to i = 0 := by
  induction i with
  | zero => rfl
  | succ i ih =>
    rw [bk_non, ih (fun j a b => h j a (by omega))]
    rintro ⟨a, b, c⟩
    exact h i a (by omega) b
theorem bk_H0 (i : Nat) : bk_H t hy fr to i 0 = false := by
  induction i with
  | zero => rfl
  | succ i ih => rw [(bk_old (Nat.zero_le _)).2, ih]
theorem bk_mle {i : Nat} : bk_m t hy fr to i ≤ i - fr := by
  induction i with
  | zero => exact Nat.zero_le _
  | succ i ih => rw [bk_m]; split <;> omega
/-- the invariant of the scan -/
def bk_inv (t : Nat → Nat) (hy : Nat → Bool) (fr to i : Nat) : Prop :=
  (∀ k, 1 ≤ k → k ≤ bk_m t hy fr to i → fr < bk_E t hy fr to i k ∧ bk_E t hy fr to i k ≤ i ∧ t (bk_E t hy fr to i k - 1) < 10 ∧ (bk_H t hy fr to i k = true → t (bk_E t hy fr to i k) < 10 ∧ bk_E t hy fr to i k < i)) ∧
  (∀ k, 1 ≤ k → k < bk_m t hy fr to i → bk_E t hy fr to i k < bk_E t hy fr to i (k + 1)) ∧
  ((i < to ∧ t i < 10 ∧ fr < i ∧ t (i - 1) < 10) ∨ ∀ j, fr ≤ j → j < i → t j < 10 → 1 ≤ bk_m t hy fr to i ∧ j < bk_E t hy fr to i (bk_m t hy fr to i)) ∧
  (1 ≤ bk_m t hy fr to i → bk_E t hy fr to i (bk_m t hy fr to i) = i → i = fr ∨ (bk_w t to (i - 1) = true))
theorem bk_inv0 : bk_inv t hy fr to fr := by
  have e : bk_m t hy fr to fr = 0 := bk_m0 (fun j a b => absurd a (by omega))
  refine ⟨fun k a b => ?_, fun k a b => ?_, Or.inr (fun j a b => absurd a (by omega)), fun a => ?_⟩ <;> omega
theorem bk_invS {i : Nat} (hh : bk_hy t hy fr to) (hi : fr ≤ i) (hito : i < to) (I : bk_inv t hy fr to i) : bk_inv t hy fr to (i + 1) := by
  obtain ⟨I1, I2, I3, I4⟩ := I
  by_cases c : fr ≤ i ∧ t i < 10 ∧ (hy i = true ∨ bk_w t to i = true)
  · obtain ⟨n1, n2, n3⟩ := bk_new c
    have hEv : bk_E t hy fr to (i + 1) (bk_m t hy fr to i + 1) ≤ i + 1 ∧ i ≤ bk_E t hy fr to (i + 1) (bk_m t hy fr to i + 1) := by rw [n2]; split <;> omega
    have key : fr < bk_E t hy fr to (i + 1) (bk_m t hy fr to i + 1) ∧ t (bk_E t hy fr to (i + 1) (bk_m t hy fr to i + 1) - 1) < 10 ∧ (hy i = true → t (bk_E t hy fr to (i + 1) (bk_m t hy fr to i + 1)) < 10 ∧ bk_E t hy fr to (i + 1) (bk_m t hy fr to i + 1) < i + 1) := by
      rw [n2]
      by_cases z : hy i = true
      · rw [if_pos z]
        have := hh i hi hito z
        exact ⟨this.1, this.2.1, fun _ => ⟨this.2.2.1, by omega⟩⟩
      · rw [if_neg z]
        exact ⟨by omega, by rw [show i + 1 - 1 = i by omega]; exact c.2.1, fun y => absurd y z⟩
    have lastE : 1 ≤ bk_m t hy fr to i → bk_E t hy fr to i (bk_m t hy fr to i) < bk_E t hy fr to (i + 1) (bk_m t hy fr to i + 1) := by
      intro h
      have h1 := (I1 (bk_m t hy fr to i) h (Nat.le_refl _)).2.1
      rw [n2]
      by_cases z : hy i = true
      · rw [if_pos z]
        rcases Nat.lt_or_ge (bk_E t hy fr to i (bk_m t hy fr to i)) i with y | y
        · exact y
        · have e := I4 h (by omega)
          have h2 := hh i hi hito z
          rcases e with e | e
          · omega
          · rw [bk_w] at e
            have := of_decide_eq_true e
            rw [show i - 1 + 1 = i by omega] at this
            omega
      · rw [if_neg z]; omega
    refine ⟨fun k a b => ?_, fun k a b => ?_, ?_, fun a b => ?_⟩
    · rw [n1] at b
      by_cases z : k = bk_m t hy fr to i + 1
      · subst z
        rw [n3]
        exact ⟨key.1, hEv.1, key.2.1, key.2.2⟩
      · have o := bk_old (t := t) (hy := hy) (fr := fr) (to := to) (i := i) (k := k) (by omega)
        rw [o.1, o.2]
        have := I1 k a (by omega)
        exact ⟨this.1, by omega, this.2.2.1, fun y => ⟨(this.2.2.2 y).1, by have := (this.2.2.2 y).2; omega⟩⟩
    · rw [n1] at b
      have o := bk_old (t := t) (hy := hy) (fr := fr) (to := to) (i := i) (k := k) (by omega)
      rw [o.1]
      by_cases z : k = bk_m t hy fr to i
      · subst z
        exact lastE a
      · have o := bk_old (t := t) (hy := hy) (fr := fr) (to := to) (i := i) (k := k + 1) (by omega)
        rw [o.1]
        exact I2 k a (by omega)
    · rw [n1]
      by_cases z : bk_w t to i = true
      · right
        intro j a b d
        refine ⟨by omega, ?_⟩
        rw [n2, if_neg]
        · exact b
        · intro y
          have := (hh i hi hito y).2.2.2
          rw [z] at this
          exact absurd this (by decide)
      · left
        rw [bk_w, decide_eq_true_eq] at z
        exact ⟨by omega, by omega, by omega, by rw [show i + 1 - 1 = i by omega]; exact c.2.1⟩
    · right
      rw [n1, n2] at b
      rw [show i + 1 - 1 = i by omega]
      rcases c.2.2 with z | z
      · rw [if_pos z] at b; omega
      · exact z
  · have n1 := bk_non (hy := hy) c
    have o : ∀ k, k ≤ bk_m t hy fr to i → bk_E t hy fr to (i + 1) k = bk_E t hy fr to i k ∧ bk_H t hy fr to (i + 1) k = bk_H t hy fr to i k := fun k h => bk_old h
    refine ⟨fun k a b => ?_, fun k a b => ?_, ?_, fun a b => ?_⟩
    · rw [n1] at b
      rw [(o k b).1, (o k b).2]
      have := I1 k a (by omega)
      exact ⟨this.1, by omega, this.2.2.1, fun y => ⟨(this.2.2.2 y).1, by have := (this.2.2.2 y).2; omega⟩⟩
    · rw [n1] at b
      rw [(o k (by omega)).1, (o (k + 1) (by omega)).1]
      exact I2 k a b
    · by_cases z : t i < 10
      · left
        have z2 : ¬ bk_w t to i = true := fun y => c ⟨hi, z, Or.inr y⟩
        rw [bk_w, decide_eq_true_eq] at z2
        exact ⟨by omega, by omega, by omega, by rw [show i + 1 - 1 = i by omega]; exact z⟩
      · right
        intro j a b d
        rw [n1, (o _ (Nat.le_refl _)).1]
        have hj : j < i := by
          rcases Nat.lt_or_ge j i with y | y
          · exact y
          · have : j = i := by omega
            subst this; exact absurd d z
        rcases I3 with y | y
        · exact absurd y.2.1 z
        · exact y j a hj d
    · rw [n1] at a b
      rw [(o _ (Nat.le_refl _)).1] at b
      have := (I1 _ a (Nat.le_refl _)).2.1
      omega
theorem bk_invA (hh : bk_hy t hy fr to) : ∀ d, fr + d ≤ to → bk_inv t hy fr to (fr + d) := by
  intro d
  induction d with
  | zero => intro _; exact bk_inv0
  | succ d ih => intro h; exact bk_invS (i := fr + d) hh (by omega) (by omega) (ih (by omega))
end
/-- what the paragraph's breaks are, for those that use them -/
def bk_ok (t : Nat → Nat) (fr to m : Nat) (E N : Nat → Nat) (H : Nat → Bool) : Prop :=
  (∀ k, k < m → fr ≤ N k ∧ N k < E (k + 1) ∧ t (N k) < 10 ∧ (1 ≤ k → E k ≤ N k ∧ ∀ j, E k ≤ j → j < N k → ¬ t j < 10)) ∧ (∀ k, 1 ≤ k → k ≤ m → E k ≤ to ∧ t (E k - 1) < 10) ∧ (∀ j, fr ≤ j → j < N 0 → ¬ t j < 10) ∧ (∀ j, E m ≤ j → j < to → ¬ t j < 10) ∧ H 0 = false ∧ m ≤ to - fr
theorem bk_fin {t : Nat → Nat} {hy : Nat → Bool} {fr to : Nat} (ht : ∀ i, t i ≤ 11) (hft : fr ≤ to) (h11 : ∀ j, fr ≤ j → j < to → t j ≠ 11) (hh : bk_hy t hy fr to) (hm : 1 ≤ bk_m t hy fr to to) : bk_ok t fr to (bk_m t hy fr to to) (bk_E t hy fr to to) (bk_N t hy fr to to) (bk_H t hy fr to to) := by
  have I := bk_invA hh (to - fr) (by omega)
  rw [show fr + (to - fr) = to by omega] at I
  obtain ⟨I1, I2, I3, I4⟩ := I
  have skl : ∀ e l, fr ≤ e → e ≤ l → l < to → t l < 10 → bk_sk t to e ≤ l ∧ t (bk_sk t to e) < 10 ∧ e ≤ bk_sk t to e ∧ ∀ j, e ≤ j → j < bk_sk t to e → ¬ t j < 10 := by
    intro e l a b c d
    obtain ⟨s1, s2, s3, s4⟩ := bk_sk_ok (t := t) (show e ≤ to by omega)
    have h1 : bk_sk t to e ≤ l := by
      rcases Nat.lt_or_ge l (bk_sk t to e) with z | z
      · have := s3 l b z; omega
      · exact z
    refine ⟨h1, ?_, s1, fun j x y => by rw [s3 j x y]; omega⟩
    have := h11 (bk_sk t to e) (by omega) (by omega)
    have := ht (bk_sk t to e)
    omega
  refine ⟨fun k hk => ?_, fun k a b => ⟨(I1 k a b).2.1, (I1 k a b).2.2.1⟩, fun j a b => ?_, fun j a b => ?_, bk_H0 _, bk_mle⟩
  · have hn := I1 (k + 1) (by omega) (by omega)
    by_cases z : k = 0
    · subst z
      have := skl fr (bk_E t hy fr to to (0 + 1) - 1) (Nat.le_refl _) (by omega) (by omega) hn.2.2.1
      rw [bk_N, if_pos rfl]
      exact ⟨this.2.2.1, by omega, this.2.1, fun y => absurd y (by omega)⟩
    · have hk1 := I1 k (by omega) (by omega)
      have hlt := I2 k (by omega) hk
      rw [bk_N, if_neg z]
      by_cases y : bk_H t hy fr to to k = true
      · rw [if_pos y]
        exact ⟨by omega, hlt, (hk1.2.2.2 y).1, fun _ => ⟨Nat.le_refl _, fun j a b => absurd a (by omega)⟩⟩
      · rw [if_neg y]
        have := skl (bk_E t hy fr to to k) (bk_E t hy fr to to (k + 1) - 1) (by omega) (by omega) (by omega) hn.2.2.1
        exact ⟨by omega, by omega, this.2.1, fun _ => ⟨this.2.2.1, this.2.2.2⟩⟩
  · rw [bk_N, if_pos rfl] at b
    rw [(bk_sk_ok (t := t) hft).2.2.1 j a b]; omega
  · intro d
    rcases I3 with I3 | I3
    · omega
    · have h1 := (I1 _ hm (Nat.le_refl _)).1
      have := (I3 j (by omega) b d).2
      omega
/-- the next line's beginning lies before every later end -/
theorem bk_lt {t : Nat → Nat} {fr to m : Nat} {E N : Nat → Nat} {H : Nat → Bool} (h : bk_ok t fr to m E N H) {p k : Nat} (hpk : p < k) (hk : k ≤ m) : N p < E k := by
  obtain ⟨h1, h2⟩ := h
  induction k with
  | zero => omega
  | succ k ih =>
    by_cases z : p = k
    · rw [z]; exact (h1 k (by omega)).2.1
    · have a := ih (by omega) (by omega)
      have b := h1 k (by omega)
      have c := (b.2.2.2 (by omega)).1
      omega
end
section
section
variable {n lc pc fw rw fl sw ss sk ba hyc ph : Nat} {t w lg : Nat → Nat} {kn : Nat → Int}
variable {P : Nat → Nat}
variable {x_breakCount x_lineCount x_paragraphCount x_stale : Int32} {a_patterns a_heads a_glyphs a_breakEnd a_breakNext a_breakHyphen a_breakTaken a_wayBefore a_lineFacts : Nat → Int32} {a_wayDemerits a_paragraphDemerits : Nat → Int64}
/-- X's arrays while it scans -/
def cx_inv (t : Nat → Nat) (hy : Nat → Bool) (fr to i : Nat) (x_breakCount : Int32) (a_breakEnd a_breakNext a_breakHyphen a_breakTaken : Nat → Int32) : Prop :=
  (x_breakCount = if bk_sk t to fr < i then nI (bk_m t hy fr to i + 1) else 0) ∧
  (∀ k, 1 ≤ k → k ≤ bk_m t hy fr to i → a_breakEnd k = nI (bk_E t hy fr to i k)) ∧
  (bk_sk t to fr < i → ∀ k, k ≤ bk_m t hy fr to i → a_breakHyphen k = gd_bI (bk_H t hy fr to i k) ∧ a_breakTaken k = 0) ∧
  (∀ k, k ≤ bk_m t hy fr to i → (bk_N t hy fr to i k < i ∨ (1 ≤ k ∧ bk_H t hy fr to i k = true)) → a_breakNext k = nI (bk_N t hy fr to i k))
theorem cx_loop (post : SX → Prop) {fr to : Nat} (hn : n ≤ 48) (ht : ∀ i, t i ≤ 11) (hP : ∀ k, P k < 2 ^ 31) (hton : to ≤ n) (h11 : ∀ j, fr ≤ j → j < to → t j ≠ 11) (hh : bk_hy t (hy_b t P n) fr to)
    (hp : ∀ x_breakCount a_breakEnd a_breakNext a_breakHyphen a_breakTaken, cx_inv t (hy_b t P n) fr to to x_breakCount a_breakEnd a_breakNext a_breakHyphen a_breakTaken → post ((nI n), (nI lc), (nI pc), (nI fw), (nI rw), (nI fl), (nI sw), (nI ss), (nI sk), (nI ba), (nI hyc), (nI ph), x_breakCount, x_lineCount, x_paragraphCount, x_stale, (gd_tI t), (gd_tI w), (gd_lI lg), (gd_kI kn), (gd_tI P), a_heads, a_glyphs, a_breakEnd, a_breakNext, a_breakHyphen, a_breakTaken, a_wayDemerits, a_wayBefore, a_lineFacts, a_paragraphDemerits)) :
    ∀ d i, i + d = to → fr ≤ i → ∀ x_breakCount a_breakEnd a_breakNext a_breakHyphen a_breakTaken, cx_inv t (hy_b t P n) fr to i x_breakCount a_breakEnd a_breakNext a_breakHyphen a_breakTaken → wX_collectBreaks_7 post (nI fr) (nI to) (d + 1) (nI i) (nI n) (nI lc) (nI pc) (nI fw) (nI rw) (nI fl) (nI sw) (nI ss) (nI sk) (nI ba) (nI hyc) (nI ph) x_breakCount x_lineCount x_paragraphCount x_stale (gd_tI t) (gd_tI w) (gd_lI lg) (gd_kI kn) (gd_tI P) a_heads a_glyphs a_breakEnd a_breakNext a_breakHyphen a_breakTaken a_wayDemerits a_wayBefore a_lineFacts a_paragraphDemerits := by
  intro d
  induction d with
  | zero =>
    intro i hi hfr x_breakCount a_breakEnd a_breakNext a_breakHyphen a_breakTaken I
    have : i = to := by omega
    subst this
    exact br_t (nI_le (Nat.le_refl _) (by omega)) (hp _ _ _ _ _ I)
  | succ d ih =>
    intro i hi hfr x_breakCount a_breakEnd a_breakNext a_breakHyphen a_breakTaken I
    obtain ⟨s1, s2, s3, s4⟩ := bk_sk_ok (t := t) (show fr ≤ to by omega)
    have BI := bk_invA hh (i - fr) (by omega)
    rw [show fr + (i - fr) = i by omega] at BI
    obtain ⟨B1, B2, B3, B4⟩ := BI
    have hmle := bk_mle (t := t) (hy := hy_b t P n) (fr := fr) (to := to) (i := i)
    refine br_f (nI_ge (by omega) (by omega)) ⟨vp_in_nI (by omega) (by omega), ?_⟩
    refine pk_lt (t i) 10 (fun hl => ?_) (fun hl => ?_) (gd_rt (by omega)) rfl (by have := ht i; omega) (by omega)
    · have hski : bk_sk t to fr ≤ i := by
        rcases Nat.lt_or_ge i (bk_sk t to fr) with z | z
        · have := s3 i hfr z; omega
        · exact z
      -- behind the letter: perhaps the word's end
      have tail : ∀ x_breakCount a_breakEnd a_breakNext a_breakHyphen a_breakTaken m', x_breakCount = nI (m' + 1) → (hy_b t P n i = true → m' = bk_m t (hy_b t P n) fr to i + 1 ∧ bk_w t to i = false) → (hy_b t P n i = false → m' = bk_m t (hy_b t P n) fr to i) →
          (∀ k, 1 ≤ k → k ≤ m' → a_breakEnd k = nI (bk_E t (hy_b t P n) fr to (i + 1) k)) →
          (∀ k, k ≤ m' → a_breakHyphen k = gd_bI (bk_H t (hy_b t P n) fr to (i + 1) k) ∧ a_breakTaken k = 0) →
          (∀ k, k ≤ m' → (bk_N t (hy_b t P n) fr to (i + 1) k < i + 1 ∨ (1 ≤ k ∧ bk_H t (hy_b t P n) fr to (i + 1) k = true)) → a_breakNext k = nI (bk_N t (hy_b t P n) fr to (i + 1) k)) →
          wX_collectBreaks_106 post (wX_collectBreaks_7 post (nI fr) (nI to) (d + 1)) (nI fr) (nI to) (nI i) (nI n) (nI lc) (nI pc) (nI fw) (nI rw) (nI fl) (nI sw) (nI ss) (nI sk) (nI ba) (nI hyc) (nI ph) x_breakCount x_lineCount x_paragraphCount x_stale (gd_tI t) (gd_tI w) (gd_lI lg) (gd_kI kn) (gd_tI P) a_heads a_glyphs a_breakEnd a_breakNext a_breakHyphen a_breakTaken a_wayDemerits a_wayBefore a_lineFacts a_paragraphDemerits := by
        intro x_breakCount a_breakEnd a_breakNext a_breakHyphen a_breakTaken m' hc hyt hyf hE hHT hN
        have nope : bk_w t to i = false → wX_collectBreaks_7 post (nI fr) (nI to) (d + 1) (nI (i + 1)) (nI n) (nI lc) (nI pc) (nI fw) (nI rw) (nI fl) (nI sw) (nI ss) (nI sk) (nI ba) (nI hyc) (nI ph) x_breakCount x_lineCount x_paragraphCount x_stale (gd_tI t) (gd_tI w) (gd_lI lg) (gd_kI kn) (gd_tI P) a_heads a_glyphs a_breakEnd a_breakNext a_breakHyphen a_breakTaken a_wayDemerits a_wayBefore a_lineFacts a_paragraphDemerits := by
          intro hw
          have hm' : m' = bk_m t (hy_b t P n) fr to (i + 1) := by
            cases z : hy_b t P n i
            · rw [bk_non (by rw [z, hw]; simp), hyf z]
            · rw [(bk_new ⟨hfr, hl, Or.inl z⟩).1, (hyt z).1]
          subst hm'
          exact ih (i + 1) (by omega) (by omega) _ _ _ _ _ ⟨by rw [if_pos (by omega), hc], hE, fun _ => hHT, hN⟩
        have yes : bk_w t to i = true → wX_collectBreaks_126 post (wX_collectBreaks_7 post (nI fr) (nI to) (d + 1)) (nI fr) (nI to) (nI i) (nI n) (nI lc) (nI pc) (nI fw) (nI rw) (nI fl) (nI sw) (nI ss) (nI sk) (nI ba) (nI hyc) (nI ph) x_breakCount x_lineCount x_paragraphCount x_stale (gd_tI t) (gd_tI w) (gd_lI lg) (gd_kI kn) (gd_tI P) a_heads a_glyphs a_breakEnd a_breakNext a_breakHyphen a_breakTaken a_wayDemerits a_wayBefore a_lineFacts a_paragraphDemerits := by
          intro hw
          have hyi : hy_b t P n i = false := by
            cases z : hy_b t P n i
            · rfl
            · rw [(hyt z).2] at hw; exact absurd hw (by decide)
          have hm' := hyf hyi
          obtain ⟨n1, n2, n3⟩ := bk_new (t := t) (hy := hy_b t P n) (fr := fr) (to := to) ⟨hfr, hl, Or.inr hw⟩
          rw [if_neg (by rw [hyi]; decide)] at n2
          subst hc
          unfold wX_collectBreaks_126
          refine br_t (nI_lt (b := 49) (by omega) (by decide)) ⟨vp_in_nI (by omega) (by omega), nm_r (e' := upd a_breakEnd (m' + 1) (nI (i + 1))) (by rw [nI_clamp (by omega), nI_1]) ⟨vp_in_nI (by omega) (by omega), nm_r (e' := upd a_breakNext (m' + 1) (nI (i + 1))) (by rw [nI_clamp (by omega), nI_1]) ⟨vp_in_nI (by omega) (by omega), nm_r (e' := upd a_breakHyphen (m' + 1) 0) (by rw [nI_clamp (by omega), gd_b0]) ⟨vp_in_nI (by omega) (by omega), nm_r (e' := upd a_breakTaken (m' + 1) 0) (by rw [nI_clamp (by omega), gd_b0]) (nm_r (nI_1 (m' + 1)) (nm_r (nI_1 i) (ih (i + 1) (by omega) (by omega) _ _ _ _ _ ⟨?_, ?_, ?_, ?_⟩)))⟩⟩⟩⟩
          · rw [if_pos (by omega), n1, hm']
          · intro k a b
            rw [n1] at b
            by_cases z : k = m' + 1
            · subst z; rw [pk_us, hm', n2]
            · rw [pk_un z]; exact hE k a (by omega)
          · intro _ k b
            rw [n1] at b
            by_cases z : k = m' + 1
            · subst z; rw [pk_us, pk_us, hm', n3, hyi]; exact ⟨rfl, rfl⟩
            · rw [pk_un z, pk_un z]; exact hHT k (by omega)
          · intro k b c
            rw [n1] at b
            by_cases z : k = m' + 1
            · exfalso
              have e1 : k = bk_m t (hy_b t P n) fr to i + 1 := by omega
              have : bk_N t (hy_b t P n) fr to (i + 1) k = bk_sk t to (i + 1) := by
                rw [bk_N, if_neg (by omega), e1, n3, hyi, n2]; rfl
              have := (bk_sk_ok (t := t) (show i + 1 ≤ to by omega)).1
              rcases c with c | c
              · omega
              · rw [e1, n3, hyi] at c; exact absurd c.2 (by decide)
            · rw [pk_un z]; exact hN k (by omega) c
        refine pk_eq (i + 1) to (fun e => yes (decide_eq_true (Or.inl e))) (fun e => ?_) (nI_1 i) rfl (by omega) (by omega)
        refine ⟨pk_in (i + 1) 48 (by omega) (nI_1 i), ?_⟩
        refine pk_lt (t (i + 1)) 10 (fun y => nm_r (nI_1 i) (nope (decide_eq_false (by omega)))) (fun y => yes (decide_eq_true (Or.inr (by omega)))) (by rw [nI_1, gd_rt (by omega)]) rfl (by have := ht (i + 1); omega) (by omega)
      obtain ⟨I1, I2, I3, I4⟩ := I
      -- the word begins
      have begins : (i = fr ∨ ¬ t (i - 1) < 10) → wX_collectBreaks_44 post (wX_collectBreaks_7 post (nI fr) (nI to) (d + 1)) (nI fr) (nI to) (nI i) (nI n) (nI lc) (nI pc) (nI fw) (nI rw) (nI fl) (nI sw) (nI ss) (nI sk) (nI ba) (nI hyc) (nI ph) x_breakCount x_lineCount x_paragraphCount x_stale (gd_tI t) (gd_tI w) (gd_lI lg) (gd_kI kn) (gd_tI P) a_heads a_glyphs a_breakEnd a_breakNext a_breakHyphen a_breakTaken a_wayDemerits a_wayBefore a_lineFacts a_paragraphDemerits := by
        intro hb
        have hyi : hy_b t P n i = false := by
          cases z : hy_b t P n i
          · rfl
          · have := hh i hfr (by omega) z; omega
        have old : ∀ k, k ≤ bk_m t (hy_b t P n) fr to i → bk_E t (hy_b t P n) fr to (i + 1) k = bk_E t (hy_b t P n) fr to i k ∧ bk_H t (hy_b t P n) fr to (i + 1) k = bk_H t (hy_b t P n) fr to i k := fun k h => bk_old h
        refine br_f (by decide) ?_
        by_cases seen : bk_sk t to fr < i
        · rw [if_pos seen] at I1
          subst I1
          have r3 : ∀ j, fr ≤ j → j < i → t j < 10 → 1 ≤ bk_m t (hy_b t P n) fr to i ∧ j < bk_E t (hy_b t P n) fr to i (bk_m t (hy_b t P n) fr to i) := by
            rcases B3 with y | y
            · omega
            · exact y
          have hsl : t (bk_sk t to fr) < 10 := by
            have := h11 (bk_sk t to fr) s1 (by omega)
            have := ht (bk_sk t to fr)
            omega
          have hm1 := (r3 _ s1 seen hsl).1
          have hEm := B1 _ hm1 (Nat.le_refl _)
          have hNm : bk_N t (hy_b t P n) fr to i (bk_m t (hy_b t P n) fr to i) = i := by
            rw [bk_N, if_neg (by omega)]
            have hnl : ∀ j, bk_E t (hy_b t P n) fr to i (bk_m t (hy_b t P n) fr to i) ≤ j → j < i → ¬ t j < 10 := fun j a b c => by
              have := (r3 j (by omega) b c).2; omega
            have hHf : ¬ bk_H t (hy_b t P n) fr to i (bk_m t (hy_b t P n) fr to i) = true := by
              intro y
              have := hEm.2.2.2 y
              exact hnl _ (Nat.le_refl _) this.2 this.1
            rw [if_neg hHf]
            refine bk_sk_eq (by omega) hEm.2.1 (by omega) (fun j a b => ?_) (Or.inr (by omega))
            have := hnl j a b
            have := h11 j (by omega) (by omega)
            have := ht j
            omega
          refine br_f (nI_ge (a := 0) (by omega) (by omega)) ⟨pk_in (bk_m t (hy_b t P n) fr to i) 49 (by omega) (nI_pred _), nm_r (e' := upd a_breakNext (bk_m t (hy_b t P n) fr to i) (nI i)) (by rw [nI_pred, nI_clamp (by omega)]) (tail _ _ _ _ _ (bk_m t (hy_b t P n) fr to i) rfl (fun y => by rw [hyi] at y; exact absurd y (by decide)) (fun _ => rfl) ?_ ?_ ?_)⟩
          · intro k a b; rw [(old k b).1]; exact I2 k a b
          · intro k b; rw [(old k b).2]; exact I3 seen k b
          · intro k b c
            rw [bk_oldN b] at c ⊢
            by_cases z : k = bk_m t (hy_b t P n) fr to i
            · rw [z, pk_us, hNm]
            · rw [pk_un z]
              refine I4 k b ?_
              rw [(old k b).2] at c
              rcases c with c | c
              · have hlt := B1 (k + 1) (by omega) (by omega)
                left
                -- N k < E (k+1) ≤ i
                rcases Nat.lt_or_ge (bk_N t (hy_b t P n) fr to i k) i with y | y
                · exact y
                · exfalso
                  have hNi : bk_N t (hy_b t P n) fr to i k = i := by omega
                  by_cases k0 : k = 0
                  · rw [bk_N, if_pos k0] at hNi; omega
                  · rw [bk_N, if_neg k0] at hNi
                    have hEk := B2 k (by omega) (by omega)
                    by_cases q : bk_H t (hy_b t P n) fr to i k = true
                    · rw [if_pos q] at hNi
                      have := (B1 k (by omega) b).2.2.2 q
                      omega
                    · rw [if_neg q] at hNi
                      have hEk1 := B1 k (by omega) b
                      have := (bk_sk_ok (t := t) (show bk_E t (hy_b t P n) fr to i k ≤ to by omega)).2.2.1 (bk_E t (hy_b t P n) fr to i (k + 1) - 1) (by omega) (by omega)
                      omega
              · exact Or.inr c
        · rw [if_neg seen] at I1
          have hsi : bk_sk t to fr = i := by omega
          have hm0 : bk_m t (hy_b t P n) fr to i = 0 := bk_m0 (fun j a b => by rw [s3 j a (by omega)]; omega)
          subst I1
          refine br_t (by decide) (br_f (by decide) ?_)
          refine br_t (by decide) ⟨vp_in_nI (n := 0) (by omega) (by omega), nm_r (e' := upd a_breakEnd 0 (nI i)) rfl ⟨vp_in_nI (n := 0) (by omega) (by omega), nm_r (e' := upd a_breakNext 0 (nI i)) rfl ⟨vp_in_nI (n := 0) (by omega) (by omega), nm_r (e' := upd a_breakHyphen 0 0) rfl ⟨vp_in_nI (n := 0) (by omega) (by omega), nm_r (e' := upd a_breakTaken 0 0) rfl (nm_e (tail _ _ _ _ _ 0 rfl (fun y => by rw [hyi] at y; exact absurd y (by decide)) (fun _ => hm0.symm) ?_ ?_ ?_))⟩⟩⟩⟩
          · intro k a b; omega
          · intro k b
            have : k = 0 := by omega
            subst this
            rw [pk_us, pk_us, bk_H0]; exact ⟨rfl, rfl⟩
          · intro k b c
            have : k = 0 := by omega
            subst this
            rw [pk_us, bk_N, if_pos rfl, hsi]
      refine pk_eq i fr (fun e => begins (Or.inl e)) (fun e => ?_)
      refine ⟨pk_in (i - 1) 48 (by omega) (gd_p1 (by omega)), ?_⟩
      refine pk_lt (t (i - 1)) 10 (fun h1 => ?_) (fun h1 => begins (Or.inr (by omega))) (by rw [gd_p1 (by omega), gd_rt (by omega)]) rfl (by have := ht (i - 1); omega) (by omega)
      -- within a word
      have seen : bk_sk t to fr < i := by
        rcases Nat.lt_or_ge (bk_sk t to fr) i with z | z
        · exact z
        · have := s3 (i - 1) (by omega) (by omega); omega
      rw [if_pos seen] at I1
      subst I1
      have I3 := I3 seen
      have old : ∀ k, k ≤ bk_m t (hy_b t P n) fr to i → bk_E t (hy_b t P n) fr to (i + 1) k = bk_E t (hy_b t P n) fr to i k ∧ bk_H t (hy_b t P n) fr to (i + 1) k = bk_H t (hy_b t P n) fr to i k := fun k h => bk_old h
      have oldNx : ∀ k, k ≤ bk_m t (hy_b t P n) fr to i → (bk_N t (hy_b t P n) fr to (i + 1) k < i + 1 ∨ (1 ≤ k ∧ bk_H t (hy_b t P n) fr to (i + 1) k = true)) → a_breakNext k = nI (bk_N t (hy_b t P n) fr to (i + 1) k) := by
        intro k b c
        rw [bk_oldN b] at c ⊢
        rw [(old k b).2] at c
        refine I4 k b ?_
        rcases c with c | c
        · left
          rcases Nat.lt_or_ge (bk_N t (hy_b t P n) fr to i k) i with y | y
          · exact y
          · exfalso
            have hNi : bk_N t (hy_b t P n) fr to i k = i := by omega
            by_cases k0 : k = 0
            · rw [bk_N, if_pos k0] at hNi; omega
            · rw [bk_N, if_neg k0] at hNi
              have hEk1 := B1 k (by omega) b
              by_cases q : bk_H t (hy_b t P n) fr to i k = true
              · rw [if_pos q] at hNi
                have := hEk1.2.2.2 q
                omega
              · rw [if_neg q] at hNi
                have skk := bk_sk_ok (t := t) (show bk_E t (hy_b t P n) fr to i k ≤ to by omega)
                rcases Nat.lt_or_ge (bk_E t (hy_b t P n) fr to i k) i with y2 | y2
                · have := skk.2.2.1 (i - 1) (by omega) (by omega); omega
                · have hEi : bk_E t (hy_b t P n) fr to i k = i := by omega
                  have hkm : k = bk_m t (hy_b t P n) fr to i := by
                    rcases Nat.lt_or_ge k (bk_m t (hy_b t P n) fr to i) with y3 | y3
                    · have := B2 k (by omega) y3
                      have := (B1 (k + 1) (by omega) (by omega)).2.1
                      omega
                    · omega
                  rcases B4 (by omega) (by rw [← hkm]; exact hEi) with y4 | y4
                  · exact e y4
                  · rw [bk_w] at y4
                    have := of_decide_eq_true y4
                    rw [show i - 1 + 1 = i by omega] at this
                    omega
        · exact Or.inr c
      refine br_t rfl (br_t rfl ?_)
      refine hx_may hn ht hP (by omega) (gd_bt (fun hyi => ?_) (fun hyi => ?_))
      · refine tail _ _ _ _ _ (bk_m t (hy_b t P n) fr to i) rfl (fun y => by rw [hyi] at y; exact absurd y (by decide)) (fun _ => rfl) ?_ ?_ oldNx
        · intro k a b; rw [(old k b).1]; exact I2 k a b
        · intro k b; rw [(old k b).2]; exact I3 k b
      · obtain ⟨n1, n2, n3⟩ := bk_new (t := t) (hy := hy_b t P n) (fr := fr) (to := to) ⟨hfr, hl, Or.inl hyi⟩
        rw [if_pos hyi] at n2
        have hw := (hh i hfr (by omega) hyi).2.2.2
        generalize hmm : bk_m t (hy_b t P n) fr to i = mm at *
        refine br_t (nI_lt (b := 49) (by omega) (by decide)) ⟨vp_in_nI (by omega) (by omega), nm_r (e' := upd a_breakEnd (mm + 1) (nI i)) (by rw [nI_clamp (by omega)]) ⟨vp_in_nI (by omega) (by omega), nm_r (e' := upd a_breakNext (mm + 1) (nI i)) (by rw [nI_clamp (by omega)]) ⟨vp_in_nI (by omega) (by omega), nm_r (e' := upd a_breakHyphen (mm + 1) 1) (by rw [nI_clamp (by omega), gd_b1]) ⟨vp_in_nI (by omega) (by omega), nm_r (e' := upd a_breakTaken (mm + 1) 0) (by rw [nI_clamp (by omega), gd_b0]) (nm_r (nI_1 (mm + 1)) (tail _ _ _ _ _ (mm + 1) rfl (fun _ => ⟨rfl, hw⟩) (fun y => by rw [hyi] at y; exact absurd y (by decide)) ?_ ?_ ?_))⟩⟩⟩⟩
        · intro k a b
          by_cases z : k = mm + 1
          · subst z; rw [pk_us, n2]
          · rw [pk_un z, (old k (by omega)).1]; exact I2 k a (by omega)
        · intro k b
          by_cases z : k = mm + 1
          · subst z; rw [pk_us, pk_us, n3, hyi]; exact ⟨rfl, rfl⟩
          · rw [pk_un z, pk_un z, (old k (by omega)).2]; exact I3 k (by omega)
        · intro k b c
          by_cases z : k = mm + 1
          · subst z; rw [pk_us, bk_N, if_neg (by omega), n3, if_pos hyi, n2]
          · rw [pk_un z]; exact oldNx k (by omega) c
    · obtain ⟨I1, I2, I3, I4⟩ := I
      have nn : bk_m t (hy_b t P n) fr to (i + 1) = bk_m t (hy_b t P n) fr to i := bk_non (by omega)
      have old : ∀ k, k ≤ bk_m t (hy_b t P n) fr to i → bk_E t (hy_b t P n) fr to (i + 1) k = bk_E t (hy_b t P n) fr to i k ∧ bk_H t (hy_b t P n) fr to (i + 1) k = bk_H t (hy_b t P n) fr to i k := fun k h => bk_old h
      have ht10 : t i = 10 := by
        have := h11 i hfr (by omega)
        have := ht i
        omega
      have hsk : bk_sk t to fr < i + 1 ↔ bk_sk t to fr < i := by
        constructor
        · intro h
          rcases Nat.lt_or_ge (bk_sk t to fr) i with y | y
          · exact y
          · have e : bk_sk t to fr = i := by omega
            rw [e] at s4
            omega
        · omega
      refine nm_r (nI_1 i) (ih (i + 1) (by omega) (by omega) _ _ _ _ _ ⟨?_, ?_, ?_, ?_⟩)
      · rw [nn, I1]
        by_cases y : bk_sk t to fr < i
        · rw [if_pos y, if_pos (by omega)]
        · rw [if_neg y, if_neg (by omega)]
      · rw [nn]; intro k a b; rw [(old k b).1]; exact I2 k a b
      · rw [nn]; intro y k b; rw [(old k b).2]; exact I3 (hsk.mp y) k b
      · rw [nn]
        intro k b c
        rw [bk_oldN b] at c ⊢
        rw [(old k b).2] at c
        refine I4 k b ?_
        rcases c with c | c
        · rcases Nat.lt_or_ge (bk_N t (hy_b t P n) fr to i k) i with y | y
          · exact Or.inl y
          · have hNi : bk_N t (hy_b t P n) fr to i k = i := by omega
            by_cases k0 : k = 0
            · rw [bk_N, if_pos k0] at hNi
              rw [hNi] at s4; omega
            · by_cases q : bk_H t (hy_b t P n) fr to i k = true
              · exact Or.inr ⟨by omega, q⟩
              · rw [bk_N, if_neg k0, if_neg q] at hNi
                have hEk1 := B1 k (by omega) b
                have skk := (bk_sk_ok (t := t) (show bk_E t (hy_b t P n) fr to i k ≤ to by omega)).2.2.2
                rw [hNi] at skk; omega
        · exact Or.inr c
end
end
section
/-! what the two scans leave -/
def bk_xb (m : Nat) (E N : Nat → Nat) (H : Nat → Bool) (a_breakEnd a_breakNext a_breakHyphen : Nat → Int32) : Prop :=
  (∀ k, 1 ≤ k → k ≤ m → a_breakEnd k = nI (E k)) ∧ (∀ k, k < m → a_breakNext k = nI (N k)) ∧ (∀ k, k ≤ m → a_breakHyphen k = gd_bI (H k))
theorem bk_hyok {t P : Nat → Nat} {n fr to : Nat} (hto : to = n ∨ t to = 11) (hton : to ≤ n) (hfr : fr = 0 ∨ t (fr - 1) = 11) : bk_hy t (hy_b t P n) fr to := by
  intro i a b h
  rw [hy_b, decide_eq_true_eq] at h
  obtain ⟨h1, h2, h3, h4, h5⟩ := h
  obtain ⟨w1, w2, w3⟩ := wd_E_ok (t := t) (n := n) i
  obtain ⟨v1, v2, v3⟩ := wd_s_ok (t := t) (n := n) i
  have p1 := v2 (i - 1) (by omega) (by omega)
  have p2 := w2 (i + 1) (by omega) (by omega)
  refine ⟨?_, p1.2, h2, ?_⟩
  · rcases Nat.lt_or_ge fr i with z | z
    · exact z
    · have : i = fr := by omega
      subst this
      rcases hfr with hfr | hfr
      · omega
      · omega
  · rw [bk_w, decide_eq_false_iff_not]
    rintro (z | z)
    · rcases hto with y | y
      · omega
      · rw [z, y] at p2; omega
    · exact z p2.2
section
variable {n lc pc fw rw fl sw ss sk ba hyc ph : Nat} {t w lg : Nat → Nat} {kn : Nat → Int}
variable {P pa pb pq pd : Nat → Nat}
variable {x_breakCount x_lineCount x_paragraphCount x_stale : Int32} {a_patterns a_heads a_glyphs a_breakEnd a_breakNext a_breakHyphen a_breakTaken a_wayBefore a_lineFacts : Nat → Int32} {a_wayDemerits a_paragraphDemerits : Nat → Int64}
theorem cx_collect {post : SX → Prop} {fr to : Nat} (hn : n ≤ 48) (ht : ∀ i, t i ≤ 11) (hP : ∀ k, P k < 2 ^ 31) (hft : fr ≤ to) (hton : to ≤ n) (h11 : ∀ j, fr ≤ j → j < to → t j ≠ 11) (hto : to = n ∨ t to = 11) (hfr : fr = 0 ∨ t (fr - 1) = 11)
    (hp0 : bk_sk t to fr = to → ∀ a_breakEnd a_breakNext a_breakHyphen a_breakTaken, post ((nI n), (nI lc), (nI pc), (nI fw), (nI rw), (nI fl), (nI sw), (nI ss), (nI sk), (nI ba), (nI hyc), (nI ph), 0, x_lineCount, x_paragraphCount, x_stale, (gd_tI t), (gd_tI w), (gd_lI lg), (gd_kI kn), (gd_tI P), a_heads, a_glyphs, a_breakEnd, a_breakNext, a_breakHyphen, a_breakTaken, a_wayDemerits, a_wayBefore, a_lineFacts, a_paragraphDemerits))
    (hp1 : bk_sk t to fr < to → 1 ≤ bk_m t (hy_b t P n) fr to to → ∀ a_breakEnd a_breakNext a_breakHyphen a_breakTaken, bk_xb (bk_m t (hy_b t P n) fr to to) (bk_E t (hy_b t P n) fr to to) (bk_N t (hy_b t P n) fr to to) (bk_H t (hy_b t P n) fr to to) a_breakEnd a_breakNext a_breakHyphen → (∀ k, k ≤ bk_m t (hy_b t P n) fr to to → a_breakTaken k = 0) → post ((nI n), (nI lc), (nI pc), (nI fw), (nI rw), (nI fl), (nI sw), (nI ss), (nI sk), (nI ba), (nI hyc), (nI ph), (nI (bk_m t (hy_b t P n) fr to to + 1)), x_lineCount, x_paragraphCount, x_stale, (gd_tI t), (gd_tI w), (gd_lI lg), (gd_kI kn), (gd_tI P), a_heads, a_glyphs, a_breakEnd, a_breakNext, a_breakHyphen, a_breakTaken, a_wayDemerits, a_wayBefore, a_lineFacts, a_paragraphDemerits)) :
    wpX_collectBreaks post ((nI n), (nI lc), (nI pc), (nI fw), (nI rw), (nI fl), (nI sw), (nI ss), (nI sk), (nI ba), (nI hyc), (nI ph), x_breakCount, x_lineCount, x_paragraphCount, x_stale, (gd_tI t), (gd_tI w), (gd_lI lg), (gd_kI kn), (gd_tI P), a_heads, a_glyphs, a_breakEnd, a_breakNext, a_breakHyphen, a_breakTaken, a_wayDemerits, a_wayBefore, a_lineFacts, a_paragraphDemerits) (nI fr) (nI to) := by
  have hh : bk_hy t (hy_b t P n) fr to := bk_hyok hto hton hfr
  obtain ⟨s1, s2, s3, s4⟩ := bk_sk_ok (t := t) hft
  refine ⟨to - fr + 1, cx_loop post hn ht hP hton h11 hh (fun x_breakCount a_breakEnd a_breakNext a_breakHyphen a_breakTaken I => ?_) (to - fr) fr (by omega) (Nat.le_refl _) _ _ _ _ _ ⟨?_, ?_, ?_, ?_⟩⟩
  · obtain ⟨I1, I2, I3, I4⟩ := I
    by_cases z : bk_sk t to fr < to
    · rw [if_pos z] at I1
      subst I1
      have hm : 1 ≤ bk_m t (hy_b t P n) fr to to := by
        have BI := bk_invA hh (to - fr) (by omega)
        rw [show fr + (to - fr) = to by omega] at BI
        rcases BI.2.2.1 with y | y
        · omega
        · refine (y _ s1 z ?_).1
          have := h11 (bk_sk t to fr) s1 z
          have := ht (bk_sk t to fr)
          omega
      have hok := bk_fin ht hft h11 hh hm
      refine hp1 z hm _ _ _ _ ⟨I2, fun k hk => I4 k (by omega) (Or.inl ?_), fun k hk => (I3 z k hk).1⟩ (fun k hk => (I3 z k hk).2)
      have h1 := (hok.1 k hk).2.1
      have h2 := (hok.2.1 (k + 1) (by omega) (by omega)).1
      omega
    · rw [if_neg z] at I1
      subst I1
      exact hp0 (by omega) _ _ _ _
  · rw [if_neg (by omega)]
  · have e : bk_m t (hy_b t P n) fr to fr = 0 := bk_m0 (fun j a b => absurd a (by omega))
    intro k a b; omega
  · intro h; omega
  · have e : bk_m t (hy_b t P n) fr to fr = 0 := bk_m0 (fun j a b => absurd a (by omega))
    intro k a b
    have k0 : k = 0 := by omega
    subst k0
    rw [bk_N, if_pos rfl] at b ⊢
    omega
end
section
variable {n lc pc fw rw fl sw ss sk ba hyc ph : Nat} {t w lg : Nat → Nat} {kn : Nat → Int}
variable {P pa pb pq pd : Nat → Nat}
variable {y_ready y_glyphCount y_breaks y_natural y_spaces y_lineCount y_paragraphs : Int32} {b_patA b_patB b_patC b_patDigits b_glyphs b_glyphOf b_bEnd b_bNext b_bHyphen b_before b_way b_lFrom b_lTo b_lNumber b_lParagraph b_lPage b_lHyphen b_lLast : Nat → Int32} {b_least b_best : Nat → Int64}
def cy_inv (t : Nat → Nat) (hy : Nat → Bool) (fr to i : Nat) (y_breaks : Int32) (b_bEnd b_bNext b_bHyphen : Nat → Int32) : Prop :=
  y_breaks = nI (bk_m t hy fr to i) ∧ (∀ k, 1 ≤ k → k ≤ bk_m t hy fr to i → b_bEnd k = nI (bk_E t hy fr to i k)) ∧ (∀ k, k ≤ bk_m t hy fr to i → b_bNext k = nI (bk_N t hy fr to i k) ∧ b_bHyphen k = gd_bI (bk_H t hy fr to i k))
theorem cy_loop (post : SY → Prop) {fr to : Nat} (hn : n ≤ 48) (ht : ∀ i, t i ≤ 11) (hpt : pt_ok P pc b_patA b_patB b_patC b_patDigits pa pb pq pd) (hton : to ≤ n) (h11 : ∀ j, fr ≤ j → j < to → t j ≠ 11) (hto : to = n ∨ t to = 11) (hh : bk_hy t (hy_b t P n) fr to)
    (hp : ∀ f y_breaks b_bEnd b_bNext b_bHyphen, cy_inv t (hy_b t P n) fr to to y_breaks b_bEnd b_bNext b_bHyphen → wY_paragraph_52 post (nI to) (f + 1) (nI to) (nI n) (nI lc) (nI pc) (nI fw) (nI rw) (nI fl) (nI sw) (nI ss) (nI sk) (nI ba) (nI hyc) (nI ph) y_ready y_glyphCount y_breaks y_natural y_spaces y_lineCount y_paragraphs (gd_tI t) (gd_tI w) (gd_lI lg) (gd_kI kn) b_patA b_patB b_patC b_patDigits b_glyphs b_glyphOf b_bEnd b_bNext b_bHyphen b_least b_before b_way b_lFrom b_lTo b_lNumber b_lParagraph b_lPage b_lHyphen b_lLast b_best) :
    ∀ d i, i + d = to → fr ≤ i → ∀ y_breaks b_bEnd b_bNext b_bHyphen, cy_inv t (hy_b t P n) fr to i y_breaks b_bEnd b_bNext b_bHyphen → wY_paragraph_52 post (nI to) (d + 1) (nI i) (nI n) (nI lc) (nI pc) (nI fw) (nI rw) (nI fl) (nI sw) (nI ss) (nI sk) (nI ba) (nI hyc) (nI ph) y_ready y_glyphCount y_breaks y_natural y_spaces y_lineCount y_paragraphs (gd_tI t) (gd_tI w) (gd_lI lg) (gd_kI kn) b_patA b_patB b_patC b_patDigits b_glyphs b_glyphOf b_bEnd b_bNext b_bHyphen b_least b_before b_way b_lFrom b_lTo b_lNumber b_lParagraph b_lPage b_lHyphen b_lLast b_best := by
  intro d
  induction d with
  | zero =>
    intro i hi hfr y_breaks b_bEnd b_bNext b_bHyphen I
    have : i = to := by omega
    subst this
    exact hp 0 _ _ _ _ I
  | succ d ih =>
    intro i hi hfr y_breaks b_bEnd b_bNext b_bHyphen I
    have hmle := bk_mle (t := t) (hy := hy_b t P n) (fr := fr) (to := to) (i := i)
    have old : ∀ k, k ≤ bk_m t (hy_b t P n) fr to i → bk_E t (hy_b t P n) fr to (i + 1) k = bk_E t (hy_b t P n) fr to i k ∧ bk_H t (hy_b t P n) fr to (i + 1) k = bk_H t (hy_b t P n) fr to i k := fun k h => bk_old h
    obtain ⟨I1, I2, I3⟩ := I
    subst I1
    refine br_f (nI_ge (by omega) (by omega)) ⟨vp_in_nI (by omega) (by omega), ?_⟩
    refine pk_eq (t i) 10 (fun hl => ?_) (fun hl => ?_) (gd_rt (by omega)) rfl (by have := ht i; omega) (by omega)
    · have nn : bk_m t (hy_b t P n) fr to (i + 1) = bk_m t (hy_b t P n) fr to i := bk_non (by omega)
      refine nm_r (nI_1 i) (ih (i + 1) (by omega) (by omega) _ _ _ _ ⟨by rw [nn], ?_, ?_⟩)
      · rw [nn]; intro k a b; rw [(old k b).1]; exact I2 k a b
      · rw [nn]; intro k b; rw [(old k b).2, bk_oldN b]; exact I3 k b
    · have hl10 : t i < 10 := by
        have := h11 i hfr (by omega)
        have := ht i
        omega
      have tail : ∀ m' b_bEnd b_bNext b_bHyphen, (hy_b t P n i = true → m' = bk_m t (hy_b t P n) fr to i + 1 ∧ bk_w t to i = false) → (hy_b t P n i = false → m' = bk_m t (hy_b t P n) fr to i) →
          (∀ k, 1 ≤ k → k ≤ m' → b_bEnd k = nI (bk_E t (hy_b t P n) fr to (i + 1) k)) →
          (∀ k, k ≤ m' → b_bNext k = nI (bk_N t (hy_b t P n) fr to (i + 1) k) ∧ b_bHyphen k = gd_bI (bk_H t (hy_b t P n) fr to (i + 1) k)) →
          wY_paragraph_91 post (wY_paragraph_52 post (nI to) (d + 1)) (nI to) (nI i) (nI n) (nI lc) (nI pc) (nI fw) (nI rw) (nI fl) (nI sw) (nI ss) (nI sk) (nI ba) (nI hyc) (nI ph) y_ready y_glyphCount (nI m') y_natural y_spaces y_lineCount y_paragraphs (gd_tI t) (gd_tI w) (gd_lI lg) (gd_kI kn) b_patA b_patB b_patC b_patDigits b_glyphs b_glyphOf b_bEnd b_bNext b_bHyphen b_least b_before b_way b_lFrom b_lTo b_lNumber b_lParagraph b_lPage b_lHyphen b_lLast b_best := by
        intro m' b_bEnd b_bNext b_bHyphen hyt hyf hE hNH
        unfold wY_paragraph_91
        rw [nI_1]
        refine yl_is hn (by omega) ht (gd_bt (fun z => ?_) (fun z => ?_))
        · have z := of_decide_eq_false z
          have hw : bk_w t to i = true := decide_eq_true (by omega)
          have hyi : hy_b t P n i = false := by
            cases z : hy_b t P n i
            · rfl
            · rw [(hyt z).2] at hw; exact absurd hw (by decide)
          have hm' := hyf hyi
          obtain ⟨n1, n2, n3⟩ := bk_new (t := t) (hy := hy_b t P n) (fr := fr) (to := to) ⟨hfr, hl10, Or.inr hw⟩
          rw [if_neg (by rw [hyi]; decide)] at n2
          have fin : wY_paragraph_135 post (wY_paragraph_52 post (nI to) (d + 1)) (nI to) (nI i) (nI (bk_sk t to (i + 1))) (nI n) (nI lc) (nI pc) (nI fw) (nI rw) (nI fl) (nI sw) (nI ss) (nI sk) (nI ba) (nI hyc) (nI ph) y_ready y_glyphCount (nI m') y_natural y_spaces y_lineCount y_paragraphs (gd_tI t) (gd_tI w) (gd_lI lg) (gd_kI kn) b_patA b_patB b_patC b_patDigits b_glyphs b_glyphOf b_bEnd b_bNext b_bHyphen b_least b_before b_way b_lFrom b_lTo b_lNumber b_lParagraph b_lPage b_lHyphen b_lLast b_best := by
            unfold wY_paragraph_135
            refine nm_r (nI_1 m') ⟨vp_in_nI (by omega) (by omega), nm_r (e' := upd b_bEnd (m' + 1) (nI (i + 1))) (by rw [nI_clamp (by omega), nI_1]) ⟨vp_in_nI (by omega) (by omega), nm_r (e' := upd b_bNext (m' + 1) (nI (bk_sk t to (i + 1)))) (by rw [nI_clamp (by omega)]) ⟨vp_in_nI (by omega) (by omega), nm_r (e' := upd b_bHyphen (m' + 1) 0) (by rw [nI_clamp (by omega), gd_b0]) (nm_r (nI_1 i) (ih (i + 1) (by omega) (by omega) _ _ _ _ ⟨?_, ?_, ?_⟩))⟩⟩⟩
            · rw [n1, hm']
            · intro k a b
              rw [n1] at b
              by_cases z : k = m' + 1
              · subst z; rw [pk_us, hm', n2]
              · rw [pk_un z]; exact hE k a (by omega)
            · intro k b
              rw [n1] at b
              by_cases z : k = m' + 1
              · subst z
                rw [pk_us, pk_us, hm', n3, hyi, bk_N, if_neg (by omega), n3, hyi, n2]
                exact ⟨rfl, rfl⟩
              · rw [pk_un z, pk_un z]; exact hNH k (by omega)
          have skip : ∀ f j, j + f = to → i + 1 ≤ j → (∀ q, i + 1 ≤ q → q < j → t q = 10) → wY_paragraph_111 post (wY_paragraph_52 post (nI to) (d + 1)) (nI to) (nI i) (nI n) (nI lc) (nI pc) (nI fw) (nI rw) (nI fl) (nI sw) (nI ss) (nI sk) (nI ba) (nI hyc) (nI ph) y_ready y_glyphCount (nI m') y_natural y_spaces y_lineCount y_paragraphs (gd_tI t) (gd_tI w) (gd_lI lg) (gd_kI kn) b_patA b_patB b_patC b_patDigits b_glyphs b_glyphOf b_bEnd b_bNext b_bHyphen b_least b_before b_way b_lFrom b_lTo b_lNumber b_lParagraph b_lPage b_lHyphen b_lLast b_best (f + 1) (nI j) := by
            intro f
            induction f with
            | zero =>
              intro j hj h1 h2
              have e : bk_sk t to (i + 1) = j := bk_sk_eq (by omega) h1 (by omega) h2 (Or.inl (by omega))
              rw [e] at fin
              exact br_t (nI_le (by omega) (by omega)) fin
            | succ f ihf =>
              intro j hj h1 h2
              refine br_f (nI_ge (by omega) (by omega)) ⟨vp_in_nI (by omega) (by omega), ?_⟩
              refine pk_eq (t j) 10 (fun y => ?_) (fun y => ?_) (gd_rt (by omega)) rfl (by have := ht j; omega) (by omega)
              · refine nm_r (nI_1 j) (ihf (j + 1) (by omega) (by omega) (fun q a b => ?_))
                by_cases q1 : q = j
                · rw [q1]; exact y
                · exact h2 q a (by omega)
              · have e : bk_sk t to (i + 1) = j := bk_sk_eq (by omega) h1 (by omega) h2 (Or.inr y)
                rw [e] at fin
                exact fin
          refine nm_e ⟨to - (i + 1) + 1, skip (to - (i + 1)) (i + 1) (by omega) (Nat.le_refl _) (fun q a b => absurd a (by omega))⟩
        · have z := of_decide_eq_true z
          have hw : bk_w t to i = false := decide_eq_false (by
            rintro (y | y)
            · rcases hto with q | q
              · omega
              · rw [← y] at q; omega
            · exact y z.2)
          have hm' : m' = bk_m t (hy_b t P n) fr to (i + 1) := by
            cases z : hy_b t P n i
            · rw [bk_non (by rw [z, hw]; simp), hyf z]
            · rw [(bk_new ⟨hfr, hl10, Or.inl z⟩).1, (hyt z).1]
          subst hm'
          exact nm_e (ih (i + 1) (by omega) (by omega) _ _ _ _ ⟨rfl, hE, hNH⟩)
      refine yh_hyphen hn ht hpt (by omega) (gd_bt (fun hyi => ?_) (fun hyi => ?_))
      · refine tail (bk_m t (hy_b t P n) fr to i) _ _ _ (fun y => by rw [hyi] at y; exact absurd y (by decide)) (fun _ => rfl) ?_ ?_
        · intro k a b; rw [(old k b).1]; exact I2 k a b
        · intro k b; rw [(old k b).2, bk_oldN b]; exact I3 k b
      · obtain ⟨n1, n2, n3⟩ := bk_new (t := t) (hy := hy_b t P n) (fr := fr) (to := to) ⟨hfr, hl10, Or.inl hyi⟩
        rw [if_pos hyi] at n2
        have hw := (hh i hfr (by omega) hyi).2.2.2
        have oldN : ∀ k, k ≤ bk_m t (hy_b t P n) fr to i → bk_N t (hy_b t P n) fr to (i + 1) k = bk_N t (hy_b t P n) fr to i k := fun k h => bk_oldN h
        generalize hmm : bk_m t (hy_b t P n) fr to i = mm at *
        refine nm_r (nI_1 mm) ⟨vp_in_nI (by omega) (by omega), nm_r (e' := upd b_bEnd (mm + 1) (nI i)) (by rw [nI_clamp (by omega)]) ⟨vp_in_nI (by omega) (by omega), nm_r (e' := upd b_bNext (mm + 1) (nI i)) (by rw [nI_clamp (by omega)]) ⟨vp_in_nI (by omega) (by omega), nm_r (e' := upd b_bHyphen (mm + 1) 1) (by rw [nI_clamp (by omega), gd_b1]) (tail (mm + 1) _ _ _ (fun _ => ⟨rfl, hw⟩) (fun y => by rw [hyi] at y; exact absurd y (by decide)) ?_ ?_)⟩⟩⟩
        · intro k a b
          by_cases z : k = mm + 1
          · subst z; rw [pk_us, n2]
          · rw [pk_un z, (old k (by omega)).1]; exact I2 k a (by omega)
        · intro k b
          by_cases z : k = mm + 1
          · subst z
            rw [pk_us, pk_us, n3, hyi, bk_N, if_neg (by omega), n3, if_pos hyi, n2]
            exact ⟨rfl, rfl⟩
          · rw [pk_un z, pk_un z, (old k (by omega)).2, oldN k (by omega)]; exact I3 k (by omega)
/-- Y's paragraph up to the ways -/
theorem cy_para {post : SY → Prop} {fr to : Nat} (hn : n ≤ 48) (ht : ∀ i, t i ≤ 11) (hpt : pt_ok P pc b_patA b_patB b_patC b_patDigits pa pb pq pd) (hft : fr ≤ to) (hton : to ≤ n) (h11 : ∀ j, fr ≤ j → j < to → t j ≠ 11) (hto : to = n ∨ t to = 11) (hfr : fr = 0 ∨ t (fr - 1) = 11)
    (hp0 : bk_sk t to fr = to → post ((nI n), (nI lc), (nI pc), (nI fw), (nI rw), (nI fl), (nI sw), (nI ss), (nI sk), (nI ba), (nI hyc), (nI ph), y_ready, y_glyphCount, y_breaks, y_natural, y_spaces, y_lineCount, y_paragraphs, (gd_tI t), (gd_tI w), (gd_lI lg), (gd_kI kn), b_patA, b_patB, b_patC, b_patDigits, b_glyphs, b_glyphOf, b_bEnd, b_bNext, b_bHyphen, b_least, b_before, b_way, b_lFrom, b_lTo, b_lNumber, b_lParagraph, b_lPage, b_lHyphen, b_lLast, b_best))
    (hp1 : bk_sk t to fr < to → 1 ≤ bk_m t (hy_b t P n) fr to to → ∀ f b_bEnd b_bNext b_bHyphen, bk_xb (bk_m t (hy_b t P n) fr to to) (bk_E t (hy_b t P n) fr to to) (bk_N t (hy_b t P n) fr to to) (bk_H t (hy_b t P n) fr to to) b_bEnd b_bNext b_bHyphen → wY_paragraph_52 post (nI to) (f + 1) (nI to) (nI n) (nI lc) (nI pc) (nI fw) (nI rw) (nI fl) (nI sw) (nI ss) (nI sk) (nI ba) (nI hyc) (nI ph) y_ready y_glyphCount (nI (bk_m t (hy_b t P n) fr to to)) y_natural y_spaces y_lineCount y_paragraphs (gd_tI t) (gd_tI w) (gd_lI lg) (gd_kI kn) b_patA b_patB b_patC b_patDigits b_glyphs b_glyphOf b_bEnd b_bNext b_bHyphen b_least b_before b_way b_lFrom b_lTo b_lNumber b_lParagraph b_lPage b_lHyphen b_lLast b_best) :
    wpY_paragraph post ((nI n), (nI lc), (nI pc), (nI fw), (nI rw), (nI fl), (nI sw), (nI ss), (nI sk), (nI ba), (nI hyc), (nI ph), y_ready, y_glyphCount, y_breaks, y_natural, y_spaces, y_lineCount, y_paragraphs, (gd_tI t), (gd_tI w), (gd_lI lg), (gd_kI kn), b_patA, b_patB, b_patC, b_patDigits, b_glyphs, b_glyphOf, b_bEnd, b_bNext, b_bHyphen, b_least, b_before, b_way, b_lFrom, b_lTo, b_lNumber, b_lParagraph, b_lPage, b_lHyphen, b_lLast, b_best) (nI fr) (nI to) := by
  have hh : bk_hy t (hy_b t P n) fr to := bk_hyok hto hton hfr
  obtain ⟨s1, s2, s3, s4⟩ := bk_sk_ok (t := t) hft
  have fin : wY_paragraph_24 post (nI to) (nI (bk_sk t to fr)) (nI n) (nI lc) (nI pc) (nI fw) (nI rw) (nI fl) (nI sw) (nI ss) (nI sk) (nI ba) (nI hyc) (nI ph) y_ready y_glyphCount y_breaks y_natural y_spaces y_lineCount y_paragraphs (gd_tI t) (gd_tI w) (gd_lI lg) (gd_kI kn) b_patA b_patB b_patC b_patDigits b_glyphs b_glyphOf b_bEnd b_bNext b_bHyphen b_least b_before b_way b_lFrom b_lTo b_lNumber b_lParagraph b_lPage b_lHyphen b_lLast b_best := by
    refine pk_eq (bk_sk t to fr) to (fun e => hp0 e) (fun e => ?_)
    refine nm_r (e' := upd b_bNext 0 (nI (bk_sk t to fr))) rfl (nm_r (e' := upd b_bHyphen 0 0) rfl ⟨to - bk_sk t to fr + 1, ?_⟩)
    have hm0 : bk_m t (hy_b t P n) fr to (bk_sk t to fr) = 0 := bk_m0 (fun j a b => by rw [s3 j a b]; omega)
    refine cy_loop post hn ht hpt hton h11 hto hh (fun f y_breaks b_bEnd b_bNext b_bHyphen I => ?_) (to - bk_sk t to fr) (bk_sk t to fr) (by omega) s1 _ _ _ _ ⟨by rw [hm0]; rfl, fun k a b => ?_, fun k b => ?_⟩
    · obtain ⟨I1, I2, I3⟩ := I
      subst I1
      have hm : 1 ≤ bk_m t (hy_b t P n) fr to to := by
        have BI := bk_invA hh (to - fr) (by omega)
        rw [show fr + (to - fr) = to by omega] at BI
        rcases BI.2.2.1 with y | y
        · omega
        · refine (y _ s1 (by omega) ?_).1
          have := h11 (bk_sk t to fr) s1 (by omega)
          have := ht (bk_sk t to fr)
          omega
      exact hp1 (by omega) hm f _ _ _ ⟨I2, fun k hk => (I3 k (by omega)).1, fun k hk => (I3 k hk).2⟩
    · omega
    · have k0 : k = 0 := by omega
      subst k0
      rw [pk_us, pk_us, bk_N, if_pos rfl, bk_H0]
      exact ⟨rfl, rfl⟩
  have skip : ∀ f j, j + f = to → fr ≤ j → (∀ q, fr ≤ q → q < j → t q = 10) → wY_paragraph_2 post (nI to) (nI n) (nI lc) (nI pc) (nI fw) (nI rw) (nI fl) (nI sw) (nI ss) (nI sk) (nI ba) (nI hyc) (nI ph) y_ready y_glyphCount y_breaks y_natural y_spaces y_lineCount y_paragraphs (gd_tI t) (gd_tI w) (gd_lI lg) (gd_kI kn) b_patA b_patB b_patC b_patDigits b_glyphs b_glyphOf b_bEnd b_bNext b_bHyphen b_least b_before b_way b_lFrom b_lTo b_lNumber b_lParagraph b_lPage b_lHyphen b_lLast b_best (f + 1) (nI j) := by
    intro f
    induction f with
    | zero =>
      intro j hj h1 h2
      have e : bk_sk t to fr = j := bk_sk_eq (by omega) h1 (by omega) h2 (Or.inl (by omega))
      rw [e] at fin
      exact br_t (nI_le (by omega) (by omega)) fin
    | succ f ihf =>
      intro j hj h1 h2
      refine br_f (nI_ge (by omega) (by omega)) ⟨vp_in_nI (by omega) (by omega), ?_⟩
      refine pk_eq (t j) 10 (fun y => ?_) (fun y => ?_) (gd_rt (by omega)) rfl (by have := ht j; omega) (by omega)
      · refine nm_r (nI_1 j) (ihf (j + 1) (by omega) (by omega) (fun q a b => ?_))
        by_cases q1 : q = j
        · rw [q1]; exact y
        · exact h2 q a (by omega)
      · have e : bk_sk t to fr = j := bk_sk_eq (by omega) h1 (by omega) h2 (Or.inr y)
        rw [e] at fin
        exact fin
  exact ⟨to - fr + 1, skip (to - fr) fr (by omega) (Nat.le_refl _) (fun q a b => absurd a (by omega))⟩
end
end
section
/-! the pure search for the best way: a table of states (value, state before) -/
abbrev dp_S : Type := Nat → Option (Nat × Nat)
def dp_up (σ : dp_S) (s : Nat) (x : Nat × Nat) : dp_S := fun j => if j = s then some x else σ j
def dp_bf (σ : dp_S) (s : Nat) : Nat := match σ s with
  | some x => x.2
  | none => 0
def dp_later (σ : dp_S) : Nat → Nat → Nat → Bool
  | 0, _, _ => false
  | f + 1, a, b => if a / 16 = b / 16 then (if a = b then false else if a < 16 then false else dp_later σ f (dp_bf σ a) (dp_bf σ b)) else decide (b / 16 < a / 16)
def dp_offer (σ : dp_S) (s tt fr : Nat) : dp_S := match σ s with
  | none => dp_up σ s (tt, fr)
  | some x => if x.1 < tt then σ else if tt = x.1 then (if dp_later σ 100 fr x.2 = true then dp_up σ s (tt, fr) else σ) else dp_up σ s (tt, fr)
def dp_nx (q : Nat) : Nat := if 3 ≤ q then 3 else q + 1
def dp_jp (c d : Nat) : Nat := if c + 1 < d ∨ d + 1 < c then 2000 else 0
def dp_s (ln : Nat → Nat → Nat → Option (Nat × Nat)) (p k : Nat) (σ : dp_S) (j : Nat) : dp_S := match σ (16 * p + j) with
  | none => σ
  | some x => match ln p k (j / 4) with
    | none => σ
    | some y => dp_offer σ (16 * k + 4 * dp_nx (j / 4) + y.1) (x.1 + y.2 + dp_jp y.1 (j % 4)) (16 * p + j)
def dp_e (ln : Nat → Nat → Nat → Option (Nat × Nat)) (p k : Nat) (σ : dp_S) : Nat → dp_S
  | 0 => σ
  | j + 1 => dp_s ln p k (dp_e ln p k σ j) j
def dp_row (ln : Nat → Nat → Nat → Option (Nat × Nat)) (k : Nat) (σ : dp_S) : Nat → dp_S
  | 0 => σ
  | p + 1 => dp_e ln p k (dp_row ln k σ p) 16
def dp_init : dp_S := fun s => if s = 1 then some (0, 0) else none
def dp_all (ln : Nat → Nat → Nat → Option (Nat × Nat)) : Nat → dp_S
  | 0 => dp_init
  | k + 1 => dp_row ln (k + 1) (dp_all ln k) (k + 1)
def dp_xi (ln : Nat → Nat → Nat → Option (Nat × Nat)) (a : Nat) (σ : dp_S) : Nat → dp_S
  | 0 => σ
  | j + 1 => dp_e ln a (a + 1 + j) (dp_xi ln a σ j) 16
def dp_x (ln : Nat → Nat → Nat → Option (Nat × Nat)) (m : Nat) : Nat → dp_S
  | 0 => dp_init
  | a + 1 => dp_xi ln a (dp_x ln m a) (m - a)
def dp_wf (σ : dp_S) : Prop := ∀ s x, σ s = some x → s < 784 ∧ x.1 ≤ (s / 16) * 101000000 ∧ (s < 16 → s = 1) ∧ (16 ≤ s → x.2 / 16 < s / 16 ∧ ∃ y, σ x.2 = some y)
def dp_ln (ln : Nat → Nat → Nat → Option (Nat × Nat)) : Prop := ∀ p k q y, ln p k q = some y → y.1 ≤ 3 ∧ y.2 ≤ 100990000
def dp_lim (k p : Nat) (σ : dp_S) : Prop := ∀ s x, s / 16 = k → σ s = some x → x.2 / 16 ≤ p
section
variable {ln : Nat → Nat → Nat → Option (Nat × Nat)} {σ σ2 : dp_S}
theorem dp_us {s : Nat} {x : Nat × Nat} : dp_up σ s x s = some x := if_pos rfl
theorem dp_un {s j : Nat} {x : Nat × Nat} (h : j ≠ s) : dp_up σ s x j = σ j := if_neg h
theorem dp_bfs {s : Nat} {x : Nat × Nat} (h : σ s = some x) : dp_bf σ s = x.2 := by rw [dp_bf, h]
/-- an offer keeps the table or stores the offered -/
theorem dp_offer_c (s tt fr : Nat) : dp_offer σ s tt fr = σ ∨ dp_offer σ s tt fr = dp_up σ s (tt, fr) := by
  rw [dp_offer]
  split
  · exact Or.inr rfl
  · split
    · exact Or.inl rfl
    · split
      · split
        · exact Or.inr rfl
        · exact Or.inl rfl
      · exact Or.inr rfl
theorem dp_up_wf {s tt fr k p : Nat} (W : dp_wf σ) (hk : k ≤ 48) (h1 : s / 16 = k) (hf : fr / 16 = p) (hp : p < k) (hr : ∃ y, σ fr = some y) (ht : tt ≤ k * 101000000) : dp_wf (dp_up σ s (tt, fr)) := by
  intro j x hx
  have keep : ∀ q y, σ q = some y → ∃ y, dp_up σ s (tt, fr) q = some y := by
    intro q y h
    by_cases e : q = s
    · exact ⟨_, by rw [e]; exact dp_us⟩
    · exact ⟨y, by rw [dp_un e]; exact h⟩
  by_cases e : j = s
  · subst e
    rw [dp_us] at hx
    cases hx
    refine ⟨by omega, by rw [h1]; exact ht, by omega, fun _ => ⟨by omega, ?_⟩⟩
    obtain ⟨y, hy⟩ := hr
    exact keep _ _ hy
  · rw [dp_un e] at hx
    obtain ⟨w1, w2, w3, w4⟩ := W j x hx
    refine ⟨w1, w2, w3, fun h => ⟨(w4 h).1, ?_⟩⟩
    obtain ⟨y, hy⟩ := (w4 h).2
    exact keep _ _ hy
theorem dp_s_c (p k j : Nat) : dp_s ln p k σ j = σ ∨ ∃ x y, σ (16 * p + j) = some x ∧ ln p k (j / 4) = some y ∧ dp_s ln p k σ j = dp_offer σ (16 * k + 4 * dp_nx (j / 4) + y.1) (x.1 + y.2 + dp_jp y.1 (j % 4)) (16 * p + j) := by
  rw [dp_s]
  cases h1 : σ (16 * p + j) with
  | none => exact Or.inl rfl
  | some x =>
    cases h2 : ln p k (j / 4) with
    | none => exact Or.inl rfl
    | some y => exact Or.inr ⟨x, y, rfl, rfl, rfl⟩
theorem dp_nx_b (q : Nat) : dp_nx q ≤ 3 := by rw [dp_nx]; split <;> omega
theorem dp_jp_b (c d : Nat) : dp_jp c d ≤ 2000 := by rw [dp_jp]; split <;> omega
theorem dp_off_wf {s tt fr k p : Nat} (W : dp_wf σ) (hk : k ≤ 48) (h1 : s / 16 = k) (hf : fr / 16 = p) (hp : p < k) (hr : ∃ y, σ fr = some y) (ht : tt ≤ k * 101000000) : dp_wf (dp_offer σ s tt fr) := by
  rcases dp_offer_c (σ := σ) s tt fr with h | h
  · rw [h]; exact W
  · rw [h]; exact dp_up_wf W hk h1 hf hp hr ht
theorem dp_tt {s j p k : Nat} {x y : Nat × Nat} (W : dp_wf σ) (hL : dp_ln ln) (hp : p < k) (hj : j < 16) (hx : σ (16 * p + j) = some x) (hy : ln p k (j / 4) = some y) : x.1 + y.2 + dp_jp y.1 (j % 4) ≤ k * 101000000 ∧ (16 * k + 4 * dp_nx (j / 4) + y.1) / 16 = k ∧ y.1 ≤ 3 ∧ y.2 ≤ 100990000 := by
  have h1 := (W _ _ hx).2.1
  have h2 := hL _ _ _ _ hy
  have h3 := dp_jp_b y.1 (j % 4)
  have h4 := dp_nx_b (j / 4)
  rw [show (16 * p + j) / 16 = p by omega] at h1
  refine ⟨?_, by omega, h2⟩
  have : p * 101000000 + 101000000 ≤ k * 101000000 := by omega
  omega
theorem dp_s_wf {p k j : Nat} (W : dp_wf σ) (hL : dp_ln ln) (hk : k ≤ 48) (hp : p < k) (hj : j < 16) : dp_wf (dp_s ln p k σ j) := by
  rcases dp_s_c (ln := ln) (σ := σ) p k j with h | ⟨x, y, hx, hy, h⟩
  · rw [h]; exact W
  · rw [h]
    obtain ⟨t1, t2, t3, t4⟩ := dp_tt (s := 0) W hL hp hj hx hy
    exact dp_off_wf W hk t2 (show (16 * p + j) / 16 = p by omega) hp ⟨x, hx⟩ t1
theorem dp_s_fr {p k j s : Nat} (hL : dp_ln ln) (hs : s / 16 ≠ k) : dp_s ln p k σ j s = σ s := by
  rcases dp_s_c (ln := ln) (σ := σ) p k j with h | ⟨x, y, hx, hy, h⟩
  · rw [h]
  · rw [h]
    have h2 := hL _ _ _ _ hy
    have h4 := dp_nx_b (j / 4)
    rcases dp_offer_c (σ := σ) (16 * k + 4 * dp_nx (j / 4) + y.1) (x.1 + y.2 + dp_jp y.1 (j % 4)) (16 * p + j) with q | q
    · rw [q]
    · rw [q, dp_un (by omega)]
theorem dp_s_lim {p k j : Nat} (hj : j < 16) (hl : dp_lim k p σ) : dp_lim k p (dp_s ln p k σ j) := by
  rcases dp_s_c (ln := ln) (σ := σ) p k j with h | ⟨x, y, hx, hy, h⟩
  · rw [h]; exact hl
  · rw [h]
    rcases dp_offer_c (σ := σ) (16 * k + 4 * dp_nx (j / 4) + y.1) (x.1 + y.2 + dp_jp y.1 (j % 4)) (16 * p + j) with q | q
    · rw [q]; exact hl
    · rw [q]
      intro s z h1 h2
      by_cases e : s = 16 * k + 4 * dp_nx (j / 4) + y.1
      · rw [e, dp_us] at h2
        cases h2
        show (16 * p + j) / 16 ≤ p
        omega
      · rw [dp_un e] at h2
        exact hl s z h1 h2
theorem dp_e_wf {p k : Nat} (W : dp_wf σ) (hL : dp_ln ln) (hk : k ≤ 48) (hp : p < k) : ∀ j, j ≤ 16 → dp_wf (dp_e ln p k σ j) := by
  intro j
  induction j with
  | zero => intro _; exact W
  | succ j ih => intro h; exact dp_s_wf (ih (by omega)) hL hk hp (by omega)
theorem dp_e_fr {p k s : Nat} (hL : dp_ln ln) (hs : s / 16 ≠ k) : ∀ j, dp_e ln p k σ j s = σ s := by
  intro j
  induction j with
  | zero => rfl
  | succ j ih => rw [dp_e, dp_s_fr hL hs, ih]
theorem dp_e_lim {p k : Nat} (hl : dp_lim k p σ) : ∀ j, j ≤ 16 → dp_lim k p (dp_e ln p k σ j) := by
  intro j
  induction j with
  | zero => intro _; exact hl
  | succ j ih => intro h; exact dp_s_lim (by omega) (ih (by omega))
theorem dp_row_wf {k : Nat} (W : dp_wf σ) (hL : dp_ln ln) (hk : k ≤ 48) : ∀ p, p ≤ k → dp_wf (dp_row ln k σ p) := by
  intro p
  induction p with
  | zero => intro _; exact W
  | succ p ih => intro h; exact dp_e_wf (ih (by omega)) hL hk (by omega) 16 (Nat.le_refl _)
theorem dp_row_fr {k s : Nat} (hL : dp_ln ln) (hs : s / 16 ≠ k) : ∀ p, dp_row ln k σ p s = σ s := by
  intro p
  induction p with
  | zero => rfl
  | succ p ih => rw [dp_row, dp_e_fr hL hs, ih]
theorem dp_row_lim {k : Nat} (h0 : ∀ s, s / 16 = k → σ s = none) : ∀ p, dp_lim k p (dp_row ln k σ p) := by
  intro p
  induction p with
  | zero =>
    intro s x h1 h2
    rw [dp_row, h0 s h1] at h2
    exact absurd h2 (by simp)
  | succ p ih =>
    intro s x h1 h2
    have := dp_e_lim (ln := ln) ih 16 (Nat.le_refl _) s x h1 h2
    omega
theorem dp_init_wf : dp_wf dp_init := by
  intro s x h
  rw [dp_init] at h
  by_cases e : s = 1
  · rw [if_pos e] at h
    cases h
    exact ⟨by omega, by omega, fun _ => e, fun h => absurd h (by omega)⟩
  · rw [if_neg e] at h
    exact absurd h (by simp)
theorem dp_all_wf (hL : dp_ln ln) : ∀ k, k ≤ 48 → dp_wf (dp_all ln k) := by
  intro k
  induction k with
  | zero => intro _; exact dp_init_wf
  | succ k ih => intro h; exact dp_row_wf (ih (by omega)) hL h _ (Nat.le_refl _)
theorem dp_all_no (hL : dp_ln ln) : ∀ k s, k < s / 16 → dp_all ln k s = none := by
  intro k
  induction k with
  | zero => intro s h; rw [dp_all, dp_init, if_neg (by omega)]
  | succ k ih => intro s h; rw [dp_all, dp_row_fr hL (by omega), ih s (by omega)]
theorem dp_all_st (hL : dp_ln ln) {s j : Nat} (hs : s / 16 ≤ j) : ∀ d, dp_all ln (j + d) s = dp_all ln j s := by
  intro d
  induction d with
  | zero => rfl
  | succ d ih =>
    show dp_all ln (j + d + 1) s = _
    rw [dp_all, dp_row_fr hL (by omega), ih]
/-- two tables that agree up to block p and on block k -/
def dp_ag (p k : Nat) (σ σ2 : dp_S) : Prop := ∀ s, (s / 16 ≤ p ∨ s / 16 = k) → σ s = σ2 s
theorem dp_lat_ag {p : Nat} (W : dp_wf σ2) (hA : ∀ s, s / 16 ≤ p → σ s = σ2 s) : ∀ f u v x y, σ2 u = some x → σ2 v = some y → u / 16 ≤ p → v / 16 ≤ p → dp_later σ f u v = dp_later σ2 f u v := by
  intro f
  induction f with
  | zero => intro u v x y _ _ _ _; rfl
  | succ f ih =>
    intro u v x y hu hv h1 h2
    have e1 : dp_bf σ u = x.2 := dp_bfs (by rw [hA u h1]; exact hu)
    have e2 : dp_bf σ v = y.2 := dp_bfs (by rw [hA v h2]; exact hv)
    rw [dp_later, dp_later, e1, e2, dp_bfs hu, dp_bfs hv]
    by_cases c1 : u / 16 = v / 16
    · rw [if_pos c1, if_pos c1]
      by_cases c2 : u = v
      · rw [if_pos c2, if_pos c2]
      · rw [if_neg c2, if_neg c2]
        by_cases c3 : u < 16
        · rw [if_pos c3, if_pos c3]
        · rw [if_neg c3, if_neg c3]
          obtain ⟨a1, z1, a2⟩ := (W u x hu).2.2.2 (by omega)
          obtain ⟨b1, z2, b2⟩ := (W v y hv).2.2.2 (by omega)
          exact ih x.2 y.2 z1 z2 a2 b2 (by omega) (by omega)
    · rw [if_neg c1, if_neg c1]
theorem dp_s_ag {p k j : Nat} (W : dp_wf σ2) (hL : dp_ln ln) (hl : dp_lim k p σ2) (hp : p < k) (hj : j < 16) (hA : dp_ag p k σ σ2) : dp_ag p k (dp_s ln p k σ j) (dp_s ln p k σ2 j) := by
  have e0 : σ (16 * p + j) = σ2 (16 * p + j) := hA _ (Or.inl (by omega))
  rw [dp_s, dp_s, e0]
  cases h1 : σ2 (16 * p + j) with
  | none => exact hA
  | some x =>
    cases h2 : ln p k (j / 4) with
    | none => exact hA
    | some y =>
      obtain ⟨t1, t2, t3, t4⟩ := dp_tt (s := 0) W hL hp hj h1 h2
      show dp_ag p k (dp_offer σ (16 * k + 4 * dp_nx (j / 4) + y.1) (x.1 + y.2 + dp_jp y.1 (j % 4)) (16 * p + j)) (dp_offer σ2 (16 * k + 4 * dp_nx (j / 4) + y.1) (x.1 + y.2 + dp_jp y.1 (j % 4)) (16 * p + j))
      generalize x.1 + y.2 + dp_jp y.1 (j % 4) = tt at *
      generalize 16 * k + 4 * dp_nx (j / 4) + y.1 = s at *
      have e1 : σ s = σ2 s := hA _ (Or.inr t2)
      have hup : ∀ z, dp_ag p k (dp_up σ s z) (dp_up σ2 s z) := by
        intro z q hq
        by_cases e : q = s
        · rw [e, dp_us, dp_us]
        · rw [dp_un e, dp_un e]; exact hA q hq
      rw [dp_offer, dp_offer, e1]
      cases h3 : σ2 s with
      | none => exact hup _
      | some z =>
        show dp_ag p k (if z.1 < tt then σ else if tt = z.1 then (if dp_later σ 100 (16 * p + j) z.2 = true then dp_up σ s (tt, 16 * p + j) else σ) else dp_up σ s (tt, 16 * p + j)) (if z.1 < tt then σ2 else if tt = z.1 then (if dp_later σ2 100 (16 * p + j) z.2 = true then dp_up σ2 s (tt, 16 * p + j) else σ2) else dp_up σ2 s (tt, 16 * p + j))
        by_cases c1 : z.1 < tt
        · rw [if_pos c1, if_pos c1]; exact hA
        · rw [if_neg c1, if_neg c1]
          by_cases c2 : tt = z.1
          · rw [if_pos c2, if_pos c2]
            obtain ⟨b1, z2, b2⟩ := (W s z h3).2.2.2 (by omega)
            have hb := hl s z t2 h3
            have el := dp_lat_ag (σ := σ) (p := p) W (fun q hq => hA q (Or.inl hq)) 100 (16 * p + j) z.2 x z2 h1 b2 (by omega) hb
            rw [el]
            by_cases c3 : dp_later σ2 100 (16 * p + j) z.2 = true
            · rw [if_pos c3, if_pos c3]; exact hup _
            · rw [if_neg c3, if_neg c3]; exact hA
          · rw [if_neg c2, if_neg c2]; exact hup _
theorem dp_e_ag {p k : Nat} (W : dp_wf σ2) (hL : dp_ln ln) (hk : k ≤ 48) (hl : dp_lim k p σ2) (hp : p < k) (hA : dp_ag p k σ σ2) : ∀ j, j ≤ 16 → dp_ag p k (dp_e ln p k σ j) (dp_e ln p k σ2 j) := by
  intro j
  induction j with
  | zero => intro _; exact hA
  | succ j ih => intro h; exact dp_s_ag (dp_e_wf W hL hk hp j (by omega)) hL (dp_e_lim hl j (by omega)) hp (by omega) (ih (by omega))
/-- X's order against Y's -/
def dp_xinv (ln : Nat → Nat → Nat → Option (Nat × Nat)) (m a b : Nat) (σ : dp_S) : Prop :=
  ∀ s, (s / 16 ≤ a → σ s = dp_all ln (s / 16) s) ∧ (a < s / 16 → s / 16 < b → σ s = dp_row ln (s / 16) (dp_all ln (s / 16 - 1)) (a + 1) s) ∧ (a < s / 16 → b ≤ s / 16 → s / 16 ≤ m → σ s = dp_row ln (s / 16) (dp_all ln (s / 16 - 1)) a s)
theorem dp_xinvS {m a b : Nat} (hL : dp_ln ln) (hm : m ≤ 48) (hab : a < b) (hbm : b ≤ m) (I : dp_xinv ln m a b σ) : dp_xinv ln m a (b + 1) (dp_e ln a b σ 16) := by
  have W : dp_wf (dp_row ln b (dp_all ln (b - 1)) a) := dp_row_wf (dp_all_wf hL _ (by omega)) hL (by omega) a (by omega)
  have hl : dp_lim b a (dp_row ln b (dp_all ln (b - 1)) a) := dp_row_lim (fun s h => dp_all_no hL _ s (by omega)) a
  have hA : dp_ag a b σ (dp_row ln b (dp_all ln (b - 1)) a) := by
    intro s hs
    rcases hs with hs | hs
    · rw [(I s).1 hs, dp_row_fr hL (by omega)]
      have := dp_all_st (ln := ln) hL (s := s) (j := s / 16) (Nat.le_refl _) (b - 1 - s / 16)
      rw [show s / 16 + (b - 1 - s / 16) = b - 1 by omega] at this
      exact this.symm
    · have := (I s).2.2 (by omega) (by omega) (by omega)
      rw [hs] at this
      exact this
  have hE := dp_e_ag W hL (by omega) hl hab hA 16 (Nat.le_refl _)
  intro s
  by_cases hs : s / 16 = b
  · refine ⟨fun h => absurd h (by omega), fun _ _ => ?_, fun _ h => absurd h (by omega)⟩
    rw [hE s (Or.inr hs), hs]
    rfl
  · rw [dp_e_fr hL hs]
    refine ⟨(I s).1, fun h1 h2 => (I s).2.1 h1 (by omega), fun h1 h2 h3 => (I s).2.2 h1 (by omega) h3⟩
theorem dp_xi_inv {m a : Nat} (hL : dp_ln ln) (hm : m ≤ 48) (I : dp_xinv ln m a (a + 1) σ) : ∀ j, a + j ≤ m → dp_xinv ln m a (a + 1 + j) (dp_xi ln a σ j) := by
  intro j
  induction j with
  | zero => intro _; exact I
  | succ j ih => intro h; exact dp_xinvS (b := a + 1 + j) hL hm (by omega) (by omega) (ih (by omega))
theorem dp_x_inv {m : Nat} (hL : dp_ln ln) (hm : m ≤ 48) : ∀ a, a ≤ m → dp_xinv ln m a (a + 1) (dp_x ln m a) := by
  intro a
  induction a with
  | zero =>
    intro _ s
    refine ⟨fun h => ?_, fun h1 h2 => absurd h1 (by omega), fun h1 h2 h3 => ?_⟩
    · rw [show s / 16 = 0 by omega]; rfl
    · show dp_init s = dp_row ln (s / 16) (dp_all ln (s / 16 - 1)) 0 s
      rw [dp_row, dp_all_no hL _ s (by omega), dp_init, if_neg (by omega)]
  | succ a ih =>
    intro h
    have I := dp_xi_inv hL hm (ih (by omega)) (m - a) (by omega)
    rw [show a + 1 + (m - a) = m + 1 by omega] at I
    intro s
    show ((s / 16 ≤ a + 1 → dp_xi ln a (dp_x ln m a) (m - a) s = _) ∧ _)
    obtain ⟨i1, i2, i3⟩ := I s
    refine ⟨fun h1 => ?_, fun h1 h2 => absurd h1 (by omega), fun h1 h2 h3 => i2 (by omega) (by omega)⟩
    by_cases e : s / 16 ≤ a
    · exact i1 e
    · have e1 : s / 16 = a + 1 := by omega
      have := i2 (by omega) (by omega)
      rw [e1] at this ⊢
      exact this
theorem dp_x_all {m : Nat} (hL : dp_ln ln) (hm : m ≤ 48) {s : Nat} (hs : s / 16 ≤ m) : dp_x ln m m s = dp_all ln m s := by
  rw [(dp_x_inv hL hm m (Nat.le_refl _) s).1 hs]
  have := dp_all_st (ln := ln) hL (s := s) (j := s / 16) (Nat.le_refl _) (m - s / 16)
  rw [show s / 16 + (m - s / 16) = m by omega] at this
  exact this.symm
theorem dp_xi_wf {a m : Nat} (W : dp_wf σ) (hL : dp_ln ln) (hm : m ≤ 48) : ∀ j, a + j ≤ m → dp_wf (dp_xi ln a σ j) := by
  intro j
  induction j with
  | zero => intro _; exact W
  | succ j ih => intro h; exact dp_e_wf (ih (by omega)) hL (by omega) (by omega) 16 (Nat.le_refl _)
theorem dp_x_wf {m : Nat} (hL : dp_ln ln) (hm : m ≤ 48) : ∀ a, a ≤ m → dp_wf (dp_x ln m a) := by
  intro a
  induction a with
  | zero => intro _; exact dp_init_wf
  | succ a ih => intro h; exact dp_xi_wf (ih (by omega)) hL hm (m - a) (by omega)
end
end
section
def dp_arr (M : Nat) (σ : dp_S) (L : Nat → Int64) (B : Nat → Int32) : Prop := ∀ s, s < M → (σ s = none → L s = -1) ∧ (∀ x, σ s = some x → L s = lN x.1 ∧ (16 ≤ s → B s = nI x.2))
theorem dp_nm1 {v : Nat} (h : v < 2 ^ 62) : ¬ lN v = -1 := by
  intro e
  have := congrArg Int64.toInt e
  rw [pk_lT (by omega)] at this
  have h2 : (-1 : Int64).toInt = -1 := by decide
  omega
theorem dp_arr_up {M s tt fr : Nat} {σ : dp_S} {L : Nat → Int64} {B : Nat → Int32} (hA : dp_arr M σ L B) : dp_arr M (dp_up σ s (tt, fr)) (vp_updL L s (lN tt)) (upd B s (nI fr)) := by
  intro j hj
  by_cases e : j = s
  · subst e
    rw [dp_us, pk_uLs, pk_us]
    exact ⟨fun h => absurd h (by simp), fun x hx => by cases hx; exact ⟨rfl, fun _ => rfl⟩⟩
  · rw [dp_un e, pk_uLn e, pk_un e]
    exact hA j hj
theorem dp_wf_v {σ : dp_S} {s : Nat} {x : Nat × Nat} (W : dp_wf σ) (h : σ s = some x) : x.1 ≤ 4848000000 ∧ s < 784 := by
  have := W s x h
  have h2 : (s / 16) * 101000000 ≤ 48 * 101000000 := Nat.mul_le_mul_right _ (by omega)
  omega
section
variable {n lc pc fw rw fl sw ss sk ba hyc ph : Nat} {t w lg : Nat → Nat} {kn : Nat → Int}
variable {σ : dp_S}
variable {x_breakCount x_lineCount x_paragraphCount x_stale : Int32} {a_patterns a_heads a_glyphs a_breakEnd a_breakNext a_breakHyphen a_breakTaken a_wayBefore a_lineFacts : Nat → Int32} {a_wayDemerits a_paragraphDemerits : Nat → Int64}
theorem dx_later {post : Int32 → Prop} {M a b : Nat} {x y : Nat × Nat} (hM : M ≤ 784) (hσ : ∀ s x, σ s = some x → s < M) (hA : dp_arr M σ a_wayDemerits a_wayBefore) (W : dp_wf σ) (ha : σ a = some x) (hb : σ b = some y) (hp : post (gd_bI (dp_later σ 100 a b))) : wpX_breaksLater post ((nI n), (nI lc), (nI pc), (nI fw), (nI rw), (nI fl), (nI sw), (nI ss), (nI sk), (nI ba), (nI hyc), (nI ph), x_breakCount, x_lineCount, x_paragraphCount, x_stale, (gd_tI t), (gd_tI w), (gd_lI lg), (gd_kI kn), a_patterns, a_heads, a_glyphs, a_breakEnd, a_breakNext, a_breakHyphen, a_breakTaken, a_wayDemerits, a_wayBefore, a_lineFacts, a_paragraphDemerits) (nI a) (nI b) := by
  have key : ∀ f a b j x y, a / 16 < f → j + a / 16 ≤ 48 → σ a = some x → σ b = some y → post (gd_bI (dp_later σ f a b)) → wX_breaksLater_8 post (nI n) (nI lc) (nI pc) (nI fw) (nI rw) (nI fl) (nI sw) (nI ss) (nI sk) (nI ba) (nI hyc) (nI ph) x_breakCount x_lineCount x_paragraphCount x_stale (gd_tI t) (gd_tI w) (gd_lI lg) (gd_kI kn) a_patterns a_heads a_glyphs a_breakEnd a_breakNext a_breakHyphen a_breakTaken a_wayDemerits a_wayBefore a_lineFacts a_paragraphDemerits f (nI a) (nI b) (nI j) := by
    intro f
    induction f with
    | zero => intro a b j x y h; omega
    | succ f ih =>
      intro a b j x y h1 h2 ha hb hp
      have bda := hσ a x ha
      have bdb := hσ b y hb
      rw [dp_later, dp_bfs ha, dp_bfs hb] at hp
      refine br_f (nI_ge (b := 49) (by omega) (by decide)) (pk_eq a b (fun e => ?_) (fun e => ?_))
      · rw [if_pos (by rw [e]), if_pos e] at hp
        exact hp
      · refine ⟨by decide, nm_r (e' := nI (a / 16)) (pk_div (d := 16) (by omega) (by omega) (by omega)) ⟨by decide, nm_r (e' := nI (b / 16)) (pk_div (d := 16) (by omega) (by omega) (by omega)) ?_⟩⟩
        refine pk_eq (a / 16) (b / 16) (fun e2 => ?_) (fun e2 => ?_)
        · rw [if_pos e2, if_neg e] at hp
          have ha16 : ¬ a < 16 := by
            intro z
            have := (W a x ha).2.2.1 z
            have := (W b y hb).2.2.1 (by omega)
            omega
          rw [if_neg ha16] at hp
          obtain ⟨c1, z1, c2⟩ := (W a x ha).2.2.2 (by omega)
          obtain ⟨d1, z2, d2⟩ := (W b y hb).2.2.2 (by omega)
          refine ⟨vp_in_nI (by omega) (by omega), nm_r (e' := nI x.2) (by rw [nI_clamp (by omega)]; exact ((hA a bda).2 x ha).2 (by omega)) ⟨vp_in_nI (by omega) (by omega), nm_r (e' := nI y.2) (by rw [nI_clamp (by omega)]; exact ((hA b bdb).2 y hb).2 (by omega)) (nm_r (nI_1 j) (ih x.2 y.2 (j + 1) z1 z2 (by omega) (by omega) c2 d2 hp))⟩⟩
        · rw [if_neg e2] at hp
          refine pk_le (a / 16) (b / 16) (fun e3 => ?_) (fun e3 => ?_)
          · rw [decide_eq_false (by omega)] at hp; exact hp
          · rw [decide_eq_true e3] at hp; exact hp
  have := dp_wf_v W ha
  exact ⟨100, key 100 a b 0 x y (by omega) (by omega) ha hb hp⟩
theorem dx_offer {post : SX → Prop} {s tt fr : Nat} {z : Nat × Nat} (hA : dp_arr 784 σ a_wayDemerits a_wayBefore) (W : dp_wf σ) (hs : s < 784) (hs16 : 16 ≤ s) (hf : σ fr = some z) (htt : tt < 2 ^ 62)
    (hp : ∀ a_wayDemerits a_wayBefore, dp_arr 784 (dp_offer σ s tt fr) a_wayDemerits a_wayBefore → post ((nI n), (nI lc), (nI pc), (nI fw), (nI rw), (nI fl), (nI sw), (nI ss), (nI sk), (nI ba), (nI hyc), (nI ph), x_breakCount, x_lineCount, x_paragraphCount, x_stale, (gd_tI t), (gd_tI w), (gd_lI lg), (gd_kI kn), a_patterns, a_heads, a_glyphs, a_breakEnd, a_breakNext, a_breakHyphen, a_breakTaken, a_wayDemerits, a_wayBefore, a_lineFacts, a_paragraphDemerits)) : wpX_offerWay post ((nI n), (nI lc), (nI pc), (nI fw), (nI rw), (nI fl), (nI sw), (nI ss), (nI sk), (nI ba), (nI hyc), (nI ph), x_breakCount, x_lineCount, x_paragraphCount, x_stale, (gd_tI t), (gd_tI w), (gd_lI lg), (gd_kI kn), a_patterns, a_heads, a_glyphs, a_breakEnd, a_breakNext, a_breakHyphen, a_breakTaken, a_wayDemerits, a_wayBefore, a_lineFacts, a_paragraphDemerits) (nI s) (nI fr) (lN tt) := by
  have hfb := dp_wf_v W hf
  have store : dp_offer σ s tt fr = dp_up σ s (tt, fr) → wX_offerWay_51 post (nI s) (nI fr) (lN tt) 1 (nI n) (nI lc) (nI pc) (nI fw) (nI rw) (nI fl) (nI sw) (nI ss) (nI sk) (nI ba) (nI hyc) (nI ph) x_breakCount x_lineCount x_paragraphCount x_stale (gd_tI t) (gd_tI w) (gd_lI lg) (gd_kI kn) a_patterns a_heads a_glyphs a_breakEnd a_breakNext a_breakHyphen a_breakTaken a_wayDemerits a_wayBefore a_lineFacts a_paragraphDemerits := by
    intro e
    rw [e] at hp
    refine br_f (by decide) ⟨vp_in_nI hs (by omega), nm_r (e' := vp_updL a_wayDemerits s (lN tt)) (by rw [nI_clamp (by omega)]) ⟨vp_in_nI hs (by omega), nm_r (e' := upd a_wayBefore s (nI fr)) (by rw [nI_clamp (by omega)]) (hp _ _ (dp_arr_up hA))⟩⟩
  have keep : dp_offer σ s tt fr = σ → wX_offerWay_51 post (nI s) (nI fr) (lN tt) 0 (nI n) (nI lc) (nI pc) (nI fw) (nI rw) (nI fl) (nI sw) (nI ss) (nI sk) (nI ba) (nI hyc) (nI ph) x_breakCount x_lineCount x_paragraphCount x_stale (gd_tI t) (gd_tI w) (gd_lI lg) (gd_kI kn) a_patterns a_heads a_glyphs a_breakEnd a_breakNext a_breakHyphen a_breakTaken a_wayDemerits a_wayBefore a_lineFacts a_paragraphDemerits := by
    intro e
    rw [e] at hp
    exact br_t rfl (hp _ _ hA)
  refine ⟨vp_in_nI hs (by omega), ?_⟩
  cases h : σ s with
  | none =>
    have hv := (hA s hs).1 h
    refine nm_r (e' := -1) (by rw [nI_clamp (by omega), hv]) (br_t rfl ?_)
    refine br_f (dp_nm1 htt) (store ?_)
    rw [dp_offer, h]
  | some x =>
    have hv := ((hA s hs).2 x h).1
    have hb := dp_wf_v W h
    refine nm_r (e' := lN x.1) (by rw [nI_clamp (by omega), hv]) (br_f (dp_nm1 (by omega)) (br_c (fun c1 => ?_) (fun c1 => ?_)))
    · have c1' := (pk_lLE (by omega) (by omega)).mp c1
      refine br_c (fun c2 => ?_) (fun c2 => ?_)
      · have c2' := (pk_lEQ (by omega) (by omega)).mp c2
        obtain ⟨d1, z2, d2⟩ := (W s x h).2.2.2 hs16
        refine ⟨vp_in_nI hs (by omega), ?_⟩
        rw [nI_clamp (by omega), ((hA s hs).2 x h).2 hs16]
        refine dx_later (Nat.le_refl _) (fun s x h => (dp_wf_v W h).2) hA W hf d2 ?_
        cases c3 : dp_later σ 100 fr x.2
        · refine keep ?_
          rw [dp_offer, h]
          show (if x.1 < tt then σ else if tt = x.1 then (if dp_later σ 100 fr x.2 = true then dp_up σ s (tt, fr) else σ) else dp_up σ s (tt, fr)) = σ
          rw [if_neg (by omega), if_pos c2', if_neg (by rw [c3]; decide)]
        · refine store ?_
          rw [dp_offer, h]
          show (if x.1 < tt then σ else if tt = x.1 then (if dp_later σ 100 fr x.2 = true then dp_up σ s (tt, fr) else σ) else dp_up σ s (tt, fr)) = dp_up σ s (tt, fr)
          rw [if_neg (by omega), if_pos c2', if_pos c3]
      · have c2' : ¬ tt = x.1 := fun q => c2 (by rw [q])
        refine keep ?_
        rw [dp_offer, h]
        show (if x.1 < tt then σ else _) = σ
        rw [if_pos (by omega)]
    · have c1' : ¬ x.1 ≤ tt := fun q => c1 ((pk_lLE (by omega) (by omega)).mpr q)
      refine br_f (fun q => c1' (by have := (pk_lEQ (by omega) (by omega)).mp q; omega)) (store ?_)
      rw [dp_offer, h]
      show (if x.1 < tt then σ else if tt = x.1 then (if dp_later σ 100 fr x.2 = true then dp_up σ s (tt, fr) else σ) else dp_up σ s (tt, fr)) = dp_up σ s (tt, fr)
      rw [if_neg (by omega), if_neg (by omega)]
end
section
variable {n lc pc fw rw fl sw ss sk ba hyc ph : Nat} {t w lg : Nat → Nat} {kn : Nat → Int}
variable {σ : dp_S}
variable {y_ready y_glyphCount y_breaks y_natural y_spaces y_lineCount y_paragraphs : Int32} {b_patA b_patB b_patC b_patDigits b_glyphs b_glyphOf b_bEnd b_bNext b_bHyphen b_before b_way b_lFrom b_lTo b_lNumber b_lParagraph b_lPage b_lHyphen b_lLast : Nat → Int32} {b_least b_best : Nat → Int64}
theorem dy_later {post : Int32 → Prop} {M a b : Nat} {x y : Nat × Nat} (hM : M ≤ 800) (hσ : ∀ s x, σ s = some x → s < M) (hA : dp_arr M σ b_least b_before) (W : dp_wf σ) (ha : σ a = some x) (hb : σ b = some y) (hp : post (gd_bI (dp_later σ 100 a b))) : wpY_later post ((nI n), (nI lc), (nI pc), (nI fw), (nI rw), (nI fl), (nI sw), (nI ss), (nI sk), (nI ba), (nI hyc), (nI ph), y_ready, y_glyphCount, y_breaks, y_natural, y_spaces, y_lineCount, y_paragraphs, (gd_tI t), (gd_tI w), (gd_lI lg), (gd_kI kn), b_patA, b_patB, b_patC, b_patDigits, b_glyphs, b_glyphOf, b_bEnd, b_bNext, b_bHyphen, b_least, b_before, b_way, b_lFrom, b_lTo, b_lNumber, b_lParagraph, b_lPage, b_lHyphen, b_lLast, b_best) (nI a) (nI b) := by
  have key : ∀ f a b x y, a / 16 < f → σ a = some x → σ b = some y → post (gd_bI (dp_later σ f a b)) → wY_later_5 post (nI n) (nI lc) (nI pc) (nI fw) (nI rw) (nI fl) (nI sw) (nI ss) (nI sk) (nI ba) (nI hyc) (nI ph) y_ready y_glyphCount y_breaks y_natural y_spaces y_lineCount y_paragraphs (gd_tI t) (gd_tI w) (gd_lI lg) (gd_kI kn) b_patA b_patB b_patC b_patDigits b_glyphs b_glyphOf b_bEnd b_bNext b_bHyphen b_least b_before b_way b_lFrom b_lTo b_lNumber b_lParagraph b_lPage b_lHyphen b_lLast b_best f (nI a) (nI b) := by
    intro f
    induction f with
    | zero => intro a b x y h; omega
    | succ f ih =>
      intro a b x y h1 ha hb hp
      have bda := hσ a x ha
      have bb := hσ b y hb
      have q1 : nI a / 16 = nI (a / 16) := pk_div (d := 16) (by omega) (by omega) (by omega)
      have q2 : nI b / 16 = nI (b / 16) := pk_div (d := 16) (by omega) (by omega) (by omega)
      rw [dp_later, dp_bfs ha, dp_bfs hb] at hp
      have e48 : a / 16 = b / 16 → post 0 → wY_later_48 post (nI a) (nI b) (nI n) (nI lc) (nI pc) (nI fw) (nI rw) (nI fl) (nI sw) (nI ss) (nI sk) (nI ba) (nI hyc) (nI ph) y_ready y_glyphCount y_breaks y_natural y_spaces y_lineCount y_paragraphs (gd_tI t) (gd_tI w) (gd_lI lg) (gd_kI kn) b_patA b_patB b_patC b_patDigits b_glyphs b_glyphOf b_bEnd b_bNext b_bHyphen b_least b_before b_way b_lFrom b_lTo b_lNumber b_lParagraph b_lPage b_lHyphen b_lLast b_best := fun e hp => ⟨by decide, by decide, br_t (by rw [q1, q2]; exact nI_le (by omega) (by omega)) hp⟩
      refine ⟨by decide, by decide, pk_eq (a / 16) (b / 16) (fun e2 => ?_) (fun e2 => ?_) q1 q2 (by omega) (by omega)⟩
      · rw [if_pos e2] at hp
        refine pk_eq a b (fun e => ?_) (fun e => ?_)
        · rw [if_pos e] at hp
          exact e48 e2 hp
        · rw [if_neg e] at hp
          refine pk_lt a 16 (fun z => ?_) (fun z => ?_)
          · rw [if_pos z] at hp; exact e48 e2 hp
          · rw [if_neg (by omega)] at hp
            obtain ⟨c1, z1, c2⟩ := (W a x ha).2.2.2 (by omega)
            obtain ⟨d1, z2, d2⟩ := (W b y hb).2.2.2 (by omega)
            exact ⟨vp_in_nI (by omega) (by omega), nm_r (e' := nI x.2) (by rw [nI_clamp (by omega)]; exact ((hA a bda).2 x ha).2 (by omega)) ⟨vp_in_nI (by omega) (by omega), nm_r (e' := nI y.2) (by rw [nI_clamp (by omega)]; exact ((hA b bb).2 y hb).2 (by omega)) (ih x.2 y.2 z1 z2 (by omega) c2 d2 hp)⟩⟩
      · rw [if_neg e2] at hp
        refine ⟨by decide, by decide, pk_le (a / 16) (b / 16) (fun e3 => ?_) (fun e3 => ?_) q1 q2 (by omega) (by omega)⟩
        · rw [decide_eq_false (by omega)] at hp; exact hp
        · rw [decide_eq_true e3] at hp; exact hp
  have := dp_wf_v W ha
  exact ⟨100, key 100 a b x y (by omega) ha hb hp⟩
theorem dy_offer {post : SY → Prop} {M s tt fr : Nat} {z : Nat × Nat} (hM : M ≤ 800) (hσ : ∀ s x, σ s = some x → s < M) (hA : dp_arr M σ b_least b_before) (W : dp_wf σ) (hs : s < M) (hs16 : 16 ≤ s) (hf : σ fr = some z) (htt : tt < 2 ^ 62)
    (hp : ∀ b_least b_before, dp_arr M (dp_offer σ s tt fr) b_least b_before → post ((nI n), (nI lc), (nI pc), (nI fw), (nI rw), (nI fl), (nI sw), (nI ss), (nI sk), (nI ba), (nI hyc), (nI ph), y_ready, y_glyphCount, y_breaks, y_natural, y_spaces, y_lineCount, y_paragraphs, (gd_tI t), (gd_tI w), (gd_lI lg), (gd_kI kn), b_patA, b_patB, b_patC, b_patDigits, b_glyphs, b_glyphOf, b_bEnd, b_bNext, b_bHyphen, b_least, b_before, b_way, b_lFrom, b_lTo, b_lNumber, b_lParagraph, b_lPage, b_lHyphen, b_lLast, b_best)) : wpY_offer post ((nI n), (nI lc), (nI pc), (nI fw), (nI rw), (nI fl), (nI sw), (nI ss), (nI sk), (nI ba), (nI hyc), (nI ph), y_ready, y_glyphCount, y_breaks, y_natural, y_spaces, y_lineCount, y_paragraphs, (gd_tI t), (gd_tI w), (gd_lI lg), (gd_kI kn), b_patA, b_patB, b_patC, b_patDigits, b_glyphs, b_glyphOf, b_bEnd, b_bNext, b_bHyphen, b_least, b_before, b_way, b_lFrom, b_lTo, b_lNumber, b_lParagraph, b_lPage, b_lHyphen, b_lLast, b_best) (nI s) (lN tt) (nI fr) := by
  have hfb := dp_wf_v W hf
  have store : dp_offer σ s tt fr = dp_up σ s (tt, fr) → wY_offer_49 post (nI s) (lN tt) (nI fr) (nI n) (nI lc) (nI pc) (nI fw) (nI rw) (nI fl) (nI sw) (nI ss) (nI sk) (nI ba) (nI hyc) (nI ph) y_ready y_glyphCount y_breaks y_natural y_spaces y_lineCount y_paragraphs (gd_tI t) (gd_tI w) (gd_lI lg) (gd_kI kn) b_patA b_patB b_patC b_patDigits b_glyphs b_glyphOf b_bEnd b_bNext b_bHyphen b_least b_before b_way b_lFrom b_lTo b_lNumber b_lParagraph b_lPage b_lHyphen b_lLast b_best := by
    intro e
    rw [e] at hp
    exact ⟨vp_in_nI (by omega) (by omega), nm_r (e' := vp_updL b_least s (lN tt)) (by rw [nI_clamp (by omega)]) ⟨vp_in_nI (by omega) (by omega), nm_r (e' := upd b_before s (nI fr)) (by rw [nI_clamp (by omega)]) (hp _ _ (dp_arr_up hA))⟩⟩
  have keep : dp_offer σ s tt fr = σ → post ((nI n), (nI lc), (nI pc), (nI fw), (nI rw), (nI fl), (nI sw), (nI ss), (nI sk), (nI ba), (nI hyc), (nI ph), y_ready, y_glyphCount, y_breaks, y_natural, y_spaces, y_lineCount, y_paragraphs, (gd_tI t), (gd_tI w), (gd_lI lg), (gd_kI kn), b_patA, b_patB, b_patC, b_patDigits, b_glyphs, b_glyphOf, b_bEnd, b_bNext, b_bHyphen, b_least, b_before, b_way, b_lFrom, b_lTo, b_lNumber, b_lParagraph, b_lPage, b_lHyphen, b_lLast, b_best) := by
    intro e
    rw [e] at hp
    exact hp _ _ hA
  refine ⟨vp_in_nI (by omega) (by omega), ?_⟩
  cases h : σ s with
  | none =>
    have hv : b_least (nI s).toNatClampNeg = -1 := by rw [nI_clamp (by omega)]; exact (hA s hs).1 h
    refine br_t (by rw [hv]; decide) (store ?_)
    rw [dp_offer, h]
  | some x =>
    have hv : b_least (nI s).toNatClampNeg = lN x.1 := by rw [nI_clamp (by omega)]; exact ((hA s hs).2 x h).1
    have hb := dp_wf_v W h
    refine br_f (by rw [hv]; intro q; have := (pk_lLT (b := 0) (by omega) (by omega)).mp q; omega) ⟨vp_in_nI (by omega) (by omega), br_c (fun c1 => ?_) (fun c1 => ⟨vp_in_nI (by omega) (by omega), br_c (fun c2 => ?_) (fun c2 => ?_)⟩)⟩
    · rw [hv] at c1
      have c1' := (pk_lLT (by omega) (by omega)).mp c1
      refine keep ?_
      rw [dp_offer, h]
      show (if x.1 < tt then σ else _) = σ
      rw [if_pos (by omega)]
    · rw [hv] at c2
      have c2' := (pk_lEQ (by omega) (by omega)).mp c2
      obtain ⟨d1, z2, d2⟩ := (W s x h).2.2.2 hs16
      refine ⟨vp_in_nI (by omega) (by omega), ?_⟩
      have hbv : b_before (nI s).toNatClampNeg = nI x.2 := by rw [nI_clamp (by omega)]; exact ((hA s hs).2 x h).2 hs16
      rw [hbv]
      refine dy_later hM hσ hA W hf d2 ?_
      refine gd_bt (fun c3 => keep ?_) (fun c3 => store ?_)
      · rw [dp_offer, h]
        show (if x.1 < tt then σ else if tt = x.1 then (if dp_later σ 100 fr x.2 = true then dp_up σ s (tt, fr) else σ) else dp_up σ s (tt, fr)) = σ
        rw [if_neg (by omega), if_pos c2', if_neg (by rw [c3]; decide)]
      · rw [dp_offer, h]
        show (if x.1 < tt then σ else if tt = x.1 then (if dp_later σ 100 fr x.2 = true then dp_up σ s (tt, fr) else σ) else dp_up σ s (tt, fr)) = dp_up σ s (tt, fr)
        rw [if_neg (by omega), if_pos c2', if_pos c3]
    · rw [hv] at c1 c2
      have c1' : ¬ x.1 < tt := fun q => c1 ((pk_lLT (by omega) (by omega)).mpr q)
      have c2' : ¬ tt = x.1 := fun q => c2 (by rw [q])
      refine store ?_
      rw [dp_offer, h]
      show (if x.1 < tt then σ else if tt = x.1 then (if dp_later σ 100 fr x.2 = true then dp_up σ s (tt, fr) else σ) else dp_up σ s (tt, fr)) = dp_up σ s (tt, fr)
      rw [if_neg c1', if_neg c2']
end
end
section
/-! the lines between two breaks: width, difference, badness, kind and demerits -/
def ln_w (t lg w : Nat → Nat) (kn : Nat → Int) (sw : Nat) (E N : Nat → Nat) (H : Nat → Bool) (p k : Nat) : Int := rn_x t lg w kn sw (N p) (E k) (E k) + cond (H k) 5 0
def ln_d (t lg w : Nat → Nat) (kn : Nat → Int) (sw fw rw fl : Nat) (E N : Nat → Nat) (H : Nat → Bool) (p k q : Nat) : Int := (bd_due fw rw fl q : Int) - ln_w t lg w kn sw E N H p k
def ln_b (t lg w : Nat → Nat) (kn : Nat → Int) (sw ss sk fw rw fl m : Nat) (E N : Nat → Nat) (H : Nat → Bool) (p k q : Nat) : Int := bd_v ss sk (ln_d t lg w kn sw fw rw fl E N H p k q) (rn_sc t (N p) (E k)) (decide (k = m))
def ln_o (hyc : Nat) (H : Nat → Bool) (b p k : Nat) : Nat := (10 + b) * (10 + b) + (if H k = true then hyc * hyc else 0) + (if H k = true ∧ H p = true then 3000 else 0)
def ln_v (t lg w : Nat → Nat) (kn : Nat → Int) (sw ss sk fw rw fl ba hyc m : Nat) (E N : Nat → Nat) (H : Nat → Bool) (p k q : Nat) : Option (Nat × Nat) :=
  if 0 ≤ ln_b t lg w kn sw ss sk fw rw fl m E N H p k q ∧ ln_b t lg w kn sw ss sk fw rw fl m E N H p k q ≤ ba then
    some (bd_c (ln_b t lg w kn sw ss sk fw rw fl m E N H p k q) (ln_d t lg w kn sw fw rw fl E N H p k q), ln_o hyc H (ln_b t lg w kn sw ss sk fw rw fl m E N H p k q).toNat p k) else none
/-- the settings are small -/
def cf_ok (t w lg : Nat → Nat) (kn : Nat → Int) (n fw rw fl sw ss sk ba hyc ph : Nat) : Prop :=
  n ≤ 48 ∧ (∀ i, t i ≤ 11) ∧ (∀ i, w i ≤ 30) ∧ (∀ i, -5 ≤ kn i ∧ kn i ≤ 5) ∧ fw ≤ 300 ∧ rw ≤ 300 ∧ fl ≤ 3 ∧ sw ≤ 20 ∧ ss ≤ 20 ∧ sk ≤ 20 ∧ ba ≤ 10000 ∧ hyc ≤ 200 ∧ 1 ≤ ph ∧ ph ≤ 12
section
variable {t w lg : Nat → Nat} {kn : Nat → Int} {n fw rw fl sw ss sk ba hyc ph m : Nat} {E N : Nat → Nat} {H : Nat → Bool}
theorem ln_w_b (C : cf_ok t w lg kn n fw rw fl sw ss sk ba hyc ph) {p k : Nat} (hE : E k ≤ 48) : -1000 ≤ (ln_w t lg w kn sw E N H) p k ∧ (ln_w t lg w kn sw E N H) p k ≤ 3000 := by
  obtain ⟨c1, c2, c3, c4, c5, c6, c7, c8, c9, c10, c11, c12, c13, c14⟩ := C
  have h1 := rn_x_b (t := t) (lg := lg) (s := N p) (e := E k) c8 c4 c3 (E k)
  have h2 : (0 : Int) ≤ cond (H k) 5 0 ∧ (cond (H k) 5 0 : Int) ≤ 5 := by cases H k <;> decide
  rw [ln_w]
  omega
theorem bd_due_b (C : cf_ok t w lg kn n fw rw fl sw ss sk ba hyc ph) (q : Nat) : bd_due fw rw fl q ≤ 300 := by
  obtain ⟨c1, c2, c3, c4, c5, c6, c7, c8, c9, c10, c11, c12, c13, c14⟩ := C
  rw [bd_due]
  split <;> assumption
theorem ln_d_b (C : cf_ok t w lg kn n fw rw fl sw ss sk ba hyc ph) {p k q : Nat} (hE : E k ≤ 48) : -10000 ≤ (ln_d t lg w kn sw fw rw fl E N H) p k q ∧ (ln_d t lg w kn sw fw rw fl E N H) p k q ≤ 10000 := by
  have h1 := ln_w_b (N := N) (H := H) C (p := p) hE
  have h2 := bd_due_b C q
  rw [ln_d]
  omega
theorem ln_o_b {b p k : Nat} (hb : b ≤ 10000) (hh : hyc ≤ 200) : ln_o hyc H b p k ≤ 100990000 ∧ (10 + b) * (10 + b) ≤ 100200100 ∧ hyc * hyc ≤ 40000 := by
  have h1 : (10 + b) * (10 + b) ≤ 10010 * 10010 := Nat.mul_le_mul (by omega) (by omega)
  have h2 : hyc * hyc ≤ 200 * 200 := Nat.mul_le_mul hh hh
  refine ⟨?_, by omega, by omega⟩
  rw [ln_o]
  have a1 : (if H k = true then hyc * hyc else 0) ≤ 40000 := by split <;> omega
  have a2 : (if H k = true ∧ H p = true then 3000 else 0) ≤ 3000 := by split <;> omega
  omega
theorem ln_ok (C : cf_ok t w lg kn n fw rw fl sw ss sk ba hyc ph) : dp_ln (ln_v t lg w kn sw ss sk fw rw fl ba hyc m E N H) := by
  intro p k q y h
  rw [ln_v] at h
  by_cases c : 0 ≤ (ln_b t lg w kn sw ss sk fw rw fl m E N H) p k q ∧ (ln_b t lg w kn sw ss sk fw rw fl m E N H) p k q ≤ ba
  · rw [if_pos c] at h
    cases h
    have hb := (bd_v_b ss sk ((ln_d t lg w kn sw fw rw fl E N H) p k q) (rn_sc t (N p) (E k)) (decide (k = m))).2
    have e : (ln_b t lg w kn sw ss sk fw rw fl m E N H) p k q ≤ 10000 := hb
    exact ⟨bd_c_b _ _, (ln_o_b (by omega) C.2.2.2.2.2.2.2.2.2.2.2.1).1⟩
  · rw [if_neg c] at h
    exact absurd h (by simp)
end
section
variable {n lc pc fw rw fl sw ss sk ba hyc ph : Nat} {t w lg : Nat → Nat} {kn : Nat → Int}
variable {σ : dp_S} {m : Nat} {E N : Nat → Nat} {H : Nat → Bool}
variable {x_breakCount x_lineCount x_paragraphCount x_stale : Int32} {a_patterns a_heads a_glyphs a_breakEnd a_breakNext a_breakHyphen a_breakTaken a_wayBefore a_lineFacts : Nat → Int32} {a_wayDemerits a_paragraphDemerits : Nat → Int64}
theorem dx_own {post : Int32 → Prop} {b p k : Nat} (hm : m ≤ 48) (hb : b ≤ 10000) (hh : hyc ≤ 200) (hp : p ≤ m) (hk : k ≤ m) (hH : ∀ k, k ≤ m → a_breakHyphen k = gd_bI (H k)) (hpo : post (nI (ln_o hyc H b p k))) : wpX_lineDemerits post ((nI n), (nI lc), (nI pc), (nI fw), (nI rw), (nI fl), (nI sw), (nI ss), (nI sk), (nI ba), (nI hyc), (nI ph), x_breakCount, x_lineCount, x_paragraphCount, x_stale, (gd_tI t), (gd_tI w), (gd_lI lg), (gd_kI kn), a_patterns, a_heads, a_glyphs, a_breakEnd, a_breakNext, a_breakHyphen, a_breakTaken, a_wayDemerits, a_wayBefore, a_lineFacts, a_paragraphDemerits) (nI b) (nI p) (nI k) := by
  have B := ln_o_b (H := H) (p := p) (k := k) hb hh
  have r : ∀ q, q ≤ m → a_breakHyphen (nI q).toNatClampNeg = gd_bI (H q) := fun q hq => by rw [nI_clamp (by omega)]; exact hH q hq
  rw [ln_o] at hpo
  refine nm_r (e' := nI ((10 + b) * (10 + b))) (by rw [show (10 : Int32) = nI 10 from rfl, nI_add, pk_mul]) ⟨vp_in_nI (by omega) (by omega), ?_⟩
  refine gd_bx (H k) (r k hk) (fun z => ?_) (fun z => ?_)
  · rw [if_neg (by rw [z]; decide), if_neg (by rw [z]; simp)] at hpo
    refine ⟨vp_in_nI (by omega) (by omega), gd_bx (H p) (r p hp) (fun y => hpo) (fun y => ⟨vp_in_nI (by omega) (by omega), gd_bx (H k) (r k hk) (fun y2 => hpo) (fun y2 => ?_)⟩)⟩
    rw [z] at y2
    exact absurd y2 (by decide)
  · rw [if_pos z] at hpo
    refine nm_r (e' := nI ((10 + b) * (10 + b) + hyc * hyc)) (by rw [pk_mul, nI_add]) ⟨vp_in_nI (by omega) (by omega), gd_bx (H p) (r p hp) (fun y => ?_) (fun y => ⟨vp_in_nI (by omega) (by omega), gd_bx (H k) (r k hk) (fun y2 => ?_) (fun y2 => ?_)⟩)⟩
    · rw [if_neg (by rw [y]; simp)] at hpo; exact hpo
    · rw [z] at y2; exact absurd y2 (by decide)
    · rw [if_pos ⟨z, y⟩] at hpo
      exact nm_r (e' := nI ((10 + b) * (10 + b) + hyc * hyc + 3000)) (by rw [show (3000 : Int32) = nI 3000 from rfl, nI_add]) hpo
theorem dx_try {post : SX → Prop} {a b : Nat} (C : cf_ok t w lg kn n fw rw fl sw ss sk ba hyc ph) (hm : m ≤ 48) (hab : a < b) (hbm : b ≤ m) (hE : E b ≤ 48) (hH : ∀ k, k ≤ m → a_breakHyphen k = gd_bI (H k)) (hA : dp_arr 784 σ a_wayDemerits a_wayBefore) (W : dp_wf σ)
    (hp : ∀ a_wayDemerits a_wayBefore, dp_arr 784 (dp_e (ln_v t lg w kn sw ss sk fw rw fl ba hyc m E N H) a b σ 16) a_wayDemerits a_wayBefore → post ((nI n), (nI lc), (nI pc), (nI fw), (nI rw), (nI fl), (nI sw), (nI ss), (nI sk), (nI ba), (nI hyc), (nI ph), (nI (m + 1)), x_lineCount, x_paragraphCount, x_stale, (gd_tI t), (gd_tI w), (gd_lI lg), (gd_kI kn), a_patterns, a_heads, a_glyphs, a_breakEnd, a_breakNext, a_breakHyphen, a_breakTaken, a_wayDemerits, a_wayBefore, a_lineFacts, a_paragraphDemerits)) :
    wpX_tryLine post ((nI n), (nI lc), (nI pc), (nI fw), (nI rw), (nI fl), (nI sw), (nI ss), (nI sk), (nI ba), (nI hyc), (nI ph), (nI (m + 1)), x_lineCount, x_paragraphCount, x_stale, (gd_tI t), (gd_tI w), (gd_lI lg), (gd_kI kn), a_patterns, a_heads, a_glyphs, a_breakEnd, a_breakNext, a_breakHyphen, a_breakTaken, a_wayDemerits, a_wayBefore, a_lineFacts, a_paragraphDemerits) (nI a) (nI b) (gd_iI ((ln_w t lg w kn sw E N H) a b)) (nI (rn_sc t (N a) (E b))) := by
  have hL : dp_ln (ln_v t lg w kn sw ss sk fw rw fl ba hyc m E N H) := ln_ok C
  obtain ⟨c1, c2, c3, c4, c5, c6, c7, c8, c9, c10, c11, c12, c13, c14⟩ := id C
  have hsc := rn_sc_le (t := t) (s := N a) (E b)
  have We : ∀ j, j ≤ 16 → dp_wf (dp_e (ln_v t lg w kn sw ss sk fw rw fl ba hyc m E N H) a b σ j) := dp_e_wf W hL (by omega) hab
  have loop : ∀ f q, q + f = 4 → ∀ a_wayDemerits a_wayBefore, dp_arr 784 (dp_e (ln_v t lg w kn sw ss sk fw rw fl ba hyc m E N H) a b σ (4 * q)) a_wayDemerits a_wayBefore → wX_tryLine_3 post (nI a) (nI b) (gd_iI ((ln_w t lg w kn sw E N H) a b)) (nI (rn_sc t (N a) (E b))) (f + 1) (nI q) (nI n) (nI lc) (nI pc) (nI fw) (nI rw) (nI fl) (nI sw) (nI ss) (nI sk) (nI ba) (nI hyc) (nI ph) (nI (m + 1)) x_lineCount x_paragraphCount x_stale (gd_tI t) (gd_tI w) (gd_lI lg) (gd_kI kn) a_patterns a_heads a_glyphs a_breakEnd a_breakNext a_breakHyphen a_breakTaken a_wayDemerits a_wayBefore a_lineFacts a_paragraphDemerits := by
    intro f
    induction f with
    | zero =>
      intro q hq a_wayDemerits a_wayBefore hA
      have : q = 4 := by omega
      subst this
      exact br_t (by decide) (hp _ _ hA)
    | succ f ih =>
      intro q hq a_wayDemerits a_wayBefore hA
      have hd := ln_d_b (N := N) (H := H) C (p := a) (q := q) hE
      have hbv : -1 ≤ (ln_b t lg w kn sw ss sk fw rw fl m E N H) a b q ∧ (ln_b t lg w kn sw ss sk fw rw fl m E N H) a b q ≤ 10000 := bd_v_b _ _ _ _ _
      refine br_f (nI_ge (b := 4) (by omega) (by decide)) (bx_due (by omega) c7 ?_)
      refine nm_r (e' := gd_iI ((ln_d t lg w kn sw fw rw fl E N H) a b q)) (by rw [gd_nat, gd_sub]; rfl) ?_
      have skip : (ln_v t lg w kn sw ss sk fw rw fl ba hyc m E N H) a b q = none → wX_tryLine_3 post (nI a) (nI b) (gd_iI ((ln_w t lg w kn sw E N H) a b)) (nI (rn_sc t (N a) (E b))) (f + 1) (nI (q + 1)) (nI n) (nI lc) (nI pc) (nI fw) (nI rw) (nI fl) (nI sw) (nI ss) (nI sk) (nI ba) (nI hyc) (nI ph) (nI (m + 1)) x_lineCount x_paragraphCount x_stale (gd_tI t) (gd_tI w) (gd_lI lg) (gd_kI kn) a_patterns a_heads a_glyphs a_breakEnd a_breakNext a_breakHyphen a_breakTaken a_wayDemerits a_wayBefore a_lineFacts a_paragraphDemerits := by
        intro e
        have st : ∀ j, j < 4 → dp_e (ln_v t lg w kn sw ss sk fw rw fl ba hyc m E N H) a b σ (4 * q + j + 1) = dp_e (ln_v t lg w kn sw ss sk fw rw fl ba hyc m E N H) a b σ (4 * q + j) := by
          intro j hj
          show dp_s _ a b (dp_e (ln_v t lg w kn sw ss sk fw rw fl ba hyc m E N H) a b σ (4 * q + j)) (4 * q + j) = _
          rw [dp_s, show (4 * q + j) / 4 = q by omega, e]
          split <;> rfl
        have e4 : dp_e (ln_v t lg w kn sw ss sk fw rw fl ba hyc m E N H) a b σ (4 * (q + 1)) = dp_e (ln_v t lg w kn sw ss sk fw rw fl ba hyc m E N H) a b σ (4 * q) := by
          rw [show 4 * (q + 1) = 4 * q + 3 + 1 by omega, st 3 (by omega), show 4 * q + 3 = 4 * q + 2 + 1 by omega, st 2 (by omega), show 4 * q + 2 = 4 * q + 1 + 1 by omega, st 1 (by omega), show 4 * q + 1 = 4 * q + 0 + 1 by omega, st 0 (by omega)]; rfl
        exact ih (q + 1) (by omega) _ _ (by rw [e4]; exact hA)
      have key : ∀ z0, z0 = gd_bI (decide (b = m)) → wX_tryLine_39 post (wX_tryLine_3 post (nI a) (nI b) (gd_iI ((ln_w t lg w kn sw E N H) a b)) (nI (rn_sc t (N a) (E b))) (f + 1)) (nI a) (nI b) (gd_iI ((ln_w t lg w kn sw E N H) a b)) (nI (rn_sc t (N a) (E b))) (nI q) (gd_iI ((ln_d t lg w kn sw fw rw fl E N H) a b q)) z0 (nI (rn_sc t (N a) (E b))) (gd_iI ((ln_d t lg w kn sw fw rw fl E N H) a b q)) (nI n) (nI lc) (nI pc) (nI fw) (nI rw) (nI fl) (nI sw) (nI ss) (nI sk) (nI ba) (nI hyc) (nI ph) (nI (m + 1)) x_lineCount x_paragraphCount x_stale (gd_tI t) (gd_tI w) (gd_lI lg) (gd_kI kn) a_patterns a_heads a_glyphs a_breakEnd a_breakNext a_breakHyphen a_breakTaken a_wayDemerits a_wayBefore a_lineFacts a_paragraphDemerits := by
        intro z0 hz
        subst hz
        unfold wX_tryLine_39
        refine bx_bad hd c9 c10 (by omega) ?_
        rw [show bd_v ss sk ((ln_d t lg w kn sw fw rw fl E N H) a b q) (rn_sc t (N a) (E b)) (decide (b = m)) = (ln_b t lg w kn sw ss sk fw rw fl m E N H) a b q from rfl]
        refine gd_zeq ((ln_b t lg w kn sw ss sk fw rw fl m E N H) a b q) (-1) (fun y => ?_) (fun y => ?_) rfl rfl (by omega) (by omega)
        · exact nm_r (nI_1 q) (skip (by rw [ln_v, if_neg (by omega)]))
        · refine gd_zle ((ln_b t lg w kn sw ss sk fw rw fl m E N H) a b q) ba (fun y2 => ?_) (fun y2 => ?_) rfl (gd_nat ba) (by omega) (by omega)
          · refine bx_cls hbv hd ?_
            have eb : gd_iI ((ln_b t lg w kn sw ss sk fw rw fl m E N H) a b q) = nI ((ln_b t lg w kn sw ss sk fw rw fl m E N H) a b q).toNat := by rw [gd_nat]; congr 1; omega
            rw [eb]
            have hcl := bd_c_b ((ln_b t lg w kn sw ss sk fw rw fl m E N H) a b q) ((ln_d t lg w kn sw fw rw fl E N H) a b q)
            refine dx_own hm (by omega) c12 (by omega) hbm hH ?_
            have hln : (ln_v t lg w kn sw ss sk fw rw fl ba hyc m E N H) a b q = some (bd_c ((ln_b t lg w kn sw ss sk fw rw fl m E N H) a b q) ((ln_d t lg w kn sw fw rw fl E N H) a b q), ln_o hyc H ((ln_b t lg w kn sw ss sk fw rw fl m E N H) a b q).toNat a b) := by rw [ln_v, if_pos (by omega)]
            have hob := ln_o_b (H := H) (p := a) (k := b) (show ((ln_b t lg w kn sw ss sk fw rw fl m E N H) a b q).toNat ≤ 10000 by omega) c12
            generalize ho : ln_o hyc H ((ln_b t lg w kn sw ss sk fw rw fl m E N H) a b q).toNat a b = own at *
            generalize hc : bd_c ((ln_b t lg w kn sw ss sk fw rw fl m E N H) a b q) ((ln_d t lg w kn sw fw rw fl E N H) a b q) = cl at *
            have in111 : ∀ g cb, cb + g = 4 → ∀ a_wayDemerits a_wayBefore, dp_arr 784 (dp_e (ln_v t lg w kn sw ss sk fw rw fl ba hyc m E N H) a b σ (4 * q + cb)) a_wayDemerits a_wayBefore → wX_tryLine_111 post (wX_tryLine_3 post (nI a) (nI b) (gd_iI ((ln_w t lg w kn sw E N H) a b)) (nI (rn_sc t (N a) (E b))) (f + 1)) (nI a) (nI b) (gd_iI ((ln_w t lg w kn sw E N H) a b)) (nI (rn_sc t (N a) (E b))) (nI q) (nI cl) (nI own) (nI (16 * b + 4 * dp_nx q + cl)) (g + 1) (nI cb) (nI n) (nI lc) (nI pc) (nI fw) (nI rw) (nI fl) (nI sw) (nI ss) (nI sk) (nI ba) (nI hyc) (nI ph) (nI (m + 1)) x_lineCount x_paragraphCount x_stale (gd_tI t) (gd_tI w) (gd_lI lg) (gd_kI kn) a_patterns a_heads a_glyphs a_breakEnd a_breakNext a_breakHyphen a_breakTaken a_wayDemerits a_wayBefore a_lineFacts a_paragraphDemerits := by
              intro g
              induction g with
              | zero =>
                intro cb hcb a_wayDemerits a_wayBefore hA
                have : cb = 4 := by omega
                subst this
                exact br_t (by decide) (nm_r (nI_1 q) (ih (q + 1) (by omega) _ _ hA))
              | succ g ihg =>
                intro cb hcb a_wayDemerits a_wayBefore hA
                have Wc := We (4 * q + cb) (by omega)
                have hst : nI a * 16 + nI q * 4 + nI cb = nI (16 * a + (4 * q + cb)) := by
                  rw [show (16 : Int32) = nI 16 from rfl, show (4 : Int32) = nI 4 from rfl, pk_mul, pk_mul, nI_add, nI_add]; congr 1; omega
                have hnx := dp_nx_b q
                refine br_f (nI_ge (b := 4) (by omega) (by decide)) ?_
                show vp_in (nI a * 16 + nI q * 4 + nI cb) 784 ∧ _
                rw [hst]
                refine ⟨vp_in_nI (by omega) (by omega), ?_⟩
                have hrd : a_wayDemerits (nI (16 * a + (4 * q + cb))).toNatClampNeg = a_wayDemerits (16 * a + (4 * q + cb)) := by rw [nI_clamp (by omega)]
                cases hx : dp_e (ln_v t lg w kn sw ss sk fw rw fl ba hyc m E N H) a b σ (4 * q + cb) (16 * a + (4 * q + cb)) with
                | none =>
                  refine br_t (by rw [hrd]; exact (hA _ (by omega)).1 hx) (nm_r (nI_1 cb) (ihg (cb + 1) (by omega) _ _ ?_))
                  have : dp_e (ln_v t lg w kn sw ss sk fw rw fl ba hyc m E N H) a b σ (4 * q + (cb + 1)) = dp_e (ln_v t lg w kn sw ss sk fw rw fl ba hyc m E N H) a b σ (4 * q + cb) := by
                    show dp_s _ a b (dp_e (ln_v t lg w kn sw ss sk fw rw fl ba hyc m E N H) a b σ (4 * q + cb)) (4 * q + cb) = _
                    rw [dp_s, hx]
                  rw [this]; exact hA
                | some x =>
                  have hv := ((hA _ (by omega)).2 x hx).1
                  have hvb := dp_wf_v Wc hx
                  have hstep : dp_e (ln_v t lg w kn sw ss sk fw rw fl ba hyc m E N H) a b σ (4 * q + (cb + 1)) = dp_offer (dp_e (ln_v t lg w kn sw ss sk fw rw fl ba hyc m E N H) a b σ (4 * q + cb)) (16 * b + 4 * dp_nx q + cl) (x.1 + own + dp_jp cl cb) (16 * a + (4 * q + cb)) := by
                    show dp_s _ a b (dp_e (ln_v t lg w kn sw ss sk fw rw fl ba hyc m E N H) a b σ (4 * q + cb)) (4 * q + cb) = _
                    rw [dp_s, hx, show (4 * q + cb) / 4 = q by omega, show (4 * q + cb) % 4 = cb by omega, hln]
                  have go : ∀ z0 : Int32, z0 = nI (dp_jp cl cb) → wX_tryLine_197 post (wX_tryLine_3 post (nI a) (nI b) (gd_iI ((ln_w t lg w kn sw E N H) a b)) (nI (rn_sc t (N a) (E b))) (f + 1)) (wX_tryLine_111 post (wX_tryLine_3 post (nI a) (nI b) (gd_iI ((ln_w t lg w kn sw E N H) a b)) (nI (rn_sc t (N a) (E b))) (f + 1)) (nI a) (nI b) (gd_iI ((ln_w t lg w kn sw E N H) a b)) (nI (rn_sc t (N a) (E b))) (nI q) (nI cl) (nI own) (nI (16 * b + 4 * dp_nx q + cl)) (g + 1)) (nI a) (nI b) (gd_iI ((ln_w t lg w kn sw E N H) a b)) (nI (rn_sc t (N a) (E b))) (nI q) (nI cl) (nI own) (nI (16 * b + 4 * dp_nx q + cl)) (nI cb) z0 (a_wayDemerits (nI (16 * a + (4 * q + cb))).toNatClampNeg + (nI own).toInt64) (nI (16 * a + (4 * q + cb))) (nI (16 * b + 4 * dp_nx q + cl)) (nI n) (nI lc) (nI pc) (nI fw) (nI rw) (nI fl) (nI sw) (nI ss) (nI sk) (nI ba) (nI hyc) (nI ph) (nI (m + 1)) x_lineCount x_paragraphCount x_stale (gd_tI t) (gd_tI w) (gd_lI lg) (gd_kI kn) a_patterns a_heads a_glyphs a_breakEnd a_breakNext a_breakHyphen a_breakTaken a_wayDemerits a_wayBefore a_lineFacts a_paragraphDemerits := by
                    intro z0 hz
                    subst hz
                    have hjp := dp_jp_b cl cb
                    unfold wX_tryLine_197
                    rw [hrd, hv, nI_l (by omega), nI_l (by omega), lN_add, lN_add]
                    refine dx_offer hA Wc (by omega) (by omega) hx (by omega) (fun a_wayDemerits a_wayBefore hA' => ?_)
                    refine nm_r (nI_1 cb) (ihg (cb + 1) (by omega) _ _ (by rw [hstep]; exact hA'))
                  refine br_f (by rw [hrd, hv]; exact dp_nm1 (by omega)) ?_
                  have j1 : cl + 1 < cb ∨ cb + 1 < cl → dp_jp cl cb = 2000 := fun h => by rw [dp_jp, if_pos h]
                  have j0 : ¬ (cl + 1 < cb ∨ cb + 1 < cl) → dp_jp cl cb = 0 := fun h => by rw [dp_jp, if_neg h]
                  refine gd_zlt 1 ((cb : Int) - cl) (fun y3 => ?_) (fun y3 => ?_) rfl (by rw [gd_nat, gd_nat cl, gd_sub]) (by omega) (by omega)
                  · exact ⟨vp_in_nI (by omega) (by omega), br_f (by decide) (go _ (by rw [j1 (by omega)]; rfl))⟩
                  · refine gd_zle ((cl : Int) - cb) 1 (fun y4 => ?_) (fun y4 => ?_) (by rw [gd_nat, gd_nat cb, gd_sub]) rfl (by omega) (by omega)
                    · exact ⟨vp_in_nI (by omega) (by omega), br_t rfl (go _ (by rw [j0 (by omega)]; rfl))⟩
                    · exact ⟨vp_in_nI (by omega) (by omega), br_f (by decide) (go _ (by rw [j1 (by omega)]; rfl))⟩
            have st96 : ∀ z0 : Int32, z0 = nI (dp_nx q) → wX_tryLine_96 post (wX_tryLine_3 post (nI a) (nI b) (gd_iI ((ln_w t lg w kn sw E N H) a b)) (nI (rn_sc t (N a) (E b))) (f + 1)) (nI a) (nI b) (gd_iI ((ln_w t lg w kn sw E N H) a b)) (nI (rn_sc t (N a) (E b))) (nI q) (nI cl) (nI own) z0 (nI n) (nI lc) (nI pc) (nI fw) (nI rw) (nI fl) (nI sw) (nI ss) (nI sk) (nI ba) (nI hyc) (nI ph) (nI (m + 1)) x_lineCount x_paragraphCount x_stale (gd_tI t) (gd_tI w) (gd_lI lg) (gd_kI kn) a_patterns a_heads a_glyphs a_breakEnd a_breakNext a_breakHyphen a_breakTaken a_wayDemerits a_wayBefore a_lineFacts a_paragraphDemerits := by
              intro z0 hz
              subst hz
              have hst : nI b * 16 + nI (dp_nx q) * 4 + nI cl = nI (16 * b + 4 * dp_nx q + cl) := by
                rw [show (16 : Int32) = nI 16 from rfl, show (4 : Int32) = nI 4 from rfl, pk_mul, pk_mul, nI_add, nI_add]; congr 1; omega
              show ∃ n111 : Nat, wX_tryLine_111 _ _ _ _ _ _ _ _ _ (nI b * 16 + nI (dp_nx q) * 4 + nI cl) _ _ _ _ _ _ _ _ _ _ _ _ _ _ _ _ _ _ _ _ _ _ _ _ _ _ _ _ _ _ _ _ _
              rw [hst]
              exact ⟨5, in111 4 0 (by omega) _ _ hA⟩
            refine pk_le 3 q (fun y3 => st96 _ ?_) (fun y3 => st96 _ ?_)
            · rw [dp_nx, if_pos y3]; congr 1; omega
            · rw [dp_nx, if_neg (by omega), nI_1]
          · exact nm_r (nI_1 q) (skip (by rw [ln_v, if_neg (by omega)]))
      refine pk_eq b m (fun y => key _ (by rw [decide_eq_true y]; rfl)) (fun y => key _ (by rw [decide_eq_false y]; rfl)) rfl (nI_pred m) (by omega) (by omega)
  exact ⟨5, loop 4 0 (by omega) _ _ hA⟩
end
end
section
section
variable {σ : dp_S} {ln : Nat → Nat → Nat → Option (Nat × Nat)}
theorem dp_e_M {p k M : Nat} (hL : dp_ln ln) (hσ : ∀ s x, σ s = some x → s < M) (hk : 16 * k + 16 ≤ M) (j : Nat) : ∀ s x, dp_e ln p k σ j s = some x → s < M := by
  intro s x h
  by_cases e : s / 16 = k
  · omega
  · rw [dp_e_fr hL e] at h
    exact hσ s x h
end
section
variable {n lc pc fw rw fl sw ss sk ba hyc ph : Nat} {t w lg : Nat → Nat} {kn : Nat → Int}
variable {σ : dp_S} {m : Nat} {E N : Nat → Nat} {H : Nat → Bool}
variable {y_ready y_glyphCount y_breaks y_natural y_spaces y_lineCount y_paragraphs : Int32} {b_patA b_patB b_patC b_patDigits b_glyphs b_glyphOf b_bEnd b_bNext b_bHyphen b_before b_way b_lFrom b_lTo b_lNumber b_lParagraph b_lPage b_lHyphen b_lLast : Nat → Int32} {b_least b_best : Nat → Int64}
theorem dy_ext {post : SY → Prop} {p k : Nat} (C : cf_ok t w lg kn n fw rw fl sw ss sk ba hyc ph) (hm : m ≤ 48) (hpk : p < k) (hkm : k ≤ m) (hNp : b_bNext p = nI (N p)) (hEk : b_bEnd k = nI (E k)) (hH : ∀ k, k ≤ m → b_bHyphen k = gd_bI (H k))
    (hlt : N p < E k) (hEn : E k ≤ n) (hl : t (N p) < 10) (h11 : ∀ j, N p ≤ j → j < E k → t j ≠ 11)
    (hσ : ∀ s x, σ s = some x → s < 16 * (m + 1)) (hA : dp_arr (16 * (m + 1)) σ b_least b_before) (W : dp_wf σ)
    (hp : ∀ y_glyphCount y_natural y_spaces b_glyphs b_glyphOf b_least b_before, dp_arr (16 * (m + 1)) (dp_e (ln_v t lg w kn sw ss sk fw rw fl ba hyc m E N H) p k σ 16) b_least b_before → post ((nI n), (nI lc), (nI pc), (nI fw), (nI rw), (nI fl), (nI sw), (nI ss), (nI sk), (nI ba), (nI hyc), (nI ph), y_ready, y_glyphCount, (nI m), y_natural, y_spaces, y_lineCount, y_paragraphs, (gd_tI t), (gd_tI w), (gd_lI lg), (gd_kI kn), b_patA, b_patB, b_patC, b_patDigits, b_glyphs, b_glyphOf, b_bEnd, b_bNext, b_bHyphen, b_least, b_before, b_way, b_lFrom, b_lTo, b_lNumber, b_lParagraph, b_lPage, b_lHyphen, b_lLast, b_best)) :
    wpY_extend post ((nI n), (nI lc), (nI pc), (nI fw), (nI rw), (nI fl), (nI sw), (nI ss), (nI sk), (nI ba), (nI hyc), (nI ph), y_ready, y_glyphCount, (nI m), y_natural, y_spaces, y_lineCount, y_paragraphs, (gd_tI t), (gd_tI w), (gd_lI lg), (gd_kI kn), b_patA, b_patB, b_patC, b_patDigits, b_glyphs, b_glyphOf, b_bEnd, b_bNext, b_bHyphen, b_least, b_before, b_way, b_lFrom, b_lTo, b_lNumber, b_lParagraph, b_lPage, b_lHyphen, b_lLast, b_best) (nI p) (nI k) := by
  have hL : dp_ln (ln_v t lg w kn sw ss sk fw rw fl ba hyc m E N H) := ln_ok C
  obtain ⟨c1, c2, c3, c4, c5, c6, c7, c8, c9, c10, c11, c12, c13, c14⟩ := id C
  have hsc := rn_sc_le (t := t) (s := N p) (E k)
  have We : ∀ j, j ≤ 16 → dp_wf (dp_e (ln_v t lg w kn sw ss sk fw rw fl ba hyc m E N H) p k σ j) := dp_e_wf W hL (by omega) hpk
  have Me : ∀ j, ∀ s x, dp_e (ln_v t lg w kn sw ss sk fw rw fl ba hyc m E N H) p k σ j s = some x → s < 16 * (m + 1) := dp_e_M hL hσ (by omega)
  unfold wpY_extend
  refine by_meas c1 c2 (by omega) (by omega) hNp hEk (hH k hkm) hlt hEn hl h11 (fun y_glyphCount b_glyphs b_glyphOf => ?_)
  have hr : ∀ q, q ≤ m → b_bHyphen (nI q).toNatClampNeg = gd_bI (H q) := fun q hq => by rw [nI_clamp (by omega)]; exact hH q hq
  have loop : ∀ f j, j + f = 16 → ∀ b_least b_before, dp_arr (16 * (m + 1)) (dp_e (ln_v t lg w kn sw ss sk fw rw fl ba hyc m E N H) p k σ j) b_least b_before → wY_extend_11 post (nI p) (nI k) (f + 1) (nI (16 * p + j)) (nI n) (nI lc) (nI pc) (nI fw) (nI rw) (nI fl) (nI sw) (nI ss) (nI sk) (nI ba) (nI hyc) (nI ph) y_ready y_glyphCount (nI m) (gd_iI ((ln_w t lg w kn sw E N H) p k)) (nI (rn_sc t (N p) (E k))) y_lineCount y_paragraphs (gd_tI t) (gd_tI w) (gd_lI lg) (gd_kI kn) b_patA b_patB b_patC b_patDigits b_glyphs b_glyphOf b_bEnd b_bNext b_bHyphen b_least b_before b_way b_lFrom b_lTo b_lNumber b_lParagraph b_lPage b_lHyphen b_lLast b_best := by
    intro f
    induction f with
    | zero =>
      intro j hj b_least b_before hA
      have : j = 16 := by omega
      subst this
      refine br_t ?_ (hp _ _ _ _ _ _ _ hA)
      rw [show (16 : Int32) = nI 16 from rfl, pk_mul, nI_add]
      exact nI_le (by omega) (by omega)
    | succ f ih =>
      intro j hj b_least b_before hA
      have Wj := We j (by omega)
      have Mj := Me j
      have hd := ln_d_b (E := E) (N := N) (H := H) C (p := p) (k := k) (q := j / 4) (by omega)
      have hbv : -1 ≤ (ln_b t lg w kn sw ss sk fw rw fl m E N H) p k (j / 4) ∧ (ln_b t lg w kn sw ss sk fw rw fl m E N H) p k (j / 4) ≤ 10000 := bd_v_b _ _ _ _ _
      refine br_f ?_ ⟨vp_in_nI (by omega) (by omega), ?_⟩
      · rw [show (16 : Int32) = nI 16 from rfl, pk_mul, nI_add]
        exact nI_ge (by omega) (by omega)
      have hrd : b_least (nI (16 * p + j)).toNatClampNeg = b_least (16 * p + j) := by rw [nI_clamp (by omega)]
      cases hx : dp_e (ln_v t lg w kn sw ss sk fw rw fl ba hyc m E N H) p k σ j (16 * p + j) with
      | none =>
        have hv := (hA _ (by omega)).1 hx
        refine br_f (by rw [hrd, hv]; decide) (nm_r (nI_1 _) (ih (j + 1) (by omega) _ _ ?_))
        have : dp_e (ln_v t lg w kn sw ss sk fw rw fl ba hyc m E N H) p k σ (j + 1) = dp_e (ln_v t lg w kn sw ss sk fw rw fl ba hyc m E N H) p k σ j := by
          show dp_s _ p k (dp_e (ln_v t lg w kn sw ss sk fw rw fl ba hyc m E N H) p k σ j) j = _
          rw [dp_s, hx]
        rw [this]; exact hA
      | some x =>
        have hv := ((hA _ (by omega)).2 x hx).1
        have hvb := dp_wf_v Wj hx
        refine br_t (by rw [hrd, hv]; exact (pk_lLE (a := 0) (by omega) (by omega)).mpr (by omega)) ⟨by decide, by decide, nm_r (e' := nI (j / 4)) ?_ ?_⟩
        · rw [show (16 : Int32) = nI 16 from rfl, show (4 : Int32) = nI 4 from rfl, pk_rem (by omega) (by omega) (by omega), pk_div (by omega) (by omega) (by omega)]
          congr 1; omega
        refine by_due (by omega) c7 (nm_r (e' := gd_iI ((ln_d t lg w kn sw fw rw fl E N H) p k (j / 4))) (by rw [gd_nat, gd_sub]; rfl) ?_)
        have skip : (ln_v t lg w kn sw ss sk fw rw fl ba hyc m E N H) p k (j / 4) = none → wY_extend_11 post (nI p) (nI k) (f + 1) (nI (16 * p + j) + 1) (nI n) (nI lc) (nI pc) (nI fw) (nI rw) (nI fl) (nI sw) (nI ss) (nI sk) (nI ba) (nI hyc) (nI ph) y_ready y_glyphCount (nI m) (gd_iI ((ln_w t lg w kn sw E N H) p k)) (nI (rn_sc t (N p) (E k))) y_lineCount y_paragraphs (gd_tI t) (gd_tI w) (gd_lI lg) (gd_kI kn) b_patA b_patB b_patC b_patDigits b_glyphs b_glyphOf b_bEnd b_bNext b_bHyphen b_least b_before b_way b_lFrom b_lTo b_lNumber b_lParagraph b_lPage b_lHyphen b_lLast b_best := by
          intro e
          rw [nI_1]
          refine ih (j + 1) (by omega) _ _ ?_
          have : dp_e (ln_v t lg w kn sw ss sk fw rw fl ba hyc m E N H) p k σ (j + 1) = dp_e (ln_v t lg w kn sw ss sk fw rw fl ba hyc m E N H) p k σ j := by
            show dp_s _ p k (dp_e (ln_v t lg w kn sw ss sk fw rw fl ba hyc m E N H) p k σ j) j = _
            rw [dp_s, hx, e]
          rw [this]; exact hA
        have key : ∀ z0, z0 = gd_bI (decide (k = m)) → wY_extend_73 post (wY_extend_11 post (nI p) (nI k) (f + 1)) (nI p) (nI k) (nI (16 * p + j)) (nI (j / 4)) (gd_iI ((ln_d t lg w kn sw fw rw fl E N H) p k (j / 4))) z0 (gd_iI ((ln_d t lg w kn sw fw rw fl E N H) p k (j / 4))) (nI n) (nI lc) (nI pc) (nI fw) (nI rw) (nI fl) (nI sw) (nI ss) (nI sk) (nI ba) (nI hyc) (nI ph) y_ready y_glyphCount (nI m) (gd_iI ((ln_w t lg w kn sw E N H) p k)) (nI (rn_sc t (N p) (E k))) y_lineCount y_paragraphs (gd_tI t) (gd_tI w) (gd_lI lg) (gd_kI kn) b_patA b_patB b_patC b_patDigits b_glyphs b_glyphOf b_bEnd b_bNext b_bHyphen b_least b_before b_way b_lFrom b_lTo b_lNumber b_lParagraph b_lPage b_lHyphen b_lLast b_best := by
          intro z0 hz
          subst hz
          unfold wY_extend_73
          refine by_bad hd c9 c10 (by omega) ?_
          rw [show bd_v ss sk ((ln_d t lg w kn sw fw rw fl E N H) p k (j / 4)) (rn_sc t (N p) (E k)) (decide (k = m)) = (ln_b t lg w kn sw ss sk fw rw fl m E N H) p k (j / 4) from rfl]
          refine gd_zlt ((ln_b t lg w kn sw ss sk fw rw fl m E N H) p k (j / 4)) 0 (fun y => ?_) (fun y => ?_) rfl rfl (by omega) (by omega)
          · exact nm_e (skip (by rw [ln_v, if_neg (by omega)]))
          · refine gd_zle ((ln_b t lg w kn sw ss sk fw rw fl m E N H) p k (j / 4)) ba (fun y2 => ?_) (fun y2 => ?_) rfl (gd_nat ba) (by omega) (by omega)
            · refine by_cls hbv hd ?_
              have eb : gd_iI ((ln_b t lg w kn sw ss sk fw rw fl m E N H) p k (j / 4)) = nI ((ln_b t lg w kn sw ss sk fw rw fl m E N H) p k (j / 4)).toNat := by rw [gd_nat]; congr 1; omega
              rw [eb]
              have hcl := bd_c_b ((ln_b t lg w kn sw ss sk fw rw fl m E N H) p k (j / 4)) ((ln_d t lg w kn sw fw rw fl E N H) p k (j / 4))
              have hln : (ln_v t lg w kn sw ss sk fw rw fl ba hyc m E N H) p k (j / 4) = some (bd_c ((ln_b t lg w kn sw ss sk fw rw fl m E N H) p k (j / 4)) ((ln_d t lg w kn sw fw rw fl E N H) p k (j / 4)), ln_o hyc H ((ln_b t lg w kn sw ss sk fw rw fl m E N H) p k (j / 4)).toNat p k) := by rw [ln_v, if_pos (by omega)]
              have hbN : ((ln_b t lg w kn sw ss sk fw rw fl m E N H) p k (j / 4)).toNat ≤ 10000 := by omega
              have hob := ln_o_b (H := H) (p := p) (k := k) hbN c12
              generalize ((ln_b t lg w kn sw ss sk fw rw fl m E N H) p k (j / 4)).toNat = bN at *
              generalize hc : bd_c ((ln_b t lg w kn sw ss sk fw rw fl m E N H) p k (j / 4)) ((ln_d t lg w kn sw fw rw fl E N H) p k (j / 4)) = cl at *
              generalize ho : ln_o hyc H bN p k = own at *
              have hstep : dp_e (ln_v t lg w kn sw ss sk fw rw fl ba hyc m E N H) p k σ (j + 1) = dp_offer (dp_e (ln_v t lg w kn sw ss sk fw rw fl ba hyc m E N H) p k σ j) (16 * k + 4 * dp_nx (j / 4) + cl) (x.1 + own + dp_jp cl (j % 4)) (16 * p + j) := by
                show dp_s _ p k (dp_e (ln_v t lg w kn sw ss sk fw rw fl ba hyc m E N H) p k σ j) j = _
                rw [dp_s, hx, hln]
              have hjp := dp_jp_b cl (j % 4)
              have hnx := dp_nx_b (j / 4)
              have fin208 : wY_extend_208 post (wY_extend_11 post (nI p) (nI k) (f + 1)) (nI p) (nI k) (nI (16 * p + j)) (nI (j / 4)) (nI cl) (lN (x.1 + own + dp_jp cl (j % 4))) (nI n) (nI lc) (nI pc) (nI fw) (nI rw) (nI fl) (nI sw) (nI ss) (nI sk) (nI ba) (nI hyc) (nI ph) y_ready y_glyphCount (nI m) (gd_iI ((ln_w t lg w kn sw E N H) p k)) (nI (rn_sc t (N p) (E k))) y_lineCount y_paragraphs (gd_tI t) (gd_tI w) (gd_lI lg) (gd_kI kn) b_patA b_patB b_patC b_patDigits b_glyphs b_glyphOf b_bEnd b_bNext b_bHyphen b_least b_before b_way b_lFrom b_lTo b_lNumber b_lParagraph b_lPage b_lHyphen b_lLast b_best := by
                have st : ∀ z0 : Int32, z0 = nI (dp_nx (j / 4)) → wY_extend_228 post (wY_extend_11 post (nI p) (nI k) (f + 1)) (nI p) (nI k) (nI (16 * p + j)) (nI cl) (lN (x.1 + own + dp_jp cl (j % 4))) z0 4 (16 * nI k) (nI n) (nI lc) (nI pc) (nI fw) (nI rw) (nI fl) (nI sw) (nI ss) (nI sk) (nI ba) (nI hyc) (nI ph) y_ready y_glyphCount (nI m) (gd_iI ((ln_w t lg w kn sw E N H) p k)) (nI (rn_sc t (N p) (E k))) y_lineCount y_paragraphs (gd_tI t) (gd_tI w) (gd_lI lg) (gd_kI kn) b_patA b_patB b_patC b_patDigits b_glyphs b_glyphOf b_bEnd b_bNext b_bHyphen b_least b_before b_way b_lFrom b_lTo b_lNumber b_lParagraph b_lPage b_lHyphen b_lLast b_best := by
                  intro z0 hz
                  subst hz
                  unfold wY_extend_228
                  rw [show (16 : Int32) = nI 16 from rfl, show (4 : Int32) = nI 4 from rfl, pk_mul, pk_mul, nI_add, nI_add]
                  refine dy_offer (M := 16 * (m + 1)) (by omega) Mj hA Wj (by omega) (by omega) hx (by omega) (fun b_least b_before hA' => ?_)
                  exact nm_r (nI_1 (16 * p + j)) (ih (j + 1) (by omega) _ _ (by rw [hstep]; exact hA'))
                refine pk_le 3 (j / 4) (fun y3 => st _ ?_) (fun y3 => st _ ?_)
                · rw [dp_nx, if_pos y3]; rfl
                · rw [dp_nx, if_neg (by omega), nI_1]
              have st176 : ∀ (z0 : Int32) (z1 : Int64), z1 + z0.toInt64 = lN (x.1 + own) → wY_extend_176 post (wY_extend_11 post (nI p) (nI k) (f + 1)) (nI p) (nI k) (nI (16 * p + j)) (nI (j / 4)) (nI cl) z0 z1 (nI n) (nI lc) (nI pc) (nI fw) (nI rw) (nI fl) (nI sw) (nI ss) (nI sk) (nI ba) (nI hyc) (nI ph) y_ready y_glyphCount (nI m) (gd_iI ((ln_w t lg w kn sw E N H) p k)) (nI (rn_sc t (N p) (E k))) y_lineCount y_paragraphs (gd_tI t) (gd_tI w) (gd_lI lg) (gd_kI kn) b_patA b_patB b_patC b_patDigits b_glyphs b_glyphOf b_bEnd b_bNext b_bHyphen b_least b_before b_way b_lFrom b_lTo b_lNumber b_lParagraph b_lPage b_lHyphen b_lLast b_best := by
                intro z0 z1 hz
                have j1 : cl + 1 < j % 4 ∨ j % 4 + 1 < cl → dp_jp cl (j % 4) = 2000 := fun h => by rw [dp_jp, if_pos h]
                have j0 : ¬ (cl + 1 < j % 4 ∨ j % 4 + 1 < cl) → dp_jp cl (j % 4) = 0 := fun h => by rw [dp_jp, if_neg h]
                refine nm_r hz ⟨by decide, nm_r (e' := gd_iI ((cl : Int) - (j % 4 : Nat))) ?_ ?_⟩
                · rw [show (4 : Int32) = nI 4 from rfl, pk_rem (by omega) (by omega) (by omega), show (16 * p + j) % 4 = j % 4 by omega, gd_nat, gd_nat (j % 4), gd_sub]
                · refine gd_zlt 1 ((cl : Int) - (j % 4 : Nat)) (fun y3 => ?_) (fun y3 => ?_) rfl rfl (by omega) (by omega)
                  · refine nm_r (e' := lN (x.1 + own + dp_jp cl (j % 4))) ?_ fin208
                    rw [j1 (by omega), show (2000 : Int64) = lN 2000 from rfl, lN_add]
                  · refine gd_zle (-1) ((cl : Int) - (j % 4 : Nat)) (fun y4 => ?_) (fun y4 => ?_) rfl rfl (by omega) (by omega)
                    · rw [j0 (by omega)] at fin208
                      exact fin208
                    · refine nm_r (e' := lN (x.1 + own + dp_jp cl (j % 4))) ?_ fin208
                      rw [j1 (by omega), show (2000 : Int64) = lN 2000 from rfl, lN_add]
              have hz1 : b_least (nI (16 * p + j)).toNatClampNeg + (10 + (nI bN).toInt64) * (10 + nI bN).toInt64 = lN (x.1 + (10 + bN) * (10 + bN)) := by
                rw [hrd, hv, show (10 : Int32) = nI 10 from rfl, nI_add, nI_l (by omega), nI_l (by omega), show (10 : Int64) = lN 10 from rfl, lN_add, lN_mul, lN_add]
              rw [ln_o] at ho
              refine ⟨vp_in_nI (by omega) (by omega), vp_in_nI (by omega) (by omega), ?_⟩
              refine gd_bx (H k) (hr k hkm) (fun zk => ?_) (fun zk => ?_)
              · rw [if_neg (by rw [zk]; decide), if_neg (by rw [zk]; simp)] at ho
                refine ⟨vp_in_nI (by omega) (by omega), gd_bx (H k) (hr k hkm) (fun _ => st176 _ _ ?_) (fun q => absurd q (by rw [zk]; decide))⟩
                rw [hz1, show (0 : Int64) = lN 0 from rfl, lN_add, show (0 : Int32).toInt64 = lN 0 from rfl, lN_add]
                congr 1; omega
              · rw [if_pos zk] at ho
                refine ⟨vp_in_nI (by omega) (by omega), gd_bx (H k) (hr k hkm) (fun q => absurd q (by rw [zk]; decide)) (fun _ => ⟨vp_in_nI (by omega) (by omega), gd_bx (H p) (hr p (by omega)) (fun zp => st176 _ _ ?_) (fun zp => st176 _ _ ?_)⟩)⟩
                · rw [if_neg (by rw [zp]; simp)] at ho
                  rw [hz1, nI_l (by omega), lN_mul, lN_add, show (0 : Int32).toInt64 = lN 0 from rfl, lN_add]
                  congr 1; omega
                · rw [if_pos ⟨zk, zp⟩] at ho
                  rw [hz1, nI_l (by omega), lN_mul, lN_add, show (3000 : Int32).toInt64 = lN 3000 from by decide, lN_add]
                  congr 1; omega
            · exact nm_e (skip (by rw [ln_v, if_neg (by omega)]))
        refine pk_eq k m (fun y => key _ (by rw [decide_eq_true y]; rfl)) (fun y => key _ (by rw [decide_eq_false y]; rfl))
  refine nm_r (e' := nI (16 * p + 0)) (by rw [show (16 : Int32) = nI 16 from rfl, pk_mul]; rfl) ⟨17, loop 16 0 (by omega) _ _ hA⟩
end
end
section
def dp_vl (σ : dp_S) (s : Nat) : Nat := match σ s with
  | some x => x.1
  | none => 0
def dp_be (σ : dp_S) (m : Nat) : Nat → Option Nat
  | 0 => none
  | j + 1 => match σ (16 * m + j) with
    | none => dp_be σ m j
    | some x => match dp_be σ m j with
      | none => some (16 * m + j)
      | some s => if dp_vl σ s ≤ x.1 then (if x.1 = dp_vl σ s then (if dp_later σ 100 (16 * m + j) s = true then some (16 * m + j) else some s) else some s) else some (16 * m + j)
def dp_oe : Option Nat → Int32
  | none => -1
  | some s => nI s
def dp_pt (σ : dp_S) : Nat → Nat → List Nat
  | 0, _ => []
  | f + 1, s => if s < 16 then [] else s / 16 :: dp_pt σ f (dp_bf σ s)
section
variable {σ : dp_S} {m : Nat}
theorem dp_vls {s : Nat} {x : Nat × Nat} (h : σ s = some x) : dp_vl σ s = x.1 := by rw [dp_vl, h]
theorem dp_be_in : ∀ j s, dp_be σ m j = some s → 16 * m ≤ s ∧ s < 16 * m + j ∧ ∃ x, σ s = some x := by
  intro j
  induction j with
  | zero => intro s h; exact absurd h (by simp [dp_be])
  | succ j ih =>
    intro s h
    rw [dp_be] at h
    cases hx : σ (16 * m + j) with
    | none =>
      rw [hx] at h
      obtain ⟨a, b, c⟩ := ih s h
      exact ⟨a, by omega, c⟩
    | some x =>
      rw [hx] at h
      have new : some (16 * m + j) = some s → 16 * m ≤ s ∧ s < 16 * m + (j + 1) ∧ ∃ x, σ s = some x := by
        intro e
        cases e
        exact ⟨by omega, by omega, x, hx⟩
      cases he : dp_be σ m j with
      | none => rw [he] at h; exact new h
      | some s' =>
        rw [he] at h
        obtain ⟨a, b, c⟩ := ih s' he
        have old : some s' = some s → 16 * m ≤ s ∧ s < 16 * m + (j + 1) ∧ ∃ x, σ s = some x := by
          intro e
          cases e
          exact ⟨a, by omega, c⟩
        by_cases c1 : dp_vl σ s' ≤ x.1
        · simp only [if_pos c1] at h
          by_cases c2 : x.1 = dp_vl σ s'
          · simp only [if_pos c2] at h
            by_cases c3 : dp_later σ 100 (16 * m + j) s' = true
            · simp only [if_pos c3] at h; exact new h
            · simp only [if_neg c3] at h; exact old h
          · simp only [if_neg c2] at h; exact old h
        · simp only [if_neg c1] at h; exact new h
/-- the blocks of a way: strictly falling, from 1 on -/
theorem dp_pt_ok (W : dp_wf σ) : ∀ f s x, s / 16 < f → σ s = some x → (∀ k, k ∈ dp_pt σ f s → 1 ≤ k ∧ k ≤ s / 16) ∧ (dp_pt σ f s).Pairwise (fun a b => b < a) := by
  intro f
  induction f with
  | zero => intro s x h; omega
  | succ f ih =>
    intro s x h hx
    rw [dp_pt]
    by_cases c : s < 16
    · rw [if_pos c]; exact ⟨fun k h => absurd h (by simp), List.Pairwise.nil⟩
    · rw [if_neg c, dp_bfs hx]
      obtain ⟨w1, y, hy⟩ := (W s x hx).2.2.2 (by omega)
      obtain ⟨i1, i2⟩ := ih x.2 y (by omega) hy
      refine ⟨fun k hk => ?_, List.Pairwise.cons (fun b hb => ?_) i2⟩
      · rcases List.mem_cons.mp hk with e | e
        · omega
        · have := i1 k e; omega
      · have := i1 b hb; omega
end
section
variable {n lc pc fw rw fl sw ss sk ba hyc ph : Nat} {t w lg : Nat → Nat} {kn : Nat → Int}
variable {σ : dp_S} {m fr to : Nat} {E N : Nat → Nat} {H : Nat → Bool}
variable {x_breakCount x_lineCount x_paragraphCount x_stale : Int32} {a_patterns a_heads a_glyphs a_breakEnd a_breakNext a_breakHyphen a_breakTaken a_wayBefore a_lineFacts : Nat → Int32} {a_wayDemerits a_paragraphDemerits : Nat → Int64}
theorem dx_inner (post : Int64 → SX → Prop) (g : Nat) {a : Nat} (C : cf_ok t w lg kn n fw rw fl sw ss sk ba hyc ph) (hton : to ≤ n) (hm : m ≤ 48) (ok : bk_ok t fr to m E N H) (xb : bk_xb m E N H a_breakEnd a_breakNext a_breakHyphen) (ham : a < m) (W : dp_wf σ)
    (hJ : ∀ a_heads a_glyphs a_wayDemerits a_wayBefore, dp_arr 784 (dp_xi (ln_v t lg w kn sw ss sk fw rw fl ba hyc m E N H) a σ (m - a)) a_wayDemerits a_wayBefore → wX_takeBestWay_40 post g (nI (a + 1)) (nI n) (nI lc) (nI pc) (nI fw) (nI rw) (nI fl) (nI sw) (nI ss) (nI sk) (nI ba) (nI hyc) (nI ph) (nI (m + 1)) x_lineCount x_paragraphCount x_stale (gd_tI t) (gd_tI w) (gd_lI lg) (gd_kI kn) a_patterns a_heads a_glyphs a_breakEnd a_breakNext a_breakHyphen a_breakTaken a_wayDemerits a_wayBefore a_lineFacts a_paragraphDemerits) :
    ∀ f b, b + f = m + 1 → a < b → ∀ a_heads a_glyphs a_wayDemerits a_wayBefore, dp_arr 784 (dp_xi (ln_v t lg w kn sw ss sk fw rw fl ba hyc m E N H) a σ (b - (a + 1))) a_wayDemerits a_wayBefore → wX_takeBestWay_54 post (wX_takeBestWay_40 post g) (nI a) (f + 1) (nI b) (nI n) (nI lc) (nI pc) (nI fw) (nI rw) (nI fl) (nI sw) (nI ss) (nI sk) (nI ba) (nI hyc) (nI ph) (nI (m + 1)) x_lineCount x_paragraphCount x_stale (gd_tI t) (gd_tI w) (gd_lI lg) (gd_kI kn) a_patterns a_heads a_glyphs a_breakEnd a_breakNext a_breakHyphen a_breakTaken a_wayDemerits a_wayBefore a_lineFacts a_paragraphDemerits := by
  obtain ⟨c1, c2, c3, c4, c5, c6, c7, c8, c9, c10, c11, c12, c13, c14⟩ := id C
  intro f
  induction f with
  | zero =>
    intro b hb hab a_heads a_glyphs a_wayDemerits a_wayBefore hA
    have : b = m + 1 := by omega
    subst this
    rw [show m + 1 - (a + 1) = m - a by omega] at hA
    exact br_t (nI_le (Nat.le_refl _) (by omega)) (nm_r (nI_1 a) (hJ _ _ _ _ hA))
  | succ f ih =>
    intro b hb hab a_heads a_glyphs a_wayDemerits a_wayBefore hA
    have hlt := bk_lt ok hab (show b ≤ m by omega)
    have hEb := ok.2.1 b (by omega) (by omega)
    obtain ⟨x1, x2, x3⟩ := id xb
    have xE := x1 b (by omega) (by omega)
    have xN := x2 a ham
    refine br_f (nI_ge (by omega) (by omega)) ?_
    refine bx_nat c2 (by omega) (by omega) xN xE (x3 b (by omega)) (by omega) (by omega) (fun a_heads a_glyphs => ?_)
    refine ⟨vp_in_nI (by omega) (by omega), vp_in_nI (by omega) (by omega), ?_⟩
    rw [nI_clamp (show a < 2 ^ 31 by omega), nI_clamp (show b < 2 ^ 31 by omega), xN, xE]
    refine xc_spaces hlt (by omega) c2 ?_
    refine dx_try C hm hab (by omega) (by omega) x3 hA (dp_xi_wf W (ln_ok C) hm (b - (a + 1)) (by omega)) (fun a_wayDemerits a_wayBefore hA' => ?_)
    refine nm_r (nI_1 b) (ih (b + 1) (by omega) (by omega) _ _ _ _ ?_)
    rw [show b + 1 - (a + 1) = b - (a + 1) + 1 by omega, dp_xi, show a + 1 + (b - (a + 1)) = b by omega]
    exact hA'
theorem dx_outer (post : Int64 → SX → Prop) (C : cf_ok t w lg kn n fw rw fl sw ss sk ba hyc ph) (hton : to ≤ n) (hm : m ≤ 48) (ok : bk_ok t fr to m E N H) (xb : bk_xb m E N H a_breakEnd a_breakNext a_breakHyphen)
    (hp : ∀ g a_heads a_glyphs a_wayDemerits a_wayBefore, dp_arr (16 * (m + 1)) (dp_all (ln_v t lg w kn sw ss sk fw rw fl ba hyc m E N H) m) a_wayDemerits a_wayBefore → wX_takeBestWay_40 post (g + 1) (nI m) (nI n) (nI lc) (nI pc) (nI fw) (nI rw) (nI fl) (nI sw) (nI ss) (nI sk) (nI ba) (nI hyc) (nI ph) (nI (m + 1)) x_lineCount x_paragraphCount x_stale (gd_tI t) (gd_tI w) (gd_lI lg) (gd_kI kn) a_patterns a_heads a_glyphs a_breakEnd a_breakNext a_breakHyphen a_breakTaken a_wayDemerits a_wayBefore a_lineFacts a_paragraphDemerits) :
    ∀ f a, a + f = m → ∀ a_heads a_glyphs a_wayDemerits a_wayBefore, dp_arr 784 (dp_x (ln_v t lg w kn sw ss sk fw rw fl ba hyc m E N H) m a) a_wayDemerits a_wayBefore → wX_takeBestWay_40 post (f + 1) (nI a) (nI n) (nI lc) (nI pc) (nI fw) (nI rw) (nI fl) (nI sw) (nI ss) (nI sk) (nI ba) (nI hyc) (nI ph) (nI (m + 1)) x_lineCount x_paragraphCount x_stale (gd_tI t) (gd_tI w) (gd_lI lg) (gd_kI kn) a_patterns a_heads a_glyphs a_breakEnd a_breakNext a_breakHyphen a_breakTaken a_wayDemerits a_wayBefore a_lineFacts a_paragraphDemerits := by
  have hL : dp_ln (ln_v t lg w kn sw ss sk fw rw fl ba hyc m E N H) := ln_ok C
  intro f
  induction f with
  | zero =>
    intro a ha a_heads a_glyphs a_wayDemerits a_wayBefore hA
    have : a = m := by omega
    subst this
    refine hp 0 _ _ _ _ (fun s hs => ?_)
    rw [← dp_x_all hL hm (show s / 16 ≤ a by omega)]
    exact hA s (by omega)
  | succ f ih =>
    intro a ha a_heads a_glyphs a_wayDemerits a_wayBefore hA
    refine br_f (by rw [nI_pred]; exact nI_ge (by omega) (by omega)) (nm_r (nI_1 a) ⟨m - a + 1, ?_⟩)
    refine dx_inner post (f + 1) C hton hm ok xb (by omega) (dp_x_wf hL hm a (by omega)) (fun a_heads a_glyphs a_wayDemerits a_wayBefore hA' => ?_) (m - a) (a + 1) (by omega) (by omega) _ _ _ _ ?_
    · exact ih (a + 1) (by omega) _ _ _ _ hA'
    · rw [show a + 1 - (a + 1) = 0 by omega]; exact hA
theorem dx_ways {post : Int64 → SX → Prop} (C : cf_ok t w lg kn n fw rw fl sw ss sk ba hyc ph) (hton : to ≤ n) (hm : m ≤ 48) (ok : bk_ok t fr to m E N H) (xb : bk_xb m E N H a_breakEnd a_breakNext a_breakHyphen)
    (hp : ∀ g a_heads a_glyphs a_wayDemerits a_wayBefore, dp_arr (16 * (m + 1)) (dp_all (ln_v t lg w kn sw ss sk fw rw fl ba hyc m E N H) m) a_wayDemerits a_wayBefore → wX_takeBestWay_40 post (g + 1) (nI m) (nI n) (nI lc) (nI pc) (nI fw) (nI rw) (nI fl) (nI sw) (nI ss) (nI sk) (nI ba) (nI hyc) (nI ph) (nI (m + 1)) x_lineCount x_paragraphCount x_stale (gd_tI t) (gd_tI w) (gd_lI lg) (gd_kI kn) a_patterns a_heads a_glyphs a_breakEnd a_breakNext a_breakHyphen a_breakTaken a_wayDemerits a_wayBefore a_lineFacts a_paragraphDemerits) :
    wpX_takeBestWay post ((nI n), (nI lc), (nI pc), (nI fw), (nI rw), (nI fl), (nI sw), (nI ss), (nI sk), (nI ba), (nI hyc), (nI ph), (nI (m + 1)), x_lineCount, x_paragraphCount, x_stale, (gd_tI t), (gd_tI w), (gd_lI lg), (gd_kI kn), a_patterns, a_heads, a_glyphs, a_breakEnd, a_breakNext, a_breakHyphen, a_breakTaken, a_wayDemerits, a_wayBefore, a_lineFacts, a_paragraphDemerits) := by
  have init : ∀ d i, i + d = 784 → ∀ a_wayDemerits, (∀ s, s < i → a_wayDemerits s = -1) → wX_takeBestWay_2 post (nI n) (nI lc) (nI pc) (nI fw) (nI rw) (nI fl) (nI sw) (nI ss) (nI sk) (nI ba) (nI hyc) (nI ph) (nI (m + 1)) x_lineCount x_paragraphCount x_stale (d + 1) (nI i) (gd_tI t) (gd_tI w) (gd_lI lg) (gd_kI kn) a_patterns a_heads a_glyphs a_breakEnd a_breakNext a_breakHyphen a_breakTaken a_wayDemerits a_wayBefore a_lineFacts a_paragraphDemerits := by
    intro d
    induction d with
    | zero =>
      intro i hi a_wayDemerits hI
      have : i = 784 := by omega
      subst this
      refine br_t (by decide) ?_
      show vp_in (0 * 16 + 0 * 4 + 1) 784 ∧ _
      refine ⟨vp_in_nI (n := 1) (by omega) (by omega), nm_r (e' := vp_updL a_wayDemerits 1 0) rfl ⟨m + 1, ?_⟩⟩
      refine dx_outer post C hton hm ok xb hp m 0 (by omega) _ _ _ _ (fun s hs => ?_)
      show (dp_init s = none → _) ∧ (∀ x, dp_init s = some x → _)
      rw [dp_init]
      by_cases e : s = 1
      · subst e
        rw [if_pos rfl, pk_uLs]
        exact ⟨fun h => absurd h (by simp), fun x hx => by cases hx; exact ⟨rfl, fun h => absurd h (by omega)⟩⟩
      · rw [if_neg e, pk_uLn e]
        exact ⟨fun _ => hI s hs, fun x hx => absurd hx (by simp)⟩
    | succ d ih =>
      intro i hi a_wayDemerits hI
      refine br_f (nI_ge (b := 784) (by omega) (by decide)) ⟨vp_in_nI (by omega) (by omega), nm_r (e' := vp_updL a_wayDemerits i (-1)) (by rw [nI_clamp (by omega)]) (nm_r (nI_1 i) (ih (i + 1) (by omega) _ (fun s hs => ?_)))⟩
      by_cases e : s = i
      · rw [e, pk_uLs]
      · rw [pk_uLn e]; exact hI s (by omega)
  exact ⟨785, init 784 0 (by omega) _ (fun s h => absurd h (by omega))⟩
theorem dx_best {post : Int32 → Prop} (hm : m ≤ 48) (W : dp_wf σ) (hσ : ∀ s x, σ s = some x → s < 16 * (m + 1)) (hA : dp_arr (16 * (m + 1)) σ a_wayDemerits a_wayBefore) (hp : post (dp_oe (dp_be σ m 16))) : wpX_bestEnd post ((nI n), (nI lc), (nI pc), (nI fw), (nI rw), (nI fl), (nI sw), (nI ss), (nI sk), (nI ba), (nI hyc), (nI ph), (nI (m + 1)), x_lineCount, x_paragraphCount, x_stale, (gd_tI t), (gd_tI w), (gd_lI lg), (gd_kI kn), a_patterns, a_heads, a_glyphs, a_breakEnd, a_breakNext, a_breakHyphen, a_breakTaken, a_wayDemerits, a_wayBefore, a_lineFacts, a_paragraphDemerits) := by
  have loop : ∀ f j, j + f = 16 → wX_bestEnd_14 post (nI (16 * m)) (nI n) (nI lc) (nI pc) (nI fw) (nI rw) (nI fl) (nI sw) (nI ss) (nI sk) (nI ba) (nI hyc) (nI ph) (nI (m + 1)) x_lineCount x_paragraphCount x_stale (gd_tI t) (gd_tI w) (gd_lI lg) (gd_kI kn) a_patterns a_heads a_glyphs a_breakEnd a_breakNext a_breakHyphen a_breakTaken a_wayDemerits a_wayBefore a_lineFacts a_paragraphDemerits (f + 1) (dp_oe (dp_be σ m j)) (nI (16 * m + j)) := by
    intro f
    induction f with
    | zero =>
      intro j hj
      have : j = 16 := by omega
      subst this
      refine br_t ?_ hp
      rw [show (16 : Int32) = nI 16 from rfl, nI_add]
      exact nI_le (by omega) (by omega)
    | succ f ih =>
      intro j hj
      have ih := ih (j + 1) (by omega)
      have hrd : ∀ s, s < 784 → a_wayDemerits (nI s).toNatClampNeg = a_wayDemerits s := fun s h => by rw [nI_clamp (by omega)]
      refine br_f (by rw [show (16 : Int32) = nI 16 from rfl, nI_add]; exact nI_ge (by omega) (by omega)) ⟨vp_in_nI (by omega) (by omega), ?_⟩
      rw [dp_be] at ih
      cases hx : σ (16 * m + j) with
      | none =>
        rw [hx] at ih
        exact br_t (by rw [hrd _ (by omega)]; exact (hA _ (by omega)).1 hx) (nm_r (nI_1 _) ih)
      | some x =>
        rw [hx] at ih
        have hv : a_wayDemerits (nI (16 * m + j)).toNatClampNeg = lN x.1 := by rw [hrd _ (by omega)]; exact ((hA _ (by omega)).2 x hx).1
        have hxb := dp_wf_v W hx
        refine br_f (by rw [hv]; exact dp_nm1 (by omega)) ?_
        cases he : dp_be σ m j with
        | none =>
          rw [he] at ih
          exact br_t rfl (nm_r (nI_1 _) ih)
        | some s =>
          rw [he] at ih
          obtain ⟨b1, b2, y, hy⟩ := dp_be_in j s he
          have hyb := dp_wf_v W hy
          have hv2 : a_wayDemerits (nI s).toNatClampNeg = lN y.1 := by rw [hrd _ (by omega)]; exact ((hA _ (by omega)).2 y hy).1
          have ih : wX_bestEnd_14 post (nI (16 * m)) (nI n) (nI lc) (nI pc) (nI fw) (nI rw) (nI fl) (nI sw) (nI ss) (nI sk) (nI ba) (nI hyc) (nI ph) (nI (m + 1)) x_lineCount x_paragraphCount x_stale (gd_tI t) (gd_tI w) (gd_lI lg) (gd_kI kn) a_patterns a_heads a_glyphs a_breakEnd a_breakNext a_breakHyphen a_breakTaken a_wayDemerits a_wayBefore a_lineFacts a_paragraphDemerits (f + 1) (dp_oe (if dp_vl σ s ≤ x.1 then (if x.1 = dp_vl σ s then (if dp_later σ 100 (16 * m + j) s = true then some (16 * m + j) else some s) else some s) else some (16 * m + j))) (nI (16 * m + (j + 1))) := ih
          rw [dp_vls hy] at ih
          refine br_f (gd_nm1 (by omega)) ⟨vp_in_nI (by omega) (by omega), vp_in_nI (by omega) (by omega), br_c (fun c1 => ?_) (fun c1 => ?_)⟩
          · have c1 : lN y.1 ≤ lN x.1 := by rw [← hv, ← hv2]; exact c1
            have c1' := (pk_lLE (by omega) (by omega)).mp c1
            rw [if_pos c1'] at ih
            refine ⟨vp_in_nI (by omega) (by omega), vp_in_nI (by omega) (by omega), br_c (fun c2 => ?_) (fun c2 => ?_)⟩
            · have c2 : lN x.1 = lN y.1 := by rw [← hv, ← hv2]; exact c2
              have c2' := (pk_lEQ (by omega) (by omega)).mp c2
              rw [if_pos c2'] at ih
              refine dx_later (M := 16 * (m + 1)) (by omega) hσ hA W hx hy (gd_bt (fun c3 => ?_) (fun c3 => ?_))
              · rw [if_neg (by rw [c3]; decide)] at ih
                exact nm_r (nI_1 _) ih
              · rw [if_pos c3] at ih
                exact nm_r (nI_1 _) ih
            · have c2 : ¬ lN x.1 = lN y.1 := by rw [← hv, ← hv2]; exact c2
              have c2' : ¬ x.1 = y.1 := fun q => c2 (by rw [q])
              rw [if_neg c2'] at ih
              exact nm_r (nI_1 _) ih
          · have c1 : ¬ lN y.1 ≤ lN x.1 := by rw [← hv, ← hv2]; exact c1
            have c1' : ¬ y.1 ≤ x.1 := fun q => c1 ((pk_lLE (by omega) (by omega)).mpr q)
            rw [if_neg c1'] at ih
            exact nm_r (nI_1 _) ih
  refine nm_r (e' := nI (16 * m)) (by rw [nI_pred, show (16 : Int32) = nI 16 from rfl, pk_mul, Nat.mul_comm]) ⟨17, loop 16 0 (by omega)⟩
theorem dx_take {post : SX → Prop} {M s : Nat} {x : Nat × Nat} (hM : M ≤ 784) (W : dp_wf σ) (hσ : ∀ s x, σ s = some x → s < M) (hA : dp_arr M σ a_wayDemerits a_wayBefore) (hs : σ s = some x)
    (hp : ∀ a_breakTaken', (∀ k, a_breakTaken' k = if k ∈ dp_pt σ 100 s then 1 else a_breakTaken k) → post ((nI n), (nI lc), (nI pc), (nI fw), (nI rw), (nI fl), (nI sw), (nI ss), (nI sk), (nI ba), (nI hyc), (nI ph), x_breakCount, x_lineCount, x_paragraphCount, x_stale, (gd_tI t), (gd_tI w), (gd_lI lg), (gd_kI kn), a_patterns, a_heads, a_glyphs, a_breakEnd, a_breakNext, a_breakHyphen, a_breakTaken', a_wayDemerits, a_wayBefore, a_lineFacts, a_paragraphDemerits)) : wpX_takeWayTo post ((nI n), (nI lc), (nI pc), (nI fw), (nI rw), (nI fl), (nI sw), (nI ss), (nI sk), (nI ba), (nI hyc), (nI ph), x_breakCount, x_lineCount, x_paragraphCount, x_stale, (gd_tI t), (gd_tI w), (gd_lI lg), (gd_kI kn), a_patterns, a_heads, a_glyphs, a_breakEnd, a_breakNext, a_breakHyphen, a_breakTaken, a_wayDemerits, a_wayBefore, a_lineFacts, a_paragraphDemerits) (nI s) := by
  have key : ∀ f s x j a_breakTaken, s / 16 < f → j + s / 16 ≤ 48 → σ s = some x → (∀ a_breakTaken', (∀ k, a_breakTaken' k = if k ∈ dp_pt σ f s then 1 else a_breakTaken k) → post ((nI n), (nI lc), (nI pc), (nI fw), (nI rw), (nI fl), (nI sw), (nI ss), (nI sk), (nI ba), (nI hyc), (nI ph), x_breakCount, x_lineCount, x_paragraphCount, x_stale, (gd_tI t), (gd_tI w), (gd_lI lg), (gd_kI kn), a_patterns, a_heads, a_glyphs, a_breakEnd, a_breakNext, a_breakHyphen, a_breakTaken', a_wayDemerits, a_wayBefore, a_lineFacts, a_paragraphDemerits)) → wX_takeWayTo_4 post (nI n) (nI lc) (nI pc) (nI fw) (nI rw) (nI fl) (nI sw) (nI ss) (nI sk) (nI ba) (nI hyc) (nI ph) x_breakCount x_lineCount x_paragraphCount x_stale f (nI s) (nI j) (gd_tI t) (gd_tI w) (gd_lI lg) (gd_kI kn) a_patterns a_heads a_glyphs a_breakEnd a_breakNext a_breakHyphen a_breakTaken a_wayDemerits a_wayBefore a_lineFacts a_paragraphDemerits := by
    intro f
    induction f with
    | zero => intro s x j a_breakTaken h; omega
    | succ f ih =>
      intro s x j a_breakTaken h1 h2 hs hp
      have hsb := hσ s x hs
      rw [dp_pt] at hp
      refine br_f (nI_ge (b := 49) (by omega) (by decide)) (pk_lt s 16 (fun c => ?_) (fun c => ?_))
      · rw [if_pos c] at hp
        exact hp _ (fun k => by rw [if_neg (by simp)])
      · rw [if_neg (by omega), dp_bfs hs] at hp
        obtain ⟨w1, y, hy⟩ := (W s x hs).2.2.2 (by omega)
        have hq : nI s / 16 = nI (s / 16) := pk_div (d := 16) (by omega) (by omega) (by omega)
        refine ⟨by decide, pk_in (s / 16) 49 (by omega) hq, nm_r (e' := upd a_breakTaken (s / 16) 1) (by rw [hq, nI_clamp (by omega), gd_b1]) ⟨vp_in_nI (by omega) (by omega), nm_r (e' := nI x.2) (by rw [nI_clamp (by omega)]; exact ((hA s hsb).2 x hs).2 (by omega)) (nm_r (nI_1 j) (ih x.2 y (j + 1) _ (by omega) (by omega) hy (fun a_breakTaken' hT => hp _ (fun k => ?_))))⟩⟩
        rw [hT k]
        by_cases m1 : k ∈ dp_pt σ f x.2
        · rw [if_pos m1, if_pos (List.mem_cons_of_mem _ m1)]
        · rw [if_neg m1]
          by_cases e : k = s / 16
          · rw [e, pk_us, if_pos (List.mem_cons_self ..)]
          · rw [pk_un e, if_neg (fun z => by rcases List.mem_cons.mp z with z | z; exact e z; exact m1 z)]
  have := dp_wf_v W hs
  exact ⟨100, key 100 s x 0 _ (by omega) (by omega) hs hp⟩
end
end
section
section
variable {σ : dp_S} {ln : Nat → Nat → Nat → Option (Nat × Nat)}
theorem dp_row_M {k M : Nat} (hL : dp_ln ln) (hσ : ∀ s x, σ s = some x → s < M) (hk : 16 * k + 16 ≤ M) (p : Nat) : ∀ s x, dp_row ln k σ p s = some x → s < M := by
  intro s x h
  by_cases e : s / 16 = k
  · omega
  · rw [dp_row_fr hL e] at h
    exact hσ s x h
theorem dp_all_M (hL : dp_ln ln) (k : Nat) : ∀ s x, dp_all ln k s = some x → s < 16 * (k + 1) := by
  intro s x h
  by_cases e : k < s / 16
  · rw [dp_all_no hL k s e] at h
    exact absurd h (by simp)
  · omega
end
section
variable {n lc pc fw rw fl sw ss sk ba hyc ph : Nat} {t w lg : Nat → Nat} {kn : Nat → Int}
variable {σ : dp_S} {m fr to : Nat} {E N : Nat → Nat} {H : Nat → Bool}
variable {y_ready y_glyphCount y_breaks y_natural y_spaces y_lineCount y_paragraphs : Int32} {b_patA b_patB b_patC b_patDigits b_glyphs b_glyphOf b_bEnd b_bNext b_bHyphen b_before b_way b_lFrom b_lTo b_lNumber b_lParagraph b_lPage b_lHyphen b_lLast : Nat → Int32} {b_least b_best : Nat → Int64}
theorem dy_inner (post : Int32 → SY → Prop) (g : Nat) {k : Nat} (C : cf_ok t w lg kn n fw rw fl sw ss sk ba hyc ph) (hton : to ≤ n) (hm : m ≤ 48) (h11 : ∀ j, fr ≤ j → j < to → t j ≠ 11) (ok : bk_ok t fr to m E N H) (yb : bk_xb m E N H b_bEnd b_bNext b_bHyphen) (hk1 : 1 ≤ k) (hkm : k ≤ m) (W : dp_wf σ) (hσ : ∀ s x, σ s = some x → s < 16 * (m + 1))
    (hJ : ∀ y_glyphCount y_natural y_spaces b_glyphs b_glyphOf b_least b_before, dp_arr (16 * (m + 1)) (dp_row (ln_v t lg w kn sw ss sk fw rw fl ba hyc m E N H) k σ k) b_least b_before → wY_bestWay_40 post g (nI (k + 1)) (nI n) (nI lc) (nI pc) (nI fw) (nI rw) (nI fl) (nI sw) (nI ss) (nI sk) (nI ba) (nI hyc) (nI ph) y_ready y_glyphCount (nI m) y_natural y_spaces y_lineCount y_paragraphs (gd_tI t) (gd_tI w) (gd_lI lg) (gd_kI kn) b_patA b_patB b_patC b_patDigits b_glyphs b_glyphOf b_bEnd b_bNext b_bHyphen b_least b_before b_way b_lFrom b_lTo b_lNumber b_lParagraph b_lPage b_lHyphen b_lLast b_best) :
    ∀ f p, p + f = k → ∀ y_glyphCount y_natural y_spaces b_glyphs b_glyphOf b_least b_before, dp_arr (16 * (m + 1)) (dp_row (ln_v t lg w kn sw ss sk fw rw fl ba hyc m E N H) k σ p) b_least b_before → wY_bestWay_50 post (wY_bestWay_40 post g) (nI k) (f + 1) (nI p) (nI n) (nI lc) (nI pc) (nI fw) (nI rw) (nI fl) (nI sw) (nI ss) (nI sk) (nI ba) (nI hyc) (nI ph) y_ready y_glyphCount (nI m) y_natural y_spaces y_lineCount y_paragraphs (gd_tI t) (gd_tI w) (gd_lI lg) (gd_kI kn) b_patA b_patB b_patC b_patDigits b_glyphs b_glyphOf b_bEnd b_bNext b_bHyphen b_least b_before b_way b_lFrom b_lTo b_lNumber b_lParagraph b_lPage b_lHyphen b_lLast b_best := by
  have hL : dp_ln (ln_v t lg w kn sw ss sk fw rw fl ba hyc m E N H) := ln_ok C
  intro f
  induction f with
  | zero =>
    intro p hp y_glyphCount y_natural y_spaces b_glyphs b_glyphOf b_least b_before hA
    have : p = k := by omega
    subst this
    exact br_t (nI_le (Nat.le_refl _) (by omega)) (nm_r (nI_1 p) (hJ _ _ _ _ _ _ _ hA))
  | succ f ih =>
    intro p hp y_glyphCount y_natural y_spaces b_glyphs b_glyphOf b_least b_before hA
    have hlt := bk_lt ok (show p < k by omega) hkm
    have hEk := ok.2.1 k hk1 hkm
    have hNp := ok.1 p (by omega)
    obtain ⟨y1, y2, y3⟩ := id yb
    refine br_f (nI_ge (by omega) (by omega)) ?_
    refine dy_ext C hm (by omega) hkm (y2 p (by omega)) (y1 k hk1 hkm) y3 hlt (by omega) hNp.2.2.1 (fun j a b => h11 j (by omega) (by omega)) (dp_row_M hL hσ (by omega) p) hA (dp_row_wf W hL (by omega) p (by omega)) (fun y_glyphCount y_natural y_spaces b_glyphs b_glyphOf b_least b_before hA' => ?_)
    exact nm_r (nI_1 p) (ih (p + 1) (by omega) _ _ _ _ _ _ _ hA')
theorem dy_outer (post : Int32 → SY → Prop) (C : cf_ok t w lg kn n fw rw fl sw ss sk ba hyc ph) (hton : to ≤ n) (hm : m ≤ 48) (h11 : ∀ j, fr ≤ j → j < to → t j ≠ 11) (ok : bk_ok t fr to m E N H) (yb : bk_xb m E N H b_bEnd b_bNext b_bHyphen)
    (hp : ∀ g y_glyphCount y_natural y_spaces b_glyphs b_glyphOf b_least b_before, dp_arr (16 * (m + 1)) (dp_all (ln_v t lg w kn sw ss sk fw rw fl ba hyc m E N H) m) b_least b_before → wY_bestWay_40 post (g + 1) (nI (m + 1)) (nI n) (nI lc) (nI pc) (nI fw) (nI rw) (nI fl) (nI sw) (nI ss) (nI sk) (nI ba) (nI hyc) (nI ph) y_ready y_glyphCount (nI m) y_natural y_spaces y_lineCount y_paragraphs (gd_tI t) (gd_tI w) (gd_lI lg) (gd_kI kn) b_patA b_patB b_patC b_patDigits b_glyphs b_glyphOf b_bEnd b_bNext b_bHyphen b_least b_before b_way b_lFrom b_lTo b_lNumber b_lParagraph b_lPage b_lHyphen b_lLast b_best) :
    ∀ f k, k + f = m → ∀ y_glyphCount y_natural y_spaces b_glyphs b_glyphOf b_least b_before, dp_arr (16 * (m + 1)) (dp_all (ln_v t lg w kn sw ss sk fw rw fl ba hyc m E N H) k) b_least b_before → wY_bestWay_40 post (f + 1) (nI (k + 1)) (nI n) (nI lc) (nI pc) (nI fw) (nI rw) (nI fl) (nI sw) (nI ss) (nI sk) (nI ba) (nI hyc) (nI ph) y_ready y_glyphCount (nI m) y_natural y_spaces y_lineCount y_paragraphs (gd_tI t) (gd_tI w) (gd_lI lg) (gd_kI kn) b_patA b_patB b_patC b_patDigits b_glyphs b_glyphOf b_bEnd b_bNext b_bHyphen b_least b_before b_way b_lFrom b_lTo b_lNumber b_lParagraph b_lPage b_lHyphen b_lLast b_best := by
  have hL : dp_ln (ln_v t lg w kn sw ss sk fw rw fl ba hyc m E N H) := ln_ok C
  intro f
  induction f with
  | zero =>
    intro k hk y_glyphCount y_natural y_spaces b_glyphs b_glyphOf b_least b_before hA
    have : k = m := by omega
    subst this
    exact hp 0 _ _ _ _ _ _ _ hA
  | succ f ih =>
    intro k hk y_glyphCount y_natural y_spaces b_glyphs b_glyphOf b_least b_before hA
    refine br_f (nI_nlt (by omega) (by omega)) ⟨k + 1 + 1, ?_⟩
    refine dy_inner post (f + 1) C hton hm h11 ok yb (by omega) (by omega) (dp_all_wf hL k (by omega)) (fun s x h => by have := dp_all_M hL k s x h; omega) (fun y_glyphCount y_natural y_spaces b_glyphs b_glyphOf b_least b_before hA' => ?_) (k + 1) 0 (by omega) _ _ _ _ _ _ _ hA
    exact ih (k + 1) (by omega) _ _ _ _ _ _ _ hA'
theorem dy_ways {post : Int32 → SY → Prop} (C : cf_ok t w lg kn n fw rw fl sw ss sk ba hyc ph) (hton : to ≤ n) (hm : m ≤ 48) (h11 : ∀ j, fr ≤ j → j < to → t j ≠ 11) (ok : bk_ok t fr to m E N H) (yb : bk_xb m E N H b_bEnd b_bNext b_bHyphen)
    (hp : ∀ g y_glyphCount y_natural y_spaces b_glyphs b_glyphOf b_least b_before, dp_arr (16 * (m + 1)) (dp_all (ln_v t lg w kn sw ss sk fw rw fl ba hyc m E N H) m) b_least b_before → wY_bestWay_40 post (g + 1) (nI (m + 1)) (nI n) (nI lc) (nI pc) (nI fw) (nI rw) (nI fl) (nI sw) (nI ss) (nI sk) (nI ba) (nI hyc) (nI ph) y_ready y_glyphCount (nI m) y_natural y_spaces y_lineCount y_paragraphs (gd_tI t) (gd_tI w) (gd_lI lg) (gd_kI kn) b_patA b_patB b_patC b_patDigits b_glyphs b_glyphOf b_bEnd b_bNext b_bHyphen b_least b_before b_way b_lFrom b_lTo b_lNumber b_lParagraph b_lPage b_lHyphen b_lLast b_best) :
    wpY_bestWay post ((nI n), (nI lc), (nI pc), (nI fw), (nI rw), (nI fl), (nI sw), (nI ss), (nI sk), (nI ba), (nI hyc), (nI ph), y_ready, y_glyphCount, (nI m), y_natural, y_spaces, y_lineCount, y_paragraphs, (gd_tI t), (gd_tI w), (gd_lI lg), (gd_kI kn), b_patA, b_patB, b_patC, b_patDigits, b_glyphs, b_glyphOf, b_bEnd, b_bNext, b_bHyphen, b_least, b_before, b_way, b_lFrom, b_lTo, b_lNumber, b_lParagraph, b_lPage, b_lHyphen, b_lLast, b_best) := by
  have h16 : 16 * nI m + 16 = nI (16 * m + 16) := by rw [show (16 : Int32) = nI 16 from rfl, pk_mul, nI_add]
  have init : ∀ d i, i + d = 16 * m + 16 → ∀ b_least, (∀ s, s < i → b_least s = -1) → wY_bestWay_2 post (nI n) (nI lc) (nI pc) (nI fw) (nI rw) (nI fl) (nI sw) (nI ss) (nI sk) (nI ba) (nI hyc) (nI ph) y_ready y_glyphCount (nI m) y_natural y_spaces y_lineCount y_paragraphs (d + 1) (nI i) (gd_tI t) (gd_tI w) (gd_lI lg) (gd_kI kn) b_patA b_patB b_patC b_patDigits b_glyphs b_glyphOf b_bEnd b_bNext b_bHyphen b_least b_before b_way b_lFrom b_lTo b_lNumber b_lParagraph b_lPage b_lHyphen b_lLast b_best := by
    intro d
    induction d with
    | zero =>
      intro i hi b_least hI
      refine br_t (by rw [h16]; exact nI_le (by omega) (by omega)) (nm_e ⟨m + 1, ?_⟩)
      refine dy_outer post C hton hm h11 ok yb hp m 0 (by omega) _ _ _ _ _ _ _ (fun s hs => ?_)
      show (dp_init s = none → _) ∧ (∀ x, dp_init s = some x → _)
      rw [dp_init]
      by_cases e : s = 1
      · subst e
        rw [if_pos rfl, pk_uLs]
        exact ⟨fun h => absurd h (by simp), fun x hx => by cases hx; exact ⟨rfl, fun h => absurd h (by omega)⟩⟩
      · rw [if_neg e, pk_uLn e]
        exact ⟨fun _ => hI s (by omega), fun x hx => absurd hx (by simp)⟩
    | succ d ih =>
      intro i hi b_least hI
      refine br_f (by rw [h16]; exact nI_ge (by omega) (by omega)) ⟨vp_in_nI (by omega) (by omega), nm_r (e' := vp_updL b_least i (-1)) (by rw [nI_clamp (by omega)]) (nm_r (nI_1 i) (ih (i + 1) (by omega) _ (fun s hs => ?_)))⟩
      by_cases e : s = i
      · rw [e, pk_uLs]
      · rw [pk_uLn e]; exact hI s (by omega)
  exact ⟨16 * m + 16 + 1, init (16 * m + 16) 0 (by omega) _ (fun s h => absurd h (by omega))⟩
theorem dy_best (post : Int32 → SY → Prop) (hm : m ≤ 48) (W : dp_wf σ) (hσ : ∀ s x, σ s = some x → s < 16 * (m + 1)) (hA : dp_arr (16 * (m + 1)) σ b_least b_before)
    (hp : ∀ f, wY_bestWay_83 post (nI n) (nI lc) (nI pc) (nI fw) (nI rw) (nI fl) (nI sw) (nI ss) (nI sk) (nI ba) (nI hyc) (nI ph) y_ready y_glyphCount (nI m) y_natural y_spaces y_lineCount y_paragraphs (gd_tI t) (gd_tI w) (gd_lI lg) (gd_kI kn) b_patA b_patB b_patC b_patDigits b_glyphs b_glyphOf b_bEnd b_bNext b_bHyphen b_least b_before b_way b_lFrom b_lTo b_lNumber b_lParagraph b_lPage b_lHyphen b_lLast b_best (f + 1) (dp_oe (dp_be σ m 16)) (nI (16 * m + 16))) :
    ∀ f j, j + f = 16 → wY_bestWay_83 post (nI n) (nI lc) (nI pc) (nI fw) (nI rw) (nI fl) (nI sw) (nI ss) (nI sk) (nI ba) (nI hyc) (nI ph) y_ready y_glyphCount (nI m) y_natural y_spaces y_lineCount y_paragraphs (gd_tI t) (gd_tI w) (gd_lI lg) (gd_kI kn) b_patA b_patB b_patC b_patDigits b_glyphs b_glyphOf b_bEnd b_bNext b_bHyphen b_least b_before b_way b_lFrom b_lTo b_lNumber b_lParagraph b_lPage b_lHyphen b_lLast b_best (f + 1) (dp_oe (dp_be σ m j)) (nI (16 * m + j)) := by
  have h16 : 16 * nI m + 16 = nI (16 * m + 16) := by rw [show (16 : Int32) = nI 16 from rfl, pk_mul, nI_add]
  intro f
  induction f with
  | zero =>
    intro j hj
    have : j = 16 := by omega
    subst this
    exact hp 0
  | succ f ih =>
    intro j hj
    have ih := ih (j + 1) (by omega)
    have hrd : ∀ s, s < 784 → b_least (nI s).toNatClampNeg = b_least s := fun s h => by rw [nI_clamp (by omega)]
    refine br_f (by rw [h16]; exact nI_ge (by omega) (by omega)) ⟨vp_in_nI (by omega) (by omega), ?_⟩
    rw [dp_be] at ih
    cases hx : σ (16 * m + j) with
    | none =>
      rw [hx] at ih
      refine br_f ?_ (nm_r (nI_1 _) ih)
      rw [hrd _ (by omega), (hA _ (by omega)).1 hx]
      decide
    | some x =>
      rw [hx] at ih
      have hv : b_least (nI (16 * m + j)).toNatClampNeg = lN x.1 := by rw [hrd _ (by omega)]; exact ((hA _ (by omega)).2 x hx).1
      have hxb := dp_wf_v W hx
      refine br_t (by rw [hv]; exact (pk_lLE (a := 0) (by omega) (by omega)).mpr (by omega)) ?_
      cases he : dp_be σ m j with
      | none =>
        rw [he] at ih
        exact br_t (by decide) (nm_r (nI_1 _) ih)
      | some s =>
        rw [he] at ih
        obtain ⟨b1, b2, y, hy⟩ := dp_be_in j s he
        have hyb := dp_wf_v W hy
        have hv2 : b_least (nI s).toNatClampNeg = lN y.1 := by rw [hrd _ (by omega)]; exact ((hA _ (by omega)).2 y hy).1
        have ih : wY_bestWay_83 post (nI n) (nI lc) (nI pc) (nI fw) (nI rw) (nI fl) (nI sw) (nI ss) (nI sk) (nI ba) (nI hyc) (nI ph) y_ready y_glyphCount (nI m) y_natural y_spaces y_lineCount y_paragraphs (gd_tI t) (gd_tI w) (gd_lI lg) (gd_kI kn) b_patA b_patB b_patC b_patDigits b_glyphs b_glyphOf b_bEnd b_bNext b_bHyphen b_least b_before b_way b_lFrom b_lTo b_lNumber b_lParagraph b_lPage b_lHyphen b_lLast b_best (f + 1) (dp_oe (if dp_vl σ s ≤ x.1 then (if x.1 = dp_vl σ s then (if dp_later σ 100 (16 * m + j) s = true then some (16 * m + j) else some s) else some s) else some (16 * m + j))) (nI (16 * m + (j + 1))) := ih
        rw [dp_vls hy] at ih
        refine br_f (nI_pos (by omega)) ⟨vp_in_nI (by omega) (by omega), vp_in_nI (by omega) (by omega), br_c (fun c1 => ?_) (fun c1 => ?_)⟩
        · have c1 : lN x.1 < lN y.1 := by rw [← hv, ← hv2]; exact c1
          have c1' := (pk_lLT (by omega) (by omega)).mp c1
          rw [if_neg (by omega)] at ih
          exact nm_r (nI_1 _) ih
        · have c1 : ¬ lN x.1 < lN y.1 := by rw [← hv, ← hv2]; exact c1
          have c1' : ¬ x.1 < y.1 := fun q => c1 ((pk_lLT (by omega) (by omega)).mpr q)
          rw [if_pos (by omega)] at ih
          refine ⟨vp_in_nI (by omega) (by omega), vp_in_nI (by omega) (by omega), br_c (fun c2 => ?_) (fun c2 => ?_)⟩
          · have c2 : lN x.1 = lN y.1 := by rw [← hv, ← hv2]; exact c2
            have c2' := (pk_lEQ (by omega) (by omega)).mp c2
            rw [if_pos c2'] at ih
            refine dy_later (M := 16 * (m + 1)) (by omega) hσ hA W hx hy (gd_bt (fun c3 => ?_) (fun c3 => ?_))
            · rw [if_neg (by rw [c3]; decide)] at ih
              exact nm_r (nI_1 _) ih
            · rw [if_pos c3] at ih
              exact nm_r (nI_1 _) ih
          · have c2 : ¬ lN x.1 = lN y.1 := by rw [← hv, ← hv2]; exact c2
            have c2' : ¬ x.1 = y.1 := fun q => c2 (by rw [q])
            rw [if_neg c2'] at ih
            exact nm_r (nI_1 _) ih
end
end
section
/-! the table of lines: from, to, hyphen, number, last, paragraph -/
abbrev lt_R : Type := Nat × Nat × Bool × Nat × Bool × Nat
abbrev lt_T : Type := Nat → lt_R
def lt_up (Λ : lt_T) (i : Nat) (r : lt_R) : lt_T := fun j => if j = i then r else Λ j
def lt_nat (t lg w : Nat → Nat) (kn : Nat → Int) (sw : Nat) (r : lt_R) : Int := rn_x t lg w kn sw r.1 r.2.1 r.2.1 + cond r.2.2.1 5 0
def lt_dif (t lg w : Nat → Nat) (kn : Nat → Int) (sw fw rw fl : Nat) (r : lt_R) : Int := (bd_due fw rw fl r.2.2.2.1 : Int) - lt_nat t lg w kn sw r
def lt_bad (t lg w : Nat → Nat) (kn : Nat → Int) (sw ss sk fw rw fl : Nat) (r : lt_R) : Int := bd_v ss sk (lt_dif t lg w kn sw fw rw fl r) (rn_sc t r.1 r.2.1) r.2.2.2.2.1
def lt_exv (sk : Nat) (d : Int) (sp : Nat) (last : Bool) : Int := if 0 < d then (if last = true then 0 else d) else if d ≤ -((sp * sk : Nat) : Int) then -((sp * sk : Nat) : Int) else d
def lt_ex (t lg w : Nat → Nat) (kn : Nat → Int) (sw sk fw rw fl : Nat) (r : lt_R) : Int := lt_exv sk (lt_dif t lg w kn sw fw rw fl r) (rn_sc t r.1 r.2.1) r.2.2.2.2.1
def xl_row (t lg w : Nat → Nat) (kn : Nat → Int) (sw ss sk fw rw fl : Nat) (F : Nat → Int32) (i : Nat) (r : lt_R) : Prop :=
  F (8 * i + 0) = nI r.1 ∧ F (8 * i + 1) = nI r.2.1 ∧ F (8 * i + 2) = gd_iI (lt_nat t lg w kn sw r) ∧ F (8 * i + 3) = gd_iI (lt_bad t lg w kn sw ss sk fw rw fl r) ∧ F (8 * i + 4) = gd_bI r.2.2.1 ∧ F (8 * i + 5) = nI r.2.2.2.2.2 ∧ F (8 * i + 7) = gd_iI (lt_ex t lg w kn sw sk fw rw fl r)
def xl_ok (t lg w : Nat → Nat) (kn : Nat → Int) (sw ss sk fw rw fl : Nat) (lc : Nat) (Λ : lt_T) (F : Nat → Int32) : Prop := ∀ i, i < lc → xl_row t lg w kn sw ss sk fw rw fl F i (Λ i)
/-- the lines of a way -/
def lt_seq (E N : Nat → Nat) (H : Nat → Bool) (m par : Nat) : lt_T → Nat → Nat → Nat → List Nat → lt_T
  | Λ, _, _, _, [] => Λ
  | Λ, lc, p, num, k :: l => lt_seq E N H m par (lt_up Λ lc (N p, E k, H k, num, decide (k = m), par)) (lc + 1) k (num + 1) l
/-- a way from break a to the last -/
def cs_ok (m : Nat) : Nat → List Nat → Prop
  | a, [] => a = m
  | a, k :: l => a < k ∧ k ≤ m ∧ cs_ok m k l
theorem cs_len {m : Nat} : ∀ l a, cs_ok m a l → a + l.length ≤ m := by
  intro l
  induction l with
  | nil => intro a h; rw [cs_ok] at h; simp; omega
  | cons k l ih =>
    intro a h
    rw [cs_ok] at h
    have := ih k h.2.2
    rw [List.length_cons]; omega
theorem cs_mem {m : Nat} : ∀ l a, cs_ok m a l → ∀ k, k ∈ l → a < k ∧ k ≤ m := by
  intro l
  induction l with
  | nil => intro a h k hk; exact absurd hk (by simp)
  | cons j l ih =>
    intro a h k hk
    rw [cs_ok] at h
    rcases List.mem_cons.mp hk with e | e
    · subst e; exact ⟨h.1, h.2.1⟩
    · have := ih j h.2.2 k e; omega
theorem lt_us {Λ : lt_T} {i : Nat} {r : lt_R} : lt_up Λ i r i = r := if_pos rfl
theorem lt_un {Λ : lt_T} {i j : Nat} {r : lt_R} (h : j ≠ i) : lt_up Λ i r j = Λ j := if_neg h
section
variable {n lc pc fw rw fl sw ss sk ba hyc ph : Nat} {t w lg : Nat → Nat} {kn : Nat → Int}
variable {m fr to par lnc : Nat} {E N : Nat → Nat} {H : Nat → Bool} {Λ : lt_T}
variable {x_breakCount x_lineCount x_paragraphCount x_stale : Int32} {a_patterns a_heads a_glyphs a_breakEnd a_breakNext a_breakHyphen a_breakTaken a_wayBefore a_lineFacts : Nat → Int32} {a_wayDemerits a_paragraphDemerits : Nat → Int64}
theorem bx_ext {post : Int32 → Prop} {d : Int} {sp : Nat} {last : Bool} (hd : -10000 ≤ d ∧ d ≤ 10000) (h2 : sk ≤ 20) (h3 : sp ≤ 48) (hp : post (gd_iI (lt_exv sk d sp last))) : wpX_extraOf post ((nI n), (nI lc), (nI pc), (nI fw), (nI rw), (nI fl), (nI sw), (nI ss), (nI sk), (nI ba), (nI hyc), (nI ph), x_breakCount, x_lineCount, x_paragraphCount, x_stale, (gd_tI t), (gd_tI w), (gd_lI lg), (gd_kI kn), a_patterns, a_heads, a_glyphs, a_breakEnd, a_breakNext, a_breakHyphen, a_breakTaken, a_wayDemerits, a_wayBefore, a_lineFacts, a_paragraphDemerits) (gd_iI d) (nI sp) (gd_bI last) := by
  have hq : sp * sk ≤ 48 * 20 := Nat.mul_le_mul h3 h2
  rw [lt_exv] at hp
  generalize hsk : sp * sk = v at *
  refine gd_zle d 0 (fun y => ?_) (fun y => ?_) rfl rfl (by omega) (by omega)
  · rw [if_neg (by omega)] at hp
    refine nm_r (e' := gd_iI (-(v : Int))) (by rw [pk_mul, hsk, gd_nat, gd_neg]) (gd_zle d (-(v : Int)) (fun y2 => ?_) (fun y2 => ?_) rfl rfl (by omega) (by omega))
    · rw [if_pos y2] at hp; exact hp
    · rw [if_neg (by omega)] at hp; exact hp
  · rw [if_pos y] at hp
    refine gd_bt (fun z => ?_) (fun z => ?_)
    · rw [if_neg (by rw [z]; decide)] at hp; exact hp
    · rw [if_pos z] at hp; exact hp
theorem ax_line {post : SX → Prop} {a b num : Nat} (C : cf_ok t w lg kn n fw rw fl sw ss sk ba hyc ph) (hton : to ≤ n) (hm : m ≤ 48) (ok : bk_ok t fr to m E N H) (xb : bk_xb m E N H a_breakEnd a_breakNext a_breakHyphen) (hab : a < b) (hbm : b ≤ m) (hnum : num < 1000) (hlc : lnc < 48) (X : (xl_ok t lg w kn sw ss sk fw rw fl) lnc Λ a_lineFacts)
    (hp : ∀ a_heads a_glyphs a_lineFacts, (xl_ok t lg w kn sw ss sk fw rw fl) (lnc + 1) (lt_up Λ lnc (N a, E b, H b, num, decide (b = m), par)) a_lineFacts → post ((nI n), (nI lc), (nI pc), (nI fw), (nI rw), (nI fl), (nI sw), (nI ss), (nI sk), (nI ba), (nI hyc), (nI ph), (nI (m + 1)), (nI (lnc + 1)), (nI par), x_stale, (gd_tI t), (gd_tI w), (gd_lI lg), (gd_kI kn), a_patterns, a_heads, a_glyphs, a_breakEnd, a_breakNext, a_breakHyphen, a_breakTaken, a_wayDemerits, a_wayBefore, a_lineFacts, a_paragraphDemerits)) :
    wpX_addLine post ((nI n), (nI lc), (nI pc), (nI fw), (nI rw), (nI fl), (nI sw), (nI ss), (nI sk), (nI ba), (nI hyc), (nI ph), (nI (m + 1)), (nI lnc), (nI par), x_stale, (gd_tI t), (gd_tI w), (gd_lI lg), (gd_kI kn), a_patterns, a_heads, a_glyphs, a_breakEnd, a_breakNext, a_breakHyphen, a_breakTaken, a_wayDemerits, a_wayBefore, a_lineFacts, a_paragraphDemerits) (nI a) (nI b) (nI num) := by
  obtain ⟨c1, c2, c3, c4, c5, c6, c7, c8, c9, c10, c11, c12, c13, c14⟩ := id C
  have hlt := bk_lt ok hab hbm
  have hEb := ok.2.1 b (by omega) hbm
  obtain ⟨x1, x2, x3⟩ := id xb
  have xE := x1 b (by omega) hbm
  have xN := x2 a (by omega)
  have xH := x3 b hbm
  have hd := ln_d_b (E := E) (N := N) (H := H) C (p := a) (k := b) (q := num) (by omega)
  have hsc := rn_sc_le (t := t) (s := N a) (E b)
  have key : ∀ z0, z0 = gd_bI (decide (b = m)) → wX_addLine_25 post (nI a) (nI b) (nI num) z0 (nI n) (nI lc) (nI pc) (nI fw) (nI rw) (nI fl) (nI sw) (nI ss) (nI sk) (nI ba) (nI hyc) (nI ph) (nI (m + 1)) (nI lnc) (nI par) x_stale (gd_tI t) (gd_tI w) (gd_lI lg) (gd_kI kn) a_patterns a_heads a_glyphs a_breakEnd a_breakNext a_breakHyphen a_breakTaken a_wayDemerits a_wayBefore a_lineFacts a_paragraphDemerits := by
    intro z0 hz
    subst hz
    unfold wX_addLine_25
    refine bx_nat c2 (by omega) (by omega) xN xE xH (by omega) (by omega) (fun a_heads a_glyphs => ?_)
    refine ⟨vp_in_nI (by omega) (by omega), vp_in_nI (by omega) (by omega), ?_⟩
    rw [nI_clamp (show a < 2 ^ 31 by omega), nI_clamp (show b < 2 ^ 31 by omega), xN, xE, xH]
    refine xc_spaces hlt (by omega) c2 (bx_due hnum c7 ?_)
    have ix : ∀ c, c < 8 → nI (8 * lnc) + nI c = nI (8 * lnc + c) := fun c _ => nI_add _ _
    have vi : ∀ c, c < 8 → vp_in (nI (8 * lnc + c)) 384 := fun c _ => vp_in_nI (by omega) (by omega)
    have cl : ∀ c, c < 8 → (nI (8 * lnc + c)).toNatClampNeg = 8 * lnc + c := fun c _ => nI_clamp (by omega)
    refine nm_r (e' := gd_iI ((ln_d t lg w kn sw fw rw fl E N H) a b num)) (by rw [gd_nat, gd_sub]; rfl) (nm_r (e' := nI (8 * lnc)) (by rw [show (8 : Int32) = nI 8 from rfl, pk_mul, Nat.mul_comm]) ?_)
    refine ⟨vp_in_nI (by omega) (by omega), ?_⟩
    rw [show (0 : Int32) = nI 0 from rfl, ix 0 (by omega), cl 0 (by omega)]
    refine ⟨vi 0 (by omega), nm_e ⟨vp_in_nI (by omega) (by omega), ?_⟩⟩
    rw [show (1 : Int32) = nI 1 from rfl, ix 1 (by omega), cl 1 (by omega)]
    refine ⟨vi 1 (by omega), nm_e ?_⟩
    rw [show (2 : Int32) = nI 2 from rfl, ix 2 (by omega), cl 2 (by omega)]
    refine ⟨vi 2 (by omega), nm_e (bx_bad hd c9 c10 (by omega) ?_)⟩
    rw [show (3 : Int32) = nI 3 from rfl, ix 3 (by omega), cl 3 (by omega)]
    refine ⟨vi 3 (by omega), nm_e ⟨vp_in_nI (by omega) (by omega), ?_⟩⟩
    have fin : ∀ z0, z0 = gd_bI (H b) → ∀ F, F = upd (upd (upd (upd a_lineFacts (8 * lnc + 0) (nI (N a))) (8 * lnc + 1) (nI (E b))) (8 * lnc + 2) (gd_iI ((ln_w t lg w kn sw E N H) a b))) (8 * lnc + 3) (gd_iI (bd_v ss sk ((ln_d t lg w kn sw fw rw fl E N H) a b num) (rn_sc t (N a) (E b)) (decide (b = m)))) → wX_addLine_154 post (gd_bI (decide (b = m))) (nI (rn_sc t (N a) (E b))) (gd_iI ((ln_d t lg w kn sw fw rw fl E N H) a b num)) (nI (8 * lnc)) z0 (nI (8 * lnc) + 4) (nI n) (nI lc) (nI pc) (nI fw) (nI rw) (nI fl) (nI sw) (nI ss) (nI sk) (nI ba) (nI hyc) (nI ph) (nI (m + 1)) (nI lnc) (nI par) x_stale (gd_tI t) (gd_tI w) (gd_lI lg) (gd_kI kn) a_patterns a_heads a_glyphs a_breakEnd a_breakNext a_breakHyphen a_breakTaken a_wayDemerits a_wayBefore F a_paragraphDemerits := by
      intro z0 hz F hF
      subst hz
      unfold wX_addLine_154
      rw [show (4 : Int32) = nI 4 from rfl, ix 4 (by omega), cl 4 (by omega), show (5 : Int32) = nI 5 from rfl, ix 5 (by omega), cl 5 (by omega), show (7 : Int32) = nI 7 from rfl, ix 7 (by omega), cl 7 (by omega)]
      refine ⟨vi 4 (by omega), nm_e ⟨vi 5 (by omega), nm_e (bx_ext hd c10 (by omega) ⟨vi 7 (by omega), nm_e (nm_r (nI_1 lnc) (hp _ _ _ (fun i hi => ?_)))⟩)⟩⟩
      by_cases e : i = lnc
      · subst e
        rw [lt_us]
        refine ⟨?_, ?_, ?_, ?_, ?_, ?_, ?_⟩ <;> rw [hF] <;> repeat (first | rw [pk_us] | rw [pk_un (by omega)])
        · rfl
        · rfl
        · rfl
      · rw [lt_un e, hF]
        obtain ⟨r0, r1, r2, r3, r4, r5, r7⟩ := X i (by omega)
        refine ⟨?_, ?_, ?_, ?_, ?_, ?_, ?_⟩ <;> repeat (rw [pk_un (by omega)])
        · exact r0
        · exact r1
        · exact r2
        · exact r3
        · exact r4
        · exact r5
        · exact r7
    refine gd_bt (fun z => fin _ (by rw [z]; rfl) _ rfl) (fun z => fin _ (by rw [z]; rfl) _ rfl)
  refine br_t (nI_lt (b := 48) hlc (by decide)) (pk_eq b m (fun y => key _ (by rw [decide_eq_true y]; rfl)) (fun y => key _ (by rw [decide_eq_false y]; rfl)) rfl (nI_pred m) (by omega) (by omega))
end
end
section
/-! the emergency way -/
def em_f (lb : Nat → Nat → Nat → Int) (a num : Nat) : Nat → Nat
  | 0 => a + 1
  | j + 1 => if lb a (a + 1 + j) num = -1 then em_f lb a num j else a + 1 + j
def em_l (lb : Nat → Nat → Nat → Int) (m : Nat) : Nat → Nat → Nat → List Nat
  | 0, _, _ => []
  | f + 1, a, num => if m ≤ a then [] else em_f lb a num (m - a) :: em_l lb m f (em_f lb a num (m - a)) (num + 1)
theorem em_f_b (lb : Nat → Nat → Nat → Int) (a num : Nat) : ∀ j, a + 1 ≤ em_f lb a num j ∧ em_f lb a num j ≤ a + 1 + (j - 1) := by
  intro j
  induction j with
  | zero => rw [em_f]; omega
  | succ j ih => rw [em_f]; split <;> omega
theorem em_l_ok (lb : Nat → Nat → Nat → Int) (m : Nat) : ∀ f a num, a ≤ m → m - a < f → cs_ok m a (em_l lb m f a num) := by
  intro f
  induction f with
  | zero => intro a num h1 h2; omega
  | succ f ih =>
    intro a num h1 h2
    rw [em_l]
    by_cases c : m ≤ a
    · rw [if_pos c, cs_ok]; omega
    · rw [if_neg c, cs_ok]
      have := em_f_b lb a num (m - a)
      exact ⟨by omega, by omega, ih _ _ (by omega) (by omega)⟩
/-- a way by states is a way -/
theorem cs_snoc {m : Nat} : ∀ l a k, cs_ok k a l → k < m → cs_ok m a (l ++ [m]) := by
  intro l
  induction l with
  | nil =>
    intro a k h1 h2
    rw [cs_ok] at h1
    rw [List.nil_append, cs_ok, cs_ok]
    omega
  | cons j l ih =>
    intro a k h1 h2
    rw [cs_ok] at h1
    rw [List.cons_append, cs_ok]
    exact ⟨h1.1, by omega, ih j k h1.2.2 h2⟩
theorem dp_pt_cs {σ : dp_S} (W : dp_wf σ) : ∀ f s x, s / 16 < f → σ s = some x → cs_ok (s / 16) 0 (dp_pt σ f s).reverse := by
  intro f
  induction f with
  | zero => intro s x h; omega
  | succ f ih =>
    intro s x h hx
    rw [dp_pt]
    by_cases c : s < 16
    · rw [if_pos c, List.reverse_nil, cs_ok]; omega
    · rw [if_neg c, dp_bfs hx, List.reverse_cons]
      obtain ⟨w1, y, hy⟩ := (W s x hx).2.2.2 (by omega)
      exact cs_snoc _ _ _ (ih x.2 y (by omega) hy) w1
/-- the best end, the way and its demerits -/
def pr_cs (lb : Nat → Nat → Nat → Int) (σ : dp_S) (m : Nat) : List Nat := match dp_be σ m 16 with
  | some e => (dp_pt σ 100 e).reverse
  | none => em_l lb m 49 0 0
def pr_v (σ : dp_S) (m : Nat) : Int64 := match dp_be σ m 16 with
  | some e => lN (dp_vl σ e)
  | none => -1
theorem pr_cs_ok {lb : Nat → Nat → Nat → Int} {σ : dp_S} {m : Nat} (W : dp_wf σ) (hm : m ≤ 48) : cs_ok m 0 (pr_cs lb σ m) := by
  rw [pr_cs]
  cases h : dp_be σ m 16 with
  | none => exact em_l_ok lb m 49 0 0 (by omega) (by omega)
  | some e =>
    obtain ⟨b1, b2, x, hx⟩ := dp_be_in 16 e h
    have := dp_pt_cs W 100 e x (by omega) hx
    rw [show e / 16 = m by omega] at this
    exact this
section
variable {n lc pc fw rw fl sw ss sk ba hyc ph : Nat} {t w lg : Nat → Nat} {kn : Nat → Int}
variable {m fr to par lnc : Nat} {E N : Nat → Nat} {H : Nat → Bool} {Λ : lt_T}
variable {x_breakCount x_lineCount x_paragraphCount x_stale : Int32} {a_patterns a_heads a_glyphs a_breakEnd a_breakNext a_breakHyphen a_breakTaken a_wayBefore a_lineFacts : Nat → Int32} {a_wayDemerits a_paragraphDemerits : Nat → Int64}
theorem ax_end {post : Int32 → SX → Prop} {a num : Nat} (C : cf_ok t w lg kn n fw rw fl sw ss sk ba hyc ph) (hton : to ≤ n) (hm : m ≤ 48) (ok : bk_ok t fr to m E N H) (xb : bk_xb m E N H a_breakEnd a_breakNext a_breakHyphen) (ham : a < m) (hnum : num < 1000)
    (hp : ∀ a_heads a_glyphs, post (nI (em_f (ln_b t lg w kn sw ss sk fw rw fl m E N H) a num (m - a))) ((nI n), (nI lc), (nI pc), (nI fw), (nI rw), (nI fl), (nI sw), (nI ss), (nI sk), (nI ba), (nI hyc), (nI ph), (nI (m + 1)), x_lineCount, x_paragraphCount, x_stale, (gd_tI t), (gd_tI w), (gd_lI lg), (gd_kI kn), a_patterns, a_heads, a_glyphs, a_breakEnd, a_breakNext, a_breakHyphen, a_breakTaken, a_wayDemerits, a_wayBefore, a_lineFacts, a_paragraphDemerits)) : wpX_emergencyEnd post ((nI n), (nI lc), (nI pc), (nI fw), (nI rw), (nI fl), (nI sw), (nI ss), (nI sk), (nI ba), (nI hyc), (nI ph), (nI (m + 1)), x_lineCount, x_paragraphCount, x_stale, (gd_tI t), (gd_tI w), (gd_lI lg), (gd_kI kn), a_patterns, a_heads, a_glyphs, a_breakEnd, a_breakNext, a_breakHyphen, a_breakTaken, a_wayDemerits, a_wayBefore, a_lineFacts, a_paragraphDemerits) (nI a) (nI num) := by
  obtain ⟨c1, c2, c3, c4, c5, c6, c7, c8, c9, c10, c11, c12, c13, c14⟩ := id C
  obtain ⟨x1, x2, x3⟩ := id xb
  have loop : ∀ f b, b + f = m + 1 → a < b → ∀ a_heads a_glyphs, wX_emergencyEnd_9 post (nI a) (nI num) (f + 1) (nI (em_f (ln_b t lg w kn sw ss sk fw rw fl m E N H) a num (b - (a + 1)))) (nI b) (nI n) (nI lc) (nI pc) (nI fw) (nI rw) (nI fl) (nI sw) (nI ss) (nI sk) (nI ba) (nI hyc) (nI ph) (nI (m + 1)) x_lineCount x_paragraphCount x_stale (gd_tI t) (gd_tI w) (gd_lI lg) (gd_kI kn) a_patterns a_heads a_glyphs a_breakEnd a_breakNext a_breakHyphen a_breakTaken a_wayDemerits a_wayBefore a_lineFacts a_paragraphDemerits := by
    intro f
    induction f with
    | zero =>
      intro b hb hab a_heads a_glyphs
      have : b = m + 1 := by omega
      subst this
      rw [show m + 1 - (a + 1) = m - a by omega]
      exact br_t (nI_le (Nat.le_refl _) (by omega)) (hp _ _)
    | succ f ih =>
      intro b hb hab a_heads a_glyphs
      have hlt := bk_lt ok hab (show b ≤ m by omega)
      have hEb := ok.2.1 b (by omega) (by omega)
      have xE := x1 b (by omega) (by omega)
      have xN := x2 a ham
      have hd := ln_d_b (E := E) (N := N) (H := H) C (p := a) (k := b) (q := num) (by omega)
      have hsc := rn_sc_le (t := t) (s := N a) (E b)
      have hbv : -1 ≤ (ln_b t lg w kn sw ss sk fw rw fl m E N H) a b num ∧ (ln_b t lg w kn sw ss sk fw rw fl m E N H) a b num ≤ 10000 := bd_v_b _ _ _ _ _
      refine br_f (nI_ge (by omega) (by omega)) (bx_due hnum c7 ?_)
      refine bx_nat c2 (by omega) (by omega) xN xE (x3 b (by omega)) (by omega) (by omega) (fun a_heads a_glyphs => ?_)
      refine nm_r (e' := gd_iI ((ln_d t lg w kn sw fw rw fl E N H) a b num)) (by rw [gd_nat, gd_sub]; rfl) ⟨vp_in_nI (by omega) (by omega), vp_in_nI (by omega) (by omega), ?_⟩
      rw [nI_clamp (show a < 2 ^ 31 by omega), nI_clamp (show b < 2 ^ 31 by omega), xN, xE]
      refine xc_spaces hlt (by omega) c2 ?_
      have ih := ih (b + 1) (by omega) (by omega) a_heads a_glyphs
      rw [show b + 1 - (a + 1) = b - (a + 1) + 1 by omega, em_f, show a + 1 + (b - (a + 1)) = b by omega] at ih
      have key : ∀ z0, z0 = gd_bI (decide (b = m)) → wX_emergencyEnd_73 post (wX_emergencyEnd_9 post (nI a) (nI num) (f + 1)) (nI a) (nI num) (nI (em_f (ln_b t lg w kn sw ss sk fw rw fl m E N H) a num (b - (a + 1)))) (nI b) z0 (nI (rn_sc t (N a) (E b))) (gd_iI ((ln_d t lg w kn sw fw rw fl E N H) a b num)) (nI n) (nI lc) (nI pc) (nI fw) (nI rw) (nI fl) (nI sw) (nI ss) (nI sk) (nI ba) (nI hyc) (nI ph) (nI (m + 1)) x_lineCount x_paragraphCount x_stale (gd_tI t) (gd_tI w) (gd_lI lg) (gd_kI kn) a_patterns a_heads a_glyphs a_breakEnd a_breakNext a_breakHyphen a_breakTaken a_wayDemerits a_wayBefore a_lineFacts a_paragraphDemerits := by
        intro z0 hz
        subst hz
        unfold wX_emergencyEnd_73
        refine bx_bad hd c9 c10 (by omega) ?_
        rw [show bd_v ss sk ((ln_d t lg w kn sw fw rw fl E N H) a b num) (rn_sc t (N a) (E b)) (decide (b = m)) = (ln_b t lg w kn sw ss sk fw rw fl m E N H) a b num from rfl]
        refine gd_zeq ((ln_b t lg w kn sw ss sk fw rw fl m E N H) a b num) (-1) (fun y => ?_) (fun y => ?_) rfl rfl (by omega) (by omega)
        · rw [if_pos y] at ih
          exact nm_r (nI_1 b) ih
        · rw [if_neg y] at ih
          exact nm_r (nI_1 b) ih
      exact pk_eq b m (fun y => key _ (by rw [decide_eq_true y]; rfl)) (fun y => key _ (by rw [decide_eq_false y]; rfl)) rfl (nI_pred m) (by omega) (by omega)
  refine nm_r (e' := nI (em_f (ln_b t lg w kn sw ss sk fw rw fl m E N H) a num (a + 1 - (a + 1)))) (by rw [show a + 1 - (a + 1) = 0 by omega, em_f, nI_1]) (nm_r (nI_1 a) ⟨m - a + 1, loop (m - a) (a + 1) (by omega) (by omega) _ _⟩)
theorem ax_emer {post : SX → Prop} (C : cf_ok t w lg kn n fw rw fl sw ss sk ba hyc ph) (hton : to ≤ n) (hm : m ≤ 48) (ok : bk_ok t fr to m E N H) (xb : bk_xb m E N H a_breakEnd a_breakNext a_breakHyphen)
    (hp : ∀ a_heads a_glyphs a_breakTaken', (∀ k, a_breakTaken' k = if k ∈ em_l (ln_b t lg w kn sw ss sk fw rw fl m E N H) m 49 0 0 then 1 else a_breakTaken k) → post ((nI n), (nI lc), (nI pc), (nI fw), (nI rw), (nI fl), (nI sw), (nI ss), (nI sk), (nI ba), (nI hyc), (nI ph), (nI (m + 1)), x_lineCount, x_paragraphCount, x_stale, (gd_tI t), (gd_tI w), (gd_lI lg), (gd_kI kn), a_patterns, a_heads, a_glyphs, a_breakEnd, a_breakNext, a_breakHyphen, a_breakTaken', a_wayDemerits, a_wayBefore, a_lineFacts, a_paragraphDemerits)) : wpX_takeEmergencyWay post ((nI n), (nI lc), (nI pc), (nI fw), (nI rw), (nI fl), (nI sw), (nI ss), (nI sk), (nI ba), (nI hyc), (nI ph), (nI (m + 1)), x_lineCount, x_paragraphCount, x_stale, (gd_tI t), (gd_tI w), (gd_lI lg), (gd_kI kn), a_patterns, a_heads, a_glyphs, a_breakEnd, a_breakNext, a_breakHyphen, a_breakTaken, a_wayDemerits, a_wayBefore, a_lineFacts, a_paragraphDemerits) := by
  have loop : ∀ f a num a_heads a_glyphs a_breakTaken, a ≤ m → m - a < f → num ≤ a → (∀ a_heads a_glyphs a_breakTaken', (∀ k, a_breakTaken' k = if k ∈ em_l (ln_b t lg w kn sw ss sk fw rw fl m E N H) m f a num then 1 else a_breakTaken k) → post ((nI n), (nI lc), (nI pc), (nI fw), (nI rw), (nI fl), (nI sw), (nI ss), (nI sk), (nI ba), (nI hyc), (nI ph), (nI (m + 1)), x_lineCount, x_paragraphCount, x_stale, (gd_tI t), (gd_tI w), (gd_lI lg), (gd_kI kn), a_patterns, a_heads, a_glyphs, a_breakEnd, a_breakNext, a_breakHyphen, a_breakTaken', a_wayDemerits, a_wayBefore, a_lineFacts, a_paragraphDemerits)) → wX_takeEmergencyWay_4 post f (nI a) (nI num) (nI n) (nI lc) (nI pc) (nI fw) (nI rw) (nI fl) (nI sw) (nI ss) (nI sk) (nI ba) (nI hyc) (nI ph) (nI (m + 1)) x_lineCount x_paragraphCount x_stale (gd_tI t) (gd_tI w) (gd_lI lg) (gd_kI kn) a_patterns a_heads a_glyphs a_breakEnd a_breakNext a_breakHyphen a_breakTaken a_wayDemerits a_wayBefore a_lineFacts a_paragraphDemerits := by
    intro f
    induction f with
    | zero => intro a num a_heads a_glyphs a_breakTaken h1 h2; omega
    | succ f ih =>
      intro a num a_heads a_glyphs a_breakTaken h1 h2 h3 hp
      rw [em_l] at hp
      refine br_f (nI_ge (b := 49) (by omega) (by decide)) (pk_le m a (fun y => ?_) (fun y => ?_) (nI_pred m) rfl (by omega) (by omega))
      · rw [if_pos y] at hp
        exact hp _ _ _ (fun k => by rw [if_neg (by simp)])
      · rw [if_neg (by omega)] at hp
        have hb := em_f_b (ln_b t lg w kn sw ss sk fw rw fl m E N H) a num (m - a)
        refine ax_end C hton hm ok xb y (by omega) (fun a_heads a_glyphs => ⟨vp_in_nI (by omega) (by omega), nm_r (e' := upd a_breakTaken (em_f (ln_b t lg w kn sw ss sk fw rw fl m E N H) a num (m - a)) 1) (by rw [nI_clamp (by omega), gd_b1]) (nm_r (nI_1 num) (ih _ (num + 1) _ _ _ (by omega) (by omega) (by omega) (fun a_heads a_glyphs a_breakTaken' hT => hp _ _ _ (fun k => ?_))))⟩)
        rw [hT k]
        by_cases m1 : k ∈ em_l (ln_b t lg w kn sw ss sk fw rw fl m E N H) m f (em_f (ln_b t lg w kn sw ss sk fw rw fl m E N H) a num (m - a)) (num + 1)
        · rw [if_pos m1, if_pos (List.mem_cons_of_mem _ m1)]
        · rw [if_neg m1]
          by_cases e : k = em_f (ln_b t lg w kn sw ss sk fw rw fl m E N H) a num (m - a)
          · rw [e, pk_us, if_pos (List.mem_cons_self ..)]
          · rw [pk_un e, if_neg (fun z => by rcases List.mem_cons.mp z with z | z; exact e z; exact m1 z)]
  exact ⟨49, loop 49 0 0 _ _ _ (by omega) (by omega) (by omega) hp⟩
theorem ax_best {post : Int64 → SX → Prop} (C : cf_ok t w lg kn n fw rw fl sw ss sk ba hyc ph) (hton : to ≤ n) (hm : m ≤ 48) (ok : bk_ok t fr to m E N H) (xb : bk_xb m E N H a_breakEnd a_breakNext a_breakHyphen)
    (hpN : dp_be (dp_all (ln_v t lg w kn sw ss sk fw rw fl ba hyc m E N H) m) m 16 = none → ∀ a_heads a_glyphs a_wayDemerits a_wayBefore, post (-1) ((nI n), (nI lc), (nI pc), (nI fw), (nI rw), (nI fl), (nI sw), (nI ss), (nI sk), (nI ba), (nI hyc), (nI ph), (nI (m + 1)), x_lineCount, x_paragraphCount, x_stale, (gd_tI t), (gd_tI w), (gd_lI lg), (gd_kI kn), a_patterns, a_heads, a_glyphs, a_breakEnd, a_breakNext, a_breakHyphen, a_breakTaken, a_wayDemerits, a_wayBefore, a_lineFacts, a_paragraphDemerits))
    (hpS : ∀ e, dp_be (dp_all (ln_v t lg w kn sw ss sk fw rw fl ba hyc m E N H) m) m 16 = some e → dp_vl (dp_all (ln_v t lg w kn sw ss sk fw rw fl ba hyc m E N H) m) e < 2 ^ 62 → ∀ a_heads a_glyphs a_wayDemerits a_wayBefore a_breakTaken', (∀ k, a_breakTaken' k = if k ∈ dp_pt (dp_all (ln_v t lg w kn sw ss sk fw rw fl ba hyc m E N H) m) 100 e then 1 else a_breakTaken k) → post (lN (dp_vl (dp_all (ln_v t lg w kn sw ss sk fw rw fl ba hyc m E N H) m) e)) ((nI n), (nI lc), (nI pc), (nI fw), (nI rw), (nI fl), (nI sw), (nI ss), (nI sk), (nI ba), (nI hyc), (nI ph), (nI (m + 1)), x_lineCount, x_paragraphCount, x_stale, (gd_tI t), (gd_tI w), (gd_lI lg), (gd_kI kn), a_patterns, a_heads, a_glyphs, a_breakEnd, a_breakNext, a_breakHyphen, a_breakTaken', a_wayDemerits, a_wayBefore, a_lineFacts, a_paragraphDemerits)) :
    wpX_takeBestWay post ((nI n), (nI lc), (nI pc), (nI fw), (nI rw), (nI fl), (nI sw), (nI ss), (nI sk), (nI ba), (nI hyc), (nI ph), (nI (m + 1)), x_lineCount, x_paragraphCount, x_stale, (gd_tI t), (gd_tI w), (gd_lI lg), (gd_kI kn), a_patterns, a_heads, a_glyphs, a_breakEnd, a_breakNext, a_breakHyphen, a_breakTaken, a_wayDemerits, a_wayBefore, a_lineFacts, a_paragraphDemerits) := by
  have hL : dp_ln (ln_v t lg w kn sw ss sk fw rw fl ba hyc m E N H) := ln_ok C
  refine dx_ways C hton hm ok xb (fun g a_heads a_glyphs a_wayDemerits a_wayBefore hA => ?_)
  have W := dp_all_wf hL m hm
  have hσ := dp_all_M hL m
  refine br_t (by rw [nI_pred]; exact nI_le (Nat.le_refl _) (by omega)) (dx_best hm W hσ hA ?_)
  cases he : dp_be (dp_all (ln_v t lg w kn sw ss sk fw rw fl ba hyc m E N H) m) m 16 with
  | none => exact br_t rfl (hpN he _ _ _ _)
  | some e =>
    obtain ⟨b1, b2, x, hx⟩ := dp_be_in 16 e he
    have hxb := dp_wf_v W hx
    refine br_f (gd_nm1 (by omega)) (dx_take (M := 16 * (m + 1)) (by omega) W hσ hA hx (fun a_breakTaken' hT => ⟨vp_in_nI (by omega) (by omega), ?_⟩))
    have hv : a_wayDemerits (nI e).toNatClampNeg = lN (dp_vl (dp_all (ln_v t lg w kn sw ss sk fw rw fl ba hyc m E N H) m) e) := by rw [nI_clamp (by omega), dp_vls hx]; exact ((hA e (by omega)).2 x hx).1
    show post (a_wayDemerits (nI e).toNatClampNeg) _
    rw [hv]
    exact hpS e he (by rw [dp_vls hx]; omega) _ _ _ _ _ hT
theorem ax_lines {post : SX → Prop} (C : cf_ok t w lg kn n fw rw fl sw ss sk ba hyc ph) (hton : to ≤ n) (hm : m ≤ 48) (ok : bk_ok t fr to m E N H) (xb : bk_xb m E N H a_breakEnd a_breakNext a_breakHyphen) {cs : List Nat} (hcs : cs_ok m 0 cs) (hT : ∀ k, 1 ≤ k → k ≤ m → a_breakTaken k = if k ∈ cs then 1 else 0) (hl48 : lnc + cs.length ≤ 48) (X : (xl_ok t lg w kn sw ss sk fw rw fl) lnc Λ a_lineFacts)
    (hp : ∀ a_heads a_glyphs a_lineFacts, (xl_ok t lg w kn sw ss sk fw rw fl) (lnc + cs.length) (lt_seq E N H m par Λ lnc 0 0 cs) a_lineFacts → post ((nI n), (nI lc), (nI pc), (nI fw), (nI rw), (nI fl), (nI sw), (nI ss), (nI sk), (nI ba), (nI hyc), (nI ph), (nI (m + 1)), (nI (lnc + cs.length)), (nI par), x_stale, (gd_tI t), (gd_tI w), (gd_lI lg), (gd_kI kn), a_patterns, a_heads, a_glyphs, a_breakEnd, a_breakNext, a_breakHyphen, a_breakTaken, a_wayDemerits, a_wayBefore, a_lineFacts, a_paragraphDemerits)) :
    wpX_addLines post ((nI n), (nI lc), (nI pc), (nI fw), (nI rw), (nI fl), (nI sw), (nI ss), (nI sk), (nI ba), (nI hyc), (nI ph), (nI (m + 1)), (nI lnc), (nI par), x_stale, (gd_tI t), (gd_tI w), (gd_lI lg), (gd_kI kn), a_patterns, a_heads, a_glyphs, a_breakEnd, a_breakNext, a_breakHyphen, a_breakTaken, a_wayDemerits, a_wayBefore, a_lineFacts, a_paragraphDemerits) := by
  have loop : ∀ f b a num cs lnc Λ a_heads a_glyphs a_lineFacts, b + f = m + 1 → a < b → cs_ok m a cs → (∀ k, k ∈ cs → b ≤ k) → (∀ k, b ≤ k → k ≤ m → a_breakTaken k = if k ∈ cs then 1 else 0) → num ≤ a → lnc + cs.length ≤ 48 → (xl_ok t lg w kn sw ss sk fw rw fl) lnc Λ a_lineFacts →
      (∀ a_heads a_glyphs a_lineFacts, (xl_ok t lg w kn sw ss sk fw rw fl) (lnc + cs.length) (lt_seq E N H m par Λ lnc a num cs) a_lineFacts → post ((nI n), (nI lc), (nI pc), (nI fw), (nI rw), (nI fl), (nI sw), (nI ss), (nI sk), (nI ba), (nI hyc), (nI ph), (nI (m + 1)), (nI (lnc + cs.length)), (nI par), x_stale, (gd_tI t), (gd_tI w), (gd_lI lg), (gd_kI kn), a_patterns, a_heads, a_glyphs, a_breakEnd, a_breakNext, a_breakHyphen, a_breakTaken, a_wayDemerits, a_wayBefore, a_lineFacts, a_paragraphDemerits)) →
      wX_addLines_6 post (f + 1) (nI a) (nI num) (nI b) (nI n) (nI lc) (nI pc) (nI fw) (nI rw) (nI fl) (nI sw) (nI ss) (nI sk) (nI ba) (nI hyc) (nI ph) (nI (m + 1)) (nI lnc) (nI par) x_stale (gd_tI t) (gd_tI w) (gd_lI lg) (gd_kI kn) a_patterns a_heads a_glyphs a_breakEnd a_breakNext a_breakHyphen a_breakTaken a_wayDemerits a_wayBefore a_lineFacts a_paragraphDemerits := by
    intro f
    induction f with
    | zero =>
      intro b a num cs lnc Λ a_heads a_glyphs a_lineFacts hb hab hcs hge hT hn1 hl X hp
      have : b = m + 1 := by omega
      subst this
      cases cs with
      | nil => exact br_t (nI_le (Nat.le_refl _) (by omega)) (hp _ _ _ X)
      | cons k l =>
        have := hge k (List.mem_cons_self ..)
        have := (cs_mem _ _ hcs k (List.mem_cons_self ..)).2
        omega
    | succ f ih =>
      intro b a num cs lnc Λ a_heads a_glyphs a_lineFacts hb hab hcs hge hT hn1 hl X hp
      have hTb := hT b (Nat.le_refl _) (by omega)
      refine br_f (nI_ge (by omega) (by omega)) ⟨vp_in_nI (by omega) (by omega), ?_⟩
      by_cases mb : b ∈ cs
      · rw [if_pos mb] at hTb
        refine br_f (by rw [nI_clamp (by omega), hTb]; decide) ?_
        cases cs with
        | nil => exact absurd mb (by simp)
        | cons k l =>
          have hcs' := hcs
          rw [cs_ok] at hcs'
          have hkb : k = b := by
            rcases List.mem_cons.mp mb with e | e
            · exact e.symm
            · have h1 := (cs_mem _ _ hcs'.2.2 b e).1
              have h2 := hge k (List.mem_cons_self ..)
              omega
          subst hkb
          rw [List.length_cons] at hl hp
          refine ax_line C hton hm ok xb hab (by omega) (by omega) (by omega) X (fun a_heads a_glyphs a_lineFacts X' => ?_)
          refine nm_r (nI_1 num) (nm_r (nI_1 k) (ih (k + 1) k (num + 1) l (lnc + 1) _ _ _ _ (by omega) (by omega) hcs'.2.2 (fun j hj => (cs_mem _ _ hcs'.2.2 j hj).1) (fun j h1 h2 => ?_) (by omega) (by omega) X' ?_))
          · rw [hT j (by omega) h2]
            by_cases mj : j ∈ l
            · rw [if_pos mj, if_pos (List.mem_cons_of_mem _ mj)]
            · rw [if_neg mj, if_neg (fun z => by rcases List.mem_cons.mp z with z | z; omega; exact mj z)]
          · intro a_heads a_glyphs a_lineFacts X''
            have e : lnc + 1 + l.length = lnc + (l.length + 1) := by omega
            rw [e] at X'' ⊢
            exact hp _ _ _ X''
      · rw [if_neg mb] at hTb
        refine br_t (by rw [nI_clamp (by omega), hTb]) (nm_r (nI_1 b) (ih (b + 1) a num cs lnc Λ _ _ _ (by omega) (by omega) hcs (fun k hk => ?_) (fun k h1 h2 => hT k (by omega) h2) hn1 hl X hp))
        have := hge k hk
        rcases Nat.lt_or_ge b k with z | z
        · exact z
        · have : k = b := by omega
          subst this
          exact absurd hk mb
  exact ⟨m + 1, loop m 1 0 0 cs lnc Λ _ _ _ (by omega) (by omega) hcs (fun k hk => (cs_mem _ _ hcs k hk).1) hT (by omega) hl48 X hp⟩
end
end
section
theorem cs_getL {l1 l2 : List Nat} {i : Nat} (h : i < l1.length) : (l1 ++ l2).getD i 0 = l1.getD i 0 := by
  rw [List.getD_eq_getElem?_getD, List.getD_eq_getElem?_getD, List.getElem?_append_left h]
theorem cs_getR {l : List Nat} {k : Nat} : (l ++ [k]).getD l.length 0 = k := by
  rw [List.getD_eq_getElem?_getD, List.getElem?_append_right (Nat.le_refl _), Nat.sub_self]; rfl
def yl_row (b_lFrom b_lTo b_lNumber b_lParagraph b_lHyphen b_lLast : Nat → Int32) (i : Nat) (r : lt_R) : Prop :=
  b_lFrom i = nI r.1 ∧ b_lTo i = nI r.2.1 ∧ b_lHyphen i = gd_bI r.2.2.1 ∧ b_lNumber i = nI r.2.2.2.1 ∧ b_lLast i = gd_bI r.2.2.2.2.1 ∧ b_lParagraph i = nI r.2.2.2.2.2
def yl_ok (lc : Nat) (Λ : lt_T) (b_lFrom b_lTo b_lNumber b_lParagraph b_lHyphen b_lLast : Nat → Int32) : Prop := ∀ i, i < lc → yl_row b_lFrom b_lTo b_lNumber b_lParagraph b_lHyphen b_lLast i (Λ i)
section
variable {n lc pc fw rw fl sw ss sk ba hyc ph : Nat} {t w lg : Nat → Nat} {kn : Nat → Int}
variable {σ : dp_S} {m fr to par lnc : Nat} {E N : Nat → Nat} {H : Nat → Bool} {Λ : lt_T}
variable {y_ready y_glyphCount y_breaks y_natural y_spaces y_lineCount y_paragraphs : Int32} {b_patA b_patB b_patC b_patDigits b_glyphs b_glyphOf b_bEnd b_bNext b_bHyphen b_before b_way b_lFrom b_lTo b_lNumber b_lParagraph b_lPage b_lHyphen b_lLast : Nat → Int32} {b_least b_best : Nat → Int64}
theorem ay_keep {post : SY → Prop} {p k num : Nat} {last : Bool} (hm : m ≤ 48) (yb : bk_xb m E N H b_bEnd b_bNext b_bHyphen) (hpk : p < k) (hkm : k ≤ m) (hlc : lnc < 48) (Y : yl_ok lnc Λ b_lFrom b_lTo b_lNumber b_lParagraph b_lHyphen b_lLast)
    (hp : ∀ b_lFrom b_lTo b_lNumber b_lParagraph b_lHyphen b_lLast, yl_ok (lnc + 1) (lt_up Λ lnc (N p, E k, H k, num, last, par)) b_lFrom b_lTo b_lNumber b_lParagraph b_lHyphen b_lLast → post ((nI n), (nI lc), (nI pc), (nI fw), (nI rw), (nI fl), (nI sw), (nI ss), (nI sk), (nI ba), (nI hyc), (nI ph), y_ready, y_glyphCount, (nI m), y_natural, y_spaces, (nI (lnc + 1)), (nI par), (gd_tI t), (gd_tI w), (gd_lI lg), (gd_kI kn), b_patA, b_patB, b_patC, b_patDigits, b_glyphs, b_glyphOf, b_bEnd, b_bNext, b_bHyphen, b_least, b_before, b_way, b_lFrom, b_lTo, b_lNumber, b_lParagraph, b_lPage, b_lHyphen, b_lLast, b_best)) :
    wpY_keep post ((nI n), (nI lc), (nI pc), (nI fw), (nI rw), (nI fl), (nI sw), (nI ss), (nI sk), (nI ba), (nI hyc), (nI ph), y_ready, y_glyphCount, (nI m), y_natural, y_spaces, (nI lnc), (nI par), (gd_tI t), (gd_tI w), (gd_lI lg), (gd_kI kn), b_patA, b_patB, b_patC, b_patDigits, b_glyphs, b_glyphOf, b_bEnd, b_bNext, b_bHyphen, b_least, b_before, b_way, b_lFrom, b_lTo, b_lNumber, b_lParagraph, b_lPage, b_lHyphen, b_lLast, b_best) (nI p) (nI k) (nI num) (gd_bI last) := by
  obtain ⟨y1, y2, y3⟩ := id yb
  have vl : vp_in (nI lnc) 48 := vp_in_nI hlc (by omega)
  have vk : vp_in (nI k) 50 := vp_in_nI (by omega) (by omega)
  refine ⟨vp_in_nI (by omega) (by omega), vl, nm_r (e' := upd b_lFrom lnc (nI (N p))) (by rw [nI_clamp (show p < 2 ^ 31 by omega), nI_clamp (show lnc < 2 ^ 31 by omega), y2 p (by omega)]) ⟨vk, vl, nm_r (e' := upd b_lTo lnc (nI (E k))) (by rw [nI_clamp (show k < 2 ^ 31 by omega), nI_clamp (show lnc < 2 ^ 31 by omega), y1 k (by omega) hkm]) ⟨vk, vl, nm_r (e' := upd b_lHyphen lnc (gd_bI (H k))) (by rw [nI_clamp (show k < 2 ^ 31 by omega), nI_clamp (show lnc < 2 ^ 31 by omega), y3 k hkm, gd_bn]) ⟨vl, nm_r (e' := upd b_lNumber lnc (nI num)) (by rw [nI_clamp (show lnc < 2 ^ 31 by omega)]) ⟨vl, nm_r (e' := upd b_lLast lnc (gd_bI last)) (by rw [nI_clamp (show lnc < 2 ^ 31 by omega), gd_bn]) (nm_r (nI_1 lnc) ⟨vl, nm_r (e' := upd b_lParagraph lnc (nI par)) (by rw [nI_clamp (show lnc < 2 ^ 31 by omega)]) (hp _ _ _ _ _ _ (fun i hi => ?_))⟩)⟩⟩⟩⟩⟩
  by_cases e : i = lnc
  · subst e
    rw [lt_us]
    exact ⟨pk_us, pk_us, pk_us, pk_us, pk_us, pk_us⟩
  · rw [lt_un e]
    obtain ⟨r1, r2, r3, r4, r5, r6⟩ := Y i (by omega)
    exact ⟨by rw [pk_un e]; exact r1, by rw [pk_un e]; exact r2, by rw [pk_un e]; exact r3, by rw [pk_un e]; exact r4, by rw [pk_un e]; exact r5, by rw [pk_un e]; exact r6⟩
/-- Y keeps the lines of a way that stands in its array, the last break first -/
theorem ay_way (post : Int32 → SY → Prop) (hm : m ≤ 48) (yb : bk_xb m E N H b_bEnd b_bNext b_bHyphen) :
    ∀ cs p num lnc Λ b_lFrom b_lTo b_lNumber b_lParagraph b_lHyphen b_lLast, cs_ok m p cs → num ≤ p → lnc + cs.length ≤ 48 → (∀ i, i < cs.length → b_way i = nI (cs.reverse.getD i 0)) → yl_ok lnc Λ b_lFrom b_lTo b_lNumber b_lParagraph b_lHyphen b_lLast →
      (∀ b_lFrom b_lTo b_lNumber b_lParagraph b_lHyphen b_lLast, yl_ok (lnc + cs.length) (lt_seq E N H m par Λ lnc p num cs) b_lFrom b_lTo b_lNumber b_lParagraph b_lHyphen b_lLast → post 1 ((nI n), (nI lc), (nI pc), (nI fw), (nI rw), (nI fl), (nI sw), (nI ss), (nI sk), (nI ba), (nI hyc), (nI ph), y_ready, y_glyphCount, (nI m), y_natural, y_spaces, (nI (lnc + cs.length)), (nI par), (gd_tI t), (gd_tI w), (gd_lI lg), (gd_kI kn), b_patA, b_patB, b_patC, b_patDigits, b_glyphs, b_glyphOf, b_bEnd, b_bNext, b_bHyphen, b_least, b_before, b_way, b_lFrom, b_lTo, b_lNumber, b_lParagraph, b_lPage, b_lHyphen, b_lLast, b_best)) →
      wY_bestWay_223 post (cs.length + 1) (nI cs.length) (nI p) (nI num) (nI n) (nI lc) (nI pc) (nI fw) (nI rw) (nI fl) (nI sw) (nI ss) (nI sk) (nI ba) (nI hyc) (nI ph) y_ready y_glyphCount (nI m) y_natural y_spaces (nI lnc) (nI par) (gd_tI t) (gd_tI w) (gd_lI lg) (gd_kI kn) b_patA b_patB b_patC b_patDigits b_glyphs b_glyphOf b_bEnd b_bNext b_bHyphen b_least b_before b_way b_lFrom b_lTo b_lNumber b_lParagraph b_lPage b_lHyphen b_lLast b_best := by
  intro cs
  induction cs with
  | nil =>
    intro p num lnc Λ b_lFrom b_lTo b_lNumber b_lParagraph b_lHyphen b_lLast hcs hn1 hl hw Y hp
    exact br_t (by decide) (hp _ _ _ _ _ _ Y)
  | cons k l ih =>
    intro p num lnc Λ b_lFrom b_lTo b_lNumber b_lParagraph b_lHyphen b_lLast hcs hn1 hl hw Y hp
    rw [cs_ok] at hcs
    have hlen := cs_len _ _ hcs.2.2
    have hwk : b_way l.length = nI k := by
      rw [hw l.length (by rw [List.length_cons]; omega), List.reverse_cons]
      congr 1
      rw [← List.length_reverse (as := l)]
      exact cs_getR
    rw [List.length_cons] at hl hp ⊢
    have key : ∀ z0, z0 = gd_bI (decide (k = m)) → wY_bestWay_258 post (wY_bestWay_223 post (l.length + 1)) (nI l.length) (nI num) (nI k) z0 (nI num) (nI k) (nI p) (nI n) (nI lc) (nI pc) (nI fw) (nI rw) (nI fl) (nI sw) (nI ss) (nI sk) (nI ba) (nI hyc) (nI ph) y_ready y_glyphCount (nI m) y_natural y_spaces (nI lnc) (nI par) (gd_tI t) (gd_tI w) (gd_lI lg) (gd_kI kn) b_patA b_patB b_patC b_patDigits b_glyphs b_glyphOf b_bEnd b_bNext b_bHyphen b_least b_before b_way b_lFrom b_lTo b_lNumber b_lParagraph b_lPage b_lHyphen b_lLast b_best := by
      intro z0 hz
      subst hz
      unfold wY_bestWay_258
      refine ay_keep hm yb hcs.1 hcs.2.1 (by omega) Y (fun b_lFrom b_lTo b_lNumber b_lParagraph b_lHyphen b_lLast Y' => ?_)
      refine nm_r (nI_1 num) (ih k (num + 1) (lnc + 1) _ _ _ _ _ _ _ hcs.2.2 (by omega) (by omega) (fun i hi => ?_) Y' ?_)
      · rw [hw i (by rw [List.length_cons]; omega), List.reverse_cons, cs_getL (by rw [List.length_reverse]; exact hi)]
      · intro b_lFrom b_lTo b_lNumber b_lParagraph b_lHyphen b_lLast Y''
        have e : lnc + 1 + l.length = lnc + (l.length + 1) := by omega
        rw [e] at Y'' ⊢
        exact hp _ _ _ _ _ _ Y''
    refine br_f (nI_nle (by omega) (by omega)) (nm_r (pk_m1 l.length) ⟨vp_in_nI (by omega) (by omega), nm_r (e' := nI k) (by rw [nI_clamp (by omega), hwk]) ?_⟩)
    exact pk_eq k m (fun y => key _ (by rw [decide_eq_true y]; rfl)) (fun y => key _ (by rw [decide_eq_false y]; rfl))
/-- Y writes the way down, and keeps its lines -/
theorem ay_take (post : Int32 → SY → Prop) (hm : m ≤ 48) (W : dp_wf σ) (hσ : ∀ s x, σ s = some x → s < 16 * (m + 1)) (hA : dp_arr (16 * (m + 1)) σ b_least b_before)
    {e : Nat} {x : Nat × Nat} (he : σ e = some x) (hp : ∀ b_way, (∀ i, i < (dp_pt σ 100 e).length → b_way i = nI ((dp_pt σ 100 e).getD i 0)) → ∃ g, wY_bestWay_223 post g (nI (dp_pt σ 100 e).length) 0 0 (nI n) (nI lc) (nI pc) (nI fw) (nI rw) (nI fl) (nI sw) (nI ss) (nI sk) (nI ba) (nI hyc) (nI ph) y_ready y_glyphCount (nI m) y_natural y_spaces y_lineCount y_paragraphs (gd_tI t) (gd_tI w) (gd_lI lg) (gd_kI kn) b_patA b_patB b_patC b_patDigits b_glyphs b_glyphOf b_bEnd b_bNext b_bHyphen b_least b_before b_way b_lFrom b_lTo b_lNumber b_lParagraph b_lPage b_lHyphen b_lLast b_best) :
    ∃ g, wY_bestWay_189 post (nI n) (nI lc) (nI pc) (nI fw) (nI rw) (nI fl) (nI sw) (nI ss) (nI sk) (nI ba) (nI hyc) (nI ph) y_ready y_glyphCount (nI m) y_natural y_spaces y_lineCount y_paragraphs g 0 (nI e) (gd_tI t) (gd_tI w) (gd_lI lg) (gd_kI kn) b_patA b_patB b_patC b_patDigits b_glyphs b_glyphOf b_bEnd b_bNext b_bHyphen b_least b_before b_way b_lFrom b_lTo b_lNumber b_lParagraph b_lPage b_lHyphen b_lLast b_best := by
  have key : ∀ f s x pre b_way, s / 16 < f → pre.length + s / 16 ≤ 48 → σ s = some x → (∀ i, i < pre.length → b_way i = nI (pre.getD i 0)) → (∀ b_way, (∀ i, i < (pre ++ dp_pt σ f s).length → b_way i = nI ((pre ++ dp_pt σ f s).getD i 0)) → ∃ g, wY_bestWay_223 post g (nI (pre ++ dp_pt σ f s).length) 0 0 (nI n) (nI lc) (nI pc) (nI fw) (nI rw) (nI fl) (nI sw) (nI ss) (nI sk) (nI ba) (nI hyc) (nI ph) y_ready y_glyphCount (nI m) y_natural y_spaces y_lineCount y_paragraphs (gd_tI t) (gd_tI w) (gd_lI lg) (gd_kI kn) b_patA b_patB b_patC b_patDigits b_glyphs b_glyphOf b_bEnd b_bNext b_bHyphen b_least b_before b_way b_lFrom b_lTo b_lNumber b_lParagraph b_lPage b_lHyphen b_lLast b_best) → wY_bestWay_189 post (nI n) (nI lc) (nI pc) (nI fw) (nI rw) (nI fl) (nI sw) (nI ss) (nI sk) (nI ba) (nI hyc) (nI ph) y_ready y_glyphCount (nI m) y_natural y_spaces y_lineCount y_paragraphs f (nI pre.length) (nI s) (gd_tI t) (gd_tI w) (gd_lI lg) (gd_kI kn) b_patA b_patB b_patC b_patDigits b_glyphs b_glyphOf b_bEnd b_bNext b_bHyphen b_least b_before b_way b_lFrom b_lTo b_lNumber b_lParagraph b_lPage b_lHyphen b_lLast b_best := by
    intro f
    induction f with
    | zero => intro s x pre b_way h; omega
    | succ f ih =>
      intro s x pre b_way h1 h2 hs hw hk
      have hsb := hσ s x hs
      rw [dp_pt] at hk
      refine pk_lt s 16 (fun c => ?_) (fun c => ?_)
      · rw [if_pos c, List.append_nil] at hk
        exact hk _ hw
      · rw [if_neg (by omega), dp_bfs hs] at hk
        obtain ⟨w1, y, hy⟩ := (W s x hs).2.2.2 (by omega)
        have hq : nI s / 16 = nI (s / 16) := pk_div (d := 16) (by omega) (by omega) (by omega)
        have hih := ih x.2 y (pre ++ [s / 16]) (upd b_way pre.length (nI (s / 16))) (by omega) (by rw [List.length_append, List.length_cons, List.length_nil]; omega) hy (fun i hi => ?_) (by rw [List.append_assoc]; exact hk)
        · rw [List.length_append, List.length_cons, List.length_nil] at hih
          refine nm_r (nI_1 pre.length) ⟨by decide, vp_in_nI (by omega) (by omega), nm_r (e' := upd b_way pre.length (nI (s / 16))) (by rw [nI_clamp (by omega), hq]) ⟨vp_in_nI (by omega) (by omega), nm_r (e' := nI x.2) (by rw [nI_clamp (by omega)]; exact ((hA s hsb).2 x hs).2 (by omega)) hih⟩⟩
        · rw [List.length_append, List.length_cons, List.length_nil] at hi
          by_cases z : i = pre.length
          · rw [z, pk_us, cs_getR]
          · rw [pk_un z, cs_getL (by omega)]
            exact hw i (by omega)
  have heb := hσ e x he
  exact ⟨100, key 100 e x [] _ (by omega) (by rw [List.length_nil]; omega) he (fun i hi => absurd hi (by simp)) (fun b_way hw => hp b_way hw)⟩
theorem ay_emer (post : SY → Prop) (C : cf_ok t w lg kn n fw rw fl sw ss sk ba hyc ph) (hton : to ≤ n) (hm : m ≤ 48) (h11 : ∀ j, fr ≤ j → j < to → t j ≠ 11) (ok : bk_ok t fr to m E N H) (yb : bk_xb m E N H b_bEnd b_bNext b_bHyphen) :
    ∀ f a num lnc Λ y_glyphCount y_natural y_spaces b_glyphs b_glyphOf b_lFrom b_lTo b_lNumber b_lParagraph b_lHyphen b_lLast, a ≤ m → m - a < f → num ≤ a → lnc + (em_l (ln_b t lg w kn sw ss sk fw rw fl m E N H) m f a num).length ≤ 48 → yl_ok lnc Λ b_lFrom b_lTo b_lNumber b_lParagraph b_lHyphen b_lLast →
      (∀ y_glyphCount y_natural y_spaces b_glyphs b_glyphOf b_lFrom b_lTo b_lNumber b_lParagraph b_lHyphen b_lLast, yl_ok (lnc + (em_l (ln_b t lg w kn sw ss sk fw rw fl m E N H) m f a num).length) (lt_seq E N H m par Λ lnc a num (em_l (ln_b t lg w kn sw ss sk fw rw fl m E N H) m f a num)) b_lFrom b_lTo b_lNumber b_lParagraph b_lHyphen b_lLast → post ((nI n), (nI lc), (nI pc), (nI fw), (nI rw), (nI fl), (nI sw), (nI ss), (nI sk), (nI ba), (nI hyc), (nI ph), y_ready, y_glyphCount, (nI m), y_natural, y_spaces, (nI (lnc + (em_l (ln_b t lg w kn sw ss sk fw rw fl m E N H) m f a num).length)), (nI par), (gd_tI t), (gd_tI w), (gd_lI lg), (gd_kI kn), b_patA, b_patB, b_patC, b_patDigits, b_glyphs, b_glyphOf, b_bEnd, b_bNext, b_bHyphen, b_least, b_before, b_way, b_lFrom, b_lTo, b_lNumber, b_lParagraph, b_lPage, b_lHyphen, b_lLast, b_best)) →
      wY_emergency_16 post f (nI a) (nI num) (nI n) (nI lc) (nI pc) (nI fw) (nI rw) (nI fl) (nI sw) (nI ss) (nI sk) (nI ba) (nI hyc) (nI ph) y_ready y_glyphCount (nI m) y_natural y_spaces (nI lnc) (nI par) (gd_tI t) (gd_tI w) (gd_lI lg) (gd_kI kn) b_patA b_patB b_patC b_patDigits b_glyphs b_glyphOf b_bEnd b_bNext b_bHyphen b_least b_before b_way b_lFrom b_lTo b_lNumber b_lParagraph b_lPage b_lHyphen b_lLast b_best := by
  obtain ⟨c1, c2, c3, c4, c5, c6, c7, c8, c9, c10, c11, c12, c13, c14⟩ := id C
  obtain ⟨y1, y2, y3⟩ := id yb
  intro f
  induction f with
  | zero => intro a num lnc Λ y_glyphCount y_natural y_spaces b_glyphs b_glyphOf b_lFrom b_lTo b_lNumber b_lParagraph b_lHyphen b_lLast h1 h2; omega
  | succ f ih =>
    intro a num lnc Λ y_glyphCount y_natural y_spaces b_glyphs b_glyphOf b_lFrom b_lTo b_lNumber b_lParagraph b_lHyphen b_lLast h1 h2 h3 hl Y hp
    rw [em_l] at hl hp
    refine pk_le m a (fun y => ?_) (fun y => ?_)
    · rw [if_pos y] at hp
      exact hp _ _ _ _ _ _ _ _ _ _ _ Y
    · rw [if_neg (by omega)] at hp hl
      have hb := em_f_b (ln_b t lg w kn sw ss sk fw rw fl m E N H) a num (m - a)
      generalize hem : em_f (ln_b t lg w kn sw ss sk fw rw fl m E N H) a num (m - a) = em at *
      rw [List.length_cons] at hl hp
      have fin : ∀ y_glyphCount y_natural y_spaces b_glyphs b_glyphOf z0, z0 = gd_bI (decide (em = m)) → wY_emergency_114 post (wY_emergency_16 post f) (nI num) (nI em) z0 (nI num) (nI em) (nI a) (nI n) (nI lc) (nI pc) (nI fw) (nI rw) (nI fl) (nI sw) (nI ss) (nI sk) (nI ba) (nI hyc) (nI ph) y_ready y_glyphCount (nI m) y_natural y_spaces (nI lnc) (nI par) (gd_tI t) (gd_tI w) (gd_lI lg) (gd_kI kn) b_patA b_patB b_patC b_patDigits b_glyphs b_glyphOf b_bEnd b_bNext b_bHyphen b_least b_before b_way b_lFrom b_lTo b_lNumber b_lParagraph b_lPage b_lHyphen b_lLast b_best := by
        intro y_glyphCount y_natural y_spaces b_glyphs b_glyphOf z0 hz
        subst hz
        unfold wY_emergency_114
        refine ay_keep hm yb (by omega) (by omega) (by omega) Y (fun b_lFrom b_lTo b_lNumber b_lParagraph b_lHyphen b_lLast Y' => ?_)
        refine nm_r (nI_1 num) (ih em (num + 1) (lnc + 1) _ _ _ _ _ _ _ _ _ _ _ _ (by omega) (by omega) (by omega) (by omega) Y' ?_)
        intro y_glyphCount y_natural y_spaces b_glyphs b_glyphOf b_lFrom b_lTo b_lNumber b_lParagraph b_lHyphen b_lLast Y''
        have e : lnc + 1 + (em_l (ln_b t lg w kn sw ss sk fw rw fl m E N H) m f em (num + 1)).length = lnc + ((em_l (ln_b t lg w kn sw ss sk fw rw fl m E N H) m f em (num + 1)).length + 1) := by omega
        rw [e] at Y'' ⊢
        exact hp _ _ _ _ _ _ _ _ _ _ _ Y''
      have loop : ∀ g k, k + g = m + 1 → a < k → ∀ y_glyphCount y_natural y_spaces b_glyphs b_glyphOf, wY_emergency_33 post (wY_emergency_16 post f) (nI a) (nI num) (g + 1) (nI (em_f (ln_b t lg w kn sw ss sk fw rw fl m E N H) a num (k - (a + 1)))) (nI k) (nI n) (nI lc) (nI pc) (nI fw) (nI rw) (nI fl) (nI sw) (nI ss) (nI sk) (nI ba) (nI hyc) (nI ph) y_ready y_glyphCount (nI m) y_natural y_spaces (nI lnc) (nI par) (gd_tI t) (gd_tI w) (gd_lI lg) (gd_kI kn) b_patA b_patB b_patC b_patDigits b_glyphs b_glyphOf b_bEnd b_bNext b_bHyphen b_least b_before b_way b_lFrom b_lTo b_lNumber b_lParagraph b_lPage b_lHyphen b_lLast b_best := by
        intro g
        induction g with
        | zero =>
          intro k hk hak y_glyphCount y_natural y_spaces b_glyphs b_glyphOf
          have : k = m + 1 := by omega
          subst this
          rw [show m + 1 - (a + 1) = m - a by omega, hem]
          refine br_t (nI_lt (by omega) (by omega)) (pk_eq em m (fun y => fin _ _ _ _ _ _ (by rw [decide_eq_true y]; rfl)) (fun y => fin _ _ _ _ _ _ (by rw [decide_eq_false y]; rfl)))
        | succ g ihg =>
          intro k hk hak y_glyphCount y_natural y_spaces b_glyphs b_glyphOf
          have hlt := bk_lt ok hak (show k ≤ m by omega)
          have hEk := ok.2.1 k (by omega) (by omega)
          have hNp := ok.1 a (by omega)
          have hd := ln_d_b (E := E) (N := N) (H := H) C (p := a) (k := k) (q := num) (by omega)
          have hsc := rn_sc_le (t := t) (s := N a) (E k)
          have hbv : -1 ≤ (ln_b t lg w kn sw ss sk fw rw fl m E N H) a k num ∧ (ln_b t lg w kn sw ss sk fw rw fl m E N H) a k num ≤ 10000 := bd_v_b _ _ _ _ _
          refine br_f (nI_nlt (by omega) (by omega)) ?_
          refine by_meas c1 c2 (by omega) (by omega) (y2 a (by omega)) (y1 k (by omega) (by omega)) (y3 k (by omega)) hlt (by omega) hNp.2.2.1 (fun j a b => h11 j (by omega) (by omega)) (fun y_glyphCount b_glyphs b_glyphOf => ?_)
          refine by_due (by omega) c7 (nm_r (e' := gd_iI ((ln_d t lg w kn sw fw rw fl E N H) a k num)) (by rw [gd_nat, gd_sub]; rfl) ?_)
          have key : ∀ z0, z0 = gd_bI (decide (k = m)) → wY_emergency_78 post (wY_emergency_16 post f) (wY_emergency_33 post (wY_emergency_16 post f) (nI a) (nI num) (g + 1)) (nI a) (nI num) (nI (em_f (ln_b t lg w kn sw ss sk fw rw fl m E N H) a num (k - (a + 1)))) (nI k) z0 (gd_iI ((ln_d t lg w kn sw fw rw fl E N H) a k num)) (nI n) (nI lc) (nI pc) (nI fw) (nI rw) (nI fl) (nI sw) (nI ss) (nI sk) (nI ba) (nI hyc) (nI ph) y_ready y_glyphCount (nI m) (gd_iI (rn_x t lg w kn sw (N a) (E k) (E k) + (cond (H k) 5 0))) (nI (rn_sc t (N a) (E k))) (nI lnc) (nI par) (gd_tI t) (gd_tI w) (gd_lI lg) (gd_kI kn) b_patA b_patB b_patC b_patDigits b_glyphs b_glyphOf b_bEnd b_bNext b_bHyphen b_least b_before b_way b_lFrom b_lTo b_lNumber b_lParagraph b_lPage b_lHyphen b_lLast b_best := by
            intro z0 hz
            subst hz
            have ih := ihg (k + 1) (by omega) (by omega) y_glyphCount (gd_iI (rn_x t lg w kn sw (N a) (E k) (E k) + (cond (H k) 5 0))) (nI (rn_sc t (N a) (E k))) b_glyphs b_glyphOf
            rw [show k + 1 - (a + 1) = k - (a + 1) + 1 by omega, em_f, show a + 1 + (k - (a + 1)) = k by omega] at ih
            unfold wY_emergency_78
            refine by_bad hd c9 c10 (by omega) ?_
            rw [show bd_v ss sk ((ln_d t lg w kn sw fw rw fl E N H) a k num) (rn_sc t (N a) (E k)) (decide (k = m)) = (ln_b t lg w kn sw ss sk fw rw fl m E N H) a k num from rfl]
            refine gd_zlt ((ln_b t lg w kn sw ss sk fw rw fl m E N H) a k num) 0 (fun y => ?_) (fun y => ?_) rfl rfl (by omega) (by omega)
            · rw [if_pos (by omega)] at ih
              exact nm_r (nI_1 k) ih
            · rw [if_neg (by omega)] at ih
              exact nm_r (nI_1 k) ih
          exact pk_eq k m (fun y => key _ (by rw [decide_eq_true y]; rfl)) (fun y => key _ (by rw [decide_eq_false y]; rfl))
      refine nm_r (e' := nI (em_f (ln_b t lg w kn sw ss sk fw rw fl m E N H) a num (a + 1 - (a + 1)))) (by rw [show a + 1 - (a + 1) = 0 by omega, em_f, nI_1]) (nm_r (nI_1 a) ⟨m - a + 1, loop (m - a) (a + 1) (by omega) (by omega) _ _ _ _ _⟩)
end
end
section
/-! the pure layout -/
abbrev pg_m (t P : Nat → Nat) (n fr to : Nat) : Nat := bk_m t (hy_b t P n) fr to to
abbrev pg_E (t P : Nat → Nat) (n fr to : Nat) : Nat → Nat := bk_E t (hy_b t P n) fr to to
abbrev pg_N (t P : Nat → Nat) (n fr to : Nat) : Nat → Nat := bk_N t (hy_b t P n) fr to to
abbrev pg_H (t P : Nat → Nat) (n fr to : Nat) : Nat → Bool := bk_H t (hy_b t P n) fr to to
def pg_σ (t w lg : Nat → Nat) (kn : Nat → Int) (P : Nat → Nat) (n sw ss sk fw rw fl ba hyc fr to : Nat) : dp_S := dp_all (ln_v t lg w kn sw ss sk fw rw fl ba hyc (pg_m t P n fr to) (pg_E t P n fr to) (pg_N t P n fr to) (pg_H t P n fr to)) (pg_m t P n fr to)
def pg_cs (t w lg : Nat → Nat) (kn : Nat → Int) (P : Nat → Nat) (n sw ss sk fw rw fl ba hyc fr to : Nat) : List Nat := pr_cs (ln_b t lg w kn sw ss sk fw rw fl (pg_m t P n fr to) (pg_E t P n fr to) (pg_N t P n fr to) (pg_H t P n fr to)) (pg_σ t w lg kn P n sw ss sk fw rw fl ba hyc fr to) (pg_m t P n fr to)
abbrev ly_S : Type := lt_T × Nat × Nat × (Nat → Int64)
def ly_p (t w lg : Nat → Nat) (kn : Nat → Int) (P : Nat → Nat) (n sw ss sk fw rw fl ba hyc fr to : Nat) (S : ly_S) : ly_S :=
  if bk_sk t to fr < to then (lt_seq (pg_E t P n fr to) (pg_N t P n fr to) (pg_H t P n fr to) (pg_m t P n fr to) S.2.2.1 S.1 S.2.1 0 0 (pg_cs t w lg kn P n sw ss sk fw rw fl ba hyc fr to), S.2.1 + (pg_cs t w lg kn P n sw ss sk fw rw fl ba hyc fr to).length, S.2.2.1 + 1, vp_updL S.2.2.2 S.2.2.1 (pr_v (pg_σ t w lg kn P n sw ss sk fw rw fl ba hyc fr to) (pg_m t P n fr to))) else S
def ly_at (t w lg : Nat → Nat) (kn : Nat → Int) (P : Nat → Nat) (n sw ss sk fw rw fl ba hyc : Nat) : Nat → ly_S × Nat
  | 0 => ((fun _ => (0, 0, false, 0, false, 0), 0, 0, fun _ => 0), 0)
  | i + 1 => if i = n ∨ t i = 11 then (ly_p t w lg kn P n sw ss sk fw rw fl ba hyc (ly_at t w lg kn P n sw ss sk fw rw fl ba hyc i).2 i (ly_at t w lg kn P n sw ss sk fw rw fl ba hyc i).1, i + 1) else ly_at t w lg kn P n sw ss sk fw rw fl ba hyc i
/-- a line is a stretch of one paragraph that begins and ends with a letter -/
def lt_val (t : Nat → Nat) (n : Nat) (r : lt_R) : Prop := r.1 < r.2.1 ∧ r.2.1 ≤ n ∧ t r.1 < 10 ∧ t (r.2.1 - 1) < 10 ∧ (∀ j, r.1 ≤ j → j < r.2.1 → t j ≠ 11) ∧ r.2.2.2.1 < 48
/-- numbers, lasts and paragraphs fit together -/
def lt_fit (lc par : Nat) (Λ : lt_T) : Prop := ∀ i, i < lc → ((Λ i).2.2.2.1 = 0 ↔ (i = 0 ∨ (Λ (i - 1)).2.2.2.2.2 ≠ (Λ i).2.2.2.2.2)) ∧ ((Λ i).2.2.2.2.1 = true ↔ (i + 1 = lc ∨ (Λ (i + 1)).2.2.2.2.2 ≠ (Λ i).2.2.2.2.2)) ∧ (Λ i).2.2.2.2.2 < par
theorem sq_low {E N : Nat → Nat} {H : Nat → Bool} {m par : Nat} : ∀ cs Λ lc p num i, i < lc → lt_seq E N H m par Λ lc p num cs i = Λ i := by
  intro cs
  induction cs with
  | nil => intro Λ lc p num i h; rfl
  | cons k l ih =>
    intro Λ lc p num i h
    rw [lt_seq, ih _ _ _ _ i (by omega), lt_un (by omega)]
theorem sq_row {t : Nat → Nat} {n fr to : Nat} {E N : Nat → Nat} {H : Nat → Bool} {m par : Nat} (hton : to ≤ n) (hn : n ≤ 48) (h11 : ∀ j, fr ≤ j → j < to → t j ≠ 11) (ok : bk_ok t fr to m E N H) : ∀ cs Λ lc p num, cs_ok m p cs → num ≤ p → ∀ i, lc ≤ i → i < lc + cs.length →
    lt_val t n (lt_seq E N H m par Λ lc p num cs i) ∧ (lt_seq E N H m par Λ lc p num cs i).2.2.2.1 = num + (i - lc) ∧ (lt_seq E N H m par Λ lc p num cs i).2.2.2.2.1 = decide (i + 1 = lc + cs.length) ∧ (lt_seq E N H m par Λ lc p num cs i).2.2.2.2.2 = par := by
  intro cs
  induction cs with
  | nil => intro Λ lc p num _ _ i h1 h2; rw [List.length_nil] at h2; omega
  | cons k l ih =>
    intro Λ lc p num hcs hnp i h1 h2
    rw [cs_ok] at hcs
    rw [List.length_cons] at h2 ⊢
    rw [lt_seq]
    by_cases e : i = lc
    · subst e
      rw [sq_low _ _ _ _ _ i (by omega), lt_us]
      have a := ok.1 p (by omega)
      have b := ok.2.1 k (by omega) hcs.2.1
      have c := bk_lt ok hcs.1 hcs.2.1
      have hmm := ok.2.2.2.2.2
      refine ⟨⟨c, ?_, a.2.2.1, b.2, fun j x y => h11 j ?_ ?_, ?_⟩, by show num = num + (i - i); omega, ?_, rfl⟩
      · show E k ≤ n; omega
      · have x : N p ≤ j := x
        omega
      · have y : j < E k := y
        omega
      · show num < 48; omega
      · show decide (k = m) = decide (i + 1 = i + (l.length + 1))
        congr 1
        apply propext
        cases l with
        | nil =>
          have := hcs.2.2
          rw [cs_ok] at this
          rw [List.length_nil]
          exact ⟨fun _ => rfl, fun _ => this⟩
        | cons q l' =>
          have := hcs.2.2
          rw [cs_ok] at this
          rw [List.length_cons]
          constructor <;> intro z <;> omega
    · have := ih (lt_up Λ lc (N p, E k, H k, num, decide (k = m), par)) (lc + 1) k (num + 1) hcs.2.2 (by omega) i (by omega) (by omega)
      refine ⟨this.1, by rw [this.2.1]; omega, ?_, this.2.2.2⟩
      rw [this.2.2.1]
      congr 1
      apply propext
      constructor <;> intro z <;> omega
/-- every letter from a break on lies in a line of the way -/
theorem sq_cov {t : Nat → Nat} {fr to : Nat} {E N : Nat → Nat} {H : Nat → Bool} {m par : Nat} (ok : bk_ok t fr to m E N H) (hm : 1 ≤ m) : ∀ cs Λ lc p num, cs_ok m p cs → ∀ j, (p = 0 → fr ≤ j) → (1 ≤ p → E p ≤ j) → j < to → t j < 10 →
    ∃ i, lc ≤ i ∧ i < lc + cs.length ∧ (lt_seq E N H m par Λ lc p num cs i).1 ≤ j ∧ j < (lt_seq E N H m par Λ lc p num cs i).2.1 := by
  intro cs
  induction cs with
  | nil =>
    intro Λ lc p num hcs j h1 h2 h3 h4
    rw [cs_ok] at hcs
    subst hcs
    exact absurd h4 (ok.2.2.2.1 j (h2 hm) h3)
  | cons k l ih =>
    intro Λ lc p num hcs j h1 h2 h3 h4
    rw [cs_ok] at hcs
    rw [lt_seq, List.length_cons]
    by_cases z : j < E k
    · refine ⟨lc, Nat.le_refl _, by omega, ?_⟩
      rw [sq_low _ _ _ _ _ lc (by omega), lt_us]
      refine ⟨?_, z⟩
      show N p ≤ j
      rcases Nat.lt_or_ge j (N p) with y | y
      · exfalso
        by_cases p0 : p = 0
        · subst p0
          exact ok.2.2.1 j (h1 rfl) y h4
        · exact ((ok.1 p (by omega)).2.2.2 (by omega)).2 j (h2 (by omega)) y h4
      · exact y
    · obtain ⟨i, a, b, c, d⟩ := ih (lt_up Λ lc (N p, E k, H k, num, decide (k = m), par)) (lc + 1) k (num + 1) hcs.2.2 j (fun h => by omega) (fun _ => by omega) h3 h4
      exact ⟨i, by omega, by omega, c, d⟩
/-- what is known of the layout before place i -/
def ly_ok (t w lg : Nat → Nat) (kn : Nat → Int) (P : Nat → Nat) (n sw ss sk fw rw fl ba hyc i : Nat) : Prop :=
  (ly_at t w lg kn P n sw ss sk fw rw fl ba hyc i).2 ≤ i ∧ ((ly_at t w lg kn P n sw ss sk fw rw fl ba hyc i).2 = 0 ∨ (t ((ly_at t w lg kn P n sw ss sk fw rw fl ba hyc i).2 - 1) = 11 ∨ (ly_at t w lg kn P n sw ss sk fw rw fl ba hyc i).2 = n + 1)) ∧ (∀ j, (ly_at t w lg kn P n sw ss sk fw rw fl ba hyc i).2 ≤ j → j < i → j ≠ n ∧ t j ≠ 11) ∧
  ((ly_at t w lg kn P n sw ss sk fw rw fl ba hyc i).1.2.1 ≤ (ly_at t w lg kn P n sw ss sk fw rw fl ba hyc i).2 ∧ (ly_at t w lg kn P n sw ss sk fw rw fl ba hyc i).1.2.1 ≤ n) ∧ (2 * (ly_at t w lg kn P n sw ss sk fw rw fl ba hyc i).1.2.2.1 ≤ n + 1 ∧ ((ly_at t w lg kn P n sw ss sk fw rw fl ba hyc i).2 ≤ n → 2 * (ly_at t w lg kn P n sw ss sk fw rw fl ba hyc i).1.2.2.1 ≤ (ly_at t w lg kn P n sw ss sk fw rw fl ba hyc i).2)) ∧
  (∀ k, k < (ly_at t w lg kn P n sw ss sk fw rw fl ba hyc i).1.2.1 → lt_val t n ((ly_at t w lg kn P n sw ss sk fw rw fl ba hyc i).1.1 k)) ∧ lt_fit (ly_at t w lg kn P n sw ss sk fw rw fl ba hyc i).1.2.1 (ly_at t w lg kn P n sw ss sk fw rw fl ba hyc i).1.2.2.1 (ly_at t w lg kn P n sw ss sk fw rw fl ba hyc i).1.1 ∧
  (∀ j, j < (ly_at t w lg kn P n sw ss sk fw rw fl ba hyc i).2 → j < n → t j < 10 → ∃ k, k < (ly_at t w lg kn P n sw ss sk fw rw fl ba hyc i).1.2.1 ∧ ((ly_at t w lg kn P n sw ss sk fw rw fl ba hyc i).1.1 k).1 ≤ j ∧ j < ((ly_at t w lg kn P n sw ss sk fw rw fl ba hyc i).1.1 k).2.1)
theorem pg_wf {t w lg : Nat → Nat} {kn : Nat → Int} {P : Nat → Nat} {n sw ss sk fw rw fl ba hyc ph fr to : Nat} (C : cf_ok t w lg kn n fw rw fl sw ss sk ba hyc ph) (hm : pg_m t P n fr to ≤ 48) : dp_wf (pg_σ t w lg kn P n sw ss sk fw rw fl ba hyc fr to) := dp_all_wf (ln_ok C) _ hm
theorem pg_cs_ok {t w lg : Nat → Nat} {kn : Nat → Int} {P : Nat → Nat} {n sw ss sk fw rw fl ba hyc ph fr to : Nat} (C : cf_ok t w lg kn n fw rw fl sw ss sk ba hyc ph) (hm : pg_m t P n fr to ≤ 48) : cs_ok (pg_m t P n fr to) 0 (pg_cs t w lg kn P n sw ss sk fw rw fl ba hyc fr to) := pr_cs_ok (pg_wf C hm) hm
theorem pg_len {t w lg : Nat → Nat} {kn : Nat → Int} {P : Nat → Nat} {n sw ss sk fw rw fl ba hyc ph fr to : Nat} (C : cf_ok t w lg kn n fw rw fl sw ss sk ba hyc ph) (hton : to ≤ n) : pg_m t P n fr to ≤ 48 ∧ (pg_cs t w lg kn P n sw ss sk fw rw fl ba hyc fr to).length ≤ to - fr := by
  have h1 := bk_mle (t := t) (hy := hy_b t P n) (fr := fr) (to := to) (i := to)
  have hn := C.1
  have hm : pg_m t P n fr to ≤ 48 := by show bk_m t (hy_b t P n) fr to to ≤ 48; omega
  have := cs_len _ _ (pg_cs_ok (sw := sw) (ss := ss) (sk := sk) (fw := fw) (rw := rw) (fl := fl) (ba := ba) (hyc := hyc) C hm)
  refine ⟨hm, ?_⟩
  have h3 : (pg_cs t w lg kn P n sw ss sk fw rw fl ba hyc fr to).length ≤ bk_m t (hy_b t P n) fr to to := by
    show _ ≤ pg_m t P n fr to
    omega
  omega
theorem pg_m1 {t P : Nat → Nat} {n fr to : Nat} (ht : ∀ i, t i ≤ 11) (hft : fr ≤ to) (hton : to ≤ n) (h11 : ∀ j, fr ≤ j → j < to → t j ≠ 11) (hto : to = n ∨ t to = 11) (hfr : fr = 0 ∨ t (fr - 1) = 11) (z : bk_sk t to fr < to) : 1 ≤ pg_m t P n fr to := by
  have hh : bk_hy t (hy_b t P n) fr to := bk_hyok hto hton hfr
  obtain ⟨s1, s2, s3, s4⟩ := bk_sk_ok (t := t) hft
  have BI := bk_invA hh (to - fr) (by omega)
  rw [show fr + (to - fr) = to by omega] at BI
  rcases BI.2.2.1 with y | y
  · omega
  · refine (y _ s1 z ?_).1
    have := h11 (bk_sk t to fr) s1 z
    have := ht (bk_sk t to fr)
    omega
theorem ly_okS {t w lg : Nat → Nat} {kn : Nat → Int} {P : Nat → Nat} {n sw ss sk fw rw fl ba hyc ph i : Nat} (C : cf_ok t w lg kn n fw rw fl sw ss sk ba hyc ph) (hi : i ≤ n) (I : ly_ok t w lg kn P n sw ss sk fw rw fl ba hyc i) : ly_ok t w lg kn P n sw ss sk fw rw fl ba hyc (i + 1) := by
  obtain ⟨I1, I2, I3, I4, I5, I6, I7, I8⟩ := I
  have hn := C.1
  have ht := C.2.1
  by_cases c : i = n ∨ t i = 11
  · have e : ly_at t w lg kn P n sw ss sk fw rw fl ba hyc (i + 1) = (ly_p t w lg kn P n sw ss sk fw rw fl ba hyc (ly_at t w lg kn P n sw ss sk fw rw fl ba hyc i).2 i (ly_at t w lg kn P n sw ss sk fw rw fl ba hyc i).1, i + 1) := by rw [ly_at, if_pos c]
    unfold ly_ok
    rw [e]
    generalize ly_at t w lg kn P n sw ss sk fw rw fl ba hyc i = S at *
    obtain ⟨⟨Λ, lc, par, V⟩, fr⟩ := S
    dsimp only at *
    have hfr : fr = 0 ∨ t (fr - 1) = 11 := by omega
    have h11 : ∀ j, fr ≤ j → j < i → t j ≠ 11 := fun j a b => (I3 j a b).2
    have tail : (i + 1 ≤ i + 1) ∧ (i + 1 = 0 ∨ t (i + 1 - 1) = 11 ∨ i + 1 = n + 1) ∧ (∀ j, i + 1 ≤ j → j < i + 1 → j ≠ n ∧ t j ≠ 11) := ⟨Nat.le_refl _, by rw [show i + 1 - 1 = i by omega]; omega, fun j a b => absurd a (by omega)⟩
    refine ⟨tail.1, tail.2.1, tail.2.2, ?_⟩
    obtain ⟨s1, s2, s3, s4⟩ := bk_sk_ok (t := t) (show fr ≤ i by omega)
    rw [ly_p]
    by_cases z : bk_sk t i fr < i
    · rw [if_pos z]
      dsimp only
      have hm1 := pg_m1 (P := P) ht (by omega) (by omega) h11 c hfr z
      have hlen := pg_len (P := P) (fr := fr) (to := i) C (by omega)
      have hcs := pg_cs_ok (P := P) (sw := sw) (ss := ss) (sk := sk) (fw := fw) (rw := rw) (fl := fl) (ba := ba) (hyc := hyc) C hlen.1
      have ok : bk_ok t fr i (pg_m t P n fr i) (pg_E t P n fr i) (pg_N t P n fr i) (pg_H t P n fr i) := bk_fin ht (by omega) h11 (bk_hyok c (by omega) hfr) hm1
      generalize pg_cs t w lg kn P n sw ss sk fw rw fl ba hyc fr i = cs at *
      have rows := sq_row (par := par) (show i ≤ n by omega) hn h11 ok cs Λ lc 0 0 hcs (Nat.le_refl _)
      have low := fun k (h : k < lc) => sq_low (E := pg_E t P n fr i) (N := pg_N t P n fr i) (H := pg_H t P n fr i) (m := pg_m t P n fr i) (par := par) cs Λ lc 0 0 k h
      have cov := sq_cov (par := par) ok hm1 cs Λ lc 0 0 hcs
      have hcpos : 1 ≤ cs.length := by
        cases cs with
        | nil => rw [cs_ok] at hcs; omega
        | cons k l => rw [List.length_cons]; omega
      generalize lt_seq (pg_E t P n fr i) (pg_N t P n fr i) (pg_H t P n fr i) (pg_m t P n fr i) par Λ lc 0 0 cs = Λ' at *
      refine ⟨⟨by omega, by omega⟩, ⟨by omega, fun _ => by omega⟩, ?_, ?_, ?_⟩
      · intro k hk
        by_cases q : k < lc
        · rw [low k q]; exact I6 k q
        · exact (rows k (by omega) hk).1
      · intro k hk
        by_cases q : k < lc
        · obtain ⟨f1, f2, f3⟩ := I7 k q
          rw [low k q]
          refine ⟨?_, ?_, by omega⟩
          · rw [f1]
            by_cases k0 : k = 0
            · simp [k0]
            · rw [low (k - 1) (by omega)]
          · rw [f2]
            by_cases q2 : k + 1 < lc
            · rw [low (k + 1) q2]
              constructor
              · rintro (y | y)
                · omega
                · exact Or.inr y
              · rintro (y | y)
                · omega
                · exact Or.inr y
            · have r := rows (k + 1) (by omega) (by omega)
              rw [r.2.2.2]
              constructor
              · intro _; right; omega
              · intro _; left; omega
        · have r := rows k (by omega) hk
          refine ⟨?_, ?_, by rw [r.2.2.2]; omega⟩
          · rw [r.2.1, r.2.2.2]
            by_cases q2 : k = lc
            · subst q2
              constructor
              · intro _
                by_cases k0 : k = 0
                · exact Or.inl k0
                · right
                  rw [low (k - 1) (by omega)]
                  have := (I7 (k - 1) (by omega)).2.2
                  omega
              · intro _; omega
            · have r2 := rows (k - 1) (by omega) (by omega)
              rw [r2.2.2.2]
              constructor
              · intro y; omega
              · rintro (y | y)
                · omega
                · exact absurd rfl y
          · rw [r.2.2.1, r.2.2.2, decide_eq_true_eq]
            by_cases q2 : k + 1 = lc + cs.length
            · exact ⟨fun _ => Or.inl q2, fun _ => q2⟩
            · have r2 := rows (k + 1) (by omega) (by omega)
              rw [r2.2.2.2]
              constructor
              · intro y; exact absurd y q2
              · rintro (y | y)
                · exact y
                · exact absurd rfl y
      · intro j h1 h2 h3
        by_cases q : j < fr
        · obtain ⟨k, a, b, d⟩ := I8 j q h2 h3
          exact ⟨k, by omega, by rw [low k a]; exact b, by rw [low k a]; exact d⟩
        · have hji : j < i := by
            rcases Nat.lt_or_ge j i with y | y
            · exact y
            · have : j = i := by omega
              subst this
              omega
          obtain ⟨k, a, b, d, f⟩ := cov j (fun _ => by omega) (fun h => absurd h (by omega)) hji h3
          exact ⟨k, b, d, f⟩
    · rw [if_neg z]
      dsimp only
      refine ⟨⟨by omega, by omega⟩, ⟨by omega, fun _ => by omega⟩, I6, I7, ?_⟩
      intro j h1 h2 h3
      by_cases q : j < fr
      · exact I8 j q h2 h3
      · exfalso
        have hji : j < i := by
          rcases Nat.lt_or_ge j i with y | y
          · exact y
          · have : j = i := by omega
            subst this
            omega
        have := s3 j (by omega) (by omega)
        omega
  · have e : ly_at t w lg kn P n sw ss sk fw rw fl ba hyc (i + 1) = ly_at t w lg kn P n sw ss sk fw rw fl ba hyc i := by rw [ly_at, if_neg c]
    unfold ly_ok
    rw [e]
    refine ⟨by omega, I2, fun j a b => ?_, I4, I5, I6, I7, I8⟩
    by_cases z : j = i
    · subst z; omega
    · exact I3 j a (by omega)
theorem ly_ok0 {t w lg : Nat → Nat} {kn : Nat → Int} {P : Nat → Nat} {n sw ss sk fw rw fl ba hyc : Nat} : ly_ok t w lg kn P n sw ss sk fw rw fl ba hyc 0 :=
  ⟨Nat.le_refl _, Or.inl rfl, fun j a b => absurd b (by omega), ⟨Nat.le_refl _, Nat.zero_le _⟩, ⟨Nat.zero_le _, fun _ => Nat.le_refl _⟩, fun k h => absurd h (Nat.not_lt_zero k), fun k h => absurd h (Nat.not_lt_zero k), fun j h => absurd h (Nat.not_lt_zero j)⟩
theorem ly_okA {t w lg : Nat → Nat} {kn : Nat → Int} {P : Nat → Nat} {n sw ss sk fw rw fl ba hyc ph : Nat} (C : cf_ok t w lg kn n fw rw fl sw ss sk ba hyc ph) : ∀ i, i ≤ n + 1 → ly_ok t w lg kn P n sw ss sk fw rw fl ba hyc i := by
  intro i
  induction i with
  | zero => intro _; exact ly_ok0
  | succ i ih => intro h; exact ly_okS C (by omega) (ih (by omega))
end
section
def lx_ok (t lg w : Nat → Nat) (kn : Nat → Int) (sw ss sk fw rw fl : Nat) (S : ly_S) (a_lineFacts : Nat → Int32) (a_paragraphDemerits : Nat → Int64) : Prop := (xl_ok t lg w kn sw ss sk fw rw fl) S.2.1 S.1 a_lineFacts ∧ ∀ p, p < S.2.2.1 → a_paragraphDemerits p = S.2.2.2 p
section
variable {n lc pc fw rw fl sw ss sk ba hyc ph : Nat} {t w lg : Nat → Nat} {kn : Nat → Int}
variable {P : Nat → Nat} {fr to : Nat} {S : ly_S}
variable {x_breakCount x_lineCount x_paragraphCount x_stale : Int32} {a_patterns a_heads a_glyphs a_breakEnd a_breakNext a_breakHyphen a_breakTaken a_wayBefore a_lineFacts : Nat → Int32} {a_wayDemerits a_paragraphDemerits : Nat → Int64}
theorem lx_para (post : SX → Prop) (g : Nat) (C : cf_ok t w lg kn n fw rw fl sw ss sk ba hyc ph) (hP : ∀ k, P k < 2 ^ 31) (hft : fr ≤ to) (hton : to ≤ n) (h11 : ∀ j, fr ≤ j → j < to → t j ≠ 11) (hto : to = n ∨ t to = 11) (hfr : fr = 0 ∨ t (fr - 1) = 11) (hlc : S.2.1 ≤ fr) (hpar : 2 * S.2.2.1 ≤ fr) (X : lx_ok t lg w kn sw ss sk fw rw fl S a_lineFacts a_paragraphDemerits)
    (hJ : ∀ x_breakCount a_heads a_glyphs a_breakEnd a_breakNext a_breakHyphen a_breakTaken a_wayDemerits a_wayBefore a_lineFacts a_paragraphDemerits, lx_ok t lg w kn sw ss sk fw rw fl (ly_p t w lg kn P n sw ss sk fw rw fl ba hyc fr to S) a_lineFacts a_paragraphDemerits → wX_layOut_22 post g (nI (to + 1)) (nI (to + 1)) (nI n) (nI lc) (nI pc) (nI fw) (nI rw) (nI fl) (nI sw) (nI ss) (nI sk) (nI ba) (nI hyc) (nI ph) x_breakCount (nI (ly_p t w lg kn P n sw ss sk fw rw fl ba hyc fr to S).2.1) (nI (ly_p t w lg kn P n sw ss sk fw rw fl ba hyc fr to S).2.2.1) x_stale (gd_tI t) (gd_tI w) (gd_lI lg) (gd_kI kn) (gd_tI P) a_heads a_glyphs a_breakEnd a_breakNext a_breakHyphen a_breakTaken a_wayDemerits a_wayBefore a_lineFacts a_paragraphDemerits) :
    wX_layOut_52 post (wX_layOut_22 post g) (nI fr) (nI to) (nI n) (nI lc) (nI pc) (nI fw) (nI rw) (nI fl) (nI sw) (nI ss) (nI sk) (nI ba) (nI hyc) (nI ph) x_breakCount (nI S.2.1) (nI S.2.2.1) x_stale (gd_tI t) (gd_tI w) (gd_lI lg) (gd_kI kn) (gd_tI P) a_heads a_glyphs a_breakEnd a_breakNext a_breakHyphen a_breakTaken a_wayDemerits a_wayBefore a_lineFacts a_paragraphDemerits := by
  have hn := C.1
  have ht := C.2.1
  unfold wX_layOut_52
  refine cx_collect hn ht hP hft hton h11 hto hfr (fun z a_breakEnd a_breakNext a_breakHyphen a_breakTaken => ?_) (fun z hm1 a_breakEnd a_breakNext a_breakHyphen a_breakTaken xb hT => ?_)
  · have e : ly_p t w lg kn P n sw ss sk fw rw fl ba hyc fr to S = S := by rw [ly_p, if_neg (by omega)]
    rw [e] at hJ
    exact nm_r (nI_1 to) (br_t rfl (nm_r (nI_1 to) (hJ _ _ _ _ _ _ _ _ _ _ _ X)))
  · have ok : bk_ok t fr to (pg_m t P n fr to) (pg_E t P n fr to) (pg_N t P n fr to) (pg_H t P n fr to) := bk_fin ht hft h11 (bk_hyok hto hton hfr) hm1
    have hlen := pg_len (P := P) (sw := sw) (ss := ss) (sk := sk) (fw := fw) (rw := rw) (fl := fl) (ba := ba) (hyc := hyc) (fr := fr) (to := to) C hton
    have hcs := pg_cs_ok (P := P) (sw := sw) (ss := ss) (sk := sk) (fw := fw) (rw := rw) (fl := fl) (ba := ba) (hyc := hyc) C hlen.1
    have e : ly_p t w lg kn P n sw ss sk fw rw fl ba hyc fr to S = (lt_seq (pg_E t P n fr to) (pg_N t P n fr to) (pg_H t P n fr to) (pg_m t P n fr to) S.2.2.1 S.1 S.2.1 0 0 (pg_cs t w lg kn P n sw ss sk fw rw fl ba hyc fr to), S.2.1 + (pg_cs t w lg kn P n sw ss sk fw rw fl ba hyc fr to).length, S.2.2.1 + 1, vp_updL S.2.2.2 S.2.2.1 (pr_v (pg_σ t w lg kn P n sw ss sk fw rw fl ba hyc fr to) (pg_m t P n fr to))) := by rw [ly_p, if_pos z]
    rw [e] at hJ
    have xb : bk_xb (pg_m t P n fr to) (pg_E t P n fr to) (pg_N t P n fr to) (pg_H t P n fr to) a_breakEnd a_breakNext a_breakHyphen := xb
    have hT : ∀ k, k ≤ pg_m t P n fr to → a_breakTaken k = 0 := hT
    have hm48 := hlen.1
    have fin : ∀ v a_heads a_glyphs a_wayDemerits a_wayBefore a_breakTaken', v = pr_v (pg_σ t w lg kn P n sw ss sk fw rw fl ba hyc fr to) (pg_m t P n fr to) → (∀ k, 1 ≤ k → k ≤ pg_m t P n fr to → a_breakTaken' k = if k ∈ pg_cs t w lg kn P n sw ss sk fw rw fl ba hyc fr to then 1 else 0) →
        wX_layOut_98 post (wX_layOut_22 post g) (nI (to + 1)) (nI to) v (nI n) (nI lc) (nI pc) (nI fw) (nI rw) (nI fl) (nI sw) (nI ss) (nI sk) (nI ba) (nI hyc) (nI ph) (nI (pg_m t P n fr to + 1)) (nI S.2.1) (nI S.2.2.1) x_stale (gd_tI t) (gd_tI w) (gd_lI lg) (gd_kI kn) (gd_tI P) a_heads a_glyphs a_breakEnd a_breakNext a_breakHyphen a_breakTaken' a_wayDemerits a_wayBefore a_lineFacts a_paragraphDemerits := by
      intro v a_heads a_glyphs a_wayDemerits a_wayBefore a_breakTaken' hv hT'
      unfold wX_layOut_98
      refine ax_lines C hton hm48 ok xb hcs hT' (by omega) X.1 (fun a_heads a_glyphs a_lineFacts X' => ?_)
      refine ⟨vp_in_nI (by omega) (by omega), nm_r (e' := vp_updL a_paragraphDemerits S.2.2.1 v) (by rw [nI_clamp (by omega)]) (nm_r (nI_1 _) (nm_r (nI_1 to) (hJ _ _ _ _ _ _ _ _ _ _ _ ⟨X', fun p hp => ?_⟩)))⟩
      show vp_updL a_paragraphDemerits S.2.2.1 v p = vp_updL S.2.2.2 S.2.2.1 (pr_v (pg_σ t w lg kn P n sw ss sk fw rw fl ba hyc fr to) (pg_m t P n fr to)) p
      have hp : p < S.2.2.1 + 1 := hp
      by_cases q : p = S.2.2.1
      · rw [q, pk_uLs, pk_uLs, hv]
      · rw [pk_uLn q, pk_uLn q]; exact X.2 p (by omega)
    refine nm_r (nI_1 to) (br_f (nI_ne0 (n := pg_m t P n fr to + 1) (by omega) (by omega)) (br_t (nI_lt (b := 48) (by omega) (by decide)) ?_))
    refine ax_best C hton hm48 ok xb (fun he a_heads a_glyphs a_wayDemerits a_wayBefore => ?_) (fun q he hb a_heads a_glyphs a_wayDemerits a_wayBefore a_breakTaken' hT' => ?_)
    · have he : dp_be (pg_σ t w lg kn P n sw ss sk fw rw fl ba hyc fr to) (pg_m t P n fr to) 16 = none := he
      have ecs : pg_cs t w lg kn P n sw ss sk fw rw fl ba hyc fr to = em_l (ln_b t lg w kn sw ss sk fw rw fl (pg_m t P n fr to) (pg_E t P n fr to) (pg_N t P n fr to) (pg_H t P n fr to)) (pg_m t P n fr to) 49 0 0 := by rw [pg_cs, pr_cs, he]
      refine br_t rfl (ax_emer C hton hm48 ok xb (fun a_heads a_glyphs a_breakTaken' hT' => fin _ _ _ _ _ _ ?_ (fun k a b => ?_)))
      · rw [pr_v, he]
      · rw [hT' k, ecs, hT k b]
    · have he : dp_be (pg_σ t w lg kn P n sw ss sk fw rw fl ba hyc fr to) (pg_m t P n fr to) 16 = some q := he
      have ecs : pg_cs t w lg kn P n sw ss sk fw rw fl ba hyc fr to = (dp_pt (pg_σ t w lg kn P n sw ss sk fw rw fl ba hyc fr to) 100 q).reverse := by rw [pg_cs, pr_cs, he]
      refine br_f (dp_nm1 hb) (fin _ _ _ _ _ _ ?_ (fun k a b => ?_))
      · rw [pr_v, he]; rfl
      · rw [hT' k, ecs, hT k b]
        have hmem : k ∈ (dp_pt (pg_σ t w lg kn P n sw ss sk fw rw fl ba hyc fr to) 100 q).reverse ↔ k ∈ dp_pt (pg_σ t w lg kn P n sw ss sk fw rw fl ba hyc fr to) 100 q := List.mem_reverse
        by_cases y : k ∈ dp_pt (pg_σ t w lg kn P n sw ss sk fw rw fl ba hyc fr to) 100 q
        · rw [if_pos (hmem.mpr y)]; exact if_pos y
        · rw [if_neg (fun z => y (hmem.mp z))]; exact if_neg y
theorem lx_loop (post : SX → Prop) (C : cf_ok t w lg kn n fw rw fl sw ss sk ba hyc ph) (hP : ∀ k, P k < 2 ^ 31)
    (hp : ∀ g x1 x_breakCount a_heads a_glyphs a_breakEnd a_breakNext a_breakHyphen a_breakTaken a_wayDemerits a_wayBefore a_lineFacts a_paragraphDemerits, lx_ok t lg w kn sw ss sk fw rw fl (ly_at t w lg kn P n sw ss sk fw rw fl ba hyc (n + 1)).1 a_lineFacts a_paragraphDemerits → wX_layOut_22 post (g + 1) x1 (nI (n + 1)) (nI n) (nI lc) (nI pc) (nI fw) (nI rw) (nI fl) (nI sw) (nI ss) (nI sk) (nI ba) (nI hyc) (nI ph) x_breakCount (nI (ly_at t w lg kn P n sw ss sk fw rw fl ba hyc (n + 1)).1.2.1) (nI (ly_at t w lg kn P n sw ss sk fw rw fl ba hyc (n + 1)).1.2.2.1) x_stale (gd_tI t) (gd_tI w) (gd_lI lg) (gd_kI kn) (gd_tI P) a_heads a_glyphs a_breakEnd a_breakNext a_breakHyphen a_breakTaken a_wayDemerits a_wayBefore a_lineFacts a_paragraphDemerits) :
    ∀ d i, i + d = n + 1 → ∀ x_breakCount a_heads a_glyphs a_breakEnd a_breakNext a_breakHyphen a_breakTaken a_wayDemerits a_wayBefore a_lineFacts a_paragraphDemerits, lx_ok t lg w kn sw ss sk fw rw fl (ly_at t w lg kn P n sw ss sk fw rw fl ba hyc i).1 a_lineFacts a_paragraphDemerits → wX_layOut_22 post (d + 1) (nI (ly_at t w lg kn P n sw ss sk fw rw fl ba hyc i).2) (nI i) (nI n) (nI lc) (nI pc) (nI fw) (nI rw) (nI fl) (nI sw) (nI ss) (nI sk) (nI ba) (nI hyc) (nI ph) x_breakCount (nI (ly_at t w lg kn P n sw ss sk fw rw fl ba hyc i).1.2.1) (nI (ly_at t w lg kn P n sw ss sk fw rw fl ba hyc i).1.2.2.1) x_stale (gd_tI t) (gd_tI w) (gd_lI lg) (gd_kI kn) (gd_tI P) a_heads a_glyphs a_breakEnd a_breakNext a_breakHyphen a_breakTaken a_wayDemerits a_wayBefore a_lineFacts a_paragraphDemerits := by
  have hn := C.1
  have ht := C.2.1
  intro d
  induction d with
  | zero =>
    intro i hi x_breakCount a_heads a_glyphs a_breakEnd a_breakNext a_breakHyphen a_breakTaken a_wayDemerits a_wayBefore a_lineFacts a_paragraphDemerits X
    have : i = n + 1 := by omega
    subst this
    exact hp 0 _ _ _ _ _ _ _ _ _ _ _ _ X
  | succ d ih =>
    intro i hi x_breakCount a_heads a_glyphs a_breakEnd a_breakNext a_breakHyphen a_breakTaken a_wayDemerits a_wayBefore a_lineFacts a_paragraphDemerits X
    obtain ⟨I1, I2, I3, I4, I5, I6, I7, I8⟩ := ly_okA (P := P) C i (by omega)
    have par : (i = n ∨ t i = 11) → wX_layOut_52 post (wX_layOut_22 post (d + 1)) (nI (ly_at t w lg kn P n sw ss sk fw rw fl ba hyc i).2) (nI i) (nI n) (nI lc) (nI pc) (nI fw) (nI rw) (nI fl) (nI sw) (nI ss) (nI sk) (nI ba) (nI hyc) (nI ph) x_breakCount (nI (ly_at t w lg kn P n sw ss sk fw rw fl ba hyc i).1.2.1) (nI (ly_at t w lg kn P n sw ss sk fw rw fl ba hyc i).1.2.2.1) x_stale (gd_tI t) (gd_tI w) (gd_lI lg) (gd_kI kn) (gd_tI P) a_heads a_glyphs a_breakEnd a_breakNext a_breakHyphen a_breakTaken a_wayDemerits a_wayBefore a_lineFacts a_paragraphDemerits := by
      intro c
      have e : ly_at t w lg kn P n sw ss sk fw rw fl ba hyc (i + 1) = (ly_p t w lg kn P n sw ss sk fw rw fl ba hyc (ly_at t w lg kn P n sw ss sk fw rw fl ba hyc i).2 i (ly_at t w lg kn P n sw ss sk fw rw fl ba hyc i).1, i + 1) := by rw [ly_at, if_pos c]
      refine lx_para post (d + 1) C hP I1 (by omega) (fun j a b => (I3 j a b).2) c (by omega) I4.1 (I5.2 (by omega)) X (fun x_breakCount a_heads a_glyphs a_breakEnd a_breakNext a_breakHyphen a_breakTaken a_wayDemerits a_wayBefore a_lineFacts a_paragraphDemerits X' => ?_)
      have := ih (i + 1) (by omega) x_breakCount a_heads a_glyphs a_breakEnd a_breakNext a_breakHyphen a_breakTaken a_wayDemerits a_wayBefore a_lineFacts a_paragraphDemerits (by rw [e]; exact X')
      rw [e] at this
      exact this
    refine br_f (nI_nlt (by omega) (by omega)) (pk_le n i (fun y => par (Or.inl (by omega))) (fun y => ⟨vp_in_nI (by omega) (by omega), ?_⟩))
    refine pk_eq (t i) 11 (fun c => par (Or.inr c)) (fun c => ?_) (gd_rt (by omega)) rfl (by have := ht i; omega) (by omega)
    have e : ly_at t w lg kn P n sw ss sk fw rw fl ba hyc (i + 1) = ly_at t w lg kn P n sw ss sk fw rw fl ba hyc i := by rw [ly_at, if_neg (by omega)]
    have := ih (i + 1) (by omega) x_breakCount a_heads a_glyphs a_breakEnd a_breakNext a_breakHyphen a_breakTaken a_wayDemerits a_wayBefore a_lineFacts a_paragraphDemerits (by rw [e]; exact X)
    rw [e] at this
    exact nm_r (nI_1 i) this
end
end
section
def yy_ok (S : ly_S) (b_lFrom b_lTo b_lNumber b_lParagraph b_lHyphen b_lLast : Nat → Int32) (b_best : Nat → Int64) : Prop := yl_ok S.2.1 S.1 b_lFrom b_lTo b_lNumber b_lParagraph b_lHyphen b_lLast ∧ ∀ p, p < S.2.2.1 → b_best p = S.2.2.2 p
section
variable {n lc pc fw rw fl sw ss sk ba hyc ph : Nat} {t w lg : Nat → Nat} {kn : Nat → Int}
variable {P pa pb pq pd : Nat → Nat} {fr to : Nat} {S : ly_S}
variable {y_ready y_glyphCount y_breaks y_natural y_spaces y_lineCount y_paragraphs : Int32} {b_patA b_patB b_patC b_patDigits b_glyphs b_glyphOf b_bEnd b_bNext b_bHyphen b_before b_way b_lFrom b_lTo b_lNumber b_lParagraph b_lPage b_lHyphen b_lLast : Nat → Int32} {b_least b_best : Nat → Int64}
theorem yy_para {post : SY → Prop} (C : cf_ok t w lg kn n fw rw fl sw ss sk ba hyc ph) (hpt : pt_ok P pc b_patA b_patB b_patC b_patDigits pa pb pq pd) (hft : fr ≤ to) (hton : to ≤ n) (h11 : ∀ j, fr ≤ j → j < to → t j ≠ 11) (hto : to = n ∨ t to = 11) (hfr : fr = 0 ∨ t (fr - 1) = 11) (hlc : S.2.1 ≤ fr) (hpar : 2 * S.2.2.1 ≤ fr) (Y : yy_ok S b_lFrom b_lTo b_lNumber b_lParagraph b_lHyphen b_lLast b_best)
    (hp : ∀ y_glyphCount y_breaks y_natural y_spaces b_glyphs b_glyphOf b_bEnd b_bNext b_bHyphen b_least b_before b_way b_lFrom b_lTo b_lNumber b_lParagraph b_lHyphen b_lLast b_best, yy_ok (ly_p t w lg kn P n sw ss sk fw rw fl ba hyc fr to S) b_lFrom b_lTo b_lNumber b_lParagraph b_lHyphen b_lLast b_best → post ((nI n), (nI lc), (nI pc), (nI fw), (nI rw), (nI fl), (nI sw), (nI ss), (nI sk), (nI ba), (nI hyc), (nI ph), y_ready, y_glyphCount, y_breaks, y_natural, y_spaces, (nI (ly_p t w lg kn P n sw ss sk fw rw fl ba hyc fr to S).2.1), (nI (ly_p t w lg kn P n sw ss sk fw rw fl ba hyc fr to S).2.2.1), (gd_tI t), (gd_tI w), (gd_lI lg), (gd_kI kn), b_patA, b_patB, b_patC, b_patDigits, b_glyphs, b_glyphOf, b_bEnd, b_bNext, b_bHyphen, b_least, b_before, b_way, b_lFrom, b_lTo, b_lNumber, b_lParagraph, b_lPage, b_lHyphen, b_lLast, b_best)) :
    wpY_paragraph post ((nI n), (nI lc), (nI pc), (nI fw), (nI rw), (nI fl), (nI sw), (nI ss), (nI sk), (nI ba), (nI hyc), (nI ph), y_ready, y_glyphCount, y_breaks, y_natural, y_spaces, (nI S.2.1), (nI S.2.2.1), (gd_tI t), (gd_tI w), (gd_lI lg), (gd_kI kn), b_patA, b_patB, b_patC, b_patDigits, b_glyphs, b_glyphOf, b_bEnd, b_bNext, b_bHyphen, b_least, b_before, b_way, b_lFrom, b_lTo, b_lNumber, b_lParagraph, b_lPage, b_lHyphen, b_lLast, b_best) (nI fr) (nI to) := by
  have hn := C.1
  have ht := C.2.1
  refine cy_para hn ht hpt hft hton h11 hto hfr (fun z => ?_) (fun z hm1 f b_bEnd b_bNext b_bHyphen yb => ?_)
  · have e : ly_p t w lg kn P n sw ss sk fw rw fl ba hyc fr to S = S := by rw [ly_p, if_neg (by omega)]
    rw [e] at hp
    exact hp _ _ _ _ _ _ _ _ _ _ _ _ _ _ _ _ _ _ _ Y
  · have ok : bk_ok t fr to (pg_m t P n fr to) (pg_E t P n fr to) (pg_N t P n fr to) (pg_H t P n fr to) := bk_fin ht hft h11 (bk_hyok hto hton hfr) hm1
    have hlen := pg_len (P := P) (sw := sw) (ss := ss) (sk := sk) (fw := fw) (rw := rw) (fl := fl) (ba := ba) (hyc := hyc) (fr := fr) (to := to) C hton
    have hcs := pg_cs_ok (P := P) (sw := sw) (ss := ss) (sk := sk) (fw := fw) (rw := rw) (fl := fl) (ba := ba) (hyc := hyc) C hlen.1
    have e : ly_p t w lg kn P n sw ss sk fw rw fl ba hyc fr to S = (lt_seq (pg_E t P n fr to) (pg_N t P n fr to) (pg_H t P n fr to) (pg_m t P n fr to) S.2.2.1 S.1 S.2.1 0 0 (pg_cs t w lg kn P n sw ss sk fw rw fl ba hyc fr to), S.2.1 + (pg_cs t w lg kn P n sw ss sk fw rw fl ba hyc fr to).length, S.2.2.1 + 1, vp_updL S.2.2.2 S.2.2.1 (pr_v (pg_σ t w lg kn P n sw ss sk fw rw fl ba hyc fr to) (pg_m t P n fr to))) := by rw [ly_p, if_pos z]
    rw [e] at hp
    have yb : bk_xb (pg_m t P n fr to) (pg_E t P n fr to) (pg_N t P n fr to) (pg_H t P n fr to) b_bEnd b_bNext b_bHyphen := yb
    have hm48 := hlen.1
    have hsk := (bk_sk_ok (t := t) hft).1
    have hL : dp_ln (ln_v t lg w kn sw ss sk fw rw fl ba hyc (pg_m t P n fr to) (pg_E t P n fr to) (pg_N t P n fr to) (pg_H t P n fr to)) := ln_ok C
    have W : dp_wf (pg_σ t w lg kn P n sw ss sk fw rw fl ba hyc fr to) := dp_all_wf hL _ hm48
    have hσ : ∀ s x, pg_σ t w lg kn P n sw ss sk fw rw fl ba hyc fr to s = some x → s < 16 * (pg_m t P n fr to + 1) := dp_all_M hL _
    have bst : ∀ v p, v = pr_v (pg_σ t w lg kn P n sw ss sk fw rw fl ba hyc fr to) (pg_m t P n fr to) → p < S.2.2.1 + 1 → vp_updL b_best S.2.2.1 v p = vp_updL S.2.2.2 S.2.2.1 (pr_v (pg_σ t w lg kn P n sw ss sk fw rw fl ba hyc fr to) (pg_m t P n fr to)) p := by
      intro v p hv hp
      by_cases q : p = S.2.2.1
      · rw [q, pk_uLs, pk_uLs, hv]
      · rw [pk_uLn q, pk_uLn q]; exact Y.2 p (by omega)
    refine br_t (nI_le (Nat.le_refl _) (by omega)) ?_
    refine dy_ways C hton hm48 h11 ok yb (fun g y_glyphCount y_natural y_spaces b_glyphs b_glyphOf b_least b_before hA => ?_)
    have hA : dp_arr (16 * (pg_m t P n fr to + 1)) (pg_σ t w lg kn P n sw ss sk fw rw fl ba hyc fr to) b_least b_before := hA
    refine br_t (nI_lt (a := pg_m t P n fr to) (b := pg_m t P n fr to + 1) (by omega) (by omega)) (nm_r (e' := nI (16 * pg_m t P n fr to + 0)) (by rw [show (16 : Int32) = nI 16 from rfl, pk_mul]; rfl) ⟨17, dy_best _ hm48 W hσ hA (fun f => ?_) 16 0 (by omega)⟩)
    refine br_t (by rw [show (16 : Int32) = nI 16 from rfl, pk_mul, nI_add]; exact nI_le (by omega) (by omega)) ?_
    cases he : dp_be (pg_σ t w lg kn P n sw ss sk fw rw fl ba hyc fr to) (pg_m t P n fr to) 16 with
    | none =>
      have ecs : pg_cs t w lg kn P n sw ss sk fw rw fl ba hyc fr to = em_l (ln_b t lg w kn sw ss sk fw rw fl (pg_m t P n fr to) (pg_E t P n fr to) (pg_N t P n fr to) (pg_H t P n fr to)) (pg_m t P n fr to) 49 0 0 := by rw [pg_cs, pr_cs, he]
      refine br_f (by decide) (br_t rfl ⟨vp_in_nI (by omega) (by omega), nm_r (e' := vp_updL b_best S.2.2.1 (-1)) (by rw [nI_clamp (by omega)]) ⟨49, ?_⟩⟩)
      refine ay_emer _ C hton hm48 h11 ok yb 49 0 0 S.2.1 S.1 _ _ _ _ _ _ _ _ _ _ _ (by omega) (by omega) (by omega) (by rw [← ecs]; omega) Y.1 (fun y_glyphCount y_natural y_spaces b_glyphs b_glyphOf b_lFrom b_lTo b_lNumber b_lParagraph b_lHyphen b_lLast Y' => ?_)
      rw [← ecs] at Y' ⊢
      refine nm_r (nI_1 _) (hp _ _ _ _ _ _ _ _ _ _ _ _ _ _ _ _ _ _ _ ⟨Y', fun p hq => bst (-1) p ?_ hq⟩)
      rw [pr_v, he]
    | some q =>
      obtain ⟨b1, b2, x, hx⟩ := dp_be_in 16 q he
      have ecs : pg_cs t w lg kn P n sw ss sk fw rw fl ba hyc fr to = (dp_pt (pg_σ t w lg kn P n sw ss sk fw rw fl ba hyc fr to) 100 q).reverse := by rw [pg_cs, pr_cs, he]
      have hv : b_least (nI q).toNatClampNeg = pr_v (pg_σ t w lg kn P n sw ss sk fw rw fl ba hyc fr to) (pg_m t P n fr to) := by
        rw [nI_clamp (by omega), pr_v, he]
        show b_least q = lN (dp_vl (pg_σ t w lg kn P n sw ss sk fw rw fl ba hyc fr to) q)
        rw [dp_vls hx]
        exact ((hA q (by omega)).2 x hx).1
      refine br_t (nI_pos' (by omega)) ⟨vp_in_nI (by omega) (by omega), vp_in_nI (by omega) (by omega), nm_r (e' := vp_updL b_best S.2.2.1 (pr_v (pg_σ t w lg kn P n sw ss sk fw rw fl ba hyc fr to) (pg_m t P n fr to))) ?_ ?_⟩
      · rw [nI_clamp (show S.2.2.1 < 2 ^ 31 by omega)]
        exact congrArg _ hv
      refine ay_take _ hm48 W hσ hA hx (fun b_way hw => ?_)
      have hll : (dp_pt (pg_σ t w lg kn P n sw ss sk fw rw fl ba hyc fr to) 100 q).length = (pg_cs t w lg kn P n sw ss sk fw rw fl ba hyc fr to).length := by rw [ecs, List.length_reverse]
      rw [hll] at hw ⊢
      refine ⟨_, ay_way _ hm48 yb (pg_cs t w lg kn P n sw ss sk fw rw fl ba hyc fr to) 0 0 S.2.1 S.1 _ _ _ _ _ _ hcs (by omega) (by omega) (fun i hi => ?_) Y.1 (fun b_lFrom b_lTo b_lNumber b_lParagraph b_lHyphen b_lLast Y' => ?_)⟩
      · rw [hw i hi, ecs, List.reverse_reverse]
      · refine br_f (by decide) (nm_r (nI_1 _) (hp _ _ _ _ _ _ _ _ _ _ _ _ _ _ _ _ _ _ _ ⟨Y', fun p hq => bst _ p rfl hq⟩))
theorem ly_scan {f : Nat} : ∀ d, (∀ j, f ≤ j → j < f + d → ¬ (j = n ∨ t j = 11)) → ly_at t w lg kn P n sw ss sk fw rw fl ba hyc (f + d) = ly_at t w lg kn P n sw ss sk fw rw fl ba hyc f := by
  intro d
  induction d with
  | zero => intro _; rfl
  | succ d ih =>
    intro h
    show ly_at t w lg kn P n sw ss sk fw rw fl ba hyc (f + d + 1) = _
    rw [ly_at, if_neg (h (f + d) (by omega) (by omega))]
    exact ih (fun j a b => h j a (by omega))
theorem yy_loop (post : SY → Prop) (C : cf_ok t w lg kn n fw rw fl sw ss sk ba hyc ph) (hpt : pt_ok P pc b_patA b_patB b_patC b_patDigits pa pb pq pd)
    (hp : ∀ g y_glyphCount y_breaks y_natural y_spaces b_glyphs b_glyphOf b_bEnd b_bNext b_bHyphen b_least b_before b_way b_lFrom b_lTo b_lNumber b_lParagraph b_lHyphen b_lLast b_best, yy_ok (ly_at t w lg kn P n sw ss sk fw rw fl ba hyc (n + 1)).1 b_lFrom b_lTo b_lNumber b_lParagraph b_lHyphen b_lLast b_best → wY_set_25 post (g + 1) (nI (n + 1)) (nI n) (nI lc) (nI pc) (nI fw) (nI rw) (nI fl) (nI sw) (nI ss) (nI sk) (nI ba) (nI hyc) (nI ph) y_ready y_glyphCount y_breaks y_natural y_spaces (nI (ly_at t w lg kn P n sw ss sk fw rw fl ba hyc (n + 1)).1.2.1) (nI (ly_at t w lg kn P n sw ss sk fw rw fl ba hyc (n + 1)).1.2.2.1) (gd_tI t) (gd_tI w) (gd_lI lg) (gd_kI kn) b_patA b_patB b_patC b_patDigits b_glyphs b_glyphOf b_bEnd b_bNext b_bHyphen b_least b_before b_way b_lFrom b_lTo b_lNumber b_lParagraph b_lPage b_lHyphen b_lLast b_best) :
    ∀ F f, n + 1 - f < F → f ≤ n + 1 → (ly_at t w lg kn P n sw ss sk fw rw fl ba hyc f).2 = f → ∀ y_glyphCount y_breaks y_natural y_spaces b_glyphs b_glyphOf b_bEnd b_bNext b_bHyphen b_least b_before b_way b_lFrom b_lTo b_lNumber b_lParagraph b_lHyphen b_lLast b_best, yy_ok (ly_at t w lg kn P n sw ss sk fw rw fl ba hyc f).1 b_lFrom b_lTo b_lNumber b_lParagraph b_lHyphen b_lLast b_best → wY_set_25 post F (nI f) (nI n) (nI lc) (nI pc) (nI fw) (nI rw) (nI fl) (nI sw) (nI ss) (nI sk) (nI ba) (nI hyc) (nI ph) y_ready y_glyphCount y_breaks y_natural y_spaces (nI (ly_at t w lg kn P n sw ss sk fw rw fl ba hyc f).1.2.1) (nI (ly_at t w lg kn P n sw ss sk fw rw fl ba hyc f).1.2.2.1) (gd_tI t) (gd_tI w) (gd_lI lg) (gd_kI kn) b_patA b_patB b_patC b_patDigits b_glyphs b_glyphOf b_bEnd b_bNext b_bHyphen b_least b_before b_way b_lFrom b_lTo b_lNumber b_lParagraph b_lPage b_lHyphen b_lLast b_best := by
  have hn := C.1
  have ht := C.2.1
  intro F
  induction F with
  | zero => intro f h; omega
  | succ F ih =>
    intro f hF hfn hf y_glyphCount y_breaks y_natural y_spaces b_glyphs b_glyphOf b_bEnd b_bNext b_bHyphen b_least b_before b_way b_lFrom b_lTo b_lNumber b_lParagraph b_lHyphen b_lLast b_best Y
    by_cases z : f = n + 1
    · subst z
      exact hp F _ _ _ _ _ _ _ _ _ _ _ _ _ _ _ _ _ _ _ Y
    · obtain ⟨I1, I2, I3, I4, I5, I6, I7, I8⟩ := ly_okA (P := P) (sw := sw) (ss := ss) (sk := sk) (fw := fw) (rw := rw) (fl := fl) (ba := ba) (hyc := hyc) C f hfn
      rw [hf] at I1 I2 I3 I4 I5 I8
      have fin : ∀ to, f ≤ to → to ≤ n → (∀ j, f ≤ j → j < to → ¬ (j = n ∨ t j = 11)) → (to = n ∨ t to = 11) → wY_set_60 post (wY_set_25 post F) (nI f) (nI to) (nI n) (nI lc) (nI pc) (nI fw) (nI rw) (nI fl) (nI sw) (nI ss) (nI sk) (nI ba) (nI hyc) (nI ph) y_ready y_glyphCount y_breaks y_natural y_spaces (nI (ly_at t w lg kn P n sw ss sk fw rw fl ba hyc f).1.2.1) (nI (ly_at t w lg kn P n sw ss sk fw rw fl ba hyc f).1.2.2.1) (gd_tI t) (gd_tI w) (gd_lI lg) (gd_kI kn) b_patA b_patB b_patC b_patDigits b_glyphs b_glyphOf b_bEnd b_bNext b_bHyphen b_least b_before b_way b_lFrom b_lTo b_lNumber b_lParagraph b_lPage b_lHyphen b_lLast b_best := by
        intro to h1 h2 h3 h4
        have es := ly_scan (w := w) (lg := lg) (kn := kn) (P := P) (sw := sw) (ss := ss) (sk := sk) (fw := fw) (rw := rw) (fl := fl) (ba := ba) (hyc := hyc) (n := n) (t := t) (f := f) (to - f) (fun j a b => h3 j a (by omega))
        rw [show f + (to - f) = to by omega] at es
        have e : ly_at t w lg kn P n sw ss sk fw rw fl ba hyc (to + 1) = (ly_p t w lg kn P n sw ss sk fw rw fl ba hyc f to (ly_at t w lg kn P n sw ss sk fw rw fl ba hyc f).1, to + 1) := by rw [ly_at, if_pos h4, es, hf]
        unfold wY_set_60
        refine yy_para C hpt h1 h2 (fun j a b c => h3 j a b (Or.inr c)) h4 (by omega) I4.1 (I5.2 (by omega)) Y (fun y_glyphCount y_breaks y_natural y_spaces b_glyphs b_glyphOf b_bEnd b_bNext b_bHyphen b_least b_before b_way b_lFrom b_lTo b_lNumber b_lParagraph b_lHyphen b_lLast b_best Y' => ?_)
        have := ih (to + 1) (by omega) (by omega) (by rw [e]) y_glyphCount y_breaks y_natural y_spaces b_glyphs b_glyphOf b_bEnd b_bNext b_bHyphen b_least b_before b_way b_lFrom b_lTo b_lNumber b_lParagraph b_lHyphen b_lLast b_best (by rw [e]; exact Y')
        rw [e] at this
        exact nm_r (nI_1 to) this
      have scan : ∀ d j, j + d = n → f ≤ j → (∀ q, f ≤ q → q < j → ¬ (q = n ∨ t q = 11)) → wY_set_35 post (wY_set_25 post F) (nI f) (nI n) (nI lc) (nI pc) (nI fw) (nI rw) (nI fl) (nI sw) (nI ss) (nI sk) (nI ba) (nI hyc) (nI ph) y_ready y_glyphCount y_breaks y_natural y_spaces (nI (ly_at t w lg kn P n sw ss sk fw rw fl ba hyc f).1.2.1) (nI (ly_at t w lg kn P n sw ss sk fw rw fl ba hyc f).1.2.2.1) (gd_tI t) (gd_tI w) (gd_lI lg) (gd_kI kn) b_patA b_patB b_patC b_patDigits b_glyphs b_glyphOf b_bEnd b_bNext b_bHyphen b_least b_before b_way b_lFrom b_lTo b_lNumber b_lParagraph b_lPage b_lHyphen b_lLast b_best (d + 1) (nI j) := by
        intro d
        induction d with
        | zero =>
          intro j hj h1 h2
          exact br_t (nI_le (by omega) (by omega)) (fin j h1 (by omega) h2 (Or.inl (by omega)))
        | succ d ihd =>
          intro j hj h1 h2
          refine br_f (nI_ge (by omega) (by omega)) ⟨vp_in_nI (by omega) (by omega), ?_⟩
          refine pk_eq (t j) 11 (fun c => fin j h1 (by omega) h2 (Or.inr c)) (fun c => ?_) (gd_rt (by omega)) rfl (by have := ht j; omega) (by omega)
          refine nm_r (nI_1 j) (ihd (j + 1) (by omega) (by omega) (fun q a b => ?_))
          by_cases q1 : q = j
          · subst q1; omega
          · exact h2 q a (by omega)
      exact br_f (nI_nlt (by omega) (by omega)) ⟨n - f + 1, scan (n - f) f (by omega) (Nat.le_refl _) (fun q a b => absurd a (by omega))⟩
end
end
section
/-! pages -/
abbrev lt_num (r : lt_R) : Nat := r.2.2.2.1
abbrev lt_last (r : lt_R) : Bool := r.2.2.2.2.1
abbrev lt_par (r : lt_R) : Nat := r.2.2.2.2.2
/-- a page may end before line k -/
def pe_g (Λ : lt_T) (lc k : Nat) : Bool := decide (lt_par (Λ (k - 1)) ≠ lt_par (Λ k) ∨ (2 ≤ k ∧ lt_par (Λ (k - 2)) = lt_par (Λ k) ∧ k + 1 < lc ∧ lt_par (Λ (k + 1)) = lt_par (Λ k)))
def pe_e (Λ : lt_T) (lc ph s : Nat) : Nat → Nat
  | 0 => s + ph
  | j + 1 => if pe_g Λ lc (s + (j + 1)) = true then s + (j + 1) else pe_e Λ lc ph s j
def pe_E (Λ : lt_T) (lc ph s : Nat) : Nat := if s + ph < lc then pe_e Λ lc ph s ph else lc
def pe_f (Λ : lt_T) (lc ph : Nat) : Nat → Nat → Nat → Nat → Nat
  | 0, _, _, _ => 0
  | f + 1, s, q, k => if k < pe_E Λ lc ph s then q else pe_f Λ lc ph f (pe_E Λ lc ph s) (q + 1) k
theorem pe_e_b (Λ : lt_T) (lc ph s : Nat) (hph : 1 ≤ ph) : ∀ j, j ≤ ph → s < pe_e Λ lc ph s j ∧ pe_e Λ lc ph s j ≤ s + ph := by
  intro j
  induction j with
  | zero => intro _; rw [pe_e]; omega
  | succ j ih =>
    intro h
    rw [pe_e]
    split
    · omega
    · exact ih (by omega)
theorem pe_E_b {Λ : lt_T} {lc ph s : Nat} (hph : 1 ≤ ph) (hs : s < lc) : s < pe_E Λ lc ph s ∧ pe_E Λ lc ph s ≤ lc := by
  rw [pe_E]
  split
  · have := pe_e_b Λ lc ph s hph ph (Nat.le_refl _); omega
  · omega
section
variable {n lc pc fw rw fl sw ss sk ba hyc ph : Nat} {t w lg : Nat → Nat} {kn : Nat → Int}
variable {P : Nat → Nat} {par lnc : Nat} {Λ : lt_T}
variable {x_breakCount x_lineCount x_paragraphCount x_stale : Int32} {a_patterns a_heads a_glyphs a_breakEnd a_breakNext a_breakHyphen a_breakTaken a_wayBefore a_lineFacts : Nat → Int32} {a_wayDemerits a_paragraphDemerits : Nat → Int64}
theorem px_par {post : Int32 → Prop} {k : Nat} (hl : lnc ≤ 48) (hk : k < 1000) (X : (xl_ok t lg w kn sw ss sk fw rw fl) lnc Λ a_lineFacts) (hp1 : k < lnc → post (nI (lt_par (Λ k)))) (hp2 : lnc ≤ k → post (-1)) : wpX_paragraphOf post ((nI n), (nI lc), (nI pc), (nI fw), (nI rw), (nI fl), (nI sw), (nI ss), (nI sk), (nI ba), (nI hyc), (nI ph), x_breakCount, (nI lnc), x_paragraphCount, x_stale, (gd_tI t), (gd_tI w), (gd_lI lg), (gd_kI kn), a_patterns, a_heads, a_glyphs, a_breakEnd, a_breakNext, a_breakHyphen, a_breakTaken, a_wayDemerits, a_wayBefore, a_lineFacts, a_paragraphDemerits) (nI k) := by
  refine br_f (nI_pos (by omega)) (pk_lt k lnc (fun y => ?_) (fun y => hp2 y))
  have e : nI k * 8 + 5 = nI (8 * k + 5) := by
    rw [show (8 : Int32) = nI 8 from rfl, show (5 : Int32) = nI 5 from rfl, pk_mul, nI_add, Nat.mul_comm]
  refine ⟨pk_in (8 * k + 5) 384 (by omega) e, ?_⟩
  rw [e, nI_clamp (by omega), (X k y).2.2.2.2.2.1]
  exact hp1 y
theorem px_may {post : Int32 → Prop} {k : Nat} (hl : lnc ≤ 48) (hk1 : 1 ≤ k) (hk : k < lnc) (hpr : ∀ i, i < lnc → lt_par (Λ i) < 1000) (X : (xl_ok t lg w kn sw ss sk fw rw fl) lnc Λ a_lineFacts) (hp : post (gd_bI (pe_g Λ lnc k))) : wpX_mayPageEndBefore post ((nI n), (nI lc), (nI pc), (nI fw), (nI rw), (nI fl), (nI sw), (nI ss), (nI sk), (nI ba), (nI hyc), (nI ph), x_breakCount, (nI lnc), x_paragraphCount, x_stale, (gd_tI t), (gd_tI w), (gd_lI lg), (gd_kI kn), a_patterns, a_heads, a_glyphs, a_breakEnd, a_breakNext, a_breakHyphen, a_breakTaken, a_wayDemerits, a_wayBefore, a_lineFacts, a_paragraphDemerits) (nI k) := by
  have p0 := hpr k hk
  have p1 := hpr (k - 1) (by omega)
  unfold wpX_mayPageEndBefore
  refine px_par hl (by omega) X (fun _ => ?_) (fun y => absurd y (by omega))
  rw [show nI k - 1 = nI (k - 1) from gd_p1 (by omega)]
  refine px_par hl (by omega) X (fun _ => ?_) (fun y => absurd y (by omega))
  refine pk_eq (lt_par (Λ (k - 1))) (lt_par (Λ k)) (fun e1 => ?_) (fun e1 => ?_)
  · by_cases k2 : 2 ≤ k
    · have p2 := hpr (k - 2) (by omega)
      have e2 : nI k - 2 = nI (k - 2) := by rw [show (2 : Int32) = nI 2 from rfl, pk_sub k2]
      rw [e2]
      refine px_par hl (by omega) X (fun _ => ?_) (fun y => absurd y (by omega))
      refine pk_eq (lt_par (Λ (k - 2))) (lt_par (Λ k)) (fun e3 => ?_) (fun e3 => ?_)
      · rw [nI_1]
        refine px_par hl (by omega) X (fun y => ?_) (fun y => ?_)
        · have p3 := hpr (k + 1) y
          refine pk_eq (lt_par (Λ (k + 1))) (lt_par (Λ k)) (fun e4 => ?_) (fun e4 => ?_)
          · rw [pe_g, decide_eq_true (Or.inr ⟨k2, e3, y, e4⟩)] at hp; exact hp
          · rw [pe_g, decide_eq_false (by omega)] at hp; exact hp
        · refine br_f (fun z => gd_nm1 (show lt_par (Λ k) < 2 ^ 31 by omega) z.symm) ?_
          rw [pe_g, decide_eq_false (by omega)] at hp; exact hp
      · rw [pe_g, decide_eq_false (by omega)] at hp; exact hp
    · have : k = 1 := by omega
      subst this
      refine br_t (by decide) (br_f (fun z => gd_nm1 (show lt_par (Λ 1) < 2 ^ 31 by omega) z.symm) ?_)
      rw [pe_g, decide_eq_false (by omega)] at hp; exact hp
  · rw [pe_g, decide_eq_true (Or.inl e1)] at hp; exact hp
theorem px_end {post : Int32 → Prop} {s : Nat} (hl : lnc ≤ 48) (hph : 1 ≤ ph) (hph2 : ph ≤ 12) (hs : s < lnc) (hpr : ∀ i, i < lnc → lt_par (Λ i) < 1000) (X : (xl_ok t lg w kn sw ss sk fw rw fl) lnc Λ a_lineFacts) (hp : post (nI (pe_E Λ lnc ph s))) : wpX_pageEnd post ((nI n), (nI lc), (nI pc), (nI fw), (nI rw), (nI fl), (nI sw), (nI ss), (nI sk), (nI ba), (nI hyc), (nI ph), x_breakCount, (nI lnc), x_paragraphCount, x_stale, (gd_tI t), (gd_tI w), (gd_lI lg), (gd_kI kn), a_patterns, a_heads, a_glyphs, a_breakEnd, a_breakNext, a_breakHyphen, a_breakTaken, a_wayDemerits, a_wayBefore, a_lineFacts, a_paragraphDemerits) (nI s) := by
  rw [pe_E] at hp
  refine pk_lt (s + ph) lnc (fun y => ?_) (fun y => ?_) (nI_add s ph) rfl (by omega) (by omega)
  · rw [if_pos y] at hp
    have loop : ∀ j, j ≤ ph → post (nI (pe_e Λ lnc ph s j)) → wX_pageEnd_25 post (nI s) (nI n) (nI lc) (nI pc) (nI fw) (nI rw) (nI fl) (nI sw) (nI ss) (nI sk) (nI ba) (nI hyc) (nI ph) x_breakCount (nI lnc) x_paragraphCount x_stale (gd_tI t) (gd_tI w) (gd_lI lg) (gd_kI kn) a_patterns a_heads a_glyphs a_breakEnd a_breakNext a_breakHyphen a_breakTaken a_wayDemerits a_wayBefore a_lineFacts a_paragraphDemerits (j + 1) (nI (s + j)) := by
      intro j
      induction j with
      | zero =>
        intro _ hp
        refine br_t (nI_le (by omega) (by omega)) ?_
        rw [nI_add]
        exact hp
      | succ j ih =>
        intro hj hp
        rw [pe_e] at hp
        refine br_f (nI_ge (by omega) (by omega)) (px_may hl (by omega) (by omega) hpr X (gd_bt (fun z => ?_) (fun z => ?_)))
        · rw [if_neg (by rw [z]; decide)] at hp
          exact nm_r (pk_m1 (s + j)) (ih (by omega) hp)
        · rw [if_pos z] at hp
          exact hp
    exact nm_r (nI_add s ph) ⟨ph + 1, loop ph (Nat.le_refl _) hp⟩
  · rw [if_neg (by omega)] at hp
    exact hp
theorem px_fill {post : SX → Prop} (hl : lnc ≤ 48) (hph : 1 ≤ ph) (hph2 : ph ≤ 12) (hpr : ∀ i, i < lnc → lt_par (Λ i) < 1000) (X : (xl_ok t lg w kn sw ss sk fw rw fl) lnc Λ a_lineFacts)
    (hp : ∀ a_lineFacts, (xl_ok t lg w kn sw ss sk fw rw fl) lnc Λ a_lineFacts → (∀ k, k < lnc → a_lineFacts (8 * k + 6) = nI (pe_f Λ lnc ph 49 0 0 k)) → post ((nI n), (nI lc), (nI pc), (nI fw), (nI rw), (nI fl), (nI sw), (nI ss), (nI sk), (nI ba), (nI hyc), (nI ph), x_breakCount, (nI lnc), x_paragraphCount, x_stale, (gd_tI t), (gd_tI w), (gd_lI lg), (gd_kI kn), a_patterns, a_heads, a_glyphs, a_breakEnd, a_breakNext, a_breakHyphen, a_breakTaken, a_wayDemerits, a_wayBefore, a_lineFacts, a_paragraphDemerits)) : wpX_fillPages post ((nI n), (nI lc), (nI pc), (nI fw), (nI rw), (nI fl), (nI sw), (nI ss), (nI sk), (nI ba), (nI hyc), (nI ph), x_breakCount, (nI lnc), x_paragraphCount, x_stale, (gd_tI t), (gd_tI w), (gd_lI lg), (gd_kI kn), a_patterns, a_heads, a_glyphs, a_breakEnd, a_breakNext, a_breakHyphen, a_breakTaken, a_wayDemerits, a_wayBefore, a_lineFacts, a_paragraphDemerits) := by
  have xup : ∀ F k v, (xl_ok t lg w kn sw ss sk fw rw fl) lnc Λ F → (xl_ok t lg w kn sw ss sk fw rw fl) lnc Λ (upd F (8 * k + 6) v) := by
    intro F k v h i hi
    obtain ⟨r0, r1, r2, r3, r4, r5, r7⟩ := h i hi
    refine ⟨?_, ?_, ?_, ?_, ?_, ?_, ?_⟩ <;> rw [pk_un (by omega)]
    · exact r0
    · exact r1
    · exact r2
    · exact r3
    · exact r4
    · exact r5
    · exact r7
  have loop : ∀ f s q a_lineFacts, lnc - s < f → s ≤ lnc → q ≤ s → (xl_ok t lg w kn sw ss sk fw rw fl) lnc Λ a_lineFacts → (∀ a_lineFacts', (xl_ok t lg w kn sw ss sk fw rw fl) lnc Λ a_lineFacts' → (∀ k, k < s → a_lineFacts' (8 * k + 6) = a_lineFacts (8 * k + 6)) → (∀ k, s ≤ k → k < lnc → a_lineFacts' (8 * k + 6) = nI (pe_f Λ lnc ph f s q k)) → post ((nI n), (nI lc), (nI pc), (nI fw), (nI rw), (nI fl), (nI sw), (nI ss), (nI sk), (nI ba), (nI hyc), (nI ph), x_breakCount, (nI lnc), x_paragraphCount, x_stale, (gd_tI t), (gd_tI w), (gd_lI lg), (gd_kI kn), a_patterns, a_heads, a_glyphs, a_breakEnd, a_breakNext, a_breakHyphen, a_breakTaken, a_wayDemerits, a_wayBefore, a_lineFacts', a_paragraphDemerits)) → wX_fillPages_4 post (nI n) (nI lc) (nI pc) (nI fw) (nI rw) (nI fl) (nI sw) (nI ss) (nI sk) (nI ba) (nI hyc) (nI ph) x_breakCount (nI lnc) x_paragraphCount x_stale f (nI s) (nI q) (gd_tI t) (gd_tI w) (gd_lI lg) (gd_kI kn) a_patterns a_heads a_glyphs a_breakEnd a_breakNext a_breakHyphen a_breakTaken a_wayDemerits a_wayBefore a_lineFacts a_paragraphDemerits := by
    intro f
    induction f with
    | zero => intro s q a_lineFacts h; omega
    | succ f ih =>
      intro s q a_lineFacts h1 h2 h3 X hp
      by_cases z : lnc ≤ s
      · have done := hp a_lineFacts X (fun k hk => rfl) (fun k a b => absurd a (by omega))
        exact br_c (fun _ => done) (fun _ => br_t (nI_le z (by omega)) done)
      · have hE := pe_E_b (Λ := Λ) (lc := lnc) (ph := ph) (s := s) hph (by omega)
        refine br_f (nI_ge (b := 48) (by omega) (by decide)) (br_f (nI_ge (by omega) (by omega)) (px_end hl hph hph2 (by omega) hpr X ?_))
        have inner : ∀ d k F, k + d = pe_E Λ lnc ph s → s ≤ k → (xl_ok t lg w kn sw ss sk fw rw fl) lnc Λ F → (∀ j, j < s → F (8 * j + 6) = a_lineFacts (8 * j + 6)) → (∀ j, s ≤ j → j < k → F (8 * j + 6) = nI q) → wX_fillPages_27 post (wX_fillPages_4 post (nI n) (nI lc) (nI pc) (nI fw) (nI rw) (nI fl) (nI sw) (nI ss) (nI sk) (nI ba) (nI hyc) (nI ph) x_breakCount (nI lnc) x_paragraphCount x_stale f) (nI q) (nI (pe_E Λ lnc ph s)) (nI n) (nI lc) (nI pc) (nI fw) (nI rw) (nI fl) (nI sw) (nI ss) (nI sk) (nI ba) (nI hyc) (nI ph) x_breakCount (nI lnc) x_paragraphCount x_stale (d + 1) (nI k) (gd_tI t) (gd_tI w) (gd_lI lg) (gd_kI kn) a_patterns a_heads a_glyphs a_breakEnd a_breakNext a_breakHyphen a_breakTaken a_wayDemerits a_wayBefore F a_paragraphDemerits := by
          intro d
          induction d with
          | zero =>
            intro k F hk hsk XF hlo hq
            have e : k = pe_E Λ lnc ph s := by omega
            subst e
            refine br_t (nI_le (Nat.le_refl _) (by omega)) (nm_r (nI_1 q) (ih (pe_E Λ lnc ph s) (q + 1) F (by omega) (by omega) (by omega) XF (fun F' XF' h4 h5 => hp F' XF' (fun k hk => ?_) (fun k a b => ?_))))
            · rw [h4 k (by omega), hlo k hk]
            · rw [pe_f]
              by_cases y : k < pe_E Λ lnc ph s
              · rw [if_pos y, h4 k y, hq k a y]
              · rw [if_neg y, h5 k (by omega) b]
          | succ d ihd =>
            intro k F hk hsk XF hlo hq
            have e : nI k * 8 + 6 = nI (8 * k + 6) := by
              rw [show (8 : Int32) = nI 8 from rfl, show (6 : Int32) = nI 6 from rfl, pk_mul, nI_add, Nat.mul_comm]
            refine br_f (nI_ge (by omega) (by omega)) ⟨pk_in (8 * k + 6) 384 (by omega) e, nm_r (e' := upd F (8 * k + 6) (nI q)) (by rw [e, nI_clamp (by omega)]) (nm_r (nI_1 k) (ihd (k + 1) _ (by omega) (by omega) (xup F k _ XF) (fun j hj => ?_) (fun j a b => ?_)))⟩
            · rw [pk_un (by omega), hlo j hj]
            · by_cases y : j = k
              · rw [y, pk_us]
              · rw [pk_un (by omega), hq j a (by omega)]
        exact ⟨pe_E Λ lnc ph s - s + 1, inner (pe_E Λ lnc ph s - s) s a_lineFacts (by omega) (Nat.le_refl _) X (fun j _ => rfl) (fun j a b => absurd a (by omega))⟩
  exact ⟨49, loop 49 0 0 a_lineFacts (by omega) (by omega) (by omega) X (fun F XF _ h => hp F XF (fun k hk => h k (by omega) hk))⟩
end
section
variable {n lc pc fw rw fl sw ss sk ba hyc ph : Nat} {t w lg : Nat → Nat} {kn : Nat → Int}
variable {P : Nat → Nat} {par lnc : Nat} {Λ : lt_T}
variable {y_ready y_glyphCount y_breaks y_natural y_spaces y_lineCount y_paragraphs : Int32} {b_patA b_patB b_patC b_patDigits b_glyphs b_glyphOf b_bEnd b_bNext b_bHyphen b_before b_way b_lFrom b_lTo b_lNumber b_lParagraph b_lPage b_lHyphen b_lLast : Nat → Int32} {b_least b_best : Nat → Int64}
def pe_mn (r : lt_R) : Bool := decide (0 < lt_num r) || !(lt_last r)
theorem py_many {post : Int32 → Prop} {k : Nat} (hl : lnc ≤ 48) (hk : k < lnc) (hv : ∀ i, i < lnc → lt_num (Λ i) < 1000) (Y : yl_ok lnc Λ b_lFrom b_lTo b_lNumber b_lParagraph b_lHyphen b_lLast) (hp : post (gd_bI (pe_mn (Λ k)))) : wpY_many post ((nI n), (nI lc), (nI pc), (nI fw), (nI rw), (nI fl), (nI sw), (nI ss), (nI sk), (nI ba), (nI hyc), (nI ph), y_ready, y_glyphCount, y_breaks, y_natural, y_spaces, y_lineCount, y_paragraphs, (gd_tI t), (gd_tI w), (gd_lI lg), (gd_kI kn), b_patA, b_patB, b_patC, b_patDigits, b_glyphs, b_glyphOf, b_bEnd, b_bNext, b_bHyphen, b_least, b_before, b_way, b_lFrom, b_lTo, b_lNumber, b_lParagraph, b_lPage, b_lHyphen, b_lLast, b_best) (nI k) := by
  obtain ⟨r1, r2, r3, r4, r5, r6⟩ := Y k hk
  have := hv k hk
  refine ⟨vp_in_nI (by omega) (by omega), pk_lt 0 (lt_num (Λ k)) (fun y => ?_) (fun y => ⟨vp_in_nI (by omega) (by omega), gd_bx (lt_last (Λ k)) (by rw [nI_clamp (by omega), r5]) (fun z => ?_) (fun z => ?_)⟩) rfl (by rw [nI_clamp (by omega), r4]) (by omega) (by omega)⟩
  · rw [pe_mn, decide_eq_true y] at hp; exact hp
  · rw [pe_mn, z, Bool.not_false, Bool.or_true] at hp; exact hp
  · rw [pe_mn, decide_eq_false (by omega), z] at hp; exact hp
/-- Y's condition is the opposite of X's -/
theorem pe_bad {k : Nat} (fit : lt_fit lnc par Λ) (hk1 : 1 ≤ k) (hk : k < lnc) : ((lt_last (Λ k) = true ∧ pe_mn (Λ k) = true) ∨ (lt_num (Λ (k - 1)) = 0 ∧ pe_mn (Λ (k - 1)) = true)) ↔ pe_g Λ lnc k = false := by
  obtain ⟨a1, a2, a3⟩ := fit k hk
  obtain ⟨b1, b2, b3⟩ := fit (k - 1) (by omega)
  rw [show k - 1 + 1 = k by omega] at b2
  rw [show k - 1 - 1 = k - 2 by omega] at b1
  rw [pe_g, decide_eq_false_iff_not, pe_mn, pe_mn, Bool.or_eq_true, Bool.or_eq_true, decide_eq_true_eq, decide_eq_true_eq, Bool.not_eq_true', Bool.not_eq_true']
  have n1 : lt_last (Λ k) = false ↔ ¬ lt_last (Λ k) = true := by cases lt_last (Λ k) <;> simp
  have n2 : lt_last (Λ (k - 1)) = false ↔ ¬ lt_last (Λ (k - 1)) = true := by cases lt_last (Λ (k - 1)) <;> simp
  rw [n1, n2]
  have a1 : lt_num (Λ k) = 0 ↔ (k = 0 ∨ lt_par (Λ (k - 1)) ≠ lt_par (Λ k)) := a1
  have a2 : lt_last (Λ k) = true ↔ (k + 1 = lnc ∨ lt_par (Λ (k + 1)) ≠ lt_par (Λ k)) := a2
  have b1 : lt_num (Λ (k - 1)) = 0 ↔ (k - 1 = 0 ∨ lt_par (Λ (k - 2)) ≠ lt_par (Λ (k - 1))) := b1
  have b2 : lt_last (Λ (k - 1)) = true ↔ (k = lnc ∨ lt_par (Λ k) ≠ lt_par (Λ (k - 1))) := b2
  rw [a2, b2]
  generalize lt_num (Λ k) = nk at *
  generalize lt_num (Λ (k - 1)) = nk1 at *
  generalize lt_par (Λ k) = pk at *
  generalize lt_par (Λ (k - 1)) = pk1 at *
  generalize lt_par (Λ (k - 2)) = pk2 at *
  generalize lt_par (Λ (k + 1)) = pk3 at *
  omega
theorem py_pages {post : SY → Prop} (hl : lnc ≤ 48) (hph : 1 ≤ ph) (hph2 : ph ≤ 12) (hv : ∀ i, i < lnc → lt_num (Λ i) < 1000) (fit : lt_fit lnc par Λ) (Y : yl_ok lnc Λ b_lFrom b_lTo b_lNumber b_lParagraph b_lHyphen b_lLast)
    (hp : ∀ b_lPage, (∀ k, k < lnc → b_lPage k = nI (pe_f Λ lnc ph 49 0 0 k)) → post ((nI n), (nI lc), (nI pc), (nI fw), (nI rw), (nI fl), (nI sw), (nI ss), (nI sk), (nI ba), (nI hyc), (nI ph), y_ready, y_glyphCount, y_breaks, y_natural, y_spaces, (nI lnc), y_paragraphs, (gd_tI t), (gd_tI w), (gd_lI lg), (gd_kI kn), b_patA, b_patB, b_patC, b_patDigits, b_glyphs, b_glyphOf, b_bEnd, b_bNext, b_bHyphen, b_least, b_before, b_way, b_lFrom, b_lTo, b_lNumber, b_lParagraph, b_lPage, b_lHyphen, b_lLast, b_best)) : wpY_pages post ((nI n), (nI lc), (nI pc), (nI fw), (nI rw), (nI fl), (nI sw), (nI ss), (nI sk), (nI ba), (nI hyc), (nI ph), y_ready, y_glyphCount, y_breaks, y_natural, y_spaces, (nI lnc), y_paragraphs, (gd_tI t), (gd_tI w), (gd_lI lg), (gd_kI kn), b_patA, b_patB, b_patC, b_patDigits, b_glyphs, b_glyphOf, b_bEnd, b_bNext, b_bHyphen, b_least, b_before, b_way, b_lFrom, b_lTo, b_lNumber, b_lParagraph, b_lPage, b_lHyphen, b_lLast, b_best) := by
  have loop : ∀ f s q b_lPage, lnc - s < f → s ≤ lnc → q ≤ s → (∀ b_lPage', (∀ k, k < s → b_lPage' k = b_lPage k) → (∀ k, s ≤ k → k < lnc → b_lPage' k = nI (pe_f Λ lnc ph f s q k)) → post ((nI n), (nI lc), (nI pc), (nI fw), (nI rw), (nI fl), (nI sw), (nI ss), (nI sk), (nI ba), (nI hyc), (nI ph), y_ready, y_glyphCount, y_breaks, y_natural, y_spaces, (nI lnc), y_paragraphs, (gd_tI t), (gd_tI w), (gd_lI lg), (gd_kI kn), b_patA, b_patB, b_patC, b_patDigits, b_glyphs, b_glyphOf, b_bEnd, b_bNext, b_bHyphen, b_least, b_before, b_way, b_lFrom, b_lTo, b_lNumber, b_lParagraph, b_lPage', b_lHyphen, b_lLast, b_best)) → wY_pages_4 post (nI n) (nI lc) (nI pc) (nI fw) (nI rw) (nI fl) (nI sw) (nI ss) (nI sk) (nI ba) (nI hyc) (nI ph) y_ready y_glyphCount y_breaks y_natural y_spaces (nI lnc) y_paragraphs f (nI q) (nI s) (gd_tI t) (gd_tI w) (gd_lI lg) (gd_kI kn) b_patA b_patB b_patC b_patDigits b_glyphs b_glyphOf b_bEnd b_bNext b_bHyphen b_least b_before b_way b_lFrom b_lTo b_lNumber b_lParagraph b_lPage b_lHyphen b_lLast b_best := by
    intro f
    induction f with
    | zero => intro s q b_lPage h; omega
    | succ f ih =>
      intro s q b_lPage h1 h2 h3 hp
      by_cases z : lnc ≤ s
      · exact br_t (nI_le z (by omega)) (hp b_lPage (fun k hk => rfl) (fun k a b => absurd a (by omega)))
      · have hE := pe_E_b (Λ := Λ) (lc := lnc) (ph := ph) (s := s) hph (by omega)
        have inner : ∀ tt, s + tt = pe_E Λ lnc ph s → ∀ d k F, k + d = pe_E Λ lnc ph s → s ≤ k → (∀ j, j < s → F j = b_lPage j) → (∀ j, s ≤ j → j < k → F j = nI q) → wY_pages_118 post (wY_pages_4 post (nI n) (nI lc) (nI pc) (nI fw) (nI rw) (nI fl) (nI sw) (nI ss) (nI sk) (nI ba) (nI hyc) (nI ph) y_ready y_glyphCount y_breaks y_natural y_spaces (nI lnc) y_paragraphs f) (nI q) (nI s) (nI tt) (nI n) (nI lc) (nI pc) (nI fw) (nI rw) (nI fl) (nI sw) (nI ss) (nI sk) (nI ba) (nI hyc) (nI ph) y_ready y_glyphCount y_breaks y_natural y_spaces (nI lnc) y_paragraphs (d + 1) (nI k) (gd_tI t) (gd_tI w) (gd_lI lg) (gd_kI kn) b_patA b_patB b_patC b_patDigits b_glyphs b_glyphOf b_bEnd b_bNext b_bHyphen b_least b_before b_way b_lFrom b_lTo b_lNumber b_lParagraph F b_lHyphen b_lLast b_best := by
          intro tt htt d
          induction d with
          | zero =>
            intro k F hk hsk hlo hq
            refine br_t (by rw [nI_add]; exact nI_le (by omega) (by omega)) (nm_r (e' := nI (pe_E Λ lnc ph s)) (by rw [nI_add, htt]) (nm_r (nI_1 q) (ih (pe_E Λ lnc ph s) (q + 1) F (by omega) (by omega) (by omega) (fun F' h4 h5 => hp F' (fun k hk => ?_) (fun k a b => ?_)))))
            · rw [h4 k (by omega), hlo k hk]
            · rw [pe_f]
              by_cases y : k < pe_E Λ lnc ph s
              · rw [if_pos y, h4 k y, hq k a (by omega)]
              · rw [if_neg y, h5 k (by omega) b]
          | succ d ihd =>
            intro k F hk hsk hlo hq
            refine br_f (by rw [nI_add]; exact nI_ge (by omega) (by omega)) ⟨vp_in_nI (by omega) (by omega), nm_r (e' := upd F k (nI q)) (by rw [nI_clamp (by omega)]) (nm_r (nI_1 k) (ihd (k + 1) _ (by omega) (by omega) (fun j hj => ?_) (fun j a b => ?_)))⟩
            · rw [pk_un (by omega), hlo j hj]
            · by_cases y : j = k
              · rw [y, pk_us]
              · rw [pk_un y, hq j a (by omega)]
        have go : ∀ tt, s + tt = pe_E Λ lnc ph s → ∃ n118 : Nat, wY_pages_118 post (wY_pages_4 post (nI n) (nI lc) (nI pc) (nI fw) (nI rw) (nI fl) (nI sw) (nI ss) (nI sk) (nI ba) (nI hyc) (nI ph) y_ready y_glyphCount y_breaks y_natural y_spaces (nI lnc) y_paragraphs f) (nI q) (nI s) (nI tt) (nI n) (nI lc) (nI pc) (nI fw) (nI rw) (nI fl) (nI sw) (nI ss) (nI sk) (nI ba) (nI hyc) (nI ph) y_ready y_glyphCount y_breaks y_natural y_spaces (nI lnc) y_paragraphs n118 (nI s) (gd_tI t) (gd_tI w) (gd_lI lg) (gd_kI kn) b_patA b_patB b_patC b_patDigits b_glyphs b_glyphOf b_bEnd b_bNext b_bHyphen b_least b_before b_way b_lFrom b_lTo b_lNumber b_lParagraph b_lPage b_lHyphen b_lLast b_best := fun tt h => ⟨_, inner tt h (pe_E Λ lnc ph s - s) s b_lPage (by omega) (Nat.le_refl _) (fun j _ => rfl) (fun j a b => absurd a (by omega))⟩
        refine br_f (nI_ge (by omega) (by omega)) ?_
        by_cases c : s + ph < lnc
        · have eE : pe_E Λ lnc ph s = pe_e Λ lnc ph s ph := by rw [pe_E, if_pos c]
          have dn : ∀ j, j ≤ ph → pe_e Λ lnc ph s j = pe_E Λ lnc ph s → wY_pages_42 post (wY_pages_4 post (nI n) (nI lc) (nI pc) (nI fw) (nI rw) (nI fl) (nI sw) (nI ss) (nI sk) (nI ba) (nI hyc) (nI ph) y_ready y_glyphCount y_breaks y_natural y_spaces (nI lnc) y_paragraphs f) (nI q) (nI s) (nI ph) (nI n) (nI lc) (nI pc) (nI fw) (nI rw) (nI fl) (nI sw) (nI ss) (nI sk) (nI ba) (nI hyc) (nI ph) y_ready y_glyphCount y_breaks y_natural y_spaces (nI lnc) y_paragraphs (gd_tI t) (gd_tI w) (gd_lI lg) (gd_kI kn) b_patA b_patB b_patC b_patDigits b_glyphs b_glyphOf b_bEnd b_bNext b_bHyphen b_least b_before b_way b_lFrom b_lTo b_lNumber b_lParagraph b_lPage b_lHyphen b_lLast b_best (j + 1) (nI j) := by
            intro j
            induction j with
            | zero =>
              intro _ he
              rw [pe_e] at he
              exact br_t (by decide) (br_t rfl (go ph he))
            | succ j ihj =>
              intro hj he
              have esum : nI s + nI (j + 1) = nI (s + (j + 1)) := nI_add _ _
              obtain ⟨r1, r2, r3, r4, r5, r6⟩ := Y (s + (j + 1)) (by omega)
              obtain ⟨u1, u2, u3, u4, u5, u6⟩ := Y (s + (j + 1) - 1) (by omega)
              have hvk := hv (s + (j + 1) - 1) (by omega)
              have bad := pe_bad fit (k := s + (j + 1)) (by omega) (by omega)
              rw [pe_e] at he
              have next : pe_g Λ lnc (s + (j + 1)) = false → wY_pages_42 post (wY_pages_4 post (nI n) (nI lc) (nI pc) (nI fw) (nI rw) (nI fl) (nI sw) (nI ss) (nI sk) (nI ba) (nI hyc) (nI ph) y_ready y_glyphCount y_breaks y_natural y_spaces (nI lnc) y_paragraphs f) (nI q) (nI s) (nI ph) (nI n) (nI lc) (nI pc) (nI fw) (nI rw) (nI fl) (nI sw) (nI ss) (nI sk) (nI ba) (nI hyc) (nI ph) y_ready y_glyphCount y_breaks y_natural y_spaces (nI lnc) y_paragraphs (gd_tI t) (gd_tI w) (gd_lI lg) (gd_kI kn) b_patA b_patB b_patC b_patDigits b_glyphs b_glyphOf b_bEnd b_bNext b_bHyphen b_least b_before b_way b_lFrom b_lTo b_lNumber b_lParagraph b_lPage b_lHyphen b_lLast b_best (j + 1) (nI j) := by
                intro hg
                rw [if_neg (by rw [hg]; decide)] at he
                exact ihj (by omega) he
              have stop : pe_g Λ lnc (s + (j + 1)) = true → wY_pages_108 post (wY_pages_4 post (nI n) (nI lc) (nI pc) (nI fw) (nI rw) (nI fl) (nI sw) (nI ss) (nI sk) (nI ba) (nI hyc) (nI ph) y_ready y_glyphCount y_breaks y_natural y_spaces (nI lnc) y_paragraphs f) (nI q) (nI s) (nI (j + 1)) (nI ph) (nI n) (nI lc) (nI pc) (nI fw) (nI rw) (nI fl) (nI sw) (nI ss) (nI sk) (nI ba) (nI hyc) (nI ph) y_ready y_glyphCount y_breaks y_natural y_spaces (nI lnc) y_paragraphs (gd_tI t) (gd_tI w) (gd_lI lg) (gd_kI kn) b_patA b_patB b_patC b_patDigits b_glyphs b_glyphOf b_bEnd b_bNext b_bHyphen b_least b_before b_way b_lFrom b_lTo b_lNumber b_lParagraph b_lPage b_lHyphen b_lLast b_best := by
                intro hg
                rw [if_pos hg] at he
                exact br_f (nI_ne0 (by omega) (by omega)) (go (j + 1) he)
              have second : ¬ (lt_last (Λ (s + (j + 1))) = true ∧ pe_mn (Λ (s + (j + 1))) = true) → wY_pages_77 post (wY_pages_4 post (nI n) (nI lc) (nI pc) (nI fw) (nI rw) (nI fl) (nI sw) (nI ss) (nI sk) (nI ba) (nI hyc) (nI ph) y_ready y_glyphCount y_breaks y_natural y_spaces (nI lnc) y_paragraphs f) (wY_pages_42 post (wY_pages_4 post (nI n) (nI lc) (nI pc) (nI fw) (nI rw) (nI fl) (nI sw) (nI ss) (nI sk) (nI ba) (nI hyc) (nI ph) y_ready y_glyphCount y_breaks y_natural y_spaces (nI lnc) y_paragraphs f) (nI q) (nI s) (nI ph) (nI n) (nI lc) (nI pc) (nI fw) (nI rw) (nI fl) (nI sw) (nI ss) (nI sk) (nI ba) (nI hyc) (nI ph) y_ready y_glyphCount y_breaks y_natural y_spaces (nI lnc) y_paragraphs (gd_tI t) (gd_tI w) (gd_lI lg) (gd_kI kn) b_patA b_patB b_patC b_patDigits b_glyphs b_glyphOf b_bEnd b_bNext b_bHyphen b_least b_before b_way b_lFrom b_lTo b_lNumber b_lParagraph b_lPage b_lHyphen b_lLast b_best (j + 1)) (nI q) (nI s) (nI (j + 1)) (nI ph) (nI n) (nI lc) (nI pc) (nI fw) (nI rw) (nI fl) (nI sw) (nI ss) (nI sk) (nI ba) (nI hyc) (nI ph) y_ready y_glyphCount y_breaks y_natural y_spaces (nI lnc) y_paragraphs (gd_tI t) (gd_tI w) (gd_lI lg) (gd_kI kn) b_patA b_patB b_patC b_patDigits b_glyphs b_glyphOf b_bEnd b_bNext b_bHyphen b_least b_before b_way b_lFrom b_lTo b_lNumber b_lParagraph b_lPage b_lHyphen b_lLast b_best := by
                intro hno
                have em1 : nI s + nI (j + 1) - 1 = nI (s + (j + 1) - 1) := by rw [esum, gd_p1 (by omega)]
                refine ⟨pk_in _ 48 (by omega) em1, pk_eq (lt_num (Λ (s + (j + 1) - 1))) 0 (fun y => ?_) (fun y => ?_) (by rw [em1, nI_clamp (by omega), u4]) rfl (by omega) (by omega)⟩
                · rw [em1]
                  refine py_many hl (by omega) hv Y (gd_bt (fun y2 => ?_) (fun y2 => ?_))
                  · refine stop ?_
                    cases hg : pe_g Λ lnc (s + (j + 1))
                    · rcases bad.mpr hg with w1 | w1
                      · exact absurd w1 hno
                      · rw [y2] at w1; exact absurd w1.2 (by decide)
                    · rfl
                  · exact nm_r (pk_m1 j) (next (bad.mp (Or.inr ⟨y, y2⟩)))
                · refine stop ?_
                  cases hg : pe_g Λ lnc (s + (j + 1))
                  · rcases bad.mpr hg with w1 | w1
                    · exact absurd w1 hno
                    · exact absurd w1.1 y
                  · rfl
              refine br_f (nI_nle (by omega) (by omega)) (br_f (by rw [esum]; exact nI_ge (by omega) (by omega)) ⟨pk_in _ 48 (by omega) esum, gd_bx (lt_last (Λ (s + (j + 1)))) (by rw [esum, nI_clamp (by omega), r5]) (fun y => ?_) (fun y => ?_)⟩)
              · exact second (fun w1 => by rw [y] at w1; exact absurd w1.1 (by decide))
              · rw [esum]
                refine py_many hl (by omega) hv Y (gd_bt (fun y2 => ?_) (fun y2 => ?_))
                · exact second (fun w1 => by rw [y2] at w1; exact absurd w1.2 (by decide))
                · exact nm_r (pk_m1 j) (next (bad.mp (Or.inl ⟨y, y2⟩)))
          refine br_t (by rw [pk_sub (by omega)]; exact nI_le (by omega) (by omega)) ⟨ph + 1, dn ph (Nat.le_refl _) eE.symm⟩
        · have eE : pe_E Λ lnc ph s = lnc := by rw [pe_E, if_neg c]
          have fin : ∀ tt, s + tt = lnc → wY_pages_42 post (wY_pages_4 post (nI n) (nI lc) (nI pc) (nI fw) (nI rw) (nI fl) (nI sw) (nI ss) (nI sk) (nI ba) (nI hyc) (nI ph) y_ready y_glyphCount y_breaks y_natural y_spaces (nI lnc) y_paragraphs f) (nI q) (nI s) (nI tt) (nI n) (nI lc) (nI pc) (nI fw) (nI rw) (nI fl) (nI sw) (nI ss) (nI sk) (nI ba) (nI hyc) (nI ph) y_ready y_glyphCount y_breaks y_natural y_spaces (nI lnc) y_paragraphs (gd_tI t) (gd_tI w) (gd_lI lg) (gd_kI kn) b_patA b_patB b_patC b_patDigits b_glyphs b_glyphOf b_bEnd b_bNext b_bHyphen b_least b_before b_way b_lFrom b_lTo b_lNumber b_lParagraph b_lPage b_lHyphen b_lLast b_best 1 (nI tt) := by
            intro tt htt
            refine br_f (nI_nle (by omega) (by omega)) (br_t (by rw [nI_add]; exact nI_le (by omega) (by omega)) (br_f (nI_ne0 (by omega) (by omega)) (go tt (by omega))))
          refine pk_le ph (lnc - s) (fun y => ⟨1, fin ph (by omega)⟩) (fun y => nm_r (pk_sub (by omega)) ⟨1, fin (lnc - s) (by omega)⟩) rfl (pk_sub (by omega)) (by omega) (by omega)
  exact ⟨49, loop 49 0 0 b_lPage (by omega) (by omega) (by omega) (fun F _ h => hp F (fun k hk => h k (by omega) hk))⟩
end
end
section
/-! the relation -/
/-- what a set text holds, on X's side and on Y's -/
def rl_x (t w lg : Nat → Nat) (kn : Nat → Int) (P : Nat → Nat) (n sw ss sk fw rw fl ba hyc ph : Nat) (x_lineCount x_paragraphCount : Int32) (a_lineFacts : Nat → Int32) (a_paragraphDemerits : Nat → Int64) : Prop :=
  x_lineCount = nI (ly_at t w lg kn P n sw ss sk fw rw fl ba hyc (n + 1)).1.2.1 ∧ x_paragraphCount = nI (ly_at t w lg kn P n sw ss sk fw rw fl ba hyc (n + 1)).1.2.2.1 ∧ lx_ok t lg w kn sw ss sk fw rw fl (ly_at t w lg kn P n sw ss sk fw rw fl ba hyc (n + 1)).1 a_lineFacts a_paragraphDemerits ∧
  ∀ k, k < (ly_at t w lg kn P n sw ss sk fw rw fl ba hyc (n + 1)).1.2.1 → a_lineFacts (8 * k + 6) = nI (pe_f (ly_at t w lg kn P n sw ss sk fw rw fl ba hyc (n + 1)).1.1 (ly_at t w lg kn P n sw ss sk fw rw fl ba hyc (n + 1)).1.2.1 ph 49 0 0 k)
def rl_y (t w lg : Nat → Nat) (kn : Nat → Int) (P : Nat → Nat) (n sw ss sk fw rw fl ba hyc ph : Nat) (y_lineCount y_paragraphs : Int32) (b_lFrom b_lTo b_lNumber b_lParagraph b_lPage b_lHyphen b_lLast : Nat → Int32) (b_best : Nat → Int64) : Prop :=
  y_lineCount = nI (ly_at t w lg kn P n sw ss sk fw rw fl ba hyc (n + 1)).1.2.1 ∧ y_paragraphs = nI (ly_at t w lg kn P n sw ss sk fw rw fl ba hyc (n + 1)).1.2.2.1 ∧ yy_ok (ly_at t w lg kn P n sw ss sk fw rw fl ba hyc (n + 1)).1 b_lFrom b_lTo b_lNumber b_lParagraph b_lHyphen b_lLast b_best ∧
  ∀ k, k < (ly_at t w lg kn P n sw ss sk fw rw fl ba hyc (n + 1)).1.2.1 → b_lPage k = nI (pe_f (ly_at t w lg kn P n sw ss sk fw rw fl ba hyc (n + 1)).1.1 (ly_at t w lg kn P n sw ss sk fw rw fl ba hyc (n + 1)).1.2.1 ph 49 0 0 k)
def rl_B (k : Nat) (n lc pc fw rw fl sw ss sk ba hyc ph : Nat) (t w lg : Nat → Nat) (kn : Nat → Int) (P pa pb pq pd : Nat → Nat) (x_lineCount x_paragraphCount x_stale : Int32) (a_lineFacts : Nat → Int32) (a_paragraphDemerits : Nat → Int64) (y_ready y_lineCount y_paragraphs : Int32) (b_patA b_patB b_patC b_patDigits b_lFrom b_lTo b_lNumber b_lParagraph b_lPage b_lHyphen b_lLast : Nat → Int32) (b_best : Nat → Int64) : Prop :=
  cf_ok t w lg kn n fw rw fl sw ss sk ba hyc ph ∧ (-(k : Int) ≤ (nI lc).toInt ∧ (nI lc).toInt ≤ 8) ∧ pt_ok P pc b_patA b_patB b_patC b_patDigits pa pb pq pd ∧
  ((x_stale = 1 ∧ y_ready = 0) ∨ (x_stale = 0 ∧ y_ready = 1 ∧ rl_x t w lg kn P n sw ss sk fw rw fl ba hyc ph x_lineCount x_paragraphCount a_lineFacts a_paragraphDemerits ∧ rl_y t w lg kn P n sw ss sk fw rw fl ba hyc ph y_lineCount y_paragraphs b_lFrom b_lTo b_lNumber b_lParagraph b_lPage b_lHyphen b_lLast b_best))
/-- the two desks hold the same settings and text; where they are set, the same lines, pages and demerits -/
def i_Rel (k : Nat) (u : SX) (v : SY) : Prop := ∃ n lc pc fw rw fl sw ss sk ba hyc ph t w lg kn P pa pb pq pd x_breakCount x_lineCount x_paragraphCount x_stale a_heads a_glyphs a_breakEnd a_breakNext a_breakHyphen a_breakTaken a_wayDemerits a_wayBefore a_lineFacts a_paragraphDemerits y_ready y_glyphCount y_breaks y_natural y_spaces y_lineCount y_paragraphs b_patA b_patB b_patC b_patDigits b_glyphs b_glyphOf b_bEnd b_bNext b_bHyphen b_least b_before b_way b_lFrom b_lTo b_lNumber b_lParagraph b_lPage b_lHyphen b_lLast b_best, u = ((nI n), (nI lc), (nI pc), (nI fw), (nI rw), (nI fl), (nI sw), (nI ss), (nI sk), (nI ba), (nI hyc), (nI ph), x_breakCount, x_lineCount, x_paragraphCount, x_stale, (gd_tI t), (gd_tI w), (gd_lI lg), (gd_kI kn), (gd_tI P), a_heads, a_glyphs, a_breakEnd, a_breakNext, a_breakHyphen, a_breakTaken, a_wayDemerits, a_wayBefore, a_lineFacts, a_paragraphDemerits) ∧ v = ((nI n), (nI lc), (nI pc), (nI fw), (nI rw), (nI fl), (nI sw), (nI ss), (nI sk), (nI ba), (nI hyc), (nI ph), y_ready, y_glyphCount, y_breaks, y_natural, y_spaces, y_lineCount, y_paragraphs, (gd_tI t), (gd_tI w), (gd_lI lg), (gd_kI kn), b_patA, b_patB, b_patC, b_patDigits, b_glyphs, b_glyphOf, b_bEnd, b_bNext, b_bHyphen, b_least, b_before, b_way, b_lFrom, b_lTo, b_lNumber, b_lParagraph, b_lPage, b_lHyphen, b_lLast, b_best) ∧ rl_B k n lc pc fw rw fl sw ss sk ba hyc ph t w lg kn P pa pb pq pd x_lineCount x_paragraphCount x_stale a_lineFacts a_paragraphDemerits y_ready y_lineCount y_paragraphs b_patA b_patB b_patC b_patDigits b_lFrom b_lTo b_lNumber b_lParagraph b_lPage b_lHyphen b_lLast b_best
theorem i_up {k : Nat} {u : SX} {v : SY} (h : i_Rel k u v) : i_Rel (k + 5) u v := by
  obtain ⟨n, lc, pc, fw, rw, fl, sw, ss, sk, ba, hyc, ph, t, w, lg, kn, P, pa, pb, pq, pd, x_breakCount, x_lineCount, x_paragraphCount, x_stale, a_heads, a_glyphs, a_breakEnd, a_breakNext, a_breakHyphen, a_breakTaken, a_wayDemerits, a_wayBefore, a_lineFacts, a_paragraphDemerits, y_ready, y_glyphCount, y_breaks, y_natural, y_spaces, y_lineCount, y_paragraphs, b_patA, b_patB, b_patC, b_patDigits, b_glyphs, b_glyphOf, b_bEnd, b_bNext, b_bHyphen, b_least, b_before, b_way, b_lFrom, b_lTo, b_lNumber, b_lParagraph, b_lPage, b_lHyphen, b_lLast, b_best, e1, e2, C, L, R⟩ := h
  exact ⟨n, lc, pc, fw, rw, fl, sw, ss, sk, ba, hyc, ph, t, w, lg, kn, P, pa, pb, pq, pd, x_breakCount, x_lineCount, x_paragraphCount, x_stale, a_heads, a_glyphs, a_breakEnd, a_breakNext, a_breakHyphen, a_breakTaken, a_wayDemerits, a_wayBefore, a_lineFacts, a_paragraphDemerits, y_ready, y_glyphCount, y_breaks, y_natural, y_spaces, y_lineCount, y_paragraphs, b_patA, b_patB, b_patC, b_patDigits, b_glyphs, b_glyphOf, b_bEnd, b_bNext, b_bHyphen, b_least, b_before, b_way, b_lFrom, b_lTo, b_lNumber, b_lParagraph, b_lPage, b_lHyphen, b_lLast, b_best, e1, e2, C, ⟨by have := L.1; omega, L.2⟩, R⟩
section
variable {n lc pc fw rw fl sw ss sk ba hyc ph : Nat} {t w lg : Nat → Nat} {kn : Nat → Int}
variable {P pa pb pq pd : Nat → Nat} {k : Nat}
variable {x_breakCount x_lineCount x_paragraphCount x_stale : Int32} {a_patterns a_heads a_glyphs a_breakEnd a_breakNext a_breakHyphen a_breakTaken a_wayBefore a_lineFacts : Nat → Int32} {a_wayDemerits a_paragraphDemerits : Nat → Int64}
variable {y_ready y_glyphCount y_breaks y_natural y_spaces y_lineCount y_paragraphs : Int32} {b_patA b_patB b_patC b_patDigits b_glyphs b_glyphOf b_bEnd b_bNext b_bHyphen b_before b_way b_lFrom b_lTo b_lNumber b_lParagraph b_lPage b_lHyphen b_lLast : Nat → Int32} {b_least b_best : Nat → Int64}
theorem rl_mk (h : rl_B k n lc pc fw rw fl sw ss sk ba hyc ph t w lg kn P pa pb pq pd x_lineCount x_paragraphCount x_stale a_lineFacts a_paragraphDemerits y_ready y_lineCount y_paragraphs b_patA b_patB b_patC b_patDigits b_lFrom b_lTo b_lNumber b_lParagraph b_lPage b_lHyphen b_lLast b_best) : i_Rel k ((nI n), (nI lc), (nI pc), (nI fw), (nI rw), (nI fl), (nI sw), (nI ss), (nI sk), (nI ba), (nI hyc), (nI ph), x_breakCount, x_lineCount, x_paragraphCount, x_stale, (gd_tI t), (gd_tI w), (gd_lI lg), (gd_kI kn), (gd_tI P), a_heads, a_glyphs, a_breakEnd, a_breakNext, a_breakHyphen, a_breakTaken, a_wayDemerits, a_wayBefore, a_lineFacts, a_paragraphDemerits) ((nI n), (nI lc), (nI pc), (nI fw), (nI rw), (nI fl), (nI sw), (nI ss), (nI sk), (nI ba), (nI hyc), (nI ph), y_ready, y_glyphCount, y_breaks, y_natural, y_spaces, y_lineCount, y_paragraphs, (gd_tI t), (gd_tI w), (gd_lI lg), (gd_kI kn), b_patA, b_patB, b_patC, b_patDigits, b_glyphs, b_glyphOf, b_bEnd, b_bNext, b_bHyphen, b_least, b_before, b_way, b_lFrom, b_lTo, b_lNumber, b_lParagraph, b_lPage, b_lHyphen, b_lLast, b_best) := ⟨n, lc, pc, fw, rw, fl, sw, ss, sk, ba, hyc, ph, t, w, lg, kn, P, pa, pb, pq, pd, x_breakCount, x_lineCount, x_paragraphCount, x_stale, a_heads, a_glyphs, a_breakEnd, a_breakNext, a_breakHyphen, a_breakTaken, a_wayDemerits, a_wayBefore, a_lineFacts, a_paragraphDemerits, y_ready, y_glyphCount, y_breaks, y_natural, y_spaces, y_lineCount, y_paragraphs, b_patA, b_patB, b_patC, b_patDigits, b_glyphs, b_glyphOf, b_bEnd, b_bNext, b_bHyphen, b_least, b_before, b_way, b_lFrom, b_lTo, b_lNumber, b_lParagraph, b_lPage, b_lHyphen, b_lLast, b_best, rfl, rfl, h⟩
end
theorem rl_elim {Q : SX → SY → Prop} {k : Nat} {u : SX} {v : SY} (I : i_Rel k u v) (h : ∀ n lc pc fw rw fl sw ss sk ba hyc ph t w lg kn P pa pb pq pd x_breakCount x_lineCount x_paragraphCount x_stale a_heads a_glyphs a_breakEnd a_breakNext a_breakHyphen a_breakTaken a_wayDemerits a_wayBefore a_lineFacts a_paragraphDemerits y_ready y_glyphCount y_breaks y_natural y_spaces y_lineCount y_paragraphs b_patA b_patB b_patC b_patDigits b_glyphs b_glyphOf b_bEnd b_bNext b_bHyphen b_least b_before b_way b_lFrom b_lTo b_lNumber b_lParagraph b_lPage b_lHyphen b_lLast b_best, rl_B k n lc pc fw rw fl sw ss sk ba hyc ph t w lg kn P pa pb pq pd x_lineCount x_paragraphCount x_stale a_lineFacts a_paragraphDemerits y_ready y_lineCount y_paragraphs b_patA b_patB b_patC b_patDigits b_lFrom b_lTo b_lNumber b_lParagraph b_lPage b_lHyphen b_lLast b_best → Q ((nI n), (nI lc), (nI pc), (nI fw), (nI rw), (nI fl), (nI sw), (nI ss), (nI sk), (nI ba), (nI hyc), (nI ph), x_breakCount, x_lineCount, x_paragraphCount, x_stale, (gd_tI t), (gd_tI w), (gd_lI lg), (gd_kI kn), (gd_tI P), a_heads, a_glyphs, a_breakEnd, a_breakNext, a_breakHyphen, a_breakTaken, a_wayDemerits, a_wayBefore, a_lineFacts, a_paragraphDemerits) ((nI n), (nI lc), (nI pc), (nI fw), (nI rw), (nI fl), (nI sw), (nI ss), (nI sk), (nI ba), (nI hyc), (nI ph), y_ready, y_glyphCount, y_breaks, y_natural, y_spaces, y_lineCount, y_paragraphs, (gd_tI t), (gd_tI w), (gd_lI lg), (gd_kI kn), b_patA, b_patB, b_patC, b_patDigits, b_glyphs, b_glyphOf, b_bEnd, b_bNext, b_bHyphen, b_least, b_before, b_way, b_lFrom, b_lTo, b_lNumber, b_lParagraph, b_lPage, b_lHyphen, b_lLast, b_best)) : Q u v := by
  obtain ⟨n, lc, pc, fw, rw, fl, sw, ss, sk, ba, hyc, ph, t, w, lg, kn, P, pa, pb, pq, pd, x_breakCount, x_lineCount, x_paragraphCount, x_stale, a_heads, a_glyphs, a_breakEnd, a_breakNext, a_breakHyphen, a_breakTaken, a_wayDemerits, a_wayBefore, a_lineFacts, a_paragraphDemerits, y_ready, y_glyphCount, y_breaks, y_natural, y_spaces, y_lineCount, y_paragraphs, b_patA, b_patB, b_patC, b_patDigits, b_glyphs, b_glyphOf, b_bEnd, b_bNext, b_bHyphen, b_least, b_before, b_way, b_lFrom, b_lTo, b_lNumber, b_lParagraph, b_lPage, b_lHyphen, b_lLast, b_best, e1, e2, B⟩ := I
  rw [e1, e2]
  exact h n lc pc fw rw fl sw ss sk ba hyc ph t w lg kn P pa pb pq pd x_breakCount x_lineCount x_paragraphCount x_stale a_heads a_glyphs a_breakEnd a_breakNext a_breakHyphen a_breakTaken a_wayDemerits a_wayBefore a_lineFacts a_paragraphDemerits y_ready y_glyphCount y_breaks y_natural y_spaces y_lineCount y_paragraphs b_patA b_patB b_patC b_patDigits b_glyphs b_glyphOf b_bEnd b_bNext b_bHyphen b_least b_before b_way b_lFrom b_lTo b_lNumber b_lParagraph b_lPage b_lHyphen b_lLast b_best B
/-! comparisons with a literal -/
theorem wi_le {x y : Int32} {A B : Prop} (b : Int) (f : x.toInt ≤ b → A) (g : b < x.toInt → B) (hb : y.toInt = b := by decide) : (x ≤ y → A) ∧ (¬ x ≤ y → B) := by
  rw [Int32.le_iff_toInt_le, hb]; exact ⟨f, fun z => g (by omega)⟩
theorem wi_lt {x y : Int32} {A B : Prop} (b : Int) (f : x.toInt < b → A) (g : b ≤ x.toInt → B) (hb : y.toInt = b := by decide) : (x < y → A) ∧ (¬ x < y → B) := by
  rw [Int32.lt_iff_toInt_lt, hb]; exact ⟨f, fun z => g (by omega)⟩
theorem wi_ge {x y : Int32} {A B : Prop} (b : Int) (f : b ≤ x.toInt → A) (g : x.toInt < b → B) (hb : y.toInt = b := by decide) : (y ≤ x → A) ∧ (¬ y ≤ x → B) := by
  rw [Int32.le_iff_toInt_le, hb]; exact ⟨f, fun z => g (by omega)⟩
theorem wi_gt {x y : Int32} {A B : Prop} (b : Int) (f : b < x.toInt → A) (g : x.toInt ≤ b → B) (hb : y.toInt = b := by decide) : (y < x → A) ∧ (¬ y < x → B) := by
  rw [Int32.lt_iff_toInt_lt, hb]; exact ⟨f, fun z => g (by omega)⟩
theorem wi_eq {x y : Int32} {A B : Prop} (b : Int) (f : x.toInt = b → A) (g : x.toInt ≠ b → B) (hb : y.toInt = b := by decide) : (x = y → A) ∧ (¬ x = y → B) := by
  rw [← Int32.toInt_inj, hb]; exact ⟨f, g⟩
theorem wi_n {x : Int32} (h : 0 ≤ x.toInt) : x = nI x.toInt.toNat := by
  apply Int32.toInt_inj.mp
  have := x.toInt_lt
  rw [nI_toInt (by omega)]
  omega
theorem wi_z {x : Int32} : x = gd_iI x.toInt := (Int32.ofInt_toInt x).symm
theorem wx_in {post : Int32 → Prop} {x a b : Int32} (c d : Int) (hp : post (gd_bI (decide (c ≤ x.toInt ∧ x.toInt ≤ d)))) (ha : a.toInt = c := by decide) (hb : b.toInt = d := by decide) : wpX_within post x a b := by
  refine wi_lt c (fun y => ?_) (fun y => wi_gt d (fun y2 => ?_) (fun y2 => ?_) hb) ha
  · rw [decide_eq_false (by omega)] at hp; exact hp
  · rw [decide_eq_false (by omega)] at hp; exact hp
  · rw [decide_eq_true ⟨y, y2⟩] at hp; exact hp
theorem wx_pair {post : Int32 → Prop} {x y : Int32} (hp : post (gd_bI (decide (0 ≤ x.toInt ∧ x.toInt ≤ 9 ∧ 0 ≤ y.toInt ∧ y.toInt ≤ 9)))) : wpX_isPair post x y := by
  refine wi_lt 0 (fun a => ?_) (fun a => wi_ge 10 (fun b => ?_) (fun b => wi_lt 0 (fun c => ?_) (fun c => wi_ge 10 (fun d => ?_) (fun d => ?_))))
  · rw [decide_eq_false (by omega)] at hp; exact hp
  · rw [decide_eq_false (by omega)] at hp; exact hp
  · rw [decide_eq_false (by omega)] at hp; exact hp
  · rw [decide_eq_false (by omega)] at hp; exact hp
  · rw [decide_eq_true ⟨a, by omega, c, by omega⟩] at hp; exact hp
section
variable {n lc pc fw rw fl sw ss sk ba hyc ph : Nat} {t w lg : Nat → Nat} {kn : Nat → Int}
variable {y_ready y_glyphCount y_breaks y_natural y_spaces y_lineCount y_paragraphs : Int32} {b_patA b_patB b_patC b_patDigits b_glyphs b_glyphOf b_bEnd b_bNext b_bHyphen b_before b_way b_lFrom b_lTo b_lNumber b_lParagraph b_lPage b_lHyphen b_lLast : Nat → Int32} {b_least b_best : Nat → Int64}
theorem wy_let {post : Int32 → Prop} {x : Int32} (hp : post (gd_bI (decide (0 ≤ x.toInt ∧ x.toInt ≤ 9)))) : wpY_letter post ((nI n), (nI lc), (nI pc), (nI fw), (nI rw), (nI fl), (nI sw), (nI ss), (nI sk), (nI ba), (nI hyc), (nI ph), y_ready, y_glyphCount, y_breaks, y_natural, y_spaces, y_lineCount, y_paragraphs, (gd_tI t), (gd_tI w), (gd_lI lg), (gd_kI kn), b_patA, b_patB, b_patC, b_patDigits, b_glyphs, b_glyphOf, b_bEnd, b_bNext, b_bHyphen, b_least, b_before, b_way, b_lFrom, b_lTo, b_lNumber, b_lParagraph, b_lPage, b_lHyphen, b_lLast, b_best) x := by
  refine wi_lt 0 (fun a => ?_) (fun a => wi_ge 10 (fun b => ?_) (fun b => ?_))
  · rw [decide_eq_false (by omega)] at hp; exact hp
  · rw [decide_eq_false (by omega)] at hp; exact hp
  · rw [decide_eq_true ⟨a, by omega⟩] at hp; exact hp
end
end
section
theorem iv_up (a b : Int32) (i : Nat) : upd (fun j => if j < i then a else b) i a = fun j => if j < i + 1 then a else b := by
  funext j
  by_cases e : j = i
  · rw [e, pk_us, if_pos (by omega)]
  · rw [pk_un e]
    by_cases h : j < i
    · rw [if_pos h, if_pos (by omega)]
    · rw [if_neg h, if_neg (by omega)]
theorem iv_0 (a b : Int32) : (fun _ => b) = fun j : Nat => if j < 0 then a else b := by
  funext j; rw [if_neg (by omega)]
theorem iv_x2 (post : SX → Prop) (hp : post (0, 0, 0, 100, 100, 0, 6, 3, 2, 200, 50, 6, 0, 0, 0, 1, (fun _ => 0), (fun j => if j < 10 then (10 : Int32) else 0), (fun j => if j < 100 then (-1 : Int32) else 0), (fun _ => 0), (fun _ => 0), (fun _ => 0), (fun _ => 0), (fun _ => 0), (fun _ => 0), (fun _ => 0), (fun _ => 0), (fun _ => 0), (fun _ => 0), (fun _ => 0), (fun _ => 0))) : ∀ d i, i + d = 100 → wX_init_239 post 0 0 0 100 100 0 6 3 2 200 50 6 0 0 0 1 (d + 1) (nI i) (fun _ => 0) (fun j => if j < 10 then (10 : Int32) else 0) (fun j => if j < i then (-1 : Int32) else 0) (fun _ => 0) (fun _ => 0) (fun _ => 0) (fun _ => 0) (fun _ => 0) (fun _ => 0) (fun _ => 0) (fun _ => 0) (fun _ => 0) (fun _ => 0) (fun _ => 0) (fun _ => 0) := by
  intro d
  induction d with
  | zero =>
    intro i hi
    have : i = 100 := by omega
    subst this
    exact br_t (by decide) hp
  | succ d ih =>
    intro i hi
    refine br_f (nI_ge (b := 100) (by omega) (by decide)) ⟨vp_in_nI (by omega) (by omega), nm_r (e' := fun j => if j < i + 1 then (-1 : Int32) else 0) ?_ (nm_r (nI_1 i) (ih (i + 1) (by omega)))⟩
    rw [nI_clamp (by omega)]
    exact iv_up (-1) 0 i
theorem iv_x1 (post : SX → Prop) (hp : post (0, 0, 0, 100, 100, 0, 6, 3, 2, 200, 50, 6, 0, 0, 0, 1, (fun _ => 0), (fun j => if j < 10 then (10 : Int32) else 0), (fun j => if j < 100 then (-1 : Int32) else 0), (fun _ => 0), (fun _ => 0), (fun _ => 0), (fun _ => 0), (fun _ => 0), (fun _ => 0), (fun _ => 0), (fun _ => 0), (fun _ => 0), (fun _ => 0), (fun _ => 0), (fun _ => 0))) : ∀ d i, i + d = 10 → wX_init_217 post 0 0 0 100 100 0 6 3 2 200 50 6 0 0 0 1 (d + 1) (nI i) (fun _ => 0) (fun j => if j < i then (10 : Int32) else 0) (fun _ => 0) (fun _ => 0) (fun _ => 0) (fun _ => 0) (fun _ => 0) (fun _ => 0) (fun _ => 0) (fun _ => 0) (fun _ => 0) (fun _ => 0) (fun _ => 0) (fun _ => 0) (fun _ => 0) := by
  intro d
  induction d with
  | zero =>
    intro i hi
    have : i = 10 := by omega
    subst this
    refine br_t (by decide) ⟨101, ?_⟩
    have := iv_x2 post hp 100 0 (by omega)
    rw [← iv_0] at this
    exact this
  | succ d ih =>
    intro i hi
    refine br_f (nI_ge (b := 10) (by omega) (by decide)) ⟨vp_in_nI (by omega) (by omega), nm_r (e' := fun j => if j < i + 1 then (10 : Int32) else 0) ?_ (nm_r (nI_1 i) (ih (i + 1) (by omega)))⟩
    rw [nI_clamp (by omega)]
    exact iv_up 10 0 i
theorem iv_x {post : SX → Prop} (hp : post (0, 0, 0, 100, 100, 0, 6, 3, 2, 200, 50, 6, 0, 0, 0, 1, (fun _ => 0), (fun j => if j < 10 then (10 : Int32) else 0), (fun j => if j < 100 then (-1 : Int32) else 0), (fun _ => 0), (fun _ => 0), (fun _ => 0), (fun _ => 0), (fun _ => 0), (fun _ => 0), (fun _ => 0), (fun _ => 0), (fun _ => 0), (fun _ => 0), (fun _ => 0), (fun _ => 0))) : wpX_init post := by
  have := iv_x1 post hp 10 0 (by omega)
  rw [← iv_0] at this
  exact ⟨_, this⟩
theorem iv_y2 (post : SY → Prop) (hp : post (0, 0, 0, 100, 100, 0, 6, 3, 2, 200, 50, 6, 0, 0, 0, 0, 0, 0, 0, (fun _ => 0), (fun j => if j < 10 then (10 : Int32) else 0), (fun j => if j < 100 then (-1 : Int32) else 0), (fun _ => 0), (fun _ => 0), (fun _ => 0), (fun _ => 0), (fun _ => 0), (fun _ => 0), (fun _ => 0), (fun _ => 0), (fun _ => 0), (fun _ => 0), (fun _ => 0), (fun _ => 0), (fun _ => 0), (fun _ => 0), (fun _ => 0), (fun _ => 0), (fun _ => 0), (fun _ => 0), (fun _ => 0), (fun _ => 0), (fun _ => 0))) : ∀ d i, i + d = 100 → wY_init_269 post 0 0 0 100 100 0 6 3 2 200 50 6 0 0 0 0 0 0 0 (d + 1) (nI i) (fun _ => 0) (fun j => if j < 10 then (10 : Int32) else 0) (fun j => if j < i then (-1 : Int32) else 0) (fun _ => 0) (fun _ => 0) (fun _ => 0) (fun _ => 0) (fun _ => 0) (fun _ => 0) (fun _ => 0) (fun _ => 0) (fun _ => 0) (fun _ => 0) (fun _ => 0) (fun _ => 0) (fun _ => 0) (fun _ => 0) (fun _ => 0) (fun _ => 0) (fun _ => 0) (fun _ => 0) (fun _ => 0) (fun _ => 0) (fun _ => 0) := by
  intro d
  induction d with
  | zero =>
    intro i hi
    have : i = 100 := by omega
    subst this
    exact br_t (by decide) hp
  | succ d ih =>
    intro i hi
    refine br_f (nI_ge (b := 100) (by omega) (by decide)) ⟨vp_in_nI (by omega) (by omega), nm_r (e' := fun j => if j < i + 1 then (-1 : Int32) else 0) ?_ (nm_r (nI_1 i) (ih (i + 1) (by omega)))⟩
    rw [nI_clamp (by omega)]
    exact iv_up (-1) 0 i
theorem iv_y1 (post : SY → Prop) (hp : post (0, 0, 0, 100, 100, 0, 6, 3, 2, 200, 50, 6, 0, 0, 0, 0, 0, 0, 0, (fun _ => 0), (fun j => if j < 10 then (10 : Int32) else 0), (fun j => if j < 100 then (-1 : Int32) else 0), (fun _ => 0), (fun _ => 0), (fun _ => 0), (fun _ => 0), (fun _ => 0), (fun _ => 0), (fun _ => 0), (fun _ => 0), (fun _ => 0), (fun _ => 0), (fun _ => 0), (fun _ => 0), (fun _ => 0), (fun _ => 0), (fun _ => 0), (fun _ => 0), (fun _ => 0), (fun _ => 0), (fun _ => 0), (fun _ => 0), (fun _ => 0))) : ∀ d i, i + d = 10 → wY_init_247 post 0 0 0 100 100 0 6 3 2 200 50 6 0 0 0 0 0 0 0 (d + 1) (nI i) (fun _ => 0) (fun j => if j < i then (10 : Int32) else 0) (fun _ => 0) (fun _ => 0) (fun _ => 0) (fun _ => 0) (fun _ => 0) (fun _ => 0) (fun _ => 0) (fun _ => 0) (fun _ => 0) (fun _ => 0) (fun _ => 0) (fun _ => 0) (fun _ => 0) (fun _ => 0) (fun _ => 0) (fun _ => 0) (fun _ => 0) (fun _ => 0) (fun _ => 0) (fun _ => 0) (fun _ => 0) (fun _ => 0) := by
  intro d
  induction d with
  | zero =>
    intro i hi
    have : i = 10 := by omega
    subst this
    refine br_t (by decide) ⟨101, ?_⟩
    have := iv_y2 post hp 100 0 (by omega)
    rw [← iv_0] at this
    exact this
  | succ d ih =>
    intro i hi
    refine br_f (nI_ge (b := 10) (by omega) (by decide)) ⟨vp_in_nI (by omega) (by omega), nm_r (e' := fun j => if j < i + 1 then (10 : Int32) else 0) ?_ (nm_r (nI_1 i) (ih (i + 1) (by omega)))⟩
    rw [nI_clamp (by omega)]
    exact iv_up 10 0 i
theorem iv_y {post : SY → Prop} (hp : post (0, 0, 0, 100, 100, 0, 6, 3, 2, 200, 50, 6, 0, 0, 0, 0, 0, 0, 0, (fun _ => 0), (fun j => if j < 10 then (10 : Int32) else 0), (fun j => if j < 100 then (-1 : Int32) else 0), (fun _ => 0), (fun _ => 0), (fun _ => 0), (fun _ => 0), (fun _ => 0), (fun _ => 0), (fun _ => 0), (fun _ => 0), (fun _ => 0), (fun _ => 0), (fun _ => 0), (fun _ => 0), (fun _ => 0), (fun _ => 0), (fun _ => 0), (fun _ => 0), (fun _ => 0), (fun _ => 0), (fun _ => 0), (fun _ => 0), (fun _ => 0))) : wpY_init post := by
  have := iv_y1 post hp 10 0 (by omega)
  rw [← iv_0] at this
  exact ⟨_, this⟩
theorem i_vc0 : wpX_init (fun u => wpY_init (fun v => i_Rel 0 u v)) := by
  refine iv_x (iv_y ?_)
  have ew : (fun j => if j < 10 then (10 : Int32) else 0) = gd_tI (fun j => if j < 10 then 10 else 0) := by
    funext j
    rw [gd_tI]
    by_cases h : j < 10
    · rw [if_pos h, if_pos h]; rfl
    · rw [if_neg h, if_neg h]; rfl
  have el : (fun j => if j < 100 then (-1 : Int32) else 0) = gd_lI (fun j => if j < 100 then 10 else 0) := by
    funext j
    rw [gd_lI]
    by_cases h : j < 100
    · simp only [if_pos h]; rfl
    · simp only [if_neg h]; rfl
  rw [ew, el]
  refine rl_mk (n := 0) (lc := 0) (pc := 0) (fw := 100) (rw := 100) (fl := 0) (sw := 6) (ss := 3) (sk := 2) (ba := 200) (hyc := 50) (ph := 6) (t := fun _ => 0) (kn := fun _ => 0) (P := fun _ => 0) (pa := fun _ => 0) (pb := fun _ => 0) (pq := fun _ => 0) (pd := fun _ => 0) ⟨⟨by omega, fun _ => Nat.zero_le _, fun i => ?_, fun _ => (show (-5 : Int) ≤ 0 ∧ (0 : Int) ≤ 5 by omega), by omega, by omega, by omega, by omega, by omega, by omega, by omega, by omega, by omega, by omega⟩, by decide, ⟨by omega, fun p h => absurd h (by omega), fun p q _ h => absurd h (by omega), fun k h => absurd rfl h, fun k => Nat.zero_le _⟩, Or.inl ⟨rfl, rfl⟩⟩
  dsimp only
  split <;> omega
end
section
section
variable {n lc pc fw rw fl sw ss sk ba hyc ph : Nat} {t w lg : Nat → Nat} {kn : Nat → Int}
variable {P pa pb pq pd : Nat → Nat} {k : Nat}
variable {x_breakCount x_lineCount x_paragraphCount x_stale : Int32} {a_patterns a_heads a_glyphs a_breakEnd a_breakNext a_breakHyphen a_breakTaken a_wayBefore a_lineFacts : Nat → Int32} {a_wayDemerits a_paragraphDemerits : Nat → Int64}
variable {y_ready y_glyphCount y_breaks y_natural y_spaces y_lineCount y_paragraphs : Int32} {b_patA b_patB b_patC b_patDigits b_glyphs b_glyphOf b_bEnd b_bNext b_bHyphen b_before b_way b_lFrom b_lTo b_lNumber b_lParagraph b_lPage b_lHyphen b_lLast : Nat → Int32} {b_least b_best : Nat → Int64}
/-- a change of settings leaves both desks unset -/
theorem rl_st (C : cf_ok t w lg kn n fw rw fl sw ss sk ba hyc ph) (L : -(k : Int) ≤ (nI lc).toInt ∧ (nI lc).toInt ≤ 8) (R : pt_ok P pc b_patA b_patB b_patC b_patDigits pa pb pq pd) : i_Rel k ((nI n), (nI lc), (nI pc), (nI fw), (nI rw), (nI fl), (nI sw), (nI ss), (nI sk), (nI ba), (nI hyc), (nI ph), x_breakCount, x_lineCount, x_paragraphCount, 1, (gd_tI t), (gd_tI w), (gd_lI lg), (gd_kI kn), (gd_tI P), a_heads, a_glyphs, a_breakEnd, a_breakNext, a_breakHyphen, a_breakTaken, a_wayDemerits, a_wayBefore, a_lineFacts, a_paragraphDemerits) ((nI n), (nI lc), (nI pc), (nI fw), (nI rw), (nI fl), (nI sw), (nI ss), (nI sk), (nI ba), (nI hyc), (nI ph), 0, y_glyphCount, y_breaks, y_natural, y_spaces, y_lineCount, y_paragraphs, (gd_tI t), (gd_tI w), (gd_lI lg), (gd_kI kn), b_patA, b_patB, b_patC, b_patDigits, b_glyphs, b_glyphOf, b_bEnd, b_bNext, b_bHyphen, b_least, b_before, b_way, b_lFrom, b_lTo, b_lNumber, b_lParagraph, b_lPage, b_lHyphen, b_lLast, b_best) :=
  rl_mk ⟨C, L, R, Or.inl ⟨rfl, rfl⟩⟩
theorem rl_ok {j : Nat} (h : rl_B k n lc pc fw rw fl sw ss sk ba hyc ph t w lg kn P pa pb pq pd x_lineCount x_paragraphCount x_stale a_lineFacts a_paragraphDemerits y_ready y_lineCount y_paragraphs b_patA b_patB b_patC b_patDigits b_lFrom b_lTo b_lNumber b_lParagraph b_lPage b_lHyphen b_lLast b_best) (hj : k ≤ j) : i_Rel j ((nI n), (nI lc), (nI pc), (nI fw), (nI rw), (nI fl), (nI sw), (nI ss), (nI sk), (nI ba), (nI hyc), (nI ph), x_breakCount, x_lineCount, x_paragraphCount, x_stale, (gd_tI t), (gd_tI w), (gd_lI lg), (gd_kI kn), (gd_tI P), a_heads, a_glyphs, a_breakEnd, a_breakNext, a_breakHyphen, a_breakTaken, a_wayDemerits, a_wayBefore, a_lineFacts, a_paragraphDemerits) ((nI n), (nI lc), (nI pc), (nI fw), (nI rw), (nI fl), (nI sw), (nI ss), (nI sk), (nI ba), (nI hyc), (nI ph), y_ready, y_glyphCount, y_breaks, y_natural, y_spaces, y_lineCount, y_paragraphs, (gd_tI t), (gd_tI w), (gd_lI lg), (gd_kI kn), b_patA, b_patB, b_patC, b_patDigits, b_glyphs, b_glyphOf, b_bEnd, b_bNext, b_bHyphen, b_least, b_before, b_way, b_lFrom, b_lTo, b_lNumber, b_lParagraph, b_lPage, b_lHyphen, b_lLast, b_best) :=
  rl_mk ⟨h.1, ⟨by have := h.2.1.1; omega, h.2.1.2⟩, h.2.2⟩
end
theorem i_vc_wipe {k : Nat} {u : SX} {v : SY} (I : i_Rel k u v) (hk : k + 5 ≤ 2560) : wpX_wipe (fun r u' => wpY_wipe (fun r' v' => r' = r ∧ i_Rel (k + 5) u' v') v) u := by
  refine rl_elim (Q := fun u v => wpX_wipe (fun r u' => wpY_wipe (fun r' v' => r' = r ∧ i_Rel (k + 5) u' v') v) u) I ?_
  intro n lc pc fw rw fl sw ss sk ba hyc ph t w lg kn P pa pb pq pd x_breakCount x_lineCount x_paragraphCount x_stale a_heads a_glyphs a_breakEnd a_breakNext a_breakHyphen a_breakTaken a_wayDemerits a_wayBefore a_lineFacts a_paragraphDemerits y_ready y_glyphCount y_breaks y_natural y_spaces y_lineCount y_paragraphs b_patA b_patB b_patC b_patDigits b_glyphs b_glyphOf b_bEnd b_bNext b_bHyphen b_least b_before b_way b_lFrom b_lTo b_lNumber b_lParagraph b_lPage b_lHyphen b_lLast b_best ⟨C, L, R, F⟩
  exact ⟨rfl, rl_st (n := 0) ⟨by omega, C.2⟩ ⟨by have := L.1; omega, L.2⟩ R⟩
theorem gd_tup {t : Nat → Nat} {i x : Nat} : upd (gd_tI t) i (nI x) = gd_tI (gd_un t i x) := by
  funext j
  by_cases e : j = i
  · rw [e, pk_us, gd_tI, gd_un, if_pos rfl]
  · rw [pk_un e, gd_tI, gd_tI, gd_un, if_neg e]
theorem i_vc_width {k : Nat} {u : SX} {v : SY} (I : i_Rel k u v) (hk : k + 5 ≤ 2560) (v1 : Int32) (v2 : Int32) : wpX_width (fun r u' => wpY_width (fun r' v' => r' = r ∧ i_Rel (k + 5) u' v') v v1 v2) u v1 v2 := by
  refine rl_elim (Q := fun u v => wpX_width (fun r u' => wpY_width (fun r' v' => r' = r ∧ i_Rel (k + 5) u' v') v v1 v2) u v1 v2) I ?_
  intro n lc pc fw rw fl sw ss sk ba hyc ph t w lg kn P pa pb pq pd x_breakCount x_lineCount x_paragraphCount x_stale a_heads a_glyphs a_breakEnd a_breakNext a_breakHyphen a_breakTaken a_wayDemerits a_wayBefore a_lineFacts a_paragraphDemerits y_ready y_glyphCount y_breaks y_natural y_spaces y_lineCount y_paragraphs b_patA b_patB b_patC b_patDigits b_glyphs b_glyphOf b_bEnd b_bNext b_bHyphen b_least b_before b_way b_lFrom b_lTo b_lNumber b_lParagraph b_lPage b_lHyphen b_lLast b_best B
  have B' : i_Rel (k + 5) ((nI n), (nI lc), (nI pc), (nI fw), (nI rw), (nI fl), (nI sw), (nI ss), (nI sk), (nI ba), (nI hyc), (nI ph), x_breakCount, x_lineCount, x_paragraphCount, x_stale, (gd_tI t), (gd_tI w), (gd_lI lg), (gd_kI kn), (gd_tI P), a_heads, a_glyphs, a_breakEnd, a_breakNext, a_breakHyphen, a_breakTaken, a_wayDemerits, a_wayBefore, a_lineFacts, a_paragraphDemerits) ((nI n), (nI lc), (nI pc), (nI fw), (nI rw), (nI fl), (nI sw), (nI ss), (nI sk), (nI ba), (nI hyc), (nI ph), y_ready, y_glyphCount, y_breaks, y_natural, y_spaces, y_lineCount, y_paragraphs, (gd_tI t), (gd_tI w), (gd_lI lg), (gd_kI kn), b_patA, b_patB, b_patC, b_patDigits, b_glyphs, b_glyphOf, b_bEnd, b_bNext, b_bHyphen, b_least, b_before, b_way, b_lFrom, b_lTo, b_lNumber, b_lParagraph, b_lPage, b_lHyphen, b_lLast, b_best) := rl_ok B (by omega)
  obtain ⟨C, L, R, F⟩ := B
  unfold wpX_width
  have no : ¬ ((0 ≤ v1.toInt ∧ v1.toInt ≤ 9) ∧ (6 ≤ v2.toInt ∧ v2.toInt ≤ 30)) → wpY_width (fun r' v' => r' = 0 ∧ i_Rel (k + 5) ((nI n), (nI lc), (nI pc), (nI fw), (nI rw), (nI fl), (nI sw), (nI ss), (nI sk), (nI ba), (nI hyc), (nI ph), x_breakCount, x_lineCount, x_paragraphCount, x_stale, (gd_tI t), (gd_tI w), (gd_lI lg), (gd_kI kn), (gd_tI P), a_heads, a_glyphs, a_breakEnd, a_breakNext, a_breakHyphen, a_breakTaken, a_wayDemerits, a_wayBefore, a_lineFacts, a_paragraphDemerits) v') ((nI n), (nI lc), (nI pc), (nI fw), (nI rw), (nI fl), (nI sw), (nI ss), (nI sk), (nI ba), (nI hyc), (nI ph), y_ready, y_glyphCount, y_breaks, y_natural, y_spaces, y_lineCount, y_paragraphs, (gd_tI t), (gd_tI w), (gd_lI lg), (gd_kI kn), b_patA, b_patB, b_patC, b_patDigits, b_glyphs, b_glyphOf, b_bEnd, b_bNext, b_bHyphen, b_least, b_before, b_way, b_lFrom, b_lTo, b_lNumber, b_lParagraph, b_lPage, b_lHyphen, b_lLast, b_best) v1 v2 := by
    intro h
    unfold wpY_width
    refine wy_let (gd_bt (fun z => ⟨rfl, B'⟩) (fun z => ?_))
    have z := of_decide_eq_true z
    exact wi_lt 6 (fun y => ⟨rfl, B'⟩) (fun y => wi_le 30 (fun y2 => absurd ⟨z, y, y2⟩ h) (fun y2 => ⟨rfl, B'⟩))
  refine wx_in 0 9 (gd_bt (fun z => no (fun h => (of_decide_eq_false z) h.1)) (fun z => ?_))
  refine wx_in 6 30 (gd_bt (fun z2 => no (fun h => (of_decide_eq_false z2) h.2)) (fun z2 => ?_))
  have z := of_decide_eq_true z
  have z2 := of_decide_eq_true z2
  have e1 := wi_n z.1
  have e2 := wi_n (show 0 ≤ v2.toInt by omega)
  have hup : ∀ a : Nat → Int32, a = gd_tI w → upd a v1.toNatClampNeg v2 = gd_tI (gd_un w v1.toInt.toNat v2.toInt.toNat) := by
    intro a ha
    rw [ha, ← gd_tup, ← e2]
    congr 1
  refine ⟨pk_in v1.toInt.toNat 10 (by omega) e1, nm_r (hup _ rfl) ?_⟩
  unfold wpY_width
  refine wy_let (gd_bt (fun y => absurd z (of_decide_eq_false y)) (fun y => ?_))
  refine wi_lt 6 (fun y2 => absurd y2 (by omega)) (fun y2 => wi_le 30 (fun y3 => ⟨pk_in v1.toInt.toNat 10 (by omega) e1, nm_r (hup _ rfl) ⟨rfl, ?_⟩⟩) (fun y3 => absurd y3 (by omega)))
  refine rl_st ⟨C.1, C.2.1, fun i => ?_, C.2.2.2⟩ ⟨by have := L.1; omega, L.2⟩ R
  rw [gd_un]
  split
  · omega
  · exact C.2.2.1 i
end
section
theorem wi_c {x : Int32} {c d : Int} (h : c ≤ x.toInt ∧ x.toInt ≤ d) (h0 : 0 ≤ c) : ∃ a : Nat, x = nI a ∧ c ≤ a ∧ (a : Int) ≤ d ∧ a < 2 ^ 31 := by
  have := x.toInt_lt
  exact ⟨x.toInt.toNat, wi_n (by omega), by omega, by omega, by omega⟩
theorem wi_any (x : Int32) : ∃ m : Nat, x = nI m := by
  refine ⟨x.toBitVec.toNat, ?_⟩
  apply Int32.toBitVec_inj.mp
  apply BitVec.eq_of_toNat_eq
  show _ = (BitVec.ofNat 32 _).toNat
  rw [BitVec.toNat_ofNat]
  exact (Nat.mod_eq_of_lt x.toBitVec.isLt).symm
def gd_uk (f : Nat → Int) (k : Nat) (x : Int) : Nat → Int := fun j => if j = k then x else f j
theorem gd_kup {kn : Nat → Int} {i : Nat} {x : Int32} : upd (gd_kI kn) i x = gd_kI (gd_uk kn i x.toInt) := by
  funext j
  by_cases e : j = i
  · rw [e, pk_us, gd_kI, gd_uk, if_pos rfl]; exact wi_z
  · rw [pk_un e, gd_kI, gd_kI, gd_uk, if_neg e]
theorem i_vc_kern {k : Nat} {u : SX} {v : SY} (I : i_Rel k u v) (hk : k + 5 ≤ 2560) (v1 : Int32) (v2 : Int32) (v3 : Int32) : wpX_kern (fun r u' => wpY_kern (fun r' v' => r' = r ∧ i_Rel (k + 5) u' v') v v1 v2 v3) u v1 v2 v3 := by
  refine rl_elim (Q := fun u v => wpX_kern (fun r u' => wpY_kern (fun r' v' => r' = r ∧ i_Rel (k + 5) u' v') v v1 v2 v3) u v1 v2 v3) I ?_
  intro n lc pc fw rw fl sw ss sk ba hyc ph t w lg kn P pa pb pq pd x_breakCount x_lineCount x_paragraphCount x_stale a_heads a_glyphs a_breakEnd a_breakNext a_breakHyphen a_breakTaken a_wayDemerits a_wayBefore a_lineFacts a_paragraphDemerits y_ready y_glyphCount y_breaks y_natural y_spaces y_lineCount y_paragraphs b_patA b_patB b_patC b_patDigits b_glyphs b_glyphOf b_bEnd b_bNext b_bHyphen b_least b_before b_way b_lFrom b_lTo b_lNumber b_lParagraph b_lPage b_lHyphen b_lLast b_best B
  have B' : i_Rel (k + 5) ((nI n), (nI lc), (nI pc), (nI fw), (nI rw), (nI fl), (nI sw), (nI ss), (nI sk), (nI ba), (nI hyc), (nI ph), x_breakCount, x_lineCount, x_paragraphCount, x_stale, (gd_tI t), (gd_tI w), (gd_lI lg), (gd_kI kn), (gd_tI P), a_heads, a_glyphs, a_breakEnd, a_breakNext, a_breakHyphen, a_breakTaken, a_wayDemerits, a_wayBefore, a_lineFacts, a_paragraphDemerits) ((nI n), (nI lc), (nI pc), (nI fw), (nI rw), (nI fl), (nI sw), (nI ss), (nI sk), (nI ba), (nI hyc), (nI ph), y_ready, y_glyphCount, y_breaks, y_natural, y_spaces, y_lineCount, y_paragraphs, (gd_tI t), (gd_tI w), (gd_lI lg), (gd_kI kn), b_patA, b_patB, b_patC, b_patDigits, b_glyphs, b_glyphOf, b_bEnd, b_bNext, b_bHyphen, b_least, b_before, b_way, b_lFrom, b_lTo, b_lNumber, b_lParagraph, b_lPage, b_lHyphen, b_lLast, b_best) := rl_ok B (by omega)
  obtain ⟨C, L, R, F⟩ := B
  unfold wpX_kern
  have no : ¬ ((0 ≤ v1.toInt ∧ v1.toInt ≤ 9 ∧ 0 ≤ v2.toInt ∧ v2.toInt ≤ 9) ∧ (-5 ≤ v3.toInt ∧ v3.toInt ≤ 5)) → wpY_kern (fun r' v' => r' = 0 ∧ i_Rel (k + 5) ((nI n), (nI lc), (nI pc), (nI fw), (nI rw), (nI fl), (nI sw), (nI ss), (nI sk), (nI ba), (nI hyc), (nI ph), x_breakCount, x_lineCount, x_paragraphCount, x_stale, (gd_tI t), (gd_tI w), (gd_lI lg), (gd_kI kn), (gd_tI P), a_heads, a_glyphs, a_breakEnd, a_breakNext, a_breakHyphen, a_breakTaken, a_wayDemerits, a_wayBefore, a_lineFacts, a_paragraphDemerits) v') ((nI n), (nI lc), (nI pc), (nI fw), (nI rw), (nI fl), (nI sw), (nI ss), (nI sk), (nI ba), (nI hyc), (nI ph), y_ready, y_glyphCount, y_breaks, y_natural, y_spaces, y_lineCount, y_paragraphs, (gd_tI t), (gd_tI w), (gd_lI lg), (gd_kI kn), b_patA, b_patB, b_patC, b_patDigits, b_glyphs, b_glyphOf, b_bEnd, b_bNext, b_bHyphen, b_least, b_before, b_way, b_lFrom, b_lTo, b_lNumber, b_lParagraph, b_lPage, b_lHyphen, b_lLast, b_best) v1 v2 v3 := by
    intro h
    unfold wpY_kern
    refine wy_let (gd_bt (fun z => ⟨rfl, B'⟩) (fun z => wy_let (gd_bt (fun z2 => ⟨rfl, B'⟩) (fun z2 => ?_))))
    have z := of_decide_eq_true z
    have z2 := of_decide_eq_true z2
    exact wi_lt (-5) (fun y => ⟨rfl, B'⟩) (fun y => wi_le 5 (fun y2 => absurd ⟨⟨z.1, z.2, z2⟩, y, y2⟩ h) (fun y2 => ⟨rfl, B'⟩))
  refine wx_pair (gd_bt (fun z => no (fun h => (of_decide_eq_false z) h.1)) (fun z => ?_))
  refine wx_in (-5) 5 (gd_bt (fun z2 => no (fun h => (of_decide_eq_false z2) h.2)) (fun z2 => ?_))
  have z := of_decide_eq_true z
  have z2 := of_decide_eq_true z2
  obtain ⟨a, rfl, a1, a2, a3⟩ := wi_c ⟨z.1, z.2.1⟩ (Int.le_refl 0)
  obtain ⟨b, rfl, b1, b2, b3⟩ := wi_c z.2.2 (Int.le_refl 0)
  have ix : nI a * 10 + nI b = nI (10 * a + b) := by rw [show (10 : Int32) = nI 10 from rfl, pk_mul, nI_add, Nat.mul_comm]
  have iy : 10 * nI a + nI b = nI (10 * a + b) := by rw [show (10 : Int32) = nI 10 from rfl, pk_mul, nI_add]
  refine ⟨pk_in (10 * a + b) 100 (by omega) ix, nm_r (e' := gd_kI (gd_uk kn (10 * a + b) v3.toInt)) (by rw [ix, nI_clamp (by omega), gd_kup]) ?_⟩
  unfold wpY_kern
  refine wy_let (gd_bt (fun y => absurd ⟨z.1, z.2.1⟩ (of_decide_eq_false y)) (fun y => wy_let (gd_bt (fun y => absurd z.2.2 (of_decide_eq_false y)) (fun y => ?_))))
  refine wi_lt (-5) (fun y2 => absurd y2 (by omega)) (fun y2 => wi_le 5 (fun y3 => ⟨pk_in (10 * a + b) 100 (by omega) iy, nm_r (e' := gd_kI (gd_uk kn (10 * a + b) v3.toInt)) (by rw [iy, nI_clamp (by omega), gd_kup]) ⟨rfl, ?_⟩⟩) (fun y3 => absurd y3 (by omega)))
  refine rl_st ⟨C.1, C.2.1, C.2.2.1, fun i => ?_, C.2.2.2.2⟩ ⟨by have := L.1; omega, L.2⟩ R
  rw [gd_uk]
  split
  · exact z2
  · exact C.2.2.2.1 i
theorem i_vc_measure {k : Nat} {u : SX} {v : SY} (I : i_Rel k u v) (hk : k + 5 ≤ 2560) (v1 : Int32) (v2 : Int32) (v3 : Int32) : wpX_measure (fun r u' => wpY_measure (fun r' v' => r' = r ∧ i_Rel (k + 5) u' v') v v1 v2 v3) u v1 v2 v3 := by
  refine rl_elim (Q := fun u v => wpX_measure (fun r u' => wpY_measure (fun r' v' => r' = r ∧ i_Rel (k + 5) u' v') v v1 v2 v3) u v1 v2 v3) I ?_
  intro n lc pc fw rw fl sw ss sk ba hyc ph t w lg kn P pa pb pq pd x_breakCount x_lineCount x_paragraphCount x_stale a_heads a_glyphs a_breakEnd a_breakNext a_breakHyphen a_breakTaken a_wayDemerits a_wayBefore a_lineFacts a_paragraphDemerits y_ready y_glyphCount y_breaks y_natural y_spaces y_lineCount y_paragraphs b_patA b_patB b_patC b_patDigits b_glyphs b_glyphOf b_bEnd b_bNext b_bHyphen b_least b_before b_way b_lFrom b_lTo b_lNumber b_lParagraph b_lPage b_lHyphen b_lLast b_best B
  have B' : i_Rel (k + 5) ((nI n), (nI lc), (nI pc), (nI fw), (nI rw), (nI fl), (nI sw), (nI ss), (nI sk), (nI ba), (nI hyc), (nI ph), x_breakCount, x_lineCount, x_paragraphCount, x_stale, (gd_tI t), (gd_tI w), (gd_lI lg), (gd_kI kn), (gd_tI P), a_heads, a_glyphs, a_breakEnd, a_breakNext, a_breakHyphen, a_breakTaken, a_wayDemerits, a_wayBefore, a_lineFacts, a_paragraphDemerits) ((nI n), (nI lc), (nI pc), (nI fw), (nI rw), (nI fl), (nI sw), (nI ss), (nI sk), (nI ba), (nI hyc), (nI ph), y_ready, y_glyphCount, y_breaks, y_natural, y_spaces, y_lineCount, y_paragraphs, (gd_tI t), (gd_tI w), (gd_lI lg), (gd_kI kn), b_patA, b_patB, b_patC, b_patDigits, b_glyphs, b_glyphOf, b_bEnd, b_bNext, b_bHyphen, b_least, b_before, b_way, b_lFrom, b_lTo, b_lNumber, b_lParagraph, b_lPage, b_lHyphen, b_lLast, b_best) := rl_ok B (by omega)
  obtain ⟨C, L, R, F⟩ := B
  unfold wpX_measure
  have no : ¬ ((20 ≤ v1.toInt ∧ v1.toInt ≤ 300) ∧ (20 ≤ v2.toInt ∧ v2.toInt ≤ 300) ∧ (0 ≤ v3.toInt ∧ v3.toInt ≤ 3)) → wpY_measure (fun r' v' => r' = 0 ∧ i_Rel (k + 5) ((nI n), (nI lc), (nI pc), (nI fw), (nI rw), (nI fl), (nI sw), (nI ss), (nI sk), (nI ba), (nI hyc), (nI ph), x_breakCount, x_lineCount, x_paragraphCount, x_stale, (gd_tI t), (gd_tI w), (gd_lI lg), (gd_kI kn), (gd_tI P), a_heads, a_glyphs, a_breakEnd, a_breakNext, a_breakHyphen, a_breakTaken, a_wayDemerits, a_wayBefore, a_lineFacts, a_paragraphDemerits) v') ((nI n), (nI lc), (nI pc), (nI fw), (nI rw), (nI fl), (nI sw), (nI ss), (nI sk), (nI ba), (nI hyc), (nI ph), y_ready, y_glyphCount, y_breaks, y_natural, y_spaces, y_lineCount, y_paragraphs, (gd_tI t), (gd_tI w), (gd_lI lg), (gd_kI kn), b_patA, b_patB, b_patC, b_patDigits, b_glyphs, b_glyphOf, b_bEnd, b_bNext, b_bHyphen, b_least, b_before, b_way, b_lFrom, b_lTo, b_lNumber, b_lParagraph, b_lPage, b_lHyphen, b_lLast, b_best) v1 v2 v3 := by
    intro h
    exact wi_lt 20 (fun y => ⟨rfl, B'⟩) (fun y1 => wi_gt 300 (fun y => ⟨rfl, B'⟩) (fun y2 => wi_lt 20 (fun y => ⟨rfl, B'⟩) (fun y3 => wi_gt 300 (fun y => ⟨rfl, B'⟩) (fun y4 => wi_lt 0 (fun y => ⟨rfl, B'⟩) (fun y5 => wi_le 3 (fun y6 => absurd ⟨⟨y1, y2⟩, ⟨y3, y4⟩, y5, y6⟩ h) (fun y => ⟨rfl, B'⟩))))))
  refine wx_in 20 300 (gd_bt (fun z => no (fun h => (of_decide_eq_false z) h.1)) (fun z => ?_))
  refine wx_in 20 300 (gd_bt (fun z2 => no (fun h => (of_decide_eq_false z2) h.2.1)) (fun z2 => ?_))
  refine wx_in 0 3 (gd_bt (fun z3 => no (fun h => (of_decide_eq_false z3) h.2.2)) (fun z3 => ?_))
  have z := of_decide_eq_true z
  have z2 := of_decide_eq_true z2
  have z3 := of_decide_eq_true z3
  refine wi_lt 20 (fun y => absurd y (by omega)) (fun y1 => wi_gt 300 (fun y => absurd y (by omega)) (fun y2 => wi_lt 20 (fun y => absurd y (by omega)) (fun y3 => wi_gt 300 (fun y => absurd y (by omega)) (fun y4 => wi_lt 0 (fun y => absurd y (by omega)) (fun y5 => wi_le 3 (fun y6 => ⟨rfl, ?_⟩) (fun y => absurd y (by omega)))))))
  obtain ⟨a, rfl, a1, a2, a3⟩ := wi_c z (by omega)
  obtain ⟨b, rfl, b1, b2, b3⟩ := wi_c z2 (by omega)
  obtain ⟨c, rfl, c1, c2, c3⟩ := wi_c z3 (by omega)
  obtain ⟨d1, d2, d3, d4, d5, d6, d7, d8, d9, d10, d11, d12, d13, d14⟩ := C
  exact rl_st ⟨d1, d2, d3, d4, by omega, by omega, by omega, d8, d9, d10, d11, d12, d13, d14⟩ ⟨by have := L.1; omega, L.2⟩ R
theorem i_vc_glue {k : Nat} {u : SX} {v : SY} (I : i_Rel k u v) (hk : k + 5 ≤ 2560) (v1 : Int32) (v2 : Int32) (v3 : Int32) : wpX_glue (fun r u' => wpY_glue (fun r' v' => r' = r ∧ i_Rel (k + 5) u' v') v v1 v2 v3) u v1 v2 v3 := by
  refine rl_elim (Q := fun u v => wpX_glue (fun r u' => wpY_glue (fun r' v' => r' = r ∧ i_Rel (k + 5) u' v') v v1 v2 v3) u v1 v2 v3) I ?_
  intro n lc pc fw rw fl sw ss sk ba hyc ph t w lg kn P pa pb pq pd x_breakCount x_lineCount x_paragraphCount x_stale a_heads a_glyphs a_breakEnd a_breakNext a_breakHyphen a_breakTaken a_wayDemerits a_wayBefore a_lineFacts a_paragraphDemerits y_ready y_glyphCount y_breaks y_natural y_spaces y_lineCount y_paragraphs b_patA b_patB b_patC b_patDigits b_glyphs b_glyphOf b_bEnd b_bNext b_bHyphen b_least b_before b_way b_lFrom b_lTo b_lNumber b_lParagraph b_lPage b_lHyphen b_lLast b_best B
  have B' : i_Rel (k + 5) ((nI n), (nI lc), (nI pc), (nI fw), (nI rw), (nI fl), (nI sw), (nI ss), (nI sk), (nI ba), (nI hyc), (nI ph), x_breakCount, x_lineCount, x_paragraphCount, x_stale, (gd_tI t), (gd_tI w), (gd_lI lg), (gd_kI kn), (gd_tI P), a_heads, a_glyphs, a_breakEnd, a_breakNext, a_breakHyphen, a_breakTaken, a_wayDemerits, a_wayBefore, a_lineFacts, a_paragraphDemerits) ((nI n), (nI lc), (nI pc), (nI fw), (nI rw), (nI fl), (nI sw), (nI ss), (nI sk), (nI ba), (nI hyc), (nI ph), y_ready, y_glyphCount, y_breaks, y_natural, y_spaces, y_lineCount, y_paragraphs, (gd_tI t), (gd_tI w), (gd_lI lg), (gd_kI kn), b_patA, b_patB, b_patC, b_patDigits, b_glyphs, b_glyphOf, b_bEnd, b_bNext, b_bHyphen, b_least, b_before, b_way, b_lFrom, b_lTo, b_lNumber, b_lParagraph, b_lPage, b_lHyphen, b_lLast, b_best) := rl_ok B (by omega)
  obtain ⟨C, L, R, F⟩ := B
  unfold wpX_glue
  have no : ¬ ((1 ≤ v1.toInt ∧ v1.toInt ≤ 20) ∧ (0 ≤ v2.toInt ∧ v2.toInt ≤ 20) ∧ (0 ≤ v3.toInt ∧ v3.toInt ≤ v1.toInt)) → wpY_glue (fun r' v' => r' = 0 ∧ i_Rel (k + 5) ((nI n), (nI lc), (nI pc), (nI fw), (nI rw), (nI fl), (nI sw), (nI ss), (nI sk), (nI ba), (nI hyc), (nI ph), x_breakCount, x_lineCount, x_paragraphCount, x_stale, (gd_tI t), (gd_tI w), (gd_lI lg), (gd_kI kn), (gd_tI P), a_heads, a_glyphs, a_breakEnd, a_breakNext, a_breakHyphen, a_breakTaken, a_wayDemerits, a_wayBefore, a_lineFacts, a_paragraphDemerits) v') ((nI n), (nI lc), (nI pc), (nI fw), (nI rw), (nI fl), (nI sw), (nI ss), (nI sk), (nI ba), (nI hyc), (nI ph), y_ready, y_glyphCount, y_breaks, y_natural, y_spaces, y_lineCount, y_paragraphs, (gd_tI t), (gd_tI w), (gd_lI lg), (gd_kI kn), b_patA, b_patB, b_patC, b_patDigits, b_glyphs, b_glyphOf, b_bEnd, b_bNext, b_bHyphen, b_least, b_before, b_way, b_lFrom, b_lTo, b_lNumber, b_lParagraph, b_lPage, b_lHyphen, b_lLast, b_best) v1 v2 v3 := by
    intro h
    exact wi_lt 1 (fun y => ⟨rfl, B'⟩) (fun y1 => wi_gt 20 (fun y => ⟨rfl, B'⟩) (fun y2 => wi_lt 0 (fun y => ⟨rfl, B'⟩) (fun y3 => wi_gt 20 (fun y => ⟨rfl, B'⟩) (fun y4 => wi_lt 0 (fun y => ⟨rfl, B'⟩) (fun y5 => wi_le v1.toInt (fun y6 => absurd ⟨⟨y1, y2⟩, ⟨y3, y4⟩, y5, y6⟩ h) (fun y => ⟨rfl, B'⟩) rfl)))))
  refine wx_in 1 20 (gd_bt (fun z => no (fun h => (of_decide_eq_false z) h.1)) (fun z => ?_))
  refine wx_in 0 20 (gd_bt (fun z2 => no (fun h => (of_decide_eq_false z2) h.2.1)) (fun z2 => ?_))
  refine wx_in 0 v1.toInt (gd_bt (fun z3 => no (fun h => (of_decide_eq_false z3) h.2.2)) (fun z3 => ?_)) (by decide) rfl
  have z := of_decide_eq_true z
  have z2 := of_decide_eq_true z2
  have z3 := of_decide_eq_true z3
  refine wi_lt 1 (fun y => absurd y (by omega)) (fun y1 => wi_gt 20 (fun y => absurd y (by omega)) (fun y2 => wi_lt 0 (fun y => absurd y (by omega)) (fun y3 => wi_gt 20 (fun y => absurd y (by omega)) (fun y4 => wi_lt 0 (fun y => absurd y (by omega)) (fun y5 => wi_le v1.toInt (fun y6 => ⟨rfl, ?_⟩) (fun y => absurd y (by omega)) rfl)))))
  have z3' : 0 ≤ v3.toInt ∧ v3.toInt ≤ 20 := by omega
  clear z3 y1 y2 y3 y4 y5 y6 no
  obtain ⟨c, rfl, c1, c2, c3⟩ := wi_c z3' (by omega)
  obtain ⟨a, rfl, a1, a2, a3⟩ := wi_c z (by omega)
  obtain ⟨b, rfl, b1, b2, b3⟩ := wi_c z2 (by omega)
  obtain ⟨d1, d2, d3, d4, d5, d6, d7, d8, d9, d10, d11, d12, d13, d14⟩ := C
  exact rl_st ⟨d1, d2, d3, d4, d5, d6, d7, by omega, by omega, by omega, d11, d12, d13, d14⟩ ⟨by have := L.1; omega, L.2⟩ R
theorem i_vc_rules {k : Nat} {u : SX} {v : SY} (I : i_Rel k u v) (hk : k + 5 ≤ 2560) (v1 : Int32) (v2 : Int32) (v3 : Int32) : wpX_rules (fun r u' => wpY_rules (fun r' v' => r' = r ∧ i_Rel (k + 5) u' v') v v1 v2 v3) u v1 v2 v3 := by
  refine rl_elim (Q := fun u v => wpX_rules (fun r u' => wpY_rules (fun r' v' => r' = r ∧ i_Rel (k + 5) u' v') v v1 v2 v3) u v1 v2 v3) I ?_
  intro n lc pc fw rw fl sw ss sk ba hyc ph t w lg kn P pa pb pq pd x_breakCount x_lineCount x_paragraphCount x_stale a_heads a_glyphs a_breakEnd a_breakNext a_breakHyphen a_breakTaken a_wayDemerits a_wayBefore a_lineFacts a_paragraphDemerits y_ready y_glyphCount y_breaks y_natural y_spaces y_lineCount y_paragraphs b_patA b_patB b_patC b_patDigits b_glyphs b_glyphOf b_bEnd b_bNext b_bHyphen b_least b_before b_way b_lFrom b_lTo b_lNumber b_lParagraph b_lPage b_lHyphen b_lLast b_best B
  have B' : i_Rel (k + 5) ((nI n), (nI lc), (nI pc), (nI fw), (nI rw), (nI fl), (nI sw), (nI ss), (nI sk), (nI ba), (nI hyc), (nI ph), x_breakCount, x_lineCount, x_paragraphCount, x_stale, (gd_tI t), (gd_tI w), (gd_lI lg), (gd_kI kn), (gd_tI P), a_heads, a_glyphs, a_breakEnd, a_breakNext, a_breakHyphen, a_breakTaken, a_wayDemerits, a_wayBefore, a_lineFacts, a_paragraphDemerits) ((nI n), (nI lc), (nI pc), (nI fw), (nI rw), (nI fl), (nI sw), (nI ss), (nI sk), (nI ba), (nI hyc), (nI ph), y_ready, y_glyphCount, y_breaks, y_natural, y_spaces, y_lineCount, y_paragraphs, (gd_tI t), (gd_tI w), (gd_lI lg), (gd_kI kn), b_patA, b_patB, b_patC, b_patDigits, b_glyphs, b_glyphOf, b_bEnd, b_bNext, b_bHyphen, b_least, b_before, b_way, b_lFrom, b_lTo, b_lNumber, b_lParagraph, b_lPage, b_lHyphen, b_lLast, b_best) := rl_ok B (by omega)
  obtain ⟨C, L, R, F⟩ := B
  unfold wpX_rules
  have no : ¬ ((0 ≤ v1.toInt ∧ v1.toInt ≤ 10000) ∧ (0 ≤ v2.toInt ∧ v2.toInt ≤ 200) ∧ (1 ≤ v3.toInt ∧ v3.toInt ≤ 12)) → wpY_rules (fun r' v' => r' = 0 ∧ i_Rel (k + 5) ((nI n), (nI lc), (nI pc), (nI fw), (nI rw), (nI fl), (nI sw), (nI ss), (nI sk), (nI ba), (nI hyc), (nI ph), x_breakCount, x_lineCount, x_paragraphCount, x_stale, (gd_tI t), (gd_tI w), (gd_lI lg), (gd_kI kn), (gd_tI P), a_heads, a_glyphs, a_breakEnd, a_breakNext, a_breakHyphen, a_breakTaken, a_wayDemerits, a_wayBefore, a_lineFacts, a_paragraphDemerits) v') ((nI n), (nI lc), (nI pc), (nI fw), (nI rw), (nI fl), (nI sw), (nI ss), (nI sk), (nI ba), (nI hyc), (nI ph), y_ready, y_glyphCount, y_breaks, y_natural, y_spaces, y_lineCount, y_paragraphs, (gd_tI t), (gd_tI w), (gd_lI lg), (gd_kI kn), b_patA, b_patB, b_patC, b_patDigits, b_glyphs, b_glyphOf, b_bEnd, b_bNext, b_bHyphen, b_least, b_before, b_way, b_lFrom, b_lTo, b_lNumber, b_lParagraph, b_lPage, b_lHyphen, b_lLast, b_best) v1 v2 v3 := by
    intro h
    exact wi_lt 0 (fun y => ⟨rfl, B'⟩) (fun y1 => wi_gt 10000 (fun y => ⟨rfl, B'⟩) (fun y2 => wi_lt 0 (fun y => ⟨rfl, B'⟩) (fun y3 => wi_gt 200 (fun y => ⟨rfl, B'⟩) (fun y4 => wi_lt 1 (fun y => ⟨rfl, B'⟩) (fun y5 => wi_le 12 (fun y6 => absurd ⟨⟨y1, y2⟩, ⟨y3, y4⟩, y5, y6⟩ h) (fun y => ⟨rfl, B'⟩))))))
  refine wx_in 0 10000 (gd_bt (fun z => no (fun h => (of_decide_eq_false z) h.1)) (fun z => ?_))
  refine wx_in 0 200 (gd_bt (fun z2 => no (fun h => (of_decide_eq_false z2) h.2.1)) (fun z2 => ?_))
  refine wx_in 1 12 (gd_bt (fun z3 => no (fun h => (of_decide_eq_false z3) h.2.2)) (fun z3 => ?_))
  have z := of_decide_eq_true z
  have z2 := of_decide_eq_true z2
  have z3 := of_decide_eq_true z3
  refine wi_lt 0 (fun y => absurd y (by omega)) (fun y1 => wi_gt 10000 (fun y => absurd y (by omega)) (fun y2 => wi_lt 0 (fun y => absurd y (by omega)) (fun y3 => wi_gt 200 (fun y => absurd y (by omega)) (fun y4 => wi_lt 1 (fun y => absurd y (by omega)) (fun y5 => wi_le 12 (fun y6 => ⟨rfl, ?_⟩) (fun y => absurd y (by omega)))))))
  obtain ⟨a, rfl, a1, a2, a3⟩ := wi_c z (by omega)
  obtain ⟨b, rfl, b1, b2, b3⟩ := wi_c z2 (by omega)
  obtain ⟨c, rfl, c1, c2, c3⟩ := wi_c z3 (by omega)
  obtain ⟨d1, d2, d3, d4, d5, d6, d7, d8, d9, d10, d11, d12, d13, d14⟩ := C
  exact rl_st ⟨d1, d2, d3, d4, d5, d6, d7, d8, d9, d10, by omega, by omega, by omega, by omega⟩ ⟨by have := L.1; omega, L.2⟩ R
end
section
theorem gd_lup {lg : Nat → Nat} {i : Nat} {x : Int32} (h : -1 ≤ x.toInt ∧ x.toInt ≤ 9) : upd (gd_lI lg) i x = gd_lI (gd_un lg i (if x.toInt < 0 then 10 else x.toInt.toNat)) := by
  funext j
  by_cases e : j = i
  · rw [e, pk_us, gd_lI, gd_un, if_pos rfl]
    by_cases z : x.toInt < 0
    · rw [if_pos z, if_neg (by omega)]
      apply Int32.toInt_inj.mp
      rw [show (-1 : Int32).toInt = -1 from by decide]
      omega
    · rw [if_neg z, if_pos (by omega)]
      exact wi_n (by omega)
  · rw [pk_un e, gd_lI, gd_lI, gd_un, if_neg e]
theorem wi_sub1 {x : Int32} (h : -10000 ≤ x.toInt) : (x - 1).toInt = x.toInt - 1 := by
  have := x.toInt_lt
  rw [Int32.toInt_sub, show (1 : Int32).toInt = 1 from by decide]
  exact Int.bmod_eq_of_le (by omega) (by omega)
theorem wi_add1 {x : Int32} (h : -10000 ≤ x.toInt ∧ x.toInt ≤ 10000) : (x + 1).toInt = x.toInt + 1 := by
  rw [Int32.toInt_add, show (1 : Int32).toInt = 1 from by decide]
  exact Int.bmod_eq_of_le (by omega) (by omega)
theorem i_vc_ligature {k : Nat} {u : SX} {v : SY} (I : i_Rel k u v) (hk : k + 5 ≤ 2560) (v1 : Int32) (v2 : Int32) (v3 : Int32) : wpX_ligature (fun r u' => wpY_ligature (fun r' v' => r' = r ∧ i_Rel (k + 5) u' v') v v1 v2 v3) u v1 v2 v3 := by
  refine rl_elim (Q := fun u v => wpX_ligature (fun r u' => wpY_ligature (fun r' v' => r' = r ∧ i_Rel (k + 5) u' v') v v1 v2 v3) u v1 v2 v3) I ?_
  intro n lc pc fw rw fl sw ss sk ba hyc ph t w lg kn P pa pb pq pd x_breakCount x_lineCount x_paragraphCount x_stale a_heads a_glyphs a_breakEnd a_breakNext a_breakHyphen a_breakTaken a_wayDemerits a_wayBefore a_lineFacts a_paragraphDemerits y_ready y_glyphCount y_breaks y_natural y_spaces y_lineCount y_paragraphs b_patA b_patB b_patC b_patDigits b_glyphs b_glyphOf b_bEnd b_bNext b_bHyphen b_least b_before b_way b_lFrom b_lTo b_lNumber b_lParagraph b_lPage b_lHyphen b_lLast b_best B
  have B' : i_Rel (k + 5) ((nI n), (nI lc), (nI pc), (nI fw), (nI rw), (nI fl), (nI sw), (nI ss), (nI sk), (nI ba), (nI hyc), (nI ph), x_breakCount, x_lineCount, x_paragraphCount, x_stale, (gd_tI t), (gd_tI w), (gd_lI lg), (gd_kI kn), (gd_tI P), a_heads, a_glyphs, a_breakEnd, a_breakNext, a_breakHyphen, a_breakTaken, a_wayDemerits, a_wayBefore, a_lineFacts, a_paragraphDemerits) ((nI n), (nI lc), (nI pc), (nI fw), (nI rw), (nI fl), (nI sw), (nI ss), (nI sk), (nI ba), (nI hyc), (nI ph), y_ready, y_glyphCount, y_breaks, y_natural, y_spaces, y_lineCount, y_paragraphs, (gd_tI t), (gd_tI w), (gd_lI lg), (gd_kI kn), b_patA, b_patB, b_patC, b_patDigits, b_glyphs, b_glyphOf, b_bEnd, b_bNext, b_bHyphen, b_least, b_before, b_way, b_lFrom, b_lTo, b_lNumber, b_lParagraph, b_lPage, b_lHyphen, b_lLast, b_best) := rl_ok B (by omega)
  obtain ⟨C, L, R, F⟩ := B
  unfold wpX_ligature
  have no : ¬ ((0 ≤ v1.toInt ∧ v1.toInt ≤ 9 ∧ 0 ≤ v2.toInt ∧ v2.toInt ≤ 9) ∧ (-1 ≤ v3.toInt ∧ v3.toInt ≤ 9)) → wpY_ligature (fun r' v' => r' = 0 ∧ i_Rel (k + 5) ((nI n), (nI lc), (nI pc), (nI fw), (nI rw), (nI fl), (nI sw), (nI ss), (nI sk), (nI ba), (nI hyc), (nI ph), x_breakCount, x_lineCount, x_paragraphCount, x_stale, (gd_tI t), (gd_tI w), (gd_lI lg), (gd_kI kn), (gd_tI P), a_heads, a_glyphs, a_breakEnd, a_breakNext, a_breakHyphen, a_breakTaken, a_wayDemerits, a_wayBefore, a_lineFacts, a_paragraphDemerits) v') ((nI n), (nI lc), (nI pc), (nI fw), (nI rw), (nI fl), (nI sw), (nI ss), (nI sk), (nI ba), (nI hyc), (nI ph), y_ready, y_glyphCount, y_breaks, y_natural, y_spaces, y_lineCount, y_paragraphs, (gd_tI t), (gd_tI w), (gd_lI lg), (gd_kI kn), b_patA, b_patB, b_patC, b_patDigits, b_glyphs, b_glyphOf, b_bEnd, b_bNext, b_bHyphen, b_least, b_before, b_way, b_lFrom, b_lTo, b_lNumber, b_lParagraph, b_lPage, b_lHyphen, b_lLast, b_best) v1 v2 v3 := by
    intro h
    unfold wpY_ligature
    refine wy_let (gd_bt (fun z => ⟨rfl, B'⟩) (fun z => wy_let (gd_bt (fun z2 => ⟨rfl, B'⟩) (fun z2 => ?_))))
    have z := of_decide_eq_true z
    have z2 := of_decide_eq_true z2
    exact wi_lt (-1) (fun y => ⟨rfl, B'⟩) (fun y => wi_le 9 (fun y2 => absurd ⟨⟨z.1, z.2, z2⟩, y, y2⟩ h) (fun y2 => ⟨rfl, B'⟩))
  refine wx_pair (gd_bt (fun z => no (fun h => (of_decide_eq_false z) h.1)) (fun z => ?_))
  refine wx_in (-1) 9 (gd_bt (fun z2 => no (fun h => (of_decide_eq_false z2) h.2)) (fun z2 => ?_))
  have z := of_decide_eq_true z
  have z2 := of_decide_eq_true z2
  clear no
  obtain ⟨a, rfl, a1, a2, a3⟩ := wi_c ⟨z.1, z.2.1⟩ (Int.le_refl 0)
  obtain ⟨b, rfl, b1, b2, b3⟩ := wi_c z.2.2 (Int.le_refl 0)
  have ix : nI a * 10 + nI b = nI (10 * a + b) := by rw [show (10 : Int32) = nI 10 from rfl, pk_mul, nI_add, Nat.mul_comm]
  have iy : 10 * nI a + nI b = nI (10 * a + b) := by rw [show (10 : Int32) = nI 10 from rfl, pk_mul, nI_add]
  refine nm_r ix ⟨vp_in_nI (by omega) (by omega), ?_⟩
  have hrd : gd_lI lg (nI (10 * a + b)).toNatClampNeg = gd_lI lg (10 * a + b) := by rw [nI_clamp (by omega)]
  have L1 := wi_sub1 (x := nI lc) (by omega)
  -- both sides with the number of the others
  have key : ∀ o zy : Int32, nI lc - zy = o → o.toInt ≤ 8 → -(k : Int) - 1 ≤ o.toInt →
      (∀ Q : Int32 → SY → Prop, wY_ligature_52 Q (nI a) (nI b) v3 zy (nI lc) (nI n) (nI lc) (nI pc) (nI fw) (nI rw) (nI fl) (nI sw) (nI ss) (nI sk) (nI ba) (nI hyc) (nI ph) y_ready y_glyphCount y_breaks y_natural y_spaces y_lineCount y_paragraphs (gd_tI t) (gd_tI w) (gd_lI lg) (gd_kI kn) b_patA b_patB b_patC b_patDigits b_glyphs b_glyphOf b_bEnd b_bNext b_bHyphen b_least b_before b_way b_lFrom b_lTo b_lNumber b_lParagraph b_lPage b_lHyphen b_lLast b_best → wpY_ligature Q ((nI n), (nI lc), (nI pc), (nI fw), (nI rw), (nI fl), (nI sw), (nI ss), (nI sk), (nI ba), (nI hyc), (nI ph), y_ready, y_glyphCount, y_breaks, y_natural, y_spaces, y_lineCount, y_paragraphs, (gd_tI t), (gd_tI w), (gd_lI lg), (gd_kI kn), b_patA, b_patB, b_patC, b_patDigits, b_glyphs, b_glyphOf, b_bEnd, b_bNext, b_bHyphen, b_least, b_before, b_way, b_lFrom, b_lTo, b_lNumber, b_lParagraph, b_lPage, b_lHyphen, b_lLast, b_best) (nI a) (nI b) v3) → wX_ligature_52 (fun r u' => wpY_ligature (fun r' v' => r' = r ∧ i_Rel (k + 5) u' v') ((nI n), (nI lc), (nI pc), (nI fw), (nI rw), (nI fl), (nI sw), (nI ss), (nI sk), (nI ba), (nI hyc), (nI ph), y_ready, y_glyphCount, y_breaks, y_natural, y_spaces, y_lineCount, y_paragraphs, (gd_tI t), (gd_tI w), (gd_lI lg), (gd_kI kn), b_patA, b_patB, b_patC, b_patDigits, b_glyphs, b_glyphOf, b_bEnd, b_bNext, b_bHyphen, b_least, b_before, b_way, b_lFrom, b_lTo, b_lNumber, b_lParagraph, b_lPage, b_lHyphen, b_lLast, b_best) (nI a) (nI b) v3) v3 (nI (10 * a + b)) o (nI n) (nI lc) (nI pc) (nI fw) (nI rw) (nI fl) (nI sw) (nI ss) (nI sk) (nI ba) (nI hyc) (nI ph) x_breakCount x_lineCount x_paragraphCount x_stale (gd_tI t) (gd_tI w) (gd_lI lg) (gd_kI kn) (gd_tI P) a_heads a_glyphs a_breakEnd a_breakNext a_breakHyphen a_breakTaken a_wayDemerits a_wayBefore a_lineFacts a_paragraphDemerits := by
    intro o zy ho h8 hlo enter
    refine wi_lt 8 (fun y => ⟨vp_in_nI (by omega) (by omega), nm_r (e' := gd_lI (gd_un lg (10 * a + b) (if v3.toInt < 0 then 10 else v3.toInt.toNat))) (by rw [nI_clamp (by omega), gd_lup z2]) ?_⟩) (fun y => ?_)
    · have O1 := wi_add1 (x := o) (by omega)
      refine wi_eq (-1) (fun e => ?_) (fun e => nm_e ?_)
      · refine enter _ (nm_r ho (wi_eq 8 (fun y2 => absurd y2 (by omega)) (fun y2 => ⟨pk_in _ 100 (by omega) iy, nm_r (e' := gd_lI (gd_un lg (10 * a + b) (if v3.toInt < 0 then 10 else v3.toInt.toNat))) (by rw [iy, nI_clamp (by omega), gd_lup z2]) (wi_ge 0 (fun y3 => absurd y3 (by omega)) (fun y3 => nm_r (Int32.add_zero o) ⟨rfl, ?_⟩))⟩)))
        obtain ⟨lc', rfl⟩ := wi_any o
        exact rl_st C ⟨by omega, h8⟩ R
      · refine enter _ (nm_r ho (wi_eq 8 (fun y2 => absurd y2 (by omega)) (fun y2 => ⟨pk_in _ 100 (by omega) iy, nm_r (e' := gd_lI (gd_un lg (10 * a + b) (if v3.toInt < 0 then 10 else v3.toInt.toNat))) (by rw [iy, nI_clamp (by omega), gd_lup z2]) (wi_ge 0 (fun y3 => nm_e ⟨rfl, ?_⟩) (fun y3 => absurd y3 (by omega)))⟩)))
        obtain ⟨lc', hlc'⟩ := wi_any (o + 1)
        rw [hlc'] at O1 ⊢
        exact rl_st C ⟨by omega, by omega⟩ R
    · exact enter _ (nm_r ho (wi_eq 8 (fun y2 => ⟨rfl, B'⟩) (fun y2 => absurd y2 (by omega))))
  have enter : ∀ zy : Int32, ((0 ≤ gd_lI lg (10 * a + b) ∧ zy = 1) ∨ (¬ 0 ≤ gd_lI lg (10 * a + b) ∧ zy = 0)) → ∀ Q : Int32 → SY → Prop, wY_ligature_52 Q (nI a) (nI b) v3 zy (nI lc) (nI n) (nI lc) (nI pc) (nI fw) (nI rw) (nI fl) (nI sw) (nI ss) (nI sk) (nI ba) (nI hyc) (nI ph) y_ready y_glyphCount y_breaks y_natural y_spaces y_lineCount y_paragraphs (gd_tI t) (gd_tI w) (gd_lI lg) (gd_kI kn) b_patA b_patB b_patC b_patDigits b_glyphs b_glyphOf b_bEnd b_bNext b_bHyphen b_least b_before b_way b_lFrom b_lTo b_lNumber b_lParagraph b_lPage b_lHyphen b_lLast b_best → wpY_ligature Q ((nI n), (nI lc), (nI pc), (nI fw), (nI rw), (nI fl), (nI sw), (nI ss), (nI sk), (nI ba), (nI hyc), (nI ph), y_ready, y_glyphCount, y_breaks, y_natural, y_spaces, y_lineCount, y_paragraphs, (gd_tI t), (gd_tI w), (gd_lI lg), (gd_kI kn), b_patA, b_patB, b_patC, b_patDigits, b_glyphs, b_glyphOf, b_bEnd, b_bNext, b_bHyphen, b_least, b_before, b_way, b_lFrom, b_lTo, b_lNumber, b_lParagraph, b_lPage, b_lHyphen, b_lLast, b_best) (nI a) (nI b) v3 := by
    intro zy hz Q hQ
    unfold wpY_ligature
    refine wy_let (gd_bt (fun y => absurd ⟨z.1, z.2.1⟩ (of_decide_eq_false y)) (fun y => wy_let (gd_bt (fun y => absurd z.2.2 (of_decide_eq_false y)) (fun y => ?_))))
    refine wi_lt (-1) (fun y2 => absurd y2 (by omega)) (fun y2 => wi_le 9 (fun y3 => ⟨pk_in (10 * a + b) 100 (by omega) iy, ?_⟩) (fun y3 => absurd y3 (by omega)))
    rw [iy, hrd]
    rcases hz with ⟨h1, rfl⟩ | ⟨h1, rfl⟩
    · exact br_t h1 hQ
    · exact br_f h1 hQ
  by_cases hl : lg (10 * a + b) < 10
  · refine br_f (by rw [hrd, gd_li hl]; exact gd_nm1 (by omega)) (key (nI lc - 1) 1 rfl (by omega) (by omega) (enter 1 (Or.inl ⟨?_, rfl⟩)))
    rw [gd_li hl]; exact nI_pos' (by omega)
  · refine br_t (by rw [hrd, gd_lo hl]) (key (nI lc) 0 (Int32.sub_zero _) (by omega) (by omega) (enter 0 (Or.inr ⟨?_, rfl⟩)))
    rw [gd_lo hl]; decide
/-! put -/
def ad_c (n : Nat) (x : Int32) : Bool := decide (0 ≤ x.toInt ∧ x.toInt ≤ 11 ∧ n < 48)
def ad_n (n : Nat) (x : Int32) : Nat := if ad_c n x = true then n + 1 else n
def ad_t (t : Nat → Nat) (n : Nat) (x : Int32) : Nat → Nat := if ad_c n x = true then gd_un t n x.toInt.toNat else t
def ad_s (n : Nat) (x b d : Int32) : Int32 := if ad_c n x = true then b else d
section
variable {n lc pc fw rw fl sw ss sk ba hyc ph : Nat} {t w lg : Nat → Nat} {kn : Nat → Int}
variable {P pa pb pq pd : Nat → Nat} {k : Nat}
variable {x_breakCount x_lineCount x_paragraphCount x_stale : Int32} {a_patterns a_heads a_glyphs a_breakEnd a_breakNext a_breakHyphen a_breakTaken a_wayBefore a_lineFacts : Nat → Int32} {a_wayDemerits a_paragraphDemerits : Nat → Int64}
variable {y_ready y_glyphCount y_breaks y_natural y_spaces y_lineCount y_paragraphs : Int32} {b_patA b_patB b_patC b_patDigits b_glyphs b_glyphOf b_bEnd b_bNext b_bHyphen b_before b_way b_lFrom b_lTo b_lNumber b_lParagraph b_lPage b_lHyphen b_lLast : Nat → Int32} {b_least b_best : Nat → Int64}
theorem ad_x {post : SX → Prop} {x : Int32} (hn : n ≤ 48) (hp : post ((nI (ad_n n x)), (nI lc), (nI pc), (nI fw), (nI rw), (nI fl), (nI sw), (nI ss), (nI sk), (nI ba), (nI hyc), (nI ph), x_breakCount, x_lineCount, x_paragraphCount, (ad_s n x 1 x_stale), (gd_tI (ad_t t n x)), (gd_tI w), (gd_lI lg), (gd_kI kn), a_patterns, a_heads, a_glyphs, a_breakEnd, a_breakNext, a_breakHyphen, a_breakTaken, a_wayDemerits, a_wayBefore, a_lineFacts, a_paragraphDemerits)) : wpX_addCode post ((nI n), (nI lc), (nI pc), (nI fw), (nI rw), (nI fl), (nI sw), (nI ss), (nI sk), (nI ba), (nI hyc), (nI ph), x_breakCount, x_lineCount, x_paragraphCount, x_stale, (gd_tI t), (gd_tI w), (gd_lI lg), (gd_kI kn), a_patterns, a_heads, a_glyphs, a_breakEnd, a_breakNext, a_breakHyphen, a_breakTaken, a_wayDemerits, a_wayBefore, a_lineFacts, a_paragraphDemerits) x := by
  have no : ¬ (0 ≤ x.toInt ∧ x.toInt ≤ 11 ∧ n < 48) → post ((nI n), (nI lc), (nI pc), (nI fw), (nI rw), (nI fl), (nI sw), (nI ss), (nI sk), (nI ba), (nI hyc), (nI ph), x_breakCount, x_lineCount, x_paragraphCount, x_stale, (gd_tI t), (gd_tI w), (gd_lI lg), (gd_kI kn), a_patterns, a_heads, a_glyphs, a_breakEnd, a_breakNext, a_breakHyphen, a_breakTaken, a_wayDemerits, a_wayBefore, a_lineFacts, a_paragraphDemerits) := by
    intro h
    rw [ad_n, ad_t, ad_s, if_neg (by rw [ad_c, decide_eq_true_eq]; exact h), if_neg (by rw [ad_c, decide_eq_true_eq]; exact h), if_neg (by rw [ad_c, decide_eq_true_eq]; exact h)] at hp
    exact hp
  refine wi_lt 0 (fun y => no (by omega)) (fun y => wi_gt 11 (fun y2 => no (by omega)) (fun y2 => pk_lt n 48 (fun y3 => ⟨vp_in_nI y3 (by omega), ?_⟩) (fun y3 => no (by omega))))
  have e : ad_c n x = true := decide_eq_true ⟨y, y2, y3⟩
  rw [ad_n, ad_t, ad_s, if_pos e, if_pos e, if_pos e] at hp
  refine nm_r (e' := gd_tI (gd_un t n x.toInt.toNat)) ?_ (nm_r (nI_1 n) hp)
  rw [nI_clamp (by omega), ← gd_tup, ← wi_n y]
theorem ad_y {post : SY → Prop} {x : Int32} (hn : n ≤ 48) (hp : post ((nI (ad_n n x)), (nI lc), (nI pc), (nI fw), (nI rw), (nI fl), (nI sw), (nI ss), (nI sk), (nI ba), (nI hyc), (nI ph), (ad_s n x 0 y_ready), y_glyphCount, y_breaks, y_natural, y_spaces, y_lineCount, y_paragraphs, (gd_tI (ad_t t n x)), (gd_tI w), (gd_lI lg), (gd_kI kn), b_patA, b_patB, b_patC, b_patDigits, b_glyphs, b_glyphOf, b_bEnd, b_bNext, b_bHyphen, b_least, b_before, b_way, b_lFrom, b_lTo, b_lNumber, b_lParagraph, b_lPage, b_lHyphen, b_lLast, b_best)) : wpY_add post ((nI n), (nI lc), (nI pc), (nI fw), (nI rw), (nI fl), (nI sw), (nI ss), (nI sk), (nI ba), (nI hyc), (nI ph), y_ready, y_glyphCount, y_breaks, y_natural, y_spaces, y_lineCount, y_paragraphs, (gd_tI t), (gd_tI w), (gd_lI lg), (gd_kI kn), b_patA, b_patB, b_patC, b_patDigits, b_glyphs, b_glyphOf, b_bEnd, b_bNext, b_bHyphen, b_least, b_before, b_way, b_lFrom, b_lTo, b_lNumber, b_lParagraph, b_lPage, b_lHyphen, b_lLast, b_best) x := by
  have no : ¬ (0 ≤ x.toInt ∧ x.toInt ≤ 11 ∧ n < 48) → post ((nI n), (nI lc), (nI pc), (nI fw), (nI rw), (nI fl), (nI sw), (nI ss), (nI sk), (nI ba), (nI hyc), (nI ph), y_ready, y_glyphCount, y_breaks, y_natural, y_spaces, y_lineCount, y_paragraphs, (gd_tI t), (gd_tI w), (gd_lI lg), (gd_kI kn), b_patA, b_patB, b_patC, b_patDigits, b_glyphs, b_glyphOf, b_bEnd, b_bNext, b_bHyphen, b_least, b_before, b_way, b_lFrom, b_lTo, b_lNumber, b_lParagraph, b_lPage, b_lHyphen, b_lLast, b_best) := by
    intro h
    rw [ad_n, ad_t, ad_s, if_neg (by rw [ad_c, decide_eq_true_eq]; exact h), if_neg (by rw [ad_c, decide_eq_true_eq]; exact h), if_neg (by rw [ad_c, decide_eq_true_eq]; exact h)] at hp
    exact hp
  refine wi_lt 0 (fun y => no (by omega)) (fun y => wi_gt 11 (fun y2 => no (by omega)) (fun y2 => pk_eq n 48 (fun y3 => no (by omega)) (fun y3 => ?_)))
  have e : ad_c n x = true := decide_eq_true ⟨y, y2, by omega⟩
  rw [ad_n, ad_t, ad_s, if_pos e, if_pos e, if_pos e] at hp
  refine nm_r (nI_1 n) ⟨vp_in_nI (by omega) (by omega), nm_r (e' := gd_tI (gd_un t n x.toInt.toNat)) ?_ hp⟩
  rw [nI_clamp (by omega), ← gd_tup, ← wi_n y]
theorem ad_B {x : Int32} (h : rl_B k n lc pc fw rw fl sw ss sk ba hyc ph t w lg kn P pa pb pq pd x_lineCount x_paragraphCount x_stale a_lineFacts a_paragraphDemerits y_ready y_lineCount y_paragraphs b_patA b_patB b_patC b_patDigits b_lFrom b_lTo b_lNumber b_lParagraph b_lPage b_lHyphen b_lLast b_best) : rl_B k (ad_n n x) lc pc fw rw fl sw ss sk ba hyc ph (ad_t t n x) w lg kn P pa pb pq pd x_lineCount x_paragraphCount (ad_s n x 1 x_stale) a_lineFacts a_paragraphDemerits (ad_s n x 0 y_ready) y_lineCount y_paragraphs b_patA b_patB b_patC b_patDigits b_lFrom b_lTo b_lNumber b_lParagraph b_lPage b_lHyphen b_lLast b_best := by
  by_cases e : ad_c n x = true
  · rw [ad_n, ad_t, ad_s, ad_s, if_pos e, if_pos e, if_pos e, if_pos e]
    have e' := of_decide_eq_true e
    obtain ⟨C, L, R, F⟩ := h
    refine ⟨⟨by omega, fun i => ?_, C.2.2⟩, L, R, Or.inl ⟨rfl, rfl⟩⟩
    rw [gd_un]
    split
    · omega
    · exact C.2.1 i
  · rw [ad_n, ad_t, ad_s, ad_s, if_neg e, if_neg e, if_neg e, if_neg e]
    exact h
end
theorem i_vc_put {k : Nat} {u : SX} {v : SY} (I : i_Rel k u v) (hk : k + 5 ≤ 2560) (v1 : Int32) (v2 : Int32) (v3 : Int32) (v4 : Int32) : wpX_put (fun r u' => wpY_put (fun r' v' => r' = r ∧ i_Rel (k + 5) u' v') v v1 v2 v3 v4) u v1 v2 v3 v4 := by
  refine rl_elim (Q := fun u v => wpX_put (fun r u' => wpY_put (fun r' v' => r' = r ∧ i_Rel (k + 5) u' v') v v1 v2 v3 v4) u v1 v2 v3 v4) I ?_
  intro n lc pc fw rw fl sw ss sk ba hyc ph t w lg kn P pa pb pq pd x_breakCount x_lineCount x_paragraphCount x_stale a_heads a_glyphs a_breakEnd a_breakNext a_breakHyphen a_breakTaken a_wayDemerits a_wayBefore a_lineFacts a_paragraphDemerits y_ready y_glyphCount y_breaks y_natural y_spaces y_lineCount y_paragraphs b_patA b_patB b_patC b_patDigits b_glyphs b_glyphOf b_bEnd b_bNext b_bHyphen b_least b_before b_way b_lFrom b_lTo b_lNumber b_lParagraph b_lPage b_lHyphen b_lLast b_best B
  have B1 := ad_B (x := v1) B
  have B2 := ad_B (x := v2) B1
  have B3 := ad_B (x := v3) B2
  have B4 := ad_B (x := v4) B3
  unfold wpX_put
  refine ad_x B.1.1 (ad_x B1.1.1 (ad_x B2.1.1 (ad_x B3.1.1 ?_)))
  unfold wpY_put
  refine ad_y B.1.1 (ad_y B1.1.1 (ad_y B2.1.1 (ad_y B3.1.1 ?_)))
  exact ⟨rfl, rl_ok B4 (by omega)⟩
end
section
/-! pattern -/
def ps_v (A B C : Int) : Nat := if (0 ≤ A ∧ A ≤ 10) ∧ (-1 ≤ B ∧ B ≤ 10) ∧ (-1 ≤ C ∧ C ≤ 10) then (if B = -1 then (if C = -1 ∧ A ≠ 10 then 1 else 0) else if C = -1 then (if A = 10 ∧ B = 10 then 0 else 2) else if B = 10 then 0 else 3) else 0
theorem ps_le (A B C : Int) : ps_v A B C ≤ 3 := by
  rw [ps_v]
  split
  · split
    · split <;> omega
    · split
      · split <;> omega
      · split <;> omega
  · omega
theorem ps_x {post : Int32 → Prop} {x y z : Int32} (hp : post (nI (ps_v x.toInt y.toInt z.toInt))) : wpX_patternSize post x y z := by
  rw [ps_v] at hp
  unfold wpX_patternSize
  refine wx_in 0 10 (gd_bt (fun h => ?_) (fun h => wx_in (-1) 10 (gd_bt (fun h2 => ?_) (fun h2 => wx_in (-1) 10 (gd_bt (fun h3 => ?_) (fun h3 => ?_))))))
  · rw [if_neg (fun q => of_decide_eq_false h q.1)] at hp; exact hp
  · rw [if_neg (fun q => of_decide_eq_false h2 q.2.1)] at hp; exact hp
  · rw [if_neg (fun q => of_decide_eq_false h3 q.2.2)] at hp; exact hp
  · rw [if_pos ⟨of_decide_eq_true h, of_decide_eq_true h2, of_decide_eq_true h3⟩] at hp
    refine wi_eq (-1) (fun a => wi_eq (-1) (fun b => wi_eq 10 (fun c => ?_) (fun c => ?_)) (fun b => ?_)) (fun a => wi_eq (-1) (fun b => wi_eq 10 (fun c => wi_eq 10 (fun d => ?_) (fun d => ?_)) (fun c => ?_)) (fun b => wi_eq 10 (fun c => ?_) (fun c => ?_)))
    · rw [if_pos a, if_neg (by omega)] at hp; exact hp
    · rw [if_pos a, if_pos ⟨b, c⟩] at hp; exact hp
    · rw [if_pos a, if_neg (by omega)] at hp; exact hp
    · rw [if_neg a, if_pos b, if_pos ⟨c, d⟩] at hp; exact hp
    · rw [if_neg a, if_pos b, if_neg (by omega)] at hp; exact hp
    · rw [if_neg a, if_pos b, if_neg (by omega)] at hp; exact hp
    · rw [if_neg a, if_neg b, if_pos c] at hp; exact hp
    · rw [if_neg a, if_neg b, if_neg c] at hp; exact hp
def ps_g (s : Nat) : Nat := if s = 0 then 9 else if s = 1 then 99 else if s = 2 then 999 else 9999
theorem ps_gx {post : Int32 → Prop} {s : Nat} (hs : s ≤ 3) (hp : post (nI (ps_g s))) : wpX_greatestDigits post (nI s) := by
  have : s = 0 ∨ s = 1 ∨ s = 2 ∨ s = 3 := by omega
  rcases this with rfl | rfl | rfl | rfl
  · exact ⟨1, br_t (by decide) hp⟩
  · exact ⟨2, br_f (by decide) (nm_r (e' := nI 99) (by decide) (nm_r (e' := nI 1) (by decide) (br_t (by decide) hp)))⟩
  · exact ⟨3, br_f (by decide) (nm_r (e' := nI 99) (by decide) (nm_r (e' := nI 1) (by decide) (br_f (by decide) (nm_r (e' := nI 999) (by decide) (nm_r (e' := nI 2) (by decide) (br_t (by decide) hp))))))⟩
  · exact ⟨4, br_f (by decide) (nm_r (e' := nI 99) (by decide) (nm_r (e' := nI 1) (by decide) (br_f (by decide) (nm_r (e' := nI 999) (by decide) (nm_r (e' := nI 2) (by decide) (br_f (by decide) (nm_r (e' := nI 9999) (by decide) (nm_r (e' := nI 3) (by decide) (br_t (by decide) hp)))))))))⟩
section
variable {n lc pc fw rw fl sw ss sk ba hyc ph : Nat} {t w lg : Nat → Nat} {kn : Nat → Int}
variable {y_ready y_glyphCount y_breaks y_natural y_spaces y_lineCount y_paragraphs : Int32} {b_patA b_patB b_patC b_patDigits b_glyphs b_glyphOf b_bEnd b_bNext b_bHyphen b_before b_way b_lFrom b_lTo b_lNumber b_lParagraph b_lPage b_lHyphen b_lLast : Nat → Int32} {b_least b_best : Nat → Int64}
theorem ps_y {post : Int32 → SY → Prop} {x y z d : Int32} (hp0 : ¬ (ps_v x.toInt y.toInt z.toInt ≠ 0 ∧ 0 ≤ d.toInt ∧ d.toInt ≤ ps_g (ps_v x.toInt y.toInt z.toInt)) → post 0 ((nI n), (nI lc), (nI pc), (nI fw), (nI rw), (nI fl), (nI sw), (nI ss), (nI sk), (nI ba), (nI hyc), (nI ph), y_ready, y_glyphCount, y_breaks, y_natural, y_spaces, y_lineCount, y_paragraphs, (gd_tI t), (gd_tI w), (gd_lI lg), (gd_kI kn), b_patA, b_patB, b_patC, b_patDigits, b_glyphs, b_glyphOf, b_bEnd, b_bNext, b_bHyphen, b_least, b_before, b_way, b_lFrom, b_lTo, b_lNumber, b_lParagraph, b_lPage, b_lHyphen, b_lLast, b_best)) (hp1 : (ps_v x.toInt y.toInt z.toInt ≠ 0 ∧ 0 ≤ d.toInt ∧ d.toInt ≤ ps_g (ps_v x.toInt y.toInt z.toInt)) → ∃ n144 : Nat, wY_pattern_144 post x y z d (nI n) (nI lc) (nI pc) (nI fw) (nI rw) (nI fl) (nI sw) (nI ss) (nI sk) (nI ba) (nI hyc) (nI ph) y_ready y_glyphCount y_breaks y_natural y_spaces y_lineCount y_paragraphs (gd_tI t) (gd_tI w) (gd_lI lg) (gd_kI kn) b_patA b_patB b_patC b_patDigits b_glyphs b_glyphOf b_bEnd b_bNext b_bHyphen b_least b_before b_way b_lFrom b_lTo b_lNumber b_lParagraph b_lPage b_lHyphen b_lLast b_best n144 0) : wpY_pattern post ((nI n), (nI lc), (nI pc), (nI fw), (nI rw), (nI fl), (nI sw), (nI ss), (nI sk), (nI ba), (nI hyc), (nI ph), y_ready, y_glyphCount, y_breaks, y_natural, y_spaces, y_lineCount, y_paragraphs, (gd_tI t), (gd_tI w), (gd_lI lg), (gd_kI kn), b_patA, b_patB, b_patC, b_patDigits, b_glyphs, b_glyphOf, b_bEnd, b_bNext, b_bHyphen, b_least, b_before, b_way, b_lFrom, b_lTo, b_lNumber, b_lParagraph, b_lPage, b_lHyphen, b_lLast, b_best) x y z d := by
  have out : ¬ ((0 ≤ x.toInt ∧ x.toInt ≤ 10) ∧ (-1 ≤ y.toInt ∧ y.toInt ≤ 10) ∧ (-1 ≤ z.toInt ∧ z.toInt ≤ 10)) → post 0 ((nI n), (nI lc), (nI pc), (nI fw), (nI rw), (nI fl), (nI sw), (nI ss), (nI sk), (nI ba), (nI hyc), (nI ph), y_ready, y_glyphCount, y_breaks, y_natural, y_spaces, y_lineCount, y_paragraphs, (gd_tI t), (gd_tI w), (gd_lI lg), (gd_kI kn), b_patA, b_patB, b_patC, b_patDigits, b_glyphs, b_glyphOf, b_bEnd, b_bNext, b_bHyphen, b_least, b_before, b_way, b_lFrom, b_lTo, b_lNumber, b_lParagraph, b_lPage, b_lHyphen, b_lLast, b_best) := by
    intro h
    refine hp0 (fun q => q.1 ?_)
    rw [ps_v, if_neg h]
  have bad : ps_v x.toInt y.toInt z.toInt = 0 → post 0 ((nI n), (nI lc), (nI pc), (nI fw), (nI rw), (nI fl), (nI sw), (nI ss), (nI sk), (nI ba), (nI hyc), (nI ph), y_ready, y_glyphCount, y_breaks, y_natural, y_spaces, y_lineCount, y_paragraphs, (gd_tI t), (gd_tI w), (gd_lI lg), (gd_kI kn), b_patA, b_patB, b_patC, b_patDigits, b_glyphs, b_glyphOf, b_bEnd, b_bNext, b_bHyphen, b_least, b_before, b_way, b_lFrom, b_lTo, b_lNumber, b_lParagraph, b_lPage, b_lHyphen, b_lLast, b_best) := fun h => hp0 (fun q => q.1 h)
  refine wi_lt 0 (fun h => out (by omega)) (fun h1 => wi_gt 10 (fun h => out (by omega)) (fun h2 => wi_lt (-1) (fun h => out (by omega)) (fun h3 => wi_gt 10 (fun h => out (by omega)) (fun h4 => wi_lt (-1) (fun h => out (by omega)) (fun h5 => wi_gt 10 (fun h => out (by omega)) (fun h6 => ?_))))))
  have hin : (0 ≤ x.toInt ∧ x.toInt ≤ 10) ∧ (-1 ≤ y.toInt ∧ y.toInt ≤ 10) ∧ (-1 ≤ z.toInt ∧ z.toInt ≤ 10) := ⟨⟨h1, h2⟩, ⟨h3, h4⟩, h5, h6⟩
  have st99 : ∀ s : Nat, 1 ≤ s → s ≤ 3 → ps_v x.toInt y.toInt z.toInt = s → wY_pattern_99 post x y z d (nI s) (nI n) (nI lc) (nI pc) (nI fw) (nI rw) (nI fl) (nI sw) (nI ss) (nI sk) (nI ba) (nI hyc) (nI ph) y_ready y_glyphCount y_breaks y_natural y_spaces y_lineCount y_paragraphs (gd_tI t) (gd_tI w) (gd_lI lg) (gd_kI kn) b_patA b_patB b_patC b_patDigits b_glyphs b_glyphOf b_bEnd b_bNext b_bHyphen b_least b_before b_way b_lFrom b_lTo b_lNumber b_lParagraph b_lPage b_lHyphen b_lLast b_best := by
    intro s s1 s3 hs
    rw [hs] at hp0 hp1
    have go : ∀ g : Int32, g.toInt = ps_g s → wY_pattern_125 post x y z d g (nI n) (nI lc) (nI pc) (nI fw) (nI rw) (nI fl) (nI sw) (nI ss) (nI sk) (nI ba) (nI hyc) (nI ph) y_ready y_glyphCount y_breaks y_natural y_spaces y_lineCount y_paragraphs (gd_tI t) (gd_tI w) (gd_lI lg) (gd_kI kn) b_patA b_patB b_patC b_patDigits b_glyphs b_glyphOf b_bEnd b_bNext b_bHyphen b_least b_before b_way b_lFrom b_lTo b_lNumber b_lParagraph b_lPage b_lHyphen b_lLast b_best := by
      intro g hg
      exact wi_lt 0 (fun q => hp0 (by omega)) (fun q => wi_le (ps_g s) (fun q2 => hp1 ⟨by omega, q, q2⟩) (fun q2 => hp0 (by omega)) hg)
    refine pk_eq s 1 (fun q => go _ (by rw [ps_g, if_neg (by omega), if_pos q]; decide)) (fun q => pk_eq s 2 (fun q2 => go _ (by rw [ps_g, if_neg (by omega), if_neg q, if_pos q2]; decide)) (fun q2 => go _ (by rw [ps_g, if_neg (by omega), if_neg q, if_neg q2]; decide)))
  have e42 : wY_pattern_42 post x y z d (nI n) (nI lc) (nI pc) (nI fw) (nI rw) (nI fl) (nI sw) (nI ss) (nI sk) (nI ba) (nI hyc) (nI ph) y_ready y_glyphCount y_breaks y_natural y_spaces y_lineCount y_paragraphs (gd_tI t) (gd_tI w) (gd_lI lg) (gd_kI kn) b_patA b_patB b_patC b_patDigits b_glyphs b_glyphOf b_bEnd b_bNext b_bHyphen b_least b_before b_way b_lFrom b_lTo b_lNumber b_lParagraph b_lPage b_lHyphen b_lLast b_best ∨ (y.toInt < 0 ∧ 0 ≤ z.toInt) := by
    by_cases yz : y.toInt < 0 ∧ 0 ≤ z.toInt
    · exact Or.inr yz
    · left
      refine wi_ge 0 (fun a => wi_ge 0 (fun b => ?_) (fun b => ?_)) (fun a => ?_)
      · -- three letters
        refine br_t rfl (wi_eq 10 (fun c => bad (by rw [ps_v, if_pos hin, if_neg (by omega), if_neg (by omega), if_pos c])) (fun c => ?_))
        have hs : ps_v x.toInt y.toInt z.toInt = 3 := by rw [ps_v, if_pos hin, if_neg (by omega), if_neg (by omega), if_neg c]
        exact wi_eq 10 (fun _ => br_f (by decide) (br_f (by decide) (st99 3 (by omega) (by omega) hs))) (fun _ => st99 3 (by omega) (by omega) hs)
      · refine br_f (by decide) (wi_eq 10 (fun c => br_f (by decide) (br_t rfl (wi_eq 10 (fun c2 => bad (by rw [ps_v, if_pos hin, if_neg (by omega), if_pos (by omega), if_pos ⟨c, c2⟩])) (fun c2 => ?_)))) (fun c => ?_))
        · exact st99 2 (by omega) (by omega) (by rw [ps_v, if_pos hin, if_neg (by omega), if_pos (by omega), if_neg (by omega)])
        · exact st99 2 (by omega) (by omega) (by rw [ps_v, if_pos hin, if_neg (by omega), if_pos (by omega), if_neg (by omega)])
      · refine br_f (by decide) (wi_eq 10 (fun c => br_t rfl (bad (by rw [ps_v, if_pos hin, if_pos (by omega), if_neg (by omega)]))) (fun c => ?_))
        exact st99 1 (by omega) (by omega) (by rw [ps_v, if_pos hin, if_pos (by omega), if_pos (by omega)])
  refine wi_ge 0 (fun a => ?_) (fun a => wi_lt 0 (fun b => ?_) (fun b => bad (by rw [ps_v, if_pos hin, if_pos (by omega), if_neg (by omega)])))
  · rcases e42 with q | q
    · exact q
    · omega
  · rcases e42 with q | q
    · exact q
    · omega
end
/-! changes of the list of patterns -/
section
variable {P pa pb pq pd : Nat → Nat} {pc : Nat} {A B C G : Nat → Int32}
theorem pt_keep {a b c d x : Nat} {p : Nat} (h : pt_row P (A p) (B p) (C p) (G p) (pa p) (pb p) (pq p) (pd p)) (hne : pt_key (pa p) (pb p) (pq p) ≠ pt_key a b c) : pt_row (gd_un P (pt_key a b c) x) (A p) (B p) (C p) (G p) (pa p) (pb p) (pq p) (pd p) := by
  obtain ⟨r1, r2, r3, r4, r5, r6, r7⟩ := h
  exact ⟨r1, r2, r3, r4, r5, r6, by rw [gd_un, if_neg hne, r7]⟩
theorem pt_un {f : Nat → Nat} {k x : Nat} : gd_un f k x k = x := if_pos rfl
theorem pt_uo {f : Nat → Nat} {k x j : Nat} (h : j ≠ k) : gd_un f k x j = f j := if_neg h
theorem pt_add {a b c d : Nat} (h : pt_ok P pc A B C G pa pb pq pd) (h10 : pc < 10) (hv : a ≤ 10 ∧ b ≤ 11 ∧ c ≤ 11 ∧ (b = 0 → c = 0)) (hd : 0 < d ∧ d ≤ 9999) (hP : P (pt_key a b c) = 0) :
    pt_ok (gd_un P (pt_key a b c) d) (pc + 1) (upd A pc (nI a)) (upd B pc (gd_iI ((b : Int) - 1))) (upd C pc (gd_iI ((c : Int) - 1))) (upd G pc (nI d)) (gd_un pa pc a) (gd_un pb pc b) (gd_un pq pc c) (gd_un pd pc d) := by
  obtain ⟨q1, q2, q3, q4, q5⟩ := h
  have hne : ∀ p, p < pc → pt_key (pa p) (pb p) (pq p) ≠ pt_key a b c := by
    intro p hp e
    obtain ⟨_, _, _, _, _, r6, r7⟩ := q2 p hp
    rw [e, hP] at r7
    omega
  refine ⟨by omega, fun p hp => ?_, fun p q hpq hq => ?_, fun k hk => ?_, fun k => ?_⟩
  · by_cases e : p = pc
    · subst e
      rw [pk_us, pk_us, pk_us, pk_us, pt_un, pt_un, pt_un, pt_un]
      exact ⟨rfl, rfl, rfl, rfl, hv, hd, pt_un⟩
    · rw [pk_un e, pk_un e, pk_un e, pk_un e, pt_uo e, pt_uo e, pt_uo e, pt_uo e]
      exact pt_keep (d := 0) (q2 p (by omega)) (hne p (by omega))
  · have e1 : p ≠ pc := by omega
    rw [pt_uo e1, pt_uo e1, pt_uo e1]
    by_cases e : q = pc
    · subst e
      rw [pt_un, pt_un, pt_un]
      exact hne p hpq
    · rw [pt_uo e, pt_uo e, pt_uo e]
      exact q3 p q hpq (by omega)
  · by_cases e : k = pt_key a b c
    · refine ⟨pc, by omega, ?_⟩
      rw [pt_un, pt_un, pt_un, e]
    · rw [pt_uo e] at hk
      obtain ⟨p, h1, h2⟩ := q4 k hk
      refine ⟨p, by omega, ?_⟩
      have e1 : p ≠ pc := by omega
      rw [pt_uo e1, pt_uo e1, pt_uo e1]
      exact h2
  · rw [gd_un]; split
    · omega
    · exact q5 k
theorem pt_none {a b c : Nat} {A' B' C' G' : Nat → Int32} (h : pt_ok P pc A B C G pa pb pq pd) (hP : P (pt_key a b c) = 0) (hs : ∀ p, p < pc → A' p = A p ∧ B' p = B p ∧ C' p = C p ∧ G' p = G p) : pt_ok (gd_un P (pt_key a b c) 0) pc A' B' C' G' pa pb pq pd := by
  have e : gd_un P (pt_key a b c) 0 = P := by
    funext j
    by_cases e : j = pt_key a b c
    · rw [e, pt_un, hP]
    · rw [pt_uo e]
  rw [e]
  obtain ⟨q1, q2, q3, q4, q5⟩ := h
  refine ⟨q1, fun p hp => ?_, q3, q4, q5⟩
  obtain ⟨s1, s2, s3, s4⟩ := hs p hp
  rw [s1, s2, s3, s4]
  exact q2 p hp
theorem pt_set {a b c d p0 : Nat} (h : pt_ok P pc A B C G pa pb pq pd) (hp0 : p0 < pc) (ha : pa p0 = a) (hb : pb p0 = b) (hc : pq p0 = c) (hd : 0 < d ∧ d ≤ 9999) :
    pt_ok (gd_un P (pt_key a b c) d) pc (upd A p0 (nI a)) (upd B p0 (gd_iI ((b : Int) - 1))) (upd C p0 (gd_iI ((c : Int) - 1))) (upd G p0 (nI d)) pa pb pq (gd_un pd p0 d) := by
  obtain ⟨q1, q2, q3, q4, q5⟩ := h
  subst ha hb hc
  have hne : ∀ p, p < pc → p ≠ p0 → pt_key (pa p) (pb p) (pq p) ≠ pt_key (pa p0) (pb p0) (pq p0) := by
    intro p hp e
    rcases Nat.lt_or_ge p p0 with z | z
    · exact q3 p p0 z hp0
    · exact (q3 p0 p (by omega) hp).symm
  refine ⟨q1, fun p hp => ?_, q3, fun k hk => ?_, fun k => ?_⟩
  · by_cases e : p = p0
    · subst e
      rw [pk_us, pk_us, pk_us, pk_us, pt_un]
      exact ⟨rfl, rfl, rfl, rfl, (q2 p hp).2.2.2.2.1, hd, pt_un⟩
    · rw [pk_un e, pk_un e, pk_un e, pk_un e, pt_uo e]
      exact pt_keep (d := 0) (q2 p hp) (hne p hp e)
  · by_cases e : k = pt_key (pa p0) (pb p0) (pq p0)
    · exact ⟨p0, hp0, e.symm⟩
    · rw [pt_uo e] at hk
      exact q4 k hk
  · rw [gd_un]; split
    · omega
    · exact q5 k
theorem pt_del {a b c p0 : Nat} {A' B' C' G' : Nat → Int32} (h : pt_ok P pc A B C G pa pb pq pd) (hp0 : p0 < pc) (ha : pa p0 = a) (hb : pb p0 = b) (hc : pq p0 = c)
    (hs : ∀ p, p < pc - 1 → p ≠ p0 → A' p = A p ∧ B' p = B p ∧ C' p = C p ∧ G' p = G p) (hl : p0 < pc - 1 → A' p0 = A (pc - 1) ∧ B' p0 = B (pc - 1) ∧ C' p0 = C (pc - 1) ∧ G' p0 = G (pc - 1)) :
    pt_ok (gd_un P (pt_key a b c) 0) (pc - 1) A' B' C' G' (gd_un pa p0 (pa (pc - 1))) (gd_un pb p0 (pb (pc - 1))) (gd_un pq p0 (pq (pc - 1))) (gd_un pd p0 (pd (pc - 1))) := by
  obtain ⟨q1, q2, q3, q4, q5⟩ := h
  subst ha hb hc
  have hne : ∀ p q, p < pc → q < pc → p ≠ q → pt_key (pa p) (pb p) (pq p) ≠ pt_key (pa q) (pb q) (pq q) := by
    intro p q hp hq e
    rcases Nat.lt_or_ge p q with z | z
    · exact q3 p q z hq
    · exact (q3 q p (by omega) hp).symm
  refine ⟨by omega, fun p hp => ?_, fun p q hpq hq => ?_, fun k hk => ?_, fun k => ?_⟩
  · by_cases e : p = p0
    · subst e
      obtain ⟨s1, s2, s3, s4⟩ := hl hp
      rw [s1, s2, s3, s4, pt_un, pt_un, pt_un, pt_un]
      exact pt_keep (d := 0) (q2 (pc - 1) (by omega)) (hne (pc - 1) p (by omega) (by omega) (by omega))
    · obtain ⟨s1, s2, s3, s4⟩ := hs p hp e
      rw [s1, s2, s3, s4, pt_uo e, pt_uo e, pt_uo e, pt_uo e]
      exact pt_keep (d := 0) (q2 p (by omega)) (hne p p0 (by omega) (by omega) e)
  · by_cases e : p = p0
    · have e2 : q ≠ p0 := by omega
      rw [e, pt_un, pt_un, pt_un, pt_uo e2, pt_uo e2, pt_uo e2]
      exact hne (pc - 1) q (by omega) (by omega) (by omega)
    · rw [pt_uo e, pt_uo e, pt_uo e]
      by_cases e2 : q = p0
      · rw [e2, pt_un, pt_un, pt_un]
        exact hne p (pc - 1) (by omega) (by omega) (by omega)
      · rw [pt_uo e2, pt_uo e2, pt_uo e2]
        exact q3 p q hpq (by omega)
  · have e : k ≠ pt_key (pa p0) (pb p0) (pq p0) := fun z => hk (by rw [z, pt_un])
    rw [pt_uo e] at hk
    obtain ⟨p, h1, h2⟩ := q4 k hk
    have e1 : p ≠ p0 := fun z => e (by rw [← h2, z])
    by_cases z : p < pc - 1
    · exact ⟨p, z, by rw [pt_uo e1, pt_uo e1, pt_uo e1]; exact h2⟩
    · refine ⟨p0, by omega, ?_⟩
      rw [pt_un, pt_un, pt_un, ← h2]
      have : p = pc - 1 := by omega
      rw [this]
  · rw [gd_un]; split
    · omega
    · exact q5 k
end
end
section
section
variable {n lc pc fw rw fl sw ss sk ba hyc ph : Nat} {t w lg : Nat → Nat} {kn : Nat → Int}
variable {P pa pb pq pd : Nat → Nat}
variable {y_ready y_glyphCount y_breaks y_natural y_spaces y_lineCount y_paragraphs : Int32} {b_patA b_patB b_patC b_patDigits b_glyphs b_glyphOf b_bEnd b_bNext b_bHyphen b_before b_way b_lFrom b_lTo b_lNumber b_lParagraph b_lPage b_lHyphen b_lLast : Nat → Int32} {b_least b_best : Nat → Int64}
theorem ps_find (post : Int32 → SY → Prop) {a b c : Nat} {d : Int32} (hv : a ≤ 10 ∧ b ≤ 11 ∧ c ≤ 11) (h : pt_ok P pc b_patA b_patB b_patC b_patDigits pa pb pq pd)
    (hf : ∀ p, p < pc → pa p = a → pb p = b → pq p = c → wY_pattern_192 post (nI a) (gd_iI ((b : Int) - 1)) (gd_iI ((c : Int) - 1)) d (nI p) (nI n) (nI lc) (nI pc) (nI fw) (nI rw) (nI fl) (nI sw) (nI ss) (nI sk) (nI ba) (nI hyc) (nI ph) y_ready y_glyphCount y_breaks y_natural y_spaces y_lineCount y_paragraphs (gd_tI t) (gd_tI w) (gd_lI lg) (gd_kI kn) b_patA b_patB b_patC b_patDigits b_glyphs b_glyphOf b_bEnd b_bNext b_bHyphen b_least b_before b_way b_lFrom b_lTo b_lNumber b_lParagraph b_lPage b_lHyphen b_lLast b_best)
    (hn : (∀ p, p < pc → pt_key (pa p) (pb p) (pq p) ≠ pt_key a b c) → wY_pattern_192 post (nI a) (gd_iI ((b : Int) - 1)) (gd_iI ((c : Int) - 1)) d (nI pc) (nI n) (nI lc) (nI pc) (nI fw) (nI rw) (nI fl) (nI sw) (nI ss) (nI sk) (nI ba) (nI hyc) (nI ph) y_ready y_glyphCount y_breaks y_natural y_spaces y_lineCount y_paragraphs (gd_tI t) (gd_tI w) (gd_lI lg) (gd_kI kn) b_patA b_patB b_patC b_patDigits b_glyphs b_glyphOf b_bEnd b_bNext b_bHyphen b_least b_before b_way b_lFrom b_lTo b_lNumber b_lParagraph b_lPage b_lHyphen b_lLast b_best) :
    ∀ f p, p + f = pc → (∀ q, q < p → pt_key (pa q) (pb q) (pq q) ≠ pt_key a b c) → wY_pattern_144 post (nI a) (gd_iI ((b : Int) - 1)) (gd_iI ((c : Int) - 1)) d (nI n) (nI lc) (nI pc) (nI fw) (nI rw) (nI fl) (nI sw) (nI ss) (nI sk) (nI ba) (nI hyc) (nI ph) y_ready y_glyphCount y_breaks y_natural y_spaces y_lineCount y_paragraphs (gd_tI t) (gd_tI w) (gd_lI lg) (gd_kI kn) b_patA b_patB b_patC b_patDigits b_glyphs b_glyphOf b_bEnd b_bNext b_bHyphen b_least b_before b_way b_lFrom b_lTo b_lNumber b_lParagraph b_lPage b_lHyphen b_lLast b_best (f + 1) (nI p) := by
  have h10 := h.1
  intro f
  induction f with
  | zero =>
    intro p hp hq
    have : p = pc := by omega
    subst this
    exact br_t (nI_le (Nat.le_refl _) (by omega)) (hn hq)
  | succ f ih =>
    intro p hp hq
    obtain ⟨r1, r2, r3, r4, r5, r6, r7⟩ := h.2.1 p (by omega)
    have next : pt_key (pa p) (pb p) (pq p) ≠ pt_key a b c → wY_pattern_144 post (nI a) (gd_iI ((b : Int) - 1)) (gd_iI ((c : Int) - 1)) d (nI n) (nI lc) (nI pc) (nI fw) (nI rw) (nI fl) (nI sw) (nI ss) (nI sk) (nI ba) (nI hyc) (nI ph) y_ready y_glyphCount y_breaks y_natural y_spaces y_lineCount y_paragraphs (gd_tI t) (gd_tI w) (gd_lI lg) (gd_kI kn) b_patA b_patB b_patC b_patDigits b_glyphs b_glyphOf b_bEnd b_bNext b_bHyphen b_least b_before b_way b_lFrom b_lTo b_lNumber b_lParagraph b_lPage b_lHyphen b_lLast b_best (f + 1) (nI p + 1) := by
      intro e
      rw [nI_1]
      refine ih (p + 1) (by omega) (fun q hq2 => ?_)
      by_cases z : q = p
      · rw [z]; exact e
      · exact hq q (by omega)
    have vi : vp_in (nI p) 10 := vp_in_nI (by omega) (by omega)
    refine br_f (nI_ge (by omega) (by omega)) ⟨vi, ?_⟩
    refine pk_eq (pa p) a (fun e1 => ⟨vi, ?_⟩) (fun e1 => nm_e (next (fun z => e1 (pt_inj r5.2.1 r5.2.2.1 hv.2.1 hv.2.2 z).1))) (by rw [nI_clamp (by omega), r1]) rfl (by omega) (by omega)
    refine gd_zeq ((pb p : Int) - 1) ((b : Int) - 1) (fun e2 => ⟨vi, ?_⟩) (fun e2 => nm_e (next (fun z => e2 (by rw [(pt_inj r5.2.1 r5.2.2.1 hv.2.1 hv.2.2 z).2.1])))) (by rw [nI_clamp (by omega), r2]) rfl (by omega) (by omega)
    refine gd_zeq ((pq p : Int) - 1) ((c : Int) - 1) (fun e3 => ?_) (fun e3 => nm_e (next (fun z => e3 (by rw [(pt_inj r5.2.1 r5.2.2.1 hv.2.1 hv.2.2 z).2.2])))) (by rw [nI_clamp (by omega), r3]) rfl (by omega) (by omega)
    exact hf p (by omega) e1 (by omega) (by omega)
end
theorem i_vc_pattern {k : Nat} {u : SX} {v : SY} (I : i_Rel k u v) (hk : k + 5 ≤ 2560) (v1 : Int32) (v2 : Int32) (v3 : Int32) (v4 : Int32) : wpX_pattern (fun r u' => wpY_pattern (fun r' v' => r' = r ∧ i_Rel (k + 5) u' v') v v1 v2 v3 v4) u v1 v2 v3 v4 := by
  refine rl_elim (Q := fun u v => wpX_pattern (fun r u' => wpY_pattern (fun r' v' => r' = r ∧ i_Rel (k + 5) u' v') v v1 v2 v3 v4) u v1 v2 v3 v4) I ?_
  intro n lc pc fw rw fl sw ss sk ba hyc ph t w lg kn P pa pb pq pd x_breakCount x_lineCount x_paragraphCount x_stale a_heads a_glyphs a_breakEnd a_breakNext a_breakHyphen a_breakTaken a_wayDemerits a_wayBefore a_lineFacts a_paragraphDemerits y_ready y_glyphCount y_breaks y_natural y_spaces y_lineCount y_paragraphs b_patA b_patB b_patC b_patDigits b_glyphs b_glyphOf b_bEnd b_bNext b_bHyphen b_least b_before b_way b_lFrom b_lTo b_lNumber b_lParagraph b_lPage b_lHyphen b_lLast b_best B
  have B' : i_Rel (k + 5) ((nI n), (nI lc), (nI pc), (nI fw), (nI rw), (nI fl), (nI sw), (nI ss), (nI sk), (nI ba), (nI hyc), (nI ph), x_breakCount, x_lineCount, x_paragraphCount, x_stale, (gd_tI t), (gd_tI w), (gd_lI lg), (gd_kI kn), (gd_tI P), a_heads, a_glyphs, a_breakEnd, a_breakNext, a_breakHyphen, a_breakTaken, a_wayDemerits, a_wayBefore, a_lineFacts, a_paragraphDemerits) ((nI n), (nI lc), (nI pc), (nI fw), (nI rw), (nI fl), (nI sw), (nI ss), (nI sk), (nI ba), (nI hyc), (nI ph), y_ready, y_glyphCount, y_breaks, y_natural, y_spaces, y_lineCount, y_paragraphs, (gd_tI t), (gd_tI w), (gd_lI lg), (gd_kI kn), b_patA, b_patB, b_patC, b_patDigits, b_glyphs, b_glyphOf, b_bEnd, b_bNext, b_bHyphen, b_least, b_before, b_way, b_lFrom, b_lTo, b_lNumber, b_lParagraph, b_lPage, b_lHyphen, b_lLast, b_best) := rl_ok B (by omega)
  obtain ⟨C, L, R, F⟩ := B
  have L' : -((k + 5 : Nat) : Int) ≤ (nI lc).toInt ∧ (nI lc).toInt ≤ 8 := ⟨by have := L.1; omega, L.2⟩
  have h10 := R.1
  have hs3 := ps_le v1.toInt v2.toInt v3.toInt
  unfold wpX_pattern
  refine ps_x (ps_gx hs3 ?_)
  have no : ¬ (ps_v v1.toInt v2.toInt v3.toInt ≠ 0 ∧ 0 ≤ v4.toInt ∧ v4.toInt ≤ ps_g (ps_v v1.toInt v2.toInt v3.toInt)) → wpY_pattern (fun r' v' => r' = 0 ∧ i_Rel (k + 5) ((nI n), (nI lc), (nI pc), (nI fw), (nI rw), (nI fl), (nI sw), (nI ss), (nI sk), (nI ba), (nI hyc), (nI ph), x_breakCount, x_lineCount, x_paragraphCount, x_stale, (gd_tI t), (gd_tI w), (gd_lI lg), (gd_kI kn), (gd_tI P), a_heads, a_glyphs, a_breakEnd, a_breakNext, a_breakHyphen, a_breakTaken, a_wayDemerits, a_wayBefore, a_lineFacts, a_paragraphDemerits) v') ((nI n), (nI lc), (nI pc), (nI fw), (nI rw), (nI fl), (nI sw), (nI ss), (nI sk), (nI ba), (nI hyc), (nI ph), y_ready, y_glyphCount, y_breaks, y_natural, y_spaces, y_lineCount, y_paragraphs, (gd_tI t), (gd_tI w), (gd_lI lg), (gd_kI kn), b_patA, b_patB, b_patC, b_patDigits, b_glyphs, b_glyphOf, b_bEnd, b_bNext, b_bHyphen, b_least, b_before, b_way, b_lFrom, b_lTo, b_lNumber, b_lParagraph, b_lPage, b_lHyphen, b_lLast, b_best) v1 v2 v3 v4 := fun h => ps_y (fun _ => ⟨rfl, B'⟩) (fun q => absurd q h)
  refine pk_eq (ps_v v1.toInt v2.toInt v3.toInt) 0 (fun z => no (fun q => q.1 z)) (fun z => ?_)
  have hg : ps_g (ps_v v1.toInt v2.toInt v3.toInt) ≤ 9999 := by
    rw [ps_g]; split
    · omega
    · split
      · omega
      · split <;> omega
  refine wx_in 0 (ps_g (ps_v v1.toInt v2.toInt v3.toInt)) (gd_bt (fun y => no (fun q => of_decide_eq_false y q.2)) (fun y => ?_)) (by decide) (nI_toInt (by omega))
  have y := of_decide_eq_true y
  have good : ps_v v1.toInt v2.toInt v3.toInt ≠ 0 ∧ 0 ≤ v4.toInt ∧ v4.toInt ≤ ps_g (ps_v v1.toInt v2.toInt v3.toInt) := ⟨z, y⟩
  have hin : (0 ≤ v1.toInt ∧ v1.toInt ≤ 10) ∧ (-1 ≤ v2.toInt ∧ v2.toInt ≤ 10) ∧ (-1 ≤ v3.toInt ∧ v3.toInt ≤ 10) := by
    by_cases q : (0 ≤ v1.toInt ∧ v1.toInt ≤ 10) ∧ (-1 ≤ v2.toInt ∧ v2.toInt ≤ 10) ∧ (-1 ≤ v3.toInt ∧ v3.toInt ≤ 10)
    · exact q
    · exact absurd (by rw [ps_v, if_neg q]) z
  have hbc : v2.toInt = -1 → v3.toInt = -1 := by
    intro e
    by_cases q : v3.toInt = -1
    · exact q
    · exact absurd (by rw [ps_v, if_pos hin, if_pos e, if_neg (fun w => q w.1)]) z
  have enter : ∀ Q : Int32 → SY → Prop, (∃ n144 : Nat, wY_pattern_144 Q v1 v2 v3 v4 (nI n) (nI lc) (nI pc) (nI fw) (nI rw) (nI fl) (nI sw) (nI ss) (nI sk) (nI ba) (nI hyc) (nI ph) y_ready y_glyphCount y_breaks y_natural y_spaces y_lineCount y_paragraphs (gd_tI t) (gd_tI w) (gd_lI lg) (gd_kI kn) b_patA b_patB b_patC b_patDigits b_glyphs b_glyphOf b_bEnd b_bNext b_bHyphen b_least b_before b_way b_lFrom b_lTo b_lNumber b_lParagraph b_lPage b_lHyphen b_lLast b_best n144 0) → wpY_pattern Q ((nI n), (nI lc), (nI pc), (nI fw), (nI rw), (nI fl), (nI sw), (nI ss), (nI sk), (nI ba), (nI hyc), (nI ph), y_ready, y_glyphCount, y_breaks, y_natural, y_spaces, y_lineCount, y_paragraphs, (gd_tI t), (gd_tI w), (gd_lI lg), (gd_kI kn), b_patA, b_patB, b_patC, b_patDigits, b_glyphs, b_glyphOf, b_bEnd, b_bNext, b_bHyphen, b_least, b_before, b_way, b_lFrom, b_lTo, b_lNumber, b_lParagraph, b_lPage, b_lHyphen, b_lLast, b_best) v1 v2 v3 v4 := fun Q h => ps_y (fun q => absurd good q) (fun _ => h)
  have hg9 := y.2
  clear no good
  obtain ⟨a, rfl, a1, a2, a3⟩ := wi_c hin.1 (Int.le_refl 0)
  obtain ⟨d, rfl, d1, d2, d3⟩ := wi_c y (Int.le_refl 0)
  obtain ⟨b, hb⟩ : ∃ b : Nat, v2.toInt = (b : Int) - 1 := ⟨(v2.toInt + 1).toNat, by omega⟩
  obtain ⟨c, hc⟩ : ∃ c : Nat, v3.toInt = (c : Int) - 1 := ⟨(v3.toInt + 1).toNat, by omega⟩
  have e2 : v2 = gd_iI ((b : Int) - 1) := by rw [← hb]; exact wi_z
  have e3 : v3 = gd_iI ((c : Int) - 1) := by rw [← hc]; exact wi_z
  have hv : a ≤ 10 ∧ b ≤ 11 ∧ c ≤ 11 ∧ (b = 0 → c = 0) := ⟨by omega, by omega, by omega, fun q => by have := hbc (by omega); omega⟩
  have hd9 : d ≤ 9999 := by omega
  clear hb hc hbc hin hg9 z y hg hs3 d1 d2 a1 a2
  subst e2 e3
  have ekey : (((((nI a + 1) * 12) + gd_iI ((b : Int) - 1)) + 1) * 12 + gd_iI ((c : Int) - 1)) + 1 = nI (pt_key a b c) := by
    rw [gd_nat, gd_nat, show (1 : Int32) = gd_iI 1 from rfl, show (12 : Int32) = gd_iI 12 from rfl, gd_add, gd_mul, gd_add, gd_add, gd_mul, gd_add, gd_add]
    congr 1
    rw [pt_key]
    omega
  have hklt : pt_key a b c < 1728 := by rw [pt_key]; omega
  have hrd : gd_tI P (nI (pt_key a b c)).toNatClampNeg = nI (P (pt_key a b c)) := gd_rt (by omega)
  have hPk := R.2.2.2.2 (pt_key a b c)
  have hup : upd (gd_tI P) (nI (pt_key a b c)).toNatClampNeg (nI d) = gd_tI (gd_un P (pt_key a b c) d) := by rw [nI_clamp (by omega), gd_tup]
  unfold wpX_patternKey
  rw [ekey]
  refine ⟨vp_in_nI hklt (by omega), pk_eq (P (pt_key a b c)) 0 (fun z => ?_) (fun z => ?_) hrd rfl (by omega) (by omega)⟩
  · -- there is no such pattern
    have none : ∀ p, p < pc → pt_key (pa p) (pb p) (pq p) ≠ pt_key a b c := by
      intro p hp e
      obtain ⟨_, _, _, _, _, r6, r7⟩ := R.2.1 p hp
      rw [e, z] at r7
      omega
    have go : ∀ Q : Int32 → SY → Prop, wY_pattern_192 Q (nI a) (gd_iI ((b : Int) - 1)) (gd_iI ((c : Int) - 1)) (nI d) (nI pc) (nI n) (nI lc) (nI pc) (nI fw) (nI rw) (nI fl) (nI sw) (nI ss) (nI sk) (nI ba) (nI hyc) (nI ph) y_ready y_glyphCount y_breaks y_natural y_spaces y_lineCount y_paragraphs (gd_tI t) (gd_tI w) (gd_lI lg) (gd_kI kn) b_patA b_patB b_patC b_patDigits b_glyphs b_glyphOf b_bEnd b_bNext b_bHyphen b_least b_before b_way b_lFrom b_lTo b_lNumber b_lParagraph b_lPage b_lHyphen b_lLast b_best → wpY_pattern Q ((nI n), (nI lc), (nI pc), (nI fw), (nI rw), (nI fl), (nI sw), (nI ss), (nI sk), (nI ba), (nI hyc), (nI ph), y_ready, y_glyphCount, y_breaks, y_natural, y_spaces, y_lineCount, y_paragraphs, (gd_tI t), (gd_tI w), (gd_lI lg), (gd_kI kn), b_patA, b_patB, b_patC, b_patDigits, b_glyphs, b_glyphOf, b_bEnd, b_bNext, b_bHyphen, b_least, b_before, b_way, b_lFrom, b_lTo, b_lNumber, b_lParagraph, b_lPage, b_lHyphen, b_lLast, b_best) (nI a) (gd_iI ((b : Int) - 1)) (gd_iI ((c : Int) - 1)) (nI d) := by
      intro Q h
      exact enter Q ⟨pc + 1, ps_find Q ⟨hv.1, hv.2.1, hv.2.2.1⟩ R (fun p hp q1 q2 q3 => absurd (by rw [q1, q2, q3]) (none p hp)) (fun _ => h) pc 0 (by omega) (fun q hq => absurd hq (by omega))⟩
    refine pk_lt pc 10 (fun y => ⟨vp_in_nI hklt (by omega), nm_r hup ?_⟩) (fun y => ?_)
    · have vi : vp_in (nI pc) 10 := vp_in_nI y (by omega)
      have cl : (nI pc).toNatClampNeg = pc := nI_clamp (by omega)
      refine pk_eq d 0 (fun d0 => ?_) (fun d0 => nm_r (nI_1 pc) ?_)
      · refine go _ (br_t rfl (br_f (fun q => by have := (nI_eq (b := 10) (by omega) (by omega)).mp q; omega) (br_t rfl (nm_r (nI_1 pc) ?_))))
        refine ⟨vi, nm_e ⟨vi, nm_e ⟨vi, nm_e ⟨vi, nm_e (br_t (by rw [d0]; decide) (nm_r (nI_pred pc) ⟨vi, vi, nm_e ⟨vi, vi, nm_e ⟨vi, vi, nm_e ⟨vi, vi, nm_e ⟨rfl, ?_⟩⟩⟩⟩⟩))⟩⟩⟩⟩
        rw [cl]
        refine rl_st (pa := pa) (pb := pb) (pq := pq) (pd := pd) C L' ?_
        rw [d0]
        refine pt_none R z (fun p hp => ?_)
        have e : p ≠ pc := by omega
        rw [pk_un e, pk_un e, pk_un e, pk_un e, pk_un e, pk_un e, pk_un e, pk_un e]
        exact ⟨rfl, rfl, rfl, rfl⟩
      · refine go _ (br_t rfl (br_f (fun q => by have := (nI_eq (b := 10) (by omega) (by omega)).mp q; omega) (br_t rfl (nm_r (nI_1 pc) ?_))))
        refine ⟨vi, nm_e ⟨vi, nm_e ⟨vi, nm_e ⟨vi, nm_e (br_f (nI_nle (by omega) (by omega)) ⟨rfl, ?_⟩)⟩⟩⟩⟩
        rw [cl]
        exact rl_st C L' (pt_add R y hv ⟨by omega, hd9⟩ z)
    · refine go _ (br_t rfl (br_t ?_ ⟨rfl, B'⟩))
      rw [show pc = 10 by omega]; rfl
  · obtain ⟨p0, hp0, ekk⟩ := R.2.2.2.1 _ z
    obtain ⟨_, _, _, _, r5, r6, r7⟩ := R.2.1 p0 hp0
    obtain ⟨ka, kb, kc⟩ := pt_inj r5.2.1 r5.2.2.1 hv.2.1 hv.2.2.1 ekk
    have go : ∀ Q : Int32 → SY → Prop, wY_pattern_192 Q (nI a) (gd_iI ((b : Int) - 1)) (gd_iI ((c : Int) - 1)) (nI d) (nI p0) (nI n) (nI lc) (nI pc) (nI fw) (nI rw) (nI fl) (nI sw) (nI ss) (nI sk) (nI ba) (nI hyc) (nI ph) y_ready y_glyphCount y_breaks y_natural y_spaces y_lineCount y_paragraphs (gd_tI t) (gd_tI w) (gd_lI lg) (gd_kI kn) b_patA b_patB b_patC b_patDigits b_glyphs b_glyphOf b_bEnd b_bNext b_bHyphen b_least b_before b_way b_lFrom b_lTo b_lNumber b_lParagraph b_lPage b_lHyphen b_lLast b_best → wpY_pattern Q ((nI n), (nI lc), (nI pc), (nI fw), (nI rw), (nI fl), (nI sw), (nI ss), (nI sk), (nI ba), (nI hyc), (nI ph), y_ready, y_glyphCount, y_breaks, y_natural, y_spaces, y_lineCount, y_paragraphs, (gd_tI t), (gd_tI w), (gd_lI lg), (gd_kI kn), b_patA, b_patB, b_patC, b_patDigits, b_glyphs, b_glyphOf, b_bEnd, b_bNext, b_bHyphen, b_least, b_before, b_way, b_lFrom, b_lTo, b_lNumber, b_lParagraph, b_lPage, b_lHyphen, b_lLast, b_best) (nI a) (gd_iI ((b : Int) - 1)) (gd_iI ((c : Int) - 1)) (nI d) := by
      intro Q h
      refine enter Q ⟨pc + 1, ps_find Q ⟨hv.1, hv.2.1, hv.2.2.1⟩ R (fun p hp q1 q2 q3 => ?_) (fun q => absurd ekk (q p0 hp0)) pc 0 (by omega) (fun q hq => absurd hq (by omega))⟩
      have : p = p0 := by
        rcases Nat.lt_trichotomy p p0 with w1 | w1 | w1
        · exact absurd (by rw [ekk, q1, q2, q3]) (R.2.2.1 p p0 w1 hp0)
        · exact w1
        · exact absurd (by rw [ekk, q1, q2, q3]) (R.2.2.1 p0 p w1 hp)
      rw [this]
      exact h
    have vi : vp_in (nI p0) 10 := vp_in_nI (by omega) (by omega)
    have cl : (nI p0).toNatClampNeg = p0 := nI_clamp (by omega)
    have hne : ¬ nI p0 = nI pc := fun q => by have := (nI_eq (by omega) (by omega)).mp q; omega
    rw [show nI pc - 1 = nI (pc - 1) from gd_p1 (by omega)]
    refine br_t (nI_lt (b := 10) (by omega) (by decide)) ⟨vp_in_nI hklt (by omega), nm_r hup ?_⟩
    refine pk_eq d 0 (fun d0 => ?_) (fun d0 => ?_)
    · refine go _ (br_f hne (br_f hne ?_))
      have vl : vp_in (nI (pc - 1)) 10 := vp_in_nI (by omega) (by omega)
      have cl2 : (nI (pc - 1)).toNatClampNeg = pc - 1 := nI_clamp (by omega)
      refine ⟨vi, nm_e ⟨vi, nm_e ⟨vi, nm_e ⟨vi, nm_e (br_t (by rw [d0]; decide) (nm_r (gd_p1 (by omega)) ⟨vl, vi, nm_e ⟨vl, vi, nm_e ⟨vl, vi, nm_e ⟨vl, vi, nm_e ⟨rfl, ?_⟩⟩⟩⟩⟩))⟩⟩⟩⟩
      rw [cl, cl2]
      refine rl_st (pa := gd_un pa p0 (pa (pc - 1))) (pb := gd_un pb p0 (pb (pc - 1))) (pq := gd_un pq p0 (pq (pc - 1))) (pd := gd_un pd p0 (pd (pc - 1))) C L' ?_
      rw [d0]
      refine pt_del R hp0 ka kb kc (fun p hp e => ?_) (fun hlt => ?_)
      · rw [pk_un e, pk_un e, pk_un e, pk_un e, pk_un e, pk_un e, pk_un e, pk_un e]
        exact ⟨rfl, rfl, rfl, rfl⟩
      · have e : pc - 1 ≠ p0 := by omega
        rw [pk_us, pk_us, pk_us, pk_us, pk_un e, pk_un e, pk_un e, pk_un e]
        exact ⟨rfl, rfl, rfl, rfl⟩
    · refine nm_r (e' := nI pc) (by rw [nI_1]; congr 1; omega) (go _ (br_f hne (br_f hne ?_)))
      refine ⟨vi, nm_e ⟨vi, nm_e ⟨vi, nm_e ⟨vi, nm_e (br_f (nI_nle (by omega) (by omega)) ⟨rfl, ?_⟩)⟩⟩⟩⟩
      rw [cl]
      exact rl_st C L' (pt_set R hp0 ka kb kc ⟨by omega, hd9⟩)
end
section
theorem pt_P31 {P pa pb pq pd : Nat → Nat} {pc : Nat} {A B C G : Nat → Int32} (h : pt_ok P pc A B C G pa pb pq pd) : ∀ k, P k < 2 ^ 31 := fun k => by have := h.2.2.2.2 k; omega
/-- what is known of the lines of a set text -/
theorem ly_end {t w lg : Nat → Nat} {kn : Nat → Int} {P : Nat → Nat} {n sw ss sk fw rw fl ba hyc ph : Nat} (C : cf_ok t w lg kn n fw rw fl sw ss sk ba hyc ph) :
    (ly_at t w lg kn P n sw ss sk fw rw fl ba hyc (n + 1)).1.2.1 ≤ 48 ∧ (ly_at t w lg kn P n sw ss sk fw rw fl ba hyc (n + 1)).1.2.2.1 ≤ 24 ∧ (∀ k, k < (ly_at t w lg kn P n sw ss sk fw rw fl ba hyc (n + 1)).1.2.1 → lt_val t n ((ly_at t w lg kn P n sw ss sk fw rw fl ba hyc (n + 1)).1.1 k)) ∧ lt_fit (ly_at t w lg kn P n sw ss sk fw rw fl ba hyc (n + 1)).1.2.1 (ly_at t w lg kn P n sw ss sk fw rw fl ba hyc (n + 1)).1.2.2.1 (ly_at t w lg kn P n sw ss sk fw rw fl ba hyc (n + 1)).1.1 ∧
    (∀ j, j < n → t j < 10 → ∃ k, k < (ly_at t w lg kn P n sw ss sk fw rw fl ba hyc (n + 1)).1.2.1 ∧ ((ly_at t w lg kn P n sw ss sk fw rw fl ba hyc (n + 1)).1.1 k).1 ≤ j ∧ j < ((ly_at t w lg kn P n sw ss sk fw rw fl ba hyc (n + 1)).1.1 k).2.1) := by
  obtain ⟨I1, I2, I3, I4, I5, I6, I7, I8⟩ := ly_okA (P := P) (sw := sw) (ss := ss) (sk := sk) (fw := fw) (rw := rw) (fl := fl) (ba := ba) (hyc := hyc) C (n + 1) (Nat.le_refl _)
  have hn := C.1
  have hf : (ly_at t w lg kn P n sw ss sk fw rw fl ba hyc (n + 1)).2 = n + 1 := by rw [ly_at, if_pos (Or.inl rfl)]
  rw [hf] at I5 I8
  exact ⟨by omega, by omega, I6, I7, fun j a b => I8 j (by omega) a b⟩
section
variable {n lc pc fw rw fl sw ss sk ba hyc ph : Nat} {t w lg : Nat → Nat} {kn : Nat → Int}
variable {P pa pb pq pd : Nat → Nat} {k : Nat}
variable {x_breakCount x_lineCount x_paragraphCount x_stale : Int32} {a_patterns a_heads a_glyphs a_breakEnd a_breakNext a_breakHyphen a_breakTaken a_wayBefore a_lineFacts : Nat → Int32} {a_wayDemerits a_paragraphDemerits : Nat → Int64}
variable {y_ready y_glyphCount y_breaks y_natural y_spaces y_lineCount y_paragraphs : Int32} {b_patA b_patB b_patC b_patDigits b_glyphs b_glyphOf b_bEnd b_bNext b_bHyphen b_before b_way b_lFrom b_lTo b_lNumber b_lParagraph b_lPage b_lHyphen b_lLast : Nat → Int32} {b_least b_best : Nat → Int64}
theorem lo_x {post : SX → Prop} (B : rl_B k n lc pc fw rw fl sw ss sk ba hyc ph t w lg kn P pa pb pq pd x_lineCount x_paragraphCount x_stale a_lineFacts a_paragraphDemerits y_ready y_lineCount y_paragraphs b_patA b_patB b_patC b_patDigits b_lFrom b_lTo b_lNumber b_lParagraph b_lPage b_lHyphen b_lLast b_best)
    (hp : ∀ x_breakCount x_lineCount x_paragraphCount a_heads a_glyphs a_breakEnd a_breakNext a_breakHyphen a_breakTaken a_wayDemerits a_wayBefore a_lineFacts a_paragraphDemerits, rl_x t w lg kn P n sw ss sk fw rw fl ba hyc ph x_lineCount x_paragraphCount a_lineFacts a_paragraphDemerits → post ((nI n), (nI lc), (nI pc), (nI fw), (nI rw), (nI fl), (nI sw), (nI ss), (nI sk), (nI ba), (nI hyc), (nI ph), x_breakCount, x_lineCount, x_paragraphCount, 0, (gd_tI t), (gd_tI w), (gd_lI lg), (gd_kI kn), (gd_tI P), a_heads, a_glyphs, a_breakEnd, a_breakNext, a_breakHyphen, a_breakTaken, a_wayDemerits, a_wayBefore, a_lineFacts, a_paragraphDemerits)) : wpX_layOut post ((nI n), (nI lc), (nI pc), (nI fw), (nI rw), (nI fl), (nI sw), (nI ss), (nI sk), (nI ba), (nI hyc), (nI ph), x_breakCount, x_lineCount, x_paragraphCount, x_stale, (gd_tI t), (gd_tI w), (gd_lI lg), (gd_kI kn), (gd_tI P), a_heads, a_glyphs, a_breakEnd, a_breakNext, a_breakHyphen, a_breakTaken, a_wayDemerits, a_wayBefore, a_lineFacts, a_paragraphDemerits) := by
  obtain ⟨C, L, R, F⟩ := B
  obtain ⟨e1, e2, e3, e4, e5⟩ := ly_end (P := P) C
  rcases F with ⟨rfl, _⟩ | ⟨rfl, _, rx, _⟩
  · refine br_f (by decide) ⟨n + 1 + 1, ?_⟩
    refine lx_loop post C (pt_P31 R) (fun g x1 x_breakCount a_heads a_glyphs a_breakEnd a_breakNext a_breakHyphen a_breakTaken a_wayDemerits a_wayBefore a_lineFacts a_paragraphDemerits X => ?_) (n + 1) 0 (by omega) _ _ _ _ _ _ _ _ _ _ _ ⟨fun i h => absurd h (Nat.not_lt_zero i), fun p h => absurd h (Nat.not_lt_zero p)⟩
    have hn := C.1
    refine br_t (nI_lt (by omega) (by omega)) (px_fill e1 C.2.2.2.2.2.2.2.2.2.2.2.2.1 C.2.2.2.2.2.2.2.2.2.2.2.2.2 (fun i hi => Nat.lt_of_lt_of_le (e4 i hi).2.2 (by omega)) X.1 (fun a_lineFacts XF hpg => ?_))
    exact hp _ _ _ _ _ _ _ _ _ _ _ _ _ ⟨rfl, rfl, ⟨XF, X.2⟩, hpg⟩
  · exact br_t rfl (hp _ _ _ _ _ _ _ _ _ _ _ _ _ rx)
theorem lo_y {post : SY → Prop} (B : rl_B k n lc pc fw rw fl sw ss sk ba hyc ph t w lg kn P pa pb pq pd x_lineCount x_paragraphCount x_stale a_lineFacts a_paragraphDemerits y_ready y_lineCount y_paragraphs b_patA b_patB b_patC b_patDigits b_lFrom b_lTo b_lNumber b_lParagraph b_lPage b_lHyphen b_lLast b_best)
    (hp : ∀ y_glyphCount y_breaks y_natural y_spaces y_lineCount y_paragraphs b_glyphs b_glyphOf b_bEnd b_bNext b_bHyphen b_least b_before b_way b_lFrom b_lTo b_lNumber b_lParagraph b_lPage b_lHyphen b_lLast b_best, rl_y t w lg kn P n sw ss sk fw rw fl ba hyc ph y_lineCount y_paragraphs b_lFrom b_lTo b_lNumber b_lParagraph b_lPage b_lHyphen b_lLast b_best → post ((nI n), (nI lc), (nI pc), (nI fw), (nI rw), (nI fl), (nI sw), (nI ss), (nI sk), (nI ba), (nI hyc), (nI ph), 1, y_glyphCount, y_breaks, y_natural, y_spaces, y_lineCount, y_paragraphs, (gd_tI t), (gd_tI w), (gd_lI lg), (gd_kI kn), b_patA, b_patB, b_patC, b_patDigits, b_glyphs, b_glyphOf, b_bEnd, b_bNext, b_bHyphen, b_least, b_before, b_way, b_lFrom, b_lTo, b_lNumber, b_lParagraph, b_lPage, b_lHyphen, b_lLast, b_best)) : wpY_set post ((nI n), (nI lc), (nI pc), (nI fw), (nI rw), (nI fl), (nI sw), (nI ss), (nI sk), (nI ba), (nI hyc), (nI ph), y_ready, y_glyphCount, y_breaks, y_natural, y_spaces, y_lineCount, y_paragraphs, (gd_tI t), (gd_tI w), (gd_lI lg), (gd_kI kn), b_patA, b_patB, b_patC, b_patDigits, b_glyphs, b_glyphOf, b_bEnd, b_bNext, b_bHyphen, b_least, b_before, b_way, b_lFrom, b_lTo, b_lNumber, b_lParagraph, b_lPage, b_lHyphen, b_lLast, b_best) := by
  obtain ⟨C, L, R, F⟩ := B
  obtain ⟨e1, e2, e3, e4, e5⟩ := ly_end (P := P) C
  rcases F with ⟨_, rfl⟩ | ⟨_, rfl, _, ry⟩
  · refine br_t rfl ⟨n + 1 + 1, ?_⟩
    refine yy_loop post C R (fun g y_glyphCount y_breaks y_natural y_spaces b_glyphs b_glyphOf b_bEnd b_bNext b_bHyphen b_least b_before b_way b_lFrom b_lTo b_lNumber b_lParagraph b_lHyphen b_lLast b_best Y => ?_) (n + 1 + 1) 0 (by omega) (by omega) rfl _ _ _ _ _ _ _ _ _ _ _ _ _ _ _ _ _ _ _ ⟨fun i h => absurd h (Nat.not_lt_zero i), fun p h => absurd h (Nat.not_lt_zero p)⟩
    have hn := C.1
    refine br_t (nI_lt (by omega) (by omega)) ?_
    refine py_pages (par := (ly_at t w lg kn P n sw ss sk fw rw fl ba hyc (n + 1)).1.2.2.1) e1 C.2.2.2.2.2.2.2.2.2.2.2.2.1 C.2.2.2.2.2.2.2.2.2.2.2.2.2 (fun i hi => Nat.lt_of_lt_of_le (e3 i hi).2.2.2.2.2 (by omega)) e4 Y.1 (fun b_lPage hpg => ?_)
    exact hp _ _ _ _ _ _ _ _ _ _ _ _ _ _ _ _ _ _ _ _ _ _ ⟨rfl, rfl, Y, hpg⟩
  · exact br_f (by decide) (hp _ _ _ _ _ _ _ _ _ _ _ _ _ _ _ _ _ _ _ _ _ _ ry)
theorem rl_set {j : Nat} (C : cf_ok t w lg kn n fw rw fl sw ss sk ba hyc ph) (L : -(k : Int) ≤ (nI lc).toInt ∧ (nI lc).toInt ≤ 8) (R : pt_ok P pc b_patA b_patB b_patC b_patDigits pa pb pq pd) (hj : k ≤ j) (rx : rl_x t w lg kn P n sw ss sk fw rw fl ba hyc ph x_lineCount x_paragraphCount a_lineFacts a_paragraphDemerits) (ry : rl_y t w lg kn P n sw ss sk fw rw fl ba hyc ph y_lineCount y_paragraphs b_lFrom b_lTo b_lNumber b_lParagraph b_lPage b_lHyphen b_lLast b_best) : i_Rel j ((nI n), (nI lc), (nI pc), (nI fw), (nI rw), (nI fl), (nI sw), (nI ss), (nI sk), (nI ba), (nI hyc), (nI ph), x_breakCount, x_lineCount, x_paragraphCount, 0, (gd_tI t), (gd_tI w), (gd_lI lg), (gd_kI kn), (gd_tI P), a_heads, a_glyphs, a_breakEnd, a_breakNext, a_breakHyphen, a_breakTaken, a_wayDemerits, a_wayBefore, a_lineFacts, a_paragraphDemerits) ((nI n), (nI lc), (nI pc), (nI fw), (nI rw), (nI fl), (nI sw), (nI ss), (nI sk), (nI ba), (nI hyc), (nI ph), 1, y_glyphCount, y_breaks, y_natural, y_spaces, y_lineCount, y_paragraphs, (gd_tI t), (gd_tI w), (gd_lI lg), (gd_kI kn), b_patA, b_patB, b_patC, b_patDigits, b_glyphs, b_glyphOf, b_bEnd, b_bNext, b_bHyphen, b_least, b_before, b_way, b_lFrom, b_lTo, b_lNumber, b_lParagraph, b_lPage, b_lHyphen, b_lLast, b_best) :=
  rl_mk ⟨C, ⟨by have := L.1; omega, L.2⟩, R, Or.inr ⟨rfl, rfl, rx, ry⟩⟩
end
theorem i_vc_lines {k : Nat} {u : SX} {v : SY} (I : i_Rel k u v) (hk : k + 5 ≤ 2560) : wpX_lines (fun r u' => wpY_lines (fun r' v' => r' = r ∧ i_Rel (k + 5) u' v') v) u := by
  refine rl_elim (Q := fun u v => wpX_lines (fun r u' => wpY_lines (fun r' v' => r' = r ∧ i_Rel (k + 5) u' v') v) u) I ?_
  intro n lc pc fw rw fl sw ss sk ba hyc ph t w lg kn P pa pb pq pd x_breakCount x_lineCount x_paragraphCount x_stale a_heads a_glyphs a_breakEnd a_breakNext a_breakHyphen a_breakTaken a_wayDemerits a_wayBefore a_lineFacts a_paragraphDemerits y_ready y_glyphCount y_breaks y_natural y_spaces y_lineCount y_paragraphs b_patA b_patB b_patC b_patDigits b_glyphs b_glyphOf b_bEnd b_bNext b_bHyphen b_least b_before b_way b_lFrom b_lTo b_lNumber b_lParagraph b_lPage b_lHyphen b_lLast b_best B
  obtain ⟨C, L, R, F⟩ := id B
  unfold wpX_lines
  refine lo_x B (fun x_breakCount x_lineCount x_paragraphCount a_heads a_glyphs a_breakEnd a_breakNext a_breakHyphen a_breakTaken a_wayDemerits a_wayBefore a_lineFacts a_paragraphDemerits rx => ?_)
  unfold wpY_lines
  refine lo_y B (fun y_glyphCount y_breaks y_natural y_spaces y_lineCount y_paragraphs b_glyphs b_glyphOf b_bEnd b_bNext b_bHyphen b_least b_before b_way b_lFrom b_lTo b_lNumber b_lParagraph b_lPage b_lHyphen b_lLast b_best ry => ?_)
  exact ⟨by rw [rx.1, ry.1], rl_set C L R (by omega) rx ry⟩
theorem i_vc_demerits {k : Nat} {u : SX} {v : SY} (I : i_Rel k u v) (hk : k + 5 ≤ 2560) (v1 : Int32) : wpX_demerits (fun r u' => wpY_demerits (fun r' v' => r' = r ∧ i_Rel (k + 5) u' v') v v1) u v1 := by
  refine rl_elim (Q := fun u v => wpX_demerits (fun r u' => wpY_demerits (fun r' v' => r' = r ∧ i_Rel (k + 5) u' v') v v1) u v1) I ?_
  intro n lc pc fw rw fl sw ss sk ba hyc ph t w lg kn P pa pb pq pd x_breakCount x_lineCount x_paragraphCount x_stale a_heads a_glyphs a_breakEnd a_breakNext a_breakHyphen a_breakTaken a_wayDemerits a_wayBefore a_lineFacts a_paragraphDemerits y_ready y_glyphCount y_breaks y_natural y_spaces y_lineCount y_paragraphs b_patA b_patB b_patC b_patDigits b_glyphs b_glyphOf b_bEnd b_bNext b_bHyphen b_least b_before b_way b_lFrom b_lTo b_lNumber b_lParagraph b_lPage b_lHyphen b_lLast b_best B
  obtain ⟨C, L, R, F⟩ := id B
  obtain ⟨e1, e2, e3, e4, e5⟩ := ly_end (P := P) C
  unfold wpX_demerits
  refine lo_x B (fun x_breakCount x_lineCount x_paragraphCount a_heads a_glyphs a_breakEnd a_breakNext a_breakHyphen a_breakTaken a_wayDemerits a_wayBefore a_lineFacts a_paragraphDemerits rx => ?_)
  have rx' := rx
  obtain ⟨x1, x2, x3, x4⟩ := rx
  subst x2
  refine br_c (fun z => ?_) (fun z => ?_)
  · unfold wpY_demerits
    refine lo_y B (fun y_glyphCount y_breaks y_natural y_spaces y_lineCount y_paragraphs b_glyphs b_glyphOf b_bEnd b_bNext b_bHyphen b_least b_before b_way b_lFrom b_lTo b_lNumber b_lParagraph b_lPage b_lHyphen b_lLast b_best ry => ?_)
    exact br_t z ⟨rfl, rl_set C L R (by omega) rx' ry⟩
  · obtain ⟨p, hp, rfl⟩ := nI_of z
    refine pk_lt p (ly_at t w lg kn P n sw ss sk fw rw fl ba hyc (n + 1)).1.2.2.1 (fun y => ⟨vp_in_nI (by omega) (by omega), ?_⟩) (fun y => ?_)
    · unfold wpY_demerits
      refine lo_y B (fun y_glyphCount y_breaks y_natural y_spaces y_lineCount y_paragraphs b_glyphs b_glyphOf b_bEnd b_bNext b_bHyphen b_least b_before b_way b_lFrom b_lTo b_lNumber b_lParagraph b_lPage b_lHyphen b_lLast b_best ry => ?_)
      have ry' := ry
      obtain ⟨y1, y2, y3, y4⟩ := ry
      subst y2
      refine br_f z (br_t (nI_lt y (by omega)) ⟨vp_in_nI (by omega) (by omega), ?_, rl_set C L R (by omega) rx' ry'⟩)
      rw [nI_clamp (by omega), x3.2 p y, y3.2 p y]
    · unfold wpY_demerits
      refine lo_y B (fun y_glyphCount y_breaks y_natural y_spaces y_lineCount y_paragraphs b_glyphs b_glyphOf b_bEnd b_bNext b_bHyphen b_least b_before b_way b_lFrom b_lTo b_lNumber b_lParagraph b_lPage b_lHyphen b_lLast b_best ry => ?_)
      have ry' := ry
      obtain ⟨y1, y2, y3, y4⟩ := ry
      subst y2
      exact br_f z (br_f (nI_nlt y (by omega)) ⟨rfl, rl_set C L R (by omega) rx' ry'⟩)
theorem i_vc_hyphen {k : Nat} {u : SX} {v : SY} (I : i_Rel k u v) (hk : k + 5 ≤ 2560) (v1 : Int32) : wpX_hyphen (fun r => wpY_hyphen (fun r' => r' = r ∧ i_Rel (k + 5) u v) v v1) u v1 := by
  refine rl_elim (Q := fun u v => wpX_hyphen (fun r => wpY_hyphen (fun r' => r' = r ∧ i_Rel (k + 5) u v) v v1) u v1) I ?_
  intro n lc pc fw rw fl sw ss sk ba hyc ph t w lg kn P pa pb pq pd x_breakCount x_lineCount x_paragraphCount x_stale a_heads a_glyphs a_breakEnd a_breakNext a_breakHyphen a_breakTaken a_wayDemerits a_wayBefore a_lineFacts a_paragraphDemerits y_ready y_glyphCount y_breaks y_natural y_spaces y_lineCount y_paragraphs b_patA b_patB b_patC b_patDigits b_glyphs b_glyphOf b_bEnd b_bNext b_bHyphen b_least b_before b_way b_lFrom b_lTo b_lNumber b_lParagraph b_lPage b_lHyphen b_lLast b_best B
  have B' : i_Rel (k + 5) ((nI n), (nI lc), (nI pc), (nI fw), (nI rw), (nI fl), (nI sw), (nI ss), (nI sk), (nI ba), (nI hyc), (nI ph), x_breakCount, x_lineCount, x_paragraphCount, x_stale, (gd_tI t), (gd_tI w), (gd_lI lg), (gd_kI kn), (gd_tI P), a_heads, a_glyphs, a_breakEnd, a_breakNext, a_breakHyphen, a_breakTaken, a_wayDemerits, a_wayBefore, a_lineFacts, a_paragraphDemerits) ((nI n), (nI lc), (nI pc), (nI fw), (nI rw), (nI fl), (nI sw), (nI ss), (nI sk), (nI ba), (nI hyc), (nI ph), y_ready, y_glyphCount, y_breaks, y_natural, y_spaces, y_lineCount, y_paragraphs, (gd_tI t), (gd_tI w), (gd_lI lg), (gd_kI kn), b_patA, b_patB, b_patC, b_patDigits, b_glyphs, b_glyphOf, b_bEnd, b_bNext, b_bHyphen, b_least, b_before, b_way, b_lFrom, b_lTo, b_lNumber, b_lParagraph, b_lPage, b_lHyphen, b_lLast, b_best) := rl_ok B (by omega)
  obtain ⟨C, L, R, F⟩ := B
  unfold wpX_hyphen
  by_cases z : v1 < 0
  · refine br_t z ⟨rfl, ?_⟩
    unfold wpY_hyphen
    exact yl_neg z (br_t rfl ⟨rfl, B'⟩)
  · obtain ⟨i, hi, rfl⟩ := nI_of z
    refine hx_may C.1 C.2.1 (pt_P31 R) hi ⟨?_, yh_hyphen C.1 C.2.1 R hi ⟨rfl, B'⟩⟩
    cases hy_b t P n i <;> rfl
section
variable {n lc pc fw rw fl sw ss sk ba hyc ph : Nat} {t w lg : Nat → Nat} {kn : Nat → Int}
variable {P pa pb pq pd : Nat → Nat} {k : Nat}
variable {x_breakCount x_lineCount x_paragraphCount x_stale : Int32} {a_patterns a_heads a_glyphs a_breakEnd a_breakNext a_breakHyphen a_breakTaken a_wayBefore a_lineFacts : Nat → Int32} {a_wayDemerits a_paragraphDemerits : Nat → Int64}
variable {y_ready y_glyphCount y_breaks y_natural y_spaces y_lineCount y_paragraphs : Int32} {b_patA b_patB b_patC b_patDigits b_glyphs b_glyphOf b_bEnd b_bNext b_bHyphen b_before b_way b_lFrom b_lTo b_lNumber b_lParagraph b_lPage b_lHyphen b_lLast : Nat → Int32} {b_least b_best : Nat → Int64}
theorem sp_x {post : Int32 → SX → Prop} {a b : Nat} (hb : b ≤ 48) (hab : a < b) (ht : ∀ i, t i ≤ 11) (hp0 : ¬ (∀ j, a ≤ j → j < b → t j < 10) → post (-1) ((nI n), (nI lc), (nI pc), (nI fw), (nI rw), (nI fl), (nI sw), (nI ss), (nI sk), (nI ba), (nI hyc), (nI ph), x_breakCount, x_lineCount, x_paragraphCount, x_stale, (gd_tI t), (gd_tI w), (gd_lI lg), (gd_kI kn), a_patterns, a_heads, a_glyphs, a_breakEnd, a_breakNext, a_breakHyphen, a_breakTaken, a_wayDemerits, a_wayBefore, a_lineFacts, a_paragraphDemerits)) (hp1 : (∀ j, a ≤ j → j < b → t j < 10) → ∀ a_heads a_glyphs, post (gd_iI (rn_x t lg w kn sw a b b)) ((nI n), (nI lc), (nI pc), (nI fw), (nI rw), (nI fl), (nI sw), (nI ss), (nI sk), (nI ba), (nI hyc), (nI ph), x_breakCount, x_lineCount, x_paragraphCount, x_stale, (gd_tI t), (gd_tI w), (gd_lI lg), (gd_kI kn), a_patterns, a_heads, a_glyphs, a_breakEnd, a_breakNext, a_breakHyphen, a_breakTaken, a_wayDemerits, a_wayBefore, a_lineFacts, a_paragraphDemerits)) : ∃ n21, wX_span_21 post (nI a) (nI b) (nI n) (nI lc) (nI pc) (nI fw) (nI rw) (nI fl) (nI sw) (nI ss) (nI sk) (nI ba) (nI hyc) (nI ph) x_breakCount x_lineCount x_paragraphCount x_stale (gd_tI t) (gd_tI w) (gd_lI lg) (gd_kI kn) a_patterns a_heads a_glyphs a_breakEnd a_breakNext a_breakHyphen a_breakTaken a_wayDemerits a_wayBefore a_lineFacts a_paragraphDemerits n21 (nI a) := by
  have loop : ∀ d i, i + d = b → a ≤ i → (∀ j, a ≤ j → j < i → t j < 10) → wX_span_21 post (nI a) (nI b) (nI n) (nI lc) (nI pc) (nI fw) (nI rw) (nI fl) (nI sw) (nI ss) (nI sk) (nI ba) (nI hyc) (nI ph) x_breakCount x_lineCount x_paragraphCount x_stale (gd_tI t) (gd_tI w) (gd_lI lg) (gd_kI kn) a_patterns a_heads a_glyphs a_breakEnd a_breakNext a_breakHyphen a_breakTaken a_wayDemerits a_wayBefore a_lineFacts a_paragraphDemerits (d + 1) (nI i) := by
    intro d
    induction d with
    | zero =>
      intro i hi hai hl
      have : i = b := by omega
      subst this
      refine br_t (nI_le (Nat.le_refl _) (by omega)) (xs_shape (by omega) hb ht (fun a_heads a_glyphs hok => xr_end (by omega) hb ht hok ?_))
      rw [show xr_adj 0 0 (rn_sc t a i) = 0 by rw [xr_adj, if_pos rfl], Int32.add_zero]
      exact hp1 hl _ _
    | succ d ih =>
      intro i hi hai hl
      refine br_f (nI_ge (by omega) (by omega)) ⟨vp_in_nI (by omega) (by omega), pk_lt (t i) 10 (fun y => nm_r (nI_1 i) (ih (i + 1) (by omega) (by omega) (fun j h1 h2 => ?_))) (fun y => ?_) (gd_rt (by omega)) rfl (by have := ht i; omega) (by omega)⟩
      · by_cases e : j = i
        · rw [e]; exact y
        · exact hl j h1 (by omega)
      · exact hp0 (fun h => by have := h i hai (by omega); omega)
  exact ⟨_, loop (b - a) a (by omega) (Nat.le_refl _) (fun j h1 h2 => absurd h1 (by omega))⟩
theorem sp_y {post : Int32 → SY → Prop} {a b : Nat} (hn : n ≤ 48) (hb : b ≤ n) (hab : a < b) (ht : ∀ i, t i ≤ 11) (hp0 : ¬ (∀ j, a ≤ j → j < b → t j < 10) → post (-1) ((nI n), (nI lc), (nI pc), (nI fw), (nI rw), (nI fl), (nI sw), (nI ss), (nI sk), (nI ba), (nI hyc), (nI ph), y_ready, y_glyphCount, y_breaks, y_natural, y_spaces, y_lineCount, y_paragraphs, (gd_tI t), (gd_tI w), (gd_lI lg), (gd_kI kn), b_patA, b_patB, b_patC, b_patDigits, b_glyphs, b_glyphOf, b_bEnd, b_bNext, b_bHyphen, b_least, b_before, b_way, b_lFrom, b_lTo, b_lNumber, b_lParagraph, b_lPage, b_lHyphen, b_lLast, b_best)) (hp1 : (∀ j, a ≤ j → j < b → t j < 10) → ∀ y_glyphCount b_glyphs b_glyphOf, post (gd_iI (rn_x t lg w kn sw a b b)) ((nI n), (nI lc), (nI pc), (nI fw), (nI rw), (nI fl), (nI sw), (nI ss), (nI sk), (nI ba), (nI hyc), (nI ph), y_ready, y_glyphCount, y_breaks, y_natural, y_spaces, y_lineCount, y_paragraphs, (gd_tI t), (gd_tI w), (gd_lI lg), (gd_kI kn), b_patA, b_patB, b_patC, b_patDigits, b_glyphs, b_glyphOf, b_bEnd, b_bNext, b_bHyphen, b_least, b_before, b_way, b_lFrom, b_lTo, b_lNumber, b_lParagraph, b_lPage, b_lHyphen, b_lLast, b_best)) : ∃ n21, wY_span_21 post (nI a) (nI b) (nI n) (nI lc) (nI pc) (nI fw) (nI rw) (nI fl) (nI sw) (nI ss) (nI sk) (nI ba) (nI hyc) (nI ph) y_ready y_glyphCount y_breaks y_natural y_spaces y_lineCount y_paragraphs (gd_tI t) (gd_tI w) (gd_lI lg) (gd_kI kn) b_patA b_patB b_patC b_patDigits b_glyphs b_glyphOf b_bEnd b_bNext b_bHyphen b_least b_before b_way b_lFrom b_lTo b_lNumber b_lParagraph b_lPage b_lHyphen b_lLast b_best n21 (nI a) := by
  have loop : ∀ d i, i + d = b → a ≤ i → (∀ j, a ≤ j → j < i → t j < 10) → wY_span_21 post (nI a) (nI b) (nI n) (nI lc) (nI pc) (nI fw) (nI rw) (nI fl) (nI sw) (nI ss) (nI sk) (nI ba) (nI hyc) (nI ph) y_ready y_glyphCount y_breaks y_natural y_spaces y_lineCount y_paragraphs (gd_tI t) (gd_tI w) (gd_lI lg) (gd_kI kn) b_patA b_patB b_patC b_patDigits b_glyphs b_glyphOf b_bEnd b_bNext b_bHyphen b_least b_before b_way b_lFrom b_lTo b_lNumber b_lParagraph b_lPage b_lHyphen b_lLast b_best (d + 1) (nI i) := by
    intro d
    induction d with
    | zero =>
      intro i hi hai hl
      have : i = b := by omega
      subst this
      exact br_t (nI_le (Nat.le_refl _) (by omega)) (ys_shape hab (by omega) ht hl (fun b_glyphs b_glyphOf hok => hp1 hl _ _ _))
    | succ d ih =>
      intro i hi hai hl
      refine br_f (nI_ge (by omega) (by omega)) (yl_is hn (by omega) ht (gd_bt (fun y => ?_) (fun y => nm_r (nI_1 i) (ih (i + 1) (by omega) (by omega) (fun j h1 h2 => ?_)))))
      · have y := of_decide_eq_false y
        exact hp0 (fun h => y ⟨by omega, h i hai (by omega)⟩)
      · have y := of_decide_eq_true y
        by_cases e : j = i
        · rw [e]; exact y.2
        · exact hl j h1 (by omega)
  exact ⟨_, loop (b - a) a (by omega) (Nat.le_refl _) (fun j h1 h2 => absurd h1 (by omega))⟩
end
theorem i_vc_span {k : Nat} {u : SX} {v : SY} (I : i_Rel k u v) (hk : k + 5 ≤ 2560) (v1 : Int32) (v2 : Int32) : wpX_span (fun r u' => wpY_span (fun r' v' => r' = r ∧ i_Rel (k + 5) u' v') v v1 v2) u v1 v2 := by
  refine rl_elim (Q := fun u v => wpX_span (fun r u' => wpY_span (fun r' v' => r' = r ∧ i_Rel (k + 5) u' v') v v1 v2) u v1 v2) I ?_
  intro n lc pc fw rw fl sw ss sk ba hyc ph t w lg kn P pa pb pq pd x_breakCount x_lineCount x_paragraphCount x_stale a_heads a_glyphs a_breakEnd a_breakNext a_breakHyphen a_breakTaken a_wayDemerits a_wayBefore a_lineFacts a_paragraphDemerits y_ready y_glyphCount y_breaks y_natural y_spaces y_lineCount y_paragraphs b_patA b_patB b_patC b_patDigits b_glyphs b_glyphOf b_bEnd b_bNext b_bHyphen b_least b_before b_way b_lFrom b_lTo b_lNumber b_lParagraph b_lPage b_lHyphen b_lLast b_best B
  have B' : ∀ a_heads a_glyphs y_glyphCount b_glyphs b_glyphOf, i_Rel (k + 5) ((nI n), (nI lc), (nI pc), (nI fw), (nI rw), (nI fl), (nI sw), (nI ss), (nI sk), (nI ba), (nI hyc), (nI ph), x_breakCount, x_lineCount, x_paragraphCount, x_stale, (gd_tI t), (gd_tI w), (gd_lI lg), (gd_kI kn), (gd_tI P), a_heads, a_glyphs, a_breakEnd, a_breakNext, a_breakHyphen, a_breakTaken, a_wayDemerits, a_wayBefore, a_lineFacts, a_paragraphDemerits) ((nI n), (nI lc), (nI pc), (nI fw), (nI rw), (nI fl), (nI sw), (nI ss), (nI sk), (nI ba), (nI hyc), (nI ph), y_ready, y_glyphCount, y_breaks, y_natural, y_spaces, y_lineCount, y_paragraphs, (gd_tI t), (gd_tI w), (gd_lI lg), (gd_kI kn), b_patA, b_patB, b_patC, b_patDigits, b_glyphs, b_glyphOf, b_bEnd, b_bNext, b_bHyphen, b_least, b_before, b_way, b_lFrom, b_lTo, b_lNumber, b_lParagraph, b_lPage, b_lHyphen, b_lLast, b_best) := fun _ _ _ _ _ => rl_ok B (by omega)
  obtain ⟨C, L, R, F⟩ := B
  have hn := C.1
  have ln : (nI n).toInt = n := nI_toInt (by omega)
  have no : ¬ (0 ≤ v1.toInt ∧ v1.toInt < v2.toInt ∧ v2.toInt ≤ n) → wpY_span (fun r' v' => r' = -1 ∧ i_Rel (k + 5) ((nI n), (nI lc), (nI pc), (nI fw), (nI rw), (nI fl), (nI sw), (nI ss), (nI sk), (nI ba), (nI hyc), (nI ph), x_breakCount, x_lineCount, x_paragraphCount, x_stale, (gd_tI t), (gd_tI w), (gd_lI lg), (gd_kI kn), (gd_tI P), a_heads, a_glyphs, a_breakEnd, a_breakNext, a_breakHyphen, a_breakTaken, a_wayDemerits, a_wayBefore, a_lineFacts, a_paragraphDemerits) v') ((nI n), (nI lc), (nI pc), (nI fw), (nI rw), (nI fl), (nI sw), (nI ss), (nI sk), (nI ba), (nI hyc), (nI ph), y_ready, y_glyphCount, y_breaks, y_natural, y_spaces, y_lineCount, y_paragraphs, (gd_tI t), (gd_tI w), (gd_lI lg), (gd_kI kn), b_patA, b_patB, b_patC, b_patDigits, b_glyphs, b_glyphOf, b_bEnd, b_bNext, b_bHyphen, b_least, b_before, b_way, b_lFrom, b_lTo, b_lNumber, b_lParagraph, b_lPage, b_lHyphen, b_lLast, b_best) v1 v2 := by
    intro h
    exact wi_lt 0 (fun _ => ⟨rfl, B' _ _ _ _ _⟩) (fun y1 => wi_le v1.toInt (fun _ => ⟨rfl, B' _ _ _ _ _⟩) (fun y2 => wi_le n (fun y3 => absurd ⟨y1, y2, y3⟩ h) (fun _ => ⟨rfl, B' _ _ _ _ _⟩) ln) rfl)
  refine wi_lt 0 (fun y => no (by omega)) (fun y1 => wi_gt n (fun y => no (by omega)) (fun y2 => wi_lt v2.toInt (fun y3 => ?_) (fun y => no (by omega)) rfl) ln)
  obtain ⟨a, rfl, a1, a2, a3⟩ := wi_c (x := v1) (c := 0) (d := n) ⟨y1, by omega⟩ (Int.le_refl 0)
  obtain ⟨b, rfl, b1, b2, b3⟩ := wi_c (x := v2) (c := 0) (d := n) ⟨by omega, y2⟩ (Int.le_refl 0)
  rw [nI_toInt a3, nI_toInt b3] at y3
  have enter : ∀ Q : Int32 → SY → Prop, (∃ n21, wY_span_21 Q (nI a) (nI b) (nI n) (nI lc) (nI pc) (nI fw) (nI rw) (nI fl) (nI sw) (nI ss) (nI sk) (nI ba) (nI hyc) (nI ph) y_ready y_glyphCount y_breaks y_natural y_spaces y_lineCount y_paragraphs (gd_tI t) (gd_tI w) (gd_lI lg) (gd_kI kn) b_patA b_patB b_patC b_patDigits b_glyphs b_glyphOf b_bEnd b_bNext b_bHyphen b_least b_before b_way b_lFrom b_lTo b_lNumber b_lParagraph b_lPage b_lHyphen b_lLast b_best n21 (nI a)) → wpY_span Q ((nI n), (nI lc), (nI pc), (nI fw), (nI rw), (nI fl), (nI sw), (nI ss), (nI sk), (nI ba), (nI hyc), (nI ph), y_ready, y_glyphCount, y_breaks, y_natural, y_spaces, y_lineCount, y_paragraphs, (gd_tI t), (gd_tI w), (gd_lI lg), (gd_kI kn), b_patA, b_patB, b_patC, b_patDigits, b_glyphs, b_glyphOf, b_bEnd, b_bNext, b_bHyphen, b_least, b_before, b_way, b_lFrom, b_lTo, b_lNumber, b_lParagraph, b_lPage, b_lHyphen, b_lLast, b_best) (nI a) (nI b) := by
    intro Q h
    exact br_f (nI_pos (by omega)) (br_f (nI_ge (by omega) (by omega)) (br_t (nI_le (by omega) (by omega)) h))
  refine sp_x (by omega) (by omega) C.2.1 (fun h => enter _ (sp_y hn (by omega) (by omega) C.2.1 (fun _ => ⟨rfl, B' _ _ _ _ _⟩) (fun h2 => absurd h2 h))) (fun h a_heads a_glyphs => enter _ (sp_y hn (by omega) (by omega) C.2.1 (fun h2 => absurd h h2) (fun _ y_glyphCount b_glyphs b_glyphOf => ⟨rfl, B' _ _ _ _ _⟩)))
end
section
section
variable {t w lg : Nat → Nat} {kn : Nat → Int} {n fw rw fl sw ss sk ba hyc ph : Nat}
theorem lt_dif_b (C : cf_ok t w lg kn n fw rw fl sw ss sk ba hyc ph) {r : lt_R} (hr : r.2.1 ≤ n) : -10000 ≤ lt_dif t lg w kn sw fw rw fl r ∧ lt_dif t lg w kn sw fw rw fl r ≤ 10000 := by
  have h0 := bd_due_b C r.2.2.2.1
  obtain ⟨c1, c2, c3, c4, c5, c6, c7, c8, c9, c10, c11, c12, c13, c14⟩ := C
  have h1 := rn_x_b (t := t) (lg := lg) (s := r.1) (e := r.2.1) c8 c4 c3 r.2.1
  have h2 : (0 : Int) ≤ cond r.2.2.1 5 0 ∧ (cond r.2.2.1 5 0 : Int) ≤ 5 := by cases r.2.2.1 <;> decide
  rw [lt_dif, lt_nat]
  omega
end
section
variable {n lc pc fw rw fl sw ss sk ba hyc ph : Nat} {t w lg : Nat → Nat} {kn : Nat → Int}
variable {P pa pb pq pd : Nat → Nat} {k lnc : Nat} {Λ : lt_T}
variable {y_ready y_glyphCount y_breaks y_natural y_spaces y_lineCount y_paragraphs : Int32} {b_patA b_patB b_patC b_patDigits b_glyphs b_glyphOf b_bEnd b_bNext b_bHyphen b_before b_way b_lFrom b_lTo b_lNumber b_lParagraph b_lPage b_lHyphen b_lLast : Nat → Int32} {b_least b_best : Nat → Int64}
theorem yd_diff {post : Int32 → SY → Prop} {q : Nat} (C : cf_ok t w lg kn n fw rw fl sw ss sk ba hyc ph) (hl : lnc ≤ 48) (hq : q < lnc) (V : lt_val t n (Λ q)) (Y : yl_ok lnc Λ b_lFrom b_lTo b_lNumber b_lParagraph b_lHyphen b_lLast)
    (hp : ∀ y_glyphCount b_glyphs b_glyphOf, post (gd_iI (lt_dif t lg w kn sw fw rw fl (Λ q))) ((nI n), (nI lc), (nI pc), (nI fw), (nI rw), (nI fl), (nI sw), (nI ss), (nI sk), (nI ba), (nI hyc), (nI ph), y_ready, y_glyphCount, y_breaks, (gd_iI (lt_nat t lg w kn sw (Λ q))), (nI (rn_sc t (Λ q).1 (Λ q).2.1)), y_lineCount, y_paragraphs, (gd_tI t), (gd_tI w), (gd_lI lg), (gd_kI kn), b_patA, b_patB, b_patC, b_patDigits, b_glyphs, b_glyphOf, b_bEnd, b_bNext, b_bHyphen, b_least, b_before, b_way, b_lFrom, b_lTo, b_lNumber, b_lParagraph, b_lPage, b_lHyphen, b_lLast, b_best)) : wpY_difference post ((nI n), (nI lc), (nI pc), (nI fw), (nI rw), (nI fl), (nI sw), (nI ss), (nI sk), (nI ba), (nI hyc), (nI ph), y_ready, y_glyphCount, y_breaks, y_natural, y_spaces, y_lineCount, y_paragraphs, (gd_tI t), (gd_tI w), (gd_lI lg), (gd_kI kn), b_patA, b_patB, b_patC, b_patDigits, b_glyphs, b_glyphOf, b_bEnd, b_bNext, b_bHyphen, b_least, b_before, b_way, b_lFrom, b_lTo, b_lNumber, b_lParagraph, b_lPage, b_lHyphen, b_lLast, b_best) (nI q) := by
  obtain ⟨r1, r2, r3, r4, r5, r6⟩ := Y q hq
  obtain ⟨w1, w2, w3, w4, w5, w6⟩ := V
  have vi : vp_in (nI q) 48 := vp_in_nI (by omega) (by omega)
  have cl : (nI q).toNatClampNeg = q := nI_clamp (by omega)
  unfold wpY_difference
  refine ⟨vi, vi, vi, ?_⟩
  rw [cl, r1, r2, r3]
  refine yk_walk C.1 w1 w2 C.2.1 w3 w5 _ (fun y_glyphCount b_glyphs b_glyphOf => ⟨vi, ?_⟩)
  rw [r4]
  refine by_due (by omega) C.2.2.2.2.2.2.1 ?_
  have e : nI (bd_due fw rw fl (Λ q).2.2.2.1) - gd_iI (rn_x t lg w kn sw (Λ q).1 (Λ q).2.1 (Λ q).2.1 + cond (Λ q).2.2.1 5 0) = gd_iI (lt_dif t lg w kn sw fw rw fl (Λ q)) := by rw [gd_nat, gd_sub]; rfl
  rw [e]
  exact hp _ _ _
end
theorem i_vc_line {k : Nat} {u : SX} {v : SY} (I : i_Rel k u v) (hk : k + 5 ≤ 2560) (v1 : Int32) (v2 : Int32) : wpX_line (fun r u' => wpY_line (fun r' v' => r' = r ∧ i_Rel (k + 5) u' v') v v1 v2) u v1 v2 := by
  refine rl_elim (Q := fun u v => wpX_line (fun r u' => wpY_line (fun r' v' => r' = r ∧ i_Rel (k + 5) u' v') v v1 v2) u v1 v2) I ?_
  intro n lc pc fw rw fl sw ss sk ba hyc ph t w lg kn P pa pb pq pd x_breakCount x_lineCount x_paragraphCount x_stale a_heads a_glyphs a_breakEnd a_breakNext a_breakHyphen a_breakTaken a_wayDemerits a_wayBefore a_lineFacts a_paragraphDemerits y_ready y_glyphCount y_breaks y_natural y_spaces y_lineCount y_paragraphs b_patA b_patB b_patC b_patDigits b_glyphs b_glyphOf b_bEnd b_bNext b_bHyphen b_least b_before b_way b_lFrom b_lTo b_lNumber b_lParagraph b_lPage b_lHyphen b_lLast b_best B
  obtain ⟨C, L, R, F⟩ := id B
  obtain ⟨e1, e2, e3, e4, e5⟩ := ly_end (P := P) C
  unfold wpX_line
  refine lo_x B (fun x_breakCount x_lineCount x_paragraphCount a_heads a_glyphs a_breakEnd a_breakNext a_breakHyphen a_breakTaken a_wayDemerits a_wayBefore a_lineFacts a_paragraphDemerits rx => ?_)
  have rx' := rx
  obtain ⟨x1, x2, x3, x4⟩ := rx
  subst x1
  have no : ¬ (0 ≤ v1.toInt ∧ v1.toInt < (ly_at t w lg kn P n sw ss sk fw rw fl ba hyc (n + 1)).1.2.1 ∧ 0 ≤ v2.toInt ∧ v2.toInt ≤ 6) → wpY_line (fun r' v' => r' = -1 ∧ i_Rel (k + 5) ((nI n), (nI lc), (nI pc), (nI fw), (nI rw), (nI fl), (nI sw), (nI ss), (nI sk), (nI ba), (nI hyc), (nI ph), x_breakCount, (nI (ly_at t w lg kn P n sw ss sk fw rw fl ba hyc (n + 1)).1.2.1), x_paragraphCount, 0, (gd_tI t), (gd_tI w), (gd_lI lg), (gd_kI kn), (gd_tI P), a_heads, a_glyphs, a_breakEnd, a_breakNext, a_breakHyphen, a_breakTaken, a_wayDemerits, a_wayBefore, a_lineFacts, a_paragraphDemerits) v') ((nI n), (nI lc), (nI pc), (nI fw), (nI rw), (nI fl), (nI sw), (nI ss), (nI sk), (nI ba), (nI hyc), (nI ph), y_ready, y_glyphCount, y_breaks, y_natural, y_spaces, y_lineCount, y_paragraphs, (gd_tI t), (gd_tI w), (gd_lI lg), (gd_kI kn), b_patA, b_patB, b_patC, b_patDigits, b_glyphs, b_glyphOf, b_bEnd, b_bNext, b_bHyphen, b_least, b_before, b_way, b_lFrom, b_lTo, b_lNumber, b_lParagraph, b_lPage, b_lHyphen, b_lLast, b_best) v1 v2 := by
    intro h
    unfold wpY_line
    refine lo_y B (fun y_glyphCount y_breaks y_natural y_spaces y_lineCount y_paragraphs b_glyphs b_glyphOf b_bEnd b_bNext b_bHyphen b_least b_before b_way b_lFrom b_lTo b_lNumber b_lParagraph b_lPage b_lHyphen b_lLast b_best ry => ?_)
    have ok := rl_set (k := k) (j := k + 5) C L R (by omega) rx' ry (x_breakCount := x_breakCount) (a_heads := a_heads) (a_glyphs := a_glyphs) (a_breakEnd := a_breakEnd) (a_breakNext := a_breakNext) (a_breakHyphen := a_breakHyphen) (a_breakTaken := a_breakTaken) (a_wayDemerits := a_wayDemerits) (a_wayBefore := a_wayBefore) (y_glyphCount := y_glyphCount) (y_breaks := y_breaks) (y_natural := y_natural) (y_spaces := y_spaces) (b_glyphs := b_glyphs) (b_glyphOf := b_glyphOf) (b_bEnd := b_bEnd) (b_bNext := b_bNext) (b_bHyphen := b_bHyphen) (b_least := b_least) (b_before := b_before) (b_way := b_way)
    obtain ⟨y1, y2, y3, y4⟩ := ry
    subst y1
    exact wi_lt 0 (fun _ => ⟨rfl, ok⟩) (fun q1 => wi_ge (ly_at t w lg kn P n sw ss sk fw rw fl ba hyc (n + 1)).1.2.1 (fun _ => ⟨rfl, ok⟩) (fun q2 => wi_lt 0 (fun _ => ⟨rfl, ok⟩) (fun q3 => wi_le 6 (fun q4 => absurd ⟨q1, q2, q3, q4⟩ h) (fun _ => ⟨rfl, ok⟩))) (nI_toInt (by omega)))
  refine wi_lt 0 (fun _ => no (by omega)) (fun q1 => wi_ge (ly_at t w lg kn P n sw ss sk fw rw fl ba hyc (n + 1)).1.2.1 (fun _ => no (by omega)) (fun q2 => wx_in 0 6 (gd_bt (fun y => no (fun h => of_decide_eq_false y h.2.2)) (fun y => ?_))) (nI_toInt (by omega)))
  have y := of_decide_eq_true y
  clear no
  obtain ⟨q, rfl, _, qa, qb⟩ := wi_c (x := v1) (c := 0) (d := 47) ⟨q1, by omega⟩ (Int.le_refl 0)
  obtain ⟨c, rfl, _, ca, cb⟩ := wi_c y (Int.le_refl 0)
  rw [nI_toInt qb] at q2
  have hq : q < (ly_at t w lg kn P n sw ss sk fw rw fl ba hyc (n + 1)).1.2.1 := by omega
  have V := e3 q hq
  have ei : nI q * 8 + nI c = nI (8 * q + c) := by rw [show (8 : Int32) = nI 8 from rfl, pk_mul, nI_add, Nat.mul_comm]
  refine ⟨pk_in (8 * q + c) 384 (by omega) ei, ?_⟩
  rw [ei, nI_clamp (by omega)]
  unfold wpY_line
  refine lo_y B (fun y_glyphCount y_breaks y_natural y_spaces y_lineCount y_paragraphs b_glyphs b_glyphOf b_bEnd b_bNext b_bHyphen b_least b_before b_way b_lFrom b_lTo b_lNumber b_lParagraph b_lPage b_lHyphen b_lLast b_best ry => ?_)
  have ok : ∀ y_glyphCount y_natural y_spaces b_glyphs b_glyphOf, i_Rel (k + 5) ((nI n), (nI lc), (nI pc), (nI fw), (nI rw), (nI fl), (nI sw), (nI ss), (nI sk), (nI ba), (nI hyc), (nI ph), x_breakCount, (nI (ly_at t w lg kn P n sw ss sk fw rw fl ba hyc (n + 1)).1.2.1), x_paragraphCount, 0, (gd_tI t), (gd_tI w), (gd_lI lg), (gd_kI kn), (gd_tI P), a_heads, a_glyphs, a_breakEnd, a_breakNext, a_breakHyphen, a_breakTaken, a_wayDemerits, a_wayBefore, a_lineFacts, a_paragraphDemerits) ((nI n), (nI lc), (nI pc), (nI fw), (nI rw), (nI fl), (nI sw), (nI ss), (nI sk), (nI ba), (nI hyc), (nI ph), 1, y_glyphCount, y_breaks, y_natural, y_spaces, y_lineCount, y_paragraphs, (gd_tI t), (gd_tI w), (gd_lI lg), (gd_kI kn), b_patA, b_patB, b_patC, b_patDigits, b_glyphs, b_glyphOf, b_bEnd, b_bNext, b_bHyphen, b_least, b_before, b_way, b_lFrom, b_lTo, b_lNumber, b_lParagraph, b_lPage, b_lHyphen, b_lLast, b_best) := fun _ _ _ _ _ => rl_set C L R (by omega) rx' ry
  obtain ⟨y1, y2, y3, y4⟩ := ry
  subst y1
  obtain ⟨r1, r2, r3, r4, r5, r6⟩ := y3.1 q hq
  obtain ⟨f0, f1, f2, f3, f4, f5, f7⟩ := x3.1 q hq
  have f6 := x4 q hq
  have p6 := y4 q hq
  have vi : vp_in (nI q) 48 := vp_in_nI (by omega) (by omega)
  have cl : (nI q).toNatClampNeg = q := nI_clamp (by omega)
  have hd := lt_dif_b (r := (ly_at t w lg kn P n sw ss sk fw rw fl ba hyc (n + 1)).1.1 q) C V.2.1
  have hsc := rn_sc_le (t := t) (s := ((ly_at t w lg kn P n sw ss sk fw rw fl ba hyc (n + 1)).1.1 q).1) ((ly_at t w lg kn P n sw ss sk fw rw fl ba hyc (n + 1)).1.1 q).2.1
  have hV1 := V.2.1
  have hn := C.1
  refine br_f (nI_pos (by omega)) (br_f (nI_ge (by omega) (by omega)) (br_f (nI_pos (by omega)) (br_t (nI_le (b := 6) (by omega) (by decide)) ?_)))
  refine yd_diff C e1 hq V y3.1 (fun y_glyphCount b_glyphs b_glyphOf => ?_)
  have hc : c = 0 ∨ c = 1 ∨ c = 2 ∨ c = 3 ∨ c = 4 ∨ c = 5 ∨ c = 6 := by omega
  rcases hc with rfl | rfl | rfl | rfl | rfl | rfl | rfl
  · refine br_f (by decide) (br_f (by decide) (br_t rfl ⟨vi, ?_, ok _ _ _ _ _⟩))
    rw [cl, r1, f0]
  · refine br_f (by decide) (br_f (by decide) (br_f (by decide) (br_t rfl ⟨vi, ?_, ok _ _ _ _ _⟩)))
    rw [cl, r2, f1]
  · refine br_f (by decide) (br_f (by decide) (br_f (by decide) (br_f (by decide) (br_t rfl ⟨?_, ok _ _ _ _ _⟩))))
    rw [f2]
  · refine br_f (by decide) (br_f (by decide) (br_f (by decide) (br_f (by decide) (br_f (by decide) (br_t rfl ⟨vi, ?_⟩)))))
    rw [cl, r5]
    refine by_bad hd C.2.2.2.2.2.2.2.2.1 C.2.2.2.2.2.2.2.2.2.1 (by omega) ⟨?_, ok _ _ _ _ _⟩
    rw [f3]; rfl
  · refine br_f (by decide) (br_f (by decide) (br_f (by decide) (br_f (by decide) (br_f (by decide) (br_f (by decide) (br_t rfl ⟨vi, ?_⟩))))))
    rw [f4]
    exact gd_bx _ (by rw [cl, r3]) (fun z => ⟨by rw [z]; rfl, ok _ _ _ _ _⟩) (fun z => ⟨by rw [z]; rfl, ok _ _ _ _ _⟩)
  · refine br_f (by decide) (br_f (by decide) (br_f (by decide) (br_f (by decide) (br_f (by decide) (br_f (by decide) (br_f (by decide) (br_t rfl ⟨vi, ?_, ok _ _ _ _ _⟩)))))))
    rw [cl, r6, f5]
  · refine br_f (by decide) (br_t (by decide) ⟨vi, ?_, ok _ _ _ _ _⟩)
    rw [cl, p6, f6]
end
section
section
variable {t lg w : Nat → Nat} {kn : Nat → Int} {sw s : Nat}
theorem sh_hd_l {i : Nat} (hl : t i < 10) : t (sh_hd t lg s i) < 10 ∧ sh_jn t lg s (sh_hd t lg s i) = false := by
  induction i with
  | zero => exact ⟨hl, rfl⟩
  | succ i ih =>
    cases z : sh_jn t lg s (i + 1)
    · rw [sh_hd_n z]; exact ⟨hl, z⟩
    · rw [sh_hd_j z]; exact ih ((sh_jn_s i).mp z).2.1
theorem rn_scm {i j : Nat} (h : i ≤ j) : rn_sc t s i ≤ rn_sc t s j := by
  induction j with
  | zero => rw [show i = 0 by omega]; exact Nat.le_refl _
  | succ j ih =>
    by_cases e : i = j + 1
    · rw [e]; exact Nat.le_refl _
    · have := ih (by omega)
      rw [rn_sc]; split <;> omega
theorem rn_trunc {e to : Nat} (h3 : e ≤ to) (h4 : e = to ∨ ¬ t e < 10) : ∀ i, i ≤ e → rn_x t lg w kn sw s to i = rn_x t lg w kn sw s e i := by
  intro i
  induction i with
  | zero => intro _; rfl
  | succ i ih =>
    intro h
    have ih := ih (by omega)
    rw [rn_x, rn_x, ih]
    by_cases c : i < s
    · rw [if_pos c, if_pos c]
    · rw [if_neg c, if_neg c]
      have f1 : sh_fe t lg s to i = sh_fe t lg s e i := sh_fe_w (Nat.le_refl _) (Or.inl rfl) (by omega) (by omega) h3 h4
      have g1 : rn_gp t lg kn sw s to i = rn_gp t lg kn sw s e i := by
        rw [rn_gp, rn_gp, f1]
        by_cases c2 : s < i
        · rw [if_pos c2, if_pos c2, sh_fe_w (s2 := s) (i := i - 1) (Nat.le_refl _) (Or.inl rfl) (by omega) (by omega) h3 h4]
        · rw [if_neg c2, if_neg c2]
      rw [f1, g1]
/-- a head within a word of the line -/
theorem rn_pos {s2 e to g : Nat} (hs : s ≤ s2) (h0 : s2 = s ∨ ¬ t (s2 - 1) < 10) (hl : ∀ i, s2 ≤ i → i < e → t i < 10) (h3 : e ≤ to) (h4 : e = to ∨ ¬ t e < 10) (hg1 : s2 ≤ g) (hg2 : g < e) :
    rn_x t lg w kn sw s to g + rn_gp t lg kn sw s to g = rn_x t lg w kn sw s to s2 + rn_gp t lg kn sw s to s2 + (rn_x t lg w kn sw s2 e g + rn_gp t lg kn sw s2 e g) := by
  by_cases c : g = s2
  · subst c
    rw [rn_x0 (s := g) (Nat.le_refl _), show rn_gp t lg kn sw g e g = 0 by rw [rn_gp, if_neg (by omega)]]
    omega
  · obtain ⟨d, rfl⟩ : ∃ d, g = s2 + d + 1 := ⟨g - s2 - 1, by omega⟩
    have h5 := rn_word (lg := lg) (w := w) (kn := kn) (sw := sw) hs h0 hl h3 h4 d (by omega)
    have h6 : rn_gp t lg kn sw s to (s2 + d + 1) = rn_gp t lg kn sw s2 e (s2 + d + 1) := by
      have l2 : t (s2 + d + 1 - 1) < 10 := hl _ (by omega) (by omega)
      rw [rn_gp, rn_gp, if_pos (show s < s2 + d + 1 by omega), if_pos (show s2 < s2 + d + 1 by omega), if_pos l2, if_pos l2, sh_fe_w hs h0 (by omega) (by omega) h3 h4, sh_fe_w hs h0 (by omega) (by omega) h3 h4]
    rw [h5, h6]
    omega
theorem sh_hd_w {s2 e i : Nat} (hs : s ≤ s2) (h0 : s2 = s ∨ ¬ t (s2 - 1) < 10) (h1 : s2 ≤ i) : sh_hd t lg s i = sh_hd t lg s2 i := by
  obtain ⟨d, rfl⟩ : ∃ d, i = s2 + d := ⟨i - s2, by omega⟩
  clear h1
  induction d with
  | zero =>
    have j1 : sh_jn t lg s s2 = false := by rw [sh_jn_w hs h0 (Nat.le_refl _)]; exact sh_jn_0 (Nat.le_refl _)
    rw [Nat.add_zero, sh_hd_n j1, sh_hd_n (sh_jn_0 (Nat.le_refl _))]
  | succ d ih =>
    show sh_hd t lg s (s2 + d + 1) = sh_hd t lg s2 (s2 + d + 1)
    rw [sh_hd, sh_hd, ih, sh_jn_w hs h0 (by omega)]
end
/-- the word about letter i within a line -/
def wl_ok (t : Nat → Nat) (r : lt_R) (i s2 e2 : Nat) : Prop := r.1 ≤ s2 ∧ s2 ≤ i ∧ i < e2 ∧ e2 ≤ r.2.1 ∧ (∀ j, s2 ≤ j → j < e2 → t j < 10) ∧ (s2 = r.1 ∨ ¬ t (s2 - 1) < 10) ∧ (e2 = r.2.1 ∨ ¬ t e2 < 10)
section
variable {n lc pc fw rw fl sw ss sk ba hyc ph : Nat} {t w lg : Nat → Nat} {kn : Nat → Int}
variable {P pa pb pq pd : Nat → Nat} {k lnc : Nat} {Λ : lt_T}
variable {x_breakCount x_lineCount x_paragraphCount x_stale : Int32} {a_patterns a_heads a_glyphs a_breakEnd a_breakNext a_breakHyphen a_breakTaken a_wayBefore a_lineFacts : Nat → Int32} {a_wayDemerits a_paragraphDemerits : Nat → Int64}
variable {y_ready y_glyphCount y_breaks y_natural y_spaces y_lineCount y_paragraphs : Int32} {b_patA b_patB b_patC b_patDigits b_glyphs b_glyphOf b_bEnd b_bNext b_bHyphen b_before b_way b_lFrom b_lTo b_lNumber b_lParagraph b_lPage b_lHyphen b_lLast : Nat → Int32} {b_least b_best : Nat → Int64}
theorem gl_x {post : Int32 → SX → Prop} {i : Nat} (C : cf_ok t w lg kn n fw rw fl sw ss sk ba hyc ph) (hl : lnc ≤ 48) (hi : i < n) (hli : t i < 10) (V : ∀ q, q < lnc → lt_val t n (Λ q)) (cov : ∃ q, q < lnc ∧ (Λ q).1 ≤ i ∧ i < (Λ q).2.1) (X : (xl_ok t lg w kn sw ss sk fw rw fl) lnc Λ a_lineFacts)
    (hp : ∀ q a_heads a_glyphs, q < lnc → (Λ q).1 ≤ i → i < (Λ q).2.1 → (∀ j, j < q → ¬ ((Λ j).1 ≤ i ∧ i < (Λ j).2.1)) → xs_ok t lg (Λ q).1 (Λ q).2.1 a_heads a_glyphs → post (nI q) ((nI n), (nI lc), (nI pc), (nI fw), (nI rw), (nI fl), (nI sw), (nI ss), (nI sk), (nI ba), (nI hyc), (nI ph), x_breakCount, (nI lnc), x_paragraphCount, x_stale, (gd_tI t), (gd_tI w), (gd_lI lg), (gd_kI kn), a_patterns, a_heads, a_glyphs, a_breakEnd, a_breakNext, a_breakHyphen, a_breakTaken, a_wayDemerits, a_wayBefore, a_lineFacts, a_paragraphDemerits)) : wpX_shapeLineAt post ((nI n), (nI lc), (nI pc), (nI fw), (nI rw), (nI fl), (nI sw), (nI ss), (nI sk), (nI ba), (nI hyc), (nI ph), x_breakCount, (nI lnc), x_paragraphCount, x_stale, (gd_tI t), (gd_tI w), (gd_lI lg), (gd_kI kn), a_patterns, a_heads, a_glyphs, a_breakEnd, a_breakNext, a_breakHyphen, a_breakTaken, a_wayDemerits, a_wayBefore, a_lineFacts, a_paragraphDemerits) (nI i) := by
  have hn := C.1
  have ht := C.2.1
  have loop : ∀ d q, q + d = lnc → (∀ j, j < q → ¬ ((Λ j).1 ≤ i ∧ i < (Λ j).2.1)) → wX_shapeLineAt_27 post (nI i) (nI n) (nI lc) (nI pc) (nI fw) (nI rw) (nI fl) (nI sw) (nI ss) (nI sk) (nI ba) (nI hyc) (nI ph) x_breakCount (nI lnc) x_paragraphCount x_stale (gd_tI t) (gd_tI w) (gd_lI lg) (gd_kI kn) a_patterns a_heads a_glyphs a_breakEnd a_breakNext a_breakHyphen a_breakTaken a_wayDemerits a_wayBefore a_lineFacts a_paragraphDemerits (d + 1) (nI q) := by
    intro d
    induction d with
    | zero =>
      intro q hq hno
      obtain ⟨j, a, b, c⟩ := cov
      exact absurd ⟨b, c⟩ (hno j (by omega))
    | succ d ih =>
      intro q hq hno
      obtain ⟨f0, f1, _⟩ := X q (by omega)
      obtain ⟨w1, w2, w3, w4, w5, w6⟩ := V q (by omega)
      have e0 : nI q * 8 + 0 = nI (8 * q + 0) := by rw [show (8 : Int32) = nI 8 from rfl, show (0 : Int32) = nI 0 from rfl, pk_mul, nI_add, Nat.mul_comm]
      have e1 : nI q * 8 + 1 = nI (8 * q + 1) := by rw [show (8 : Int32) = nI 8 from rfl, pk_mul, nI_1, Nat.mul_comm]
      have next : ¬ ((Λ q).1 ≤ i ∧ i < (Λ q).2.1) → wX_shapeLineAt_27 post (nI i) (nI n) (nI lc) (nI pc) (nI fw) (nI rw) (nI fl) (nI sw) (nI ss) (nI sk) (nI ba) (nI hyc) (nI ph) x_breakCount (nI lnc) x_paragraphCount x_stale (gd_tI t) (gd_tI w) (gd_lI lg) (gd_kI kn) a_patterns a_heads a_glyphs a_breakEnd a_breakNext a_breakHyphen a_breakTaken a_wayDemerits a_wayBefore a_lineFacts a_paragraphDemerits (d + 1) (nI (q + 1)) := by
        intro h
        refine ih (q + 1) (by omega) (fun j hj => ?_)
        by_cases z : j = q
        · rw [z]; exact h
        · exact hno j (by omega)
      refine br_f (nI_ge (by omega) (by omega)) ⟨pk_in (8 * q + 0) 384 (by omega) e0, nm_r (e' := nI (Λ q).1) (by rw [e0, nI_clamp (by omega), f0]) ⟨pk_in (8 * q + 1) 384 (by omega) e1, nm_r (e' := nI (Λ q).2.1) (by rw [e1, nI_clamp (by omega), f1]) ?_⟩⟩
      refine pk_lt i (Λ q).1 (fun y => nm_r (nI_1 q) (next (by omega))) (fun y => pk_le (Λ q).2.1 i (fun y2 => nm_r (nI_1 q) (next (by omega))) (fun y2 => ?_))
      exact xs_shape (by omega) (by omega) ht (fun a_heads a_glyphs hok => hp q _ _ (by omega) y y2 hno hok)
  refine br_f (nI_pos (by omega)) (br_f (nI_ge (by omega) (by omega)) ⟨vp_in_nI (by omega) (by omega), pk_lt (t i) 10 (fun _ => ⟨lnc + 1, loop lnc 0 (by omega) (fun j hj => absurd hj (by omega))⟩) (fun y => absurd y (by omega)) (gd_rt (by omega)) rfl (by omega) (by omega)⟩)
theorem gl_xn {post : Int32 → SX → Prop} {x : Int32} (hn : n ≤ 48) (ht : ∀ i, t i ≤ 11) (h : ∀ i, i < n → t i < 10 → x ≠ nI i) (hp : post (-1) ((nI n), (nI lc), (nI pc), (nI fw), (nI rw), (nI fl), (nI sw), (nI ss), (nI sk), (nI ba), (nI hyc), (nI ph), x_breakCount, x_lineCount, x_paragraphCount, x_stale, (gd_tI t), (gd_tI w), (gd_lI lg), (gd_kI kn), a_patterns, a_heads, a_glyphs, a_breakEnd, a_breakNext, a_breakHyphen, a_breakTaken, a_wayDemerits, a_wayBefore, a_lineFacts, a_paragraphDemerits)) : wpX_shapeLineAt post ((nI n), (nI lc), (nI pc), (nI fw), (nI rw), (nI fl), (nI sw), (nI ss), (nI sk), (nI ba), (nI hyc), (nI ph), x_breakCount, x_lineCount, x_paragraphCount, x_stale, (gd_tI t), (gd_tI w), (gd_lI lg), (gd_kI kn), a_patterns, a_heads, a_glyphs, a_breakEnd, a_breakNext, a_breakHyphen, a_breakTaken, a_wayDemerits, a_wayBefore, a_lineFacts, a_paragraphDemerits) x := by
  refine br_c (fun _ => hp) (fun z => ?_)
  obtain ⟨i, hi, rfl⟩ := nI_of z
  refine pk_le n i (fun _ => hp) (fun y => ⟨vp_in_nI (by omega) (by omega), pk_lt (t i) 10 (fun y2 => absurd rfl (h i y y2)) (fun _ => hp) (gd_rt (by omega)) rfl (by have := ht i; omega) (by omega)⟩)
theorem gl_yn {post : Int32 → Prop} {x : Int32} (hn : n ≤ 48) (ht : ∀ i, t i ≤ 11) (h : ∀ i, i < n → t i < 10 → x ≠ nI i) (hp : post 0) : wpY_isLetter post ((nI n), (nI lc), (nI pc), (nI fw), (nI rw), (nI fl), (nI sw), (nI ss), (nI sk), (nI ba), (nI hyc), (nI ph), y_ready, y_glyphCount, y_breaks, y_natural, y_spaces, y_lineCount, y_paragraphs, (gd_tI t), (gd_tI w), (gd_lI lg), (gd_kI kn), b_patA, b_patB, b_patC, b_patDigits, b_glyphs, b_glyphOf, b_bEnd, b_bNext, b_bHyphen, b_least, b_before, b_way, b_lFrom, b_lTo, b_lNumber, b_lParagraph, b_lPage, b_lHyphen, b_lLast, b_best) x := by
  by_cases z : x < 0
  · exact yl_neg z hp
  · obtain ⟨i, hi, rfl⟩ := nI_of z
    refine yl_is hn hi ht ?_
    rw [decide_eq_false (fun q => absurd rfl (h i q.1 q.2))]
    exact hp
theorem gl_yl {post : Int32 → Prop} {i q : Nat} (hl : lnc ≤ 48) (hi : i < 2 ^ 31) (hq : q < lnc) (V : ∀ q, q < lnc → lt_val t n (Λ q)) (hn : n ≤ 48) (Y : yl_ok lnc Λ b_lFrom b_lTo b_lNumber b_lParagraph b_lHyphen b_lLast) (h1 : (Λ q).1 ≤ i) (h2 : i < (Λ q).2.1) (hno : ∀ j, j < q → ¬ ((Λ j).1 ≤ i ∧ i < (Λ j).2.1)) (hp : post (nI q)) : wpY_lineOf post ((nI n), (nI lc), (nI pc), (nI fw), (nI rw), (nI fl), (nI sw), (nI ss), (nI sk), (nI ba), (nI hyc), (nI ph), y_ready, y_glyphCount, y_breaks, y_natural, y_spaces, (nI lnc), y_paragraphs, (gd_tI t), (gd_tI w), (gd_lI lg), (gd_kI kn), b_patA, b_patB, b_patC, b_patDigits, b_glyphs, b_glyphOf, b_bEnd, b_bNext, b_bHyphen, b_least, b_before, b_way, b_lFrom, b_lTo, b_lNumber, b_lParagraph, b_lPage, b_lHyphen, b_lLast, b_best) (nI i) := by
  have loop : ∀ d j, j + d = q → wY_lineOf_2 post (nI i) (nI n) (nI lc) (nI pc) (nI fw) (nI rw) (nI fl) (nI sw) (nI ss) (nI sk) (nI ba) (nI hyc) (nI ph) y_ready y_glyphCount y_breaks y_natural y_spaces (nI lnc) y_paragraphs (gd_tI t) (gd_tI w) (gd_lI lg) (gd_kI kn) b_patA b_patB b_patC b_patDigits b_glyphs b_glyphOf b_bEnd b_bNext b_bHyphen b_least b_before b_way b_lFrom b_lTo b_lNumber b_lParagraph b_lPage b_lHyphen b_lLast b_best (d + 1) (nI j) := by
    intro d
    induction d with
    | zero =>
      intro j hj
      have : j = q := by omega
      subst this
      obtain ⟨r1, r2, _⟩ := Y j hq
      obtain ⟨w1, w2, _⟩ := V j hq
      have vi : vp_in (nI j) 48 := vp_in_nI (by omega) (by omega)
      refine br_f (nI_ge (by omega) (by omega)) ⟨vi, pk_lt i (Λ j).1 (fun y => absurd y (by omega)) (fun y => ⟨vi, pk_le (Λ j).2.1 i (fun y => absurd y (by omega)) (fun y => hp) (by rw [nI_clamp (by omega), r2]) rfl (by omega) hi⟩) rfl (by rw [nI_clamp (by omega), r1]) hi (by omega)⟩
    | succ d ih =>
      intro j hj
      obtain ⟨r1, r2, _⟩ := Y j (by omega)
      obtain ⟨w1, w2, _⟩ := V j (by omega)
      have vi : vp_in (nI j) 48 := vp_in_nI (by omega) (by omega)
      refine br_f (nI_ge (by omega) (by omega)) ⟨vi, pk_lt i (Λ j).1 (fun y => nm_r (nI_1 j) (ih (j + 1) (by omega))) (fun y => ⟨vi, pk_le (Λ j).2.1 i (fun y2 => nm_r (nI_1 j) (ih (j + 1) (by omega))) (fun y2 => absurd ⟨y, y2⟩ (hno j (by omega))) (by rw [nI_clamp (by omega), r2]) rfl (by omega) hi⟩) rfl (by rw [nI_clamp (by omega), r1]) hi (by omega)⟩
  exact ⟨q + 1, loop q 0 (by omega)⟩
theorem gl_ys {post : Int32 → SY → Prop} {i q : Nat} (C : cf_ok t w lg kn n fw rw fl sw ss sk ba hyc ph) (hl : lnc ≤ 48) (hi : i < n) (hli : t i < 10) (hq : q < lnc) (V : lt_val t n (Λ q)) (Y : yl_ok lnc Λ b_lFrom b_lTo b_lNumber b_lParagraph b_lHyphen b_lLast) (h1 : (Λ q).1 ≤ i) (h2 : i < (Λ q).2.1)
    (hp : ∀ s2 e2 y_glyphCount b_glyphs b_glyphOf, wl_ok t (Λ q) i s2 e2 → ys_ok t lg s2 e2 b_glyphs b_glyphOf → post (nI s2) ((nI n), (nI lc), (nI pc), (nI fw), (nI rw), (nI fl), (nI sw), (nI ss), (nI sk), (nI ba), (nI hyc), (nI ph), y_ready, y_glyphCount, y_breaks, y_natural, y_spaces, y_lineCount, y_paragraphs, (gd_tI t), (gd_tI w), (gd_lI lg), (gd_kI kn), b_patA, b_patB, b_patC, b_patDigits, b_glyphs, b_glyphOf, b_bEnd, b_bNext, b_bHyphen, b_least, b_before, b_way, b_lFrom, b_lTo, b_lNumber, b_lParagraph, b_lPage, b_lHyphen, b_lLast, b_best)) : wpY_shapeAt post ((nI n), (nI lc), (nI pc), (nI fw), (nI rw), (nI fl), (nI sw), (nI ss), (nI sk), (nI ba), (nI hyc), (nI ph), y_ready, y_glyphCount, y_breaks, y_natural, y_spaces, y_lineCount, y_paragraphs, (gd_tI t), (gd_tI w), (gd_lI lg), (gd_kI kn), b_patA, b_patB, b_patC, b_patDigits, b_glyphs, b_glyphOf, b_bEnd, b_bNext, b_bHyphen, b_least, b_before, b_way, b_lFrom, b_lTo, b_lNumber, b_lParagraph, b_lPage, b_lHyphen, b_lLast, b_best) (nI q) (nI i) := by
  have hn := C.1
  have ht := C.2.1
  obtain ⟨r1, r2, _⟩ := Y q hq
  obtain ⟨w1, w2, w3, w4, w5, w6⟩ := V
  obtain ⟨a1, a2, a3⟩ := wd_s_ok (t := t) (n := n) i
  obtain ⟨b1, b2, b3⟩ := wd_E_ok (t := t) (n := n) i
  have b4 := wd_E_ge (t := t) (n := n) ⟨hi, hli⟩
  have b5 := wd_E_le (t := t) (show i ≤ n by omega)
  have vi : vp_in (nI q) 48 := vp_in_nI (by omega) (by omega)
  have cl : (nI q).toNatClampNeg = q := nI_clamp (by omega)
  have fin : ∀ s2 e2, wl_ok t (Λ q) i s2 e2 → wY_shapeAt_49 post (nI s2) (nI e2) (nI n) (nI lc) (nI pc) (nI fw) (nI rw) (nI fl) (nI sw) (nI ss) (nI sk) (nI ba) (nI hyc) (nI ph) y_ready y_glyphCount y_breaks y_natural y_spaces y_lineCount y_paragraphs (gd_tI t) (gd_tI w) (gd_lI lg) (gd_kI kn) b_patA b_patB b_patC b_patDigits b_glyphs b_glyphOf b_bEnd b_bNext b_bHyphen b_least b_before b_way b_lFrom b_lTo b_lNumber b_lParagraph b_lPage b_lHyphen b_lLast b_best := by
    intro s2 e2 h
    obtain ⟨g1, g2, g3, g4, g5, g6, g7⟩ := id h
    unfold wY_shapeAt_49
    exact ys_shape (by omega) (by omega) ht g5 (fun b_glyphs b_glyphOf hok => hp s2 e2 _ _ _ h hok)
  have st2 : ∀ s2, (Λ q).1 ≤ s2 → s2 ≤ i → (∀ j, s2 ≤ j → j < i → t j < 10) → (s2 = (Λ q).1 ∨ ¬ t (s2 - 1) < 10) → wY_shapeAt_23 post (nI q) (nI i) (nI s2) (nI n) (nI lc) (nI pc) (nI fw) (nI rw) (nI fl) (nI sw) (nI ss) (nI sk) (nI ba) (nI hyc) (nI ph) y_ready y_glyphCount y_breaks y_natural y_spaces y_lineCount y_paragraphs (gd_tI t) (gd_tI w) (gd_lI lg) (gd_kI kn) b_patA b_patB b_patC b_patDigits b_glyphs b_glyphOf b_bEnd b_bNext b_bHyphen b_least b_before b_way b_lFrom b_lTo b_lNumber b_lParagraph b_lPage b_lHyphen b_lLast b_best := by
    intro s2 c1 c2 c3 c4
    have lets : ∀ j, s2 ≤ j → j < wd_E t n i → t j < 10 := by
      intro j x y
      rcases Nat.lt_or_ge j i with z | z
      · exact c3 j x z
      · exact (b2 j z y).2
    unfold wY_shapeAt_23
    refine yl_end hn (by omega) ht ⟨vi, pk_le (wd_E t n i) (Λ q).2.1 (fun y => fin s2 _ ⟨c1, c2, b4, y, lets, c4, ?_⟩) (fun y => ⟨vi, nm_r (e' := nI (Λ q).2.1) (by rw [cl, r2]) (fin s2 _ ⟨c1, c2, h2, Nat.le_refl _, fun j x z => lets j x (by omega), c4, Or.inl rfl⟩)⟩) rfl (by rw [cl, r2]) (by omega) (by omega)⟩
    rcases Nat.lt_or_ge (wd_E t n i) (Λ q).2.1 with z | z
    · exact Or.inr (fun x => b3 ⟨by omega, x⟩)
    · exact Or.inl (by omega)
  unfold wpY_shapeAt
  refine yl_start hn (by omega) ht ⟨vi, pk_le (Λ q).1 (wd_s t n i) (fun y => st2 _ y a1 (fun j x z => (a2 j x z).2) ?_) (fun y => ⟨vi, nm_r (e' := nI (Λ q).1) (by rw [cl, r1]) (st2 _ (Nat.le_refl _) h1 (fun j x z => (a2 j (by omega) z).2) (Or.inl rfl))⟩) (by rw [cl, r1]) rfl (by omega) (by omega)⟩
  rcases a3 with a3 | a3
  · left; omega
  · exact Or.inr (fun x => a3 ⟨by omega, x⟩)
end
theorem i_vc_glyph {k : Nat} {u : SX} {v : SY} (I : i_Rel k u v) (hk : k + 5 ≤ 2560) (v1 : Int32) : wpX_glyph (fun r u' => wpY_glyph (fun r' v' => r' = r ∧ i_Rel (k + 5) u' v') v v1) u v1 := by
  refine rl_elim (Q := fun u v => wpX_glyph (fun r u' => wpY_glyph (fun r' v' => r' = r ∧ i_Rel (k + 5) u' v') v v1) u v1) I ?_
  intro n lc pc fw rw fl sw ss sk ba hyc ph t w lg kn P pa pb pq pd x_breakCount x_lineCount x_paragraphCount x_stale a_heads a_glyphs a_breakEnd a_breakNext a_breakHyphen a_breakTaken a_wayDemerits a_wayBefore a_lineFacts a_paragraphDemerits y_ready y_glyphCount y_breaks y_natural y_spaces y_lineCount y_paragraphs b_patA b_patB b_patC b_patDigits b_glyphs b_glyphOf b_bEnd b_bNext b_bHyphen b_least b_before b_way b_lFrom b_lTo b_lNumber b_lParagraph b_lPage b_lHyphen b_lLast b_best B
  obtain ⟨C, L, R, F⟩ := id B
  have hn := C.1
  obtain ⟨e1, e2, e3, e4, e5⟩ := ly_end (P := P) C
  unfold wpX_glyph
  refine lo_x B (fun x_breakCount x_lineCount x_paragraphCount a_heads a_glyphs a_breakEnd a_breakNext a_breakHyphen a_breakTaken a_wayDemerits a_wayBefore a_lineFacts a_paragraphDemerits rx => ?_)
  by_cases h : ∃ i, i < n ∧ t i < 10 ∧ v1 = nI i
  · obtain ⟨i, hi, hli, rfl⟩ := h
    have rx' := rx
    obtain ⟨x1, x2, x3, x4⟩ := rx
    subst x1
    refine gl_x C e1 hi hli e3 (e5 i hi hli) x3.1 (fun q a_heads a_glyphs hq h1 h2 hno hok => ?_)
    have V := e3 q hq
    have hd := sh_hd_le (t := t) (lg := lg) (s := ((ly_at t w lg kn P n sw ss sk fw rw fl ba hyc (n + 1)).1.1 q).1) i
    obtain ⟨o1, o2⟩ := hok i h1 h2 hli
    refine br_f (gd_nm1 (by omega)) ⟨vp_in_nI (by omega) (by omega), pk_in (sh_hd t lg ((ly_at t w lg kn P n sw ss sk fw rw fl ba hyc (n + 1)).1.1 q).1 i) 48 (by omega) (by rw [nI_clamp (by omega), o1]), ?_⟩
    rw [nI_clamp (show i < 2 ^ 31 by omega), o1, nI_clamp (show sh_hd t lg ((ly_at t w lg kn P n sw ss sk fw rw fl ba hyc (n + 1)).1.1 q).1 i < 2 ^ 31 by omega), o2]
    unfold wpY_glyph
    refine lo_y B (fun y_glyphCount y_breaks y_natural y_spaces y_lineCount y_paragraphs b_glyphs b_glyphOf b_bEnd b_bNext b_bHyphen b_least b_before b_way b_lFrom b_lTo b_lNumber b_lParagraph b_lPage b_lHyphen b_lLast b_best ry => ?_)
    have ry' := ry
    obtain ⟨y1, y2, y3, y4⟩ := ry
    subst y1
    refine yl_is hn (by omega) C.2.1 ?_
    rw [decide_eq_true ⟨hi, hli⟩]
    refine br_f (by decide) (gl_yl e1 (by omega) hq e3 hn y3.1 h1 h2 hno (gl_ys C e1 hi hli hq V y3.1 h1 h2 (fun s2 e2' y_glyphCount b_glyphs b_glyphOf hw hok2 => ?_)))
    obtain ⟨g1, g2, g3, g4, g5, g6, g7⟩ := hw
    have V2 := V.2.1
    obtain ⟨p1, p2⟩ := hok2 i g2 g3
    have ho := sh_od_le (t := t) (lg := lg) (s := s2) (i := i) g2
    refine ⟨vp_in_nI (by omega) (by omega), pk_in (sh_od t lg s2 i) 48 (by omega) (by rw [nI_clamp (by omega), p1]), ?_, rl_set C L R (by omega) rx' ry'⟩
    rw [nI_clamp (show i < 2 ^ 31 by omega), p1, nI_clamp (show sh_od t lg s2 i < 2 ^ 31 by omega), p2, sh_fe_w g1 g6 g2 g3 g4 g7]
  · have h' : ∀ i, i < n → t i < 10 → v1 ≠ nI i := fun i a b c => h ⟨i, a, b, c⟩
    refine gl_xn hn C.2.1 h' (br_t rfl ?_)
    unfold wpY_glyph
    refine lo_y B (fun y_glyphCount y_breaks y_natural y_spaces y_lineCount y_paragraphs b_glyphs b_glyphOf b_bEnd b_bNext b_bHyphen b_least b_before b_way b_lFrom b_lTo b_lNumber b_lParagraph b_lPage b_lHyphen b_lLast b_best ry => ?_)
    exact gl_yn hn C.2.1 h' (br_t rfl ⟨rfl, rl_set C L R (by omega) rx ry⟩)
end
section
section
variable {n lc pc fw rw fl sw ss sk ba hyc ph : Nat} {t w lg : Nat → Nat} {kn : Nat → Int}
variable {P pa pb pq pd : Nat → Nat} {k lnc : Nat} {Λ : lt_T}
variable {x_breakCount x_lineCount x_paragraphCount x_stale : Int32} {a_patterns a_heads a_glyphs a_breakEnd a_breakNext a_breakHyphen a_breakTaken a_wayBefore a_lineFacts : Nat → Int32} {a_wayDemerits a_paragraphDemerits : Nat → Int64}
variable {y_ready y_glyphCount y_breaks y_natural y_spaces y_lineCount y_paragraphs : Int32} {b_patA b_patB b_patC b_patDigits b_glyphs b_glyphOf b_bEnd b_bNext b_bHyphen b_before b_way b_lFrom b_lTo b_lNumber b_lParagraph b_lPage b_lHyphen b_lLast : Nat → Int32} {b_least b_best : Nat → Int64}
theorem po_sum (post : Int32 → SY → Prop) {i q s2 e2 : Nat} {x4 x5 : Int32} (r : lt_R) (hi : i < 48) (he2 : e2 ≤ 48) (hw : wl_ok t r i s2 e2) (hok : ys_ok t lg s2 e2 b_glyphs b_glyphOf)
    (hp : ∀ F, wY_position_93 post (nI i) (nI q) x4 x5 (nI s2) (nI n) (nI lc) (nI pc) (nI fw) (nI rw) (nI fl) (nI sw) (nI ss) (nI sk) (nI ba) (nI hyc) (nI ph) y_ready y_glyphCount y_breaks y_natural y_spaces y_lineCount y_paragraphs (gd_tI t) (gd_tI w) (gd_lI lg) (gd_kI kn) b_patA b_patB b_patC b_patDigits b_glyphs b_glyphOf b_bEnd b_bNext b_bHyphen b_least b_before b_way b_lFrom b_lTo b_lNumber b_lParagraph b_lPage b_lHyphen b_lLast b_best (F + 1) (gd_iI (rn_x t lg w kn sw s2 e2 (sh_hd t lg s2 i) + rn_gp t lg kn sw s2 e2 (sh_hd t lg s2 i))) (nI (sh_od t lg s2 i))) :
    ∀ F h x7, i - h < F → s2 ≤ h → h ≤ i → sh_jn t lg s2 h = false → x7 = gd_iI (rn_x t lg w kn sw s2 e2 h + rn_gp t lg kn sw s2 e2 h) → wY_position_93 post (nI i) (nI q) x4 x5 (nI s2) (nI n) (nI lc) (nI pc) (nI fw) (nI rw) (nI fl) (nI sw) (nI ss) (nI sk) (nI ba) (nI hyc) (nI ph) y_ready y_glyphCount y_breaks y_natural y_spaces y_lineCount y_paragraphs (gd_tI t) (gd_tI w) (gd_lI lg) (gd_kI kn) b_patA b_patB b_patC b_patDigits b_glyphs b_glyphOf b_bEnd b_bNext b_bHyphen b_least b_before b_way b_lFrom b_lTo b_lNumber b_lParagraph b_lPage b_lHyphen b_lLast b_best F x7 (nI (sh_od t lg s2 h)) := by
  obtain ⟨g1, g2, g3, g4, g5, g6, g7⟩ := hw
  intro F
  induction F with
  | zero => intro h x7 hF; omega
  | succ F ih =>
    intro h x7 hF hs hhi hj hx
    have mono := sh_od_mono (t := t) (lg := lg) (s := s2) hs hhi
    by_cases e : sh_od t lg s2 h = sh_od t lg s2 i
    · have hh := (sh_od_hd (t := t) (lg := lg) hs hhi).mp e
      rw [sh_hd_n hj] at hh
      have := hp F
      rw [← hh, ← e, ← hx] at this
      rw [e] at this ⊢
      exact this
    · have hoi := sh_od_le (t := t) (lg := lg) (s := s2) (i := i) g2
      obtain ⟨i1, a1, a2, a3, a4, a5⟩ := ys_next (t := t) (lg := lg) (w := w) (kn := kn) (sw := sw) g5 hs (e2 - (h + 1)) (h + 1) (by omega) (by omega) (by rw [show h + 1 - 1 = h by omega])
      have hi1 : i1 ≤ i := by
        rcases Nat.lt_or_ge i i1 with z | z
        · have := sh_od_mono (t := t) (lg := lg) (s := s2) (j := i) (i := i1 - 1) g2 (by omega)
          omega
        · exact z
      obtain ⟨b1, b2⟩ := a5 (by omega)
      have hlh := g5 h hs (by omega)
      have hli1 := g5 i1 (by omega) (by omega)
      have f1 : sh_fe t lg s2 e2 h < 10 := sh_fe_lt hlh
      have f2 : sh_fe t lg s2 e2 i1 < 10 := sh_fe_lt hli1
      have f3 : sh_fe t lg s2 e2 (i1 - 1) < 10 := sh_fe_lt (g5 (i1 - 1) (by omega) (by omega))
      have gh := (hok h hs (by omega)).2
      have gi1 := (hok i1 (by omega) (by omega)).2
      have gp1 := (hok (i1 - 1) (by omega) (by omega)).2
      have efe : sh_fe t lg s2 e2 (i1 - 1) = sh_fe t lg s2 e2 h := by
        rw [a4, gh] at gp1
        exact ((nI_eq (by omega) (by omega)).mp gp1).symm
      have r1 : b_glyphs (nI (sh_od t lg s2 h)).toNatClampNeg = nI (sh_fe t lg s2 e2 h) := by rw [nI_clamp (by omega), gh]
      have r2 : b_glyphs (nI (sh_od t lg s2 h) + 1).toNatClampNeg = nI (sh_fe t lg s2 e2 i1) := by rw [nI_1, nI_clamp (by omega), ← b1, gi1]
      have hv : 10 * b_glyphs (nI (sh_od t lg s2 h)).toNatClampNeg + b_glyphs (nI (sh_od t lg s2 h) + 1).toNatClampNeg = nI (10 * sh_fe t lg s2 e2 h + sh_fe t lg s2 e2 i1) := by
        rw [r1, r2, show (10 : Int32) = nI 10 from rfl, pk_mul, nI_add]
      have vo : vp_in (nI (sh_od t lg s2 h)) 48 := vp_in_nI (by omega) (by omega)
      have next := ih i1 (gd_iI (rn_x t lg w kn sw s2 e2 i1 + rn_gp t lg kn sw s2 e2 i1)) (by omega) (by omega) hi1 b2 rfl
      rw [b1] at next
      refine ⟨vp_in_nI (by omega) (by omega), br_f ?_ ⟨vo, pk_in _ 10 f1 r1, vo, pk_in (sh_od t lg s2 h + 1) 48 (by omega) (nI_1 _), pk_in _ 100 (by omega) hv, nm_r (e' := gd_iI (rn_x t lg w kn sw s2 e2 i1 + rn_gp t lg kn sw s2 e2 i1)) ?_ (nm_r (nI_1 _) next)⟩⟩
      · rw [nI_clamp (by omega), (hok i g2 g3).1]
        exact nI_ge (by omega) (by omega)
      · rw [hx, hv, r1, gd_rt (by omega), gd_rk (by omega), gd_nat, gd_add, gd_add]
        congr 1
        rw [a3, rn_xh hs hlh hj, show rn_gp t lg kn sw s2 e2 i1 = kn (10 * sh_fe t lg s2 e2 h + sh_fe t lg s2 e2 i1) by rw [rn_gp, if_pos (by omega), if_pos (g5 (i1 - 1) (by omega) (by omega)), efe]]
        omega
theorem po_y {post : Int32 → SY → Prop} {i q : Nat} {x5 : Int32} (C : cf_ok t w lg kn n fw rw fl sw ss sk ba hyc ph) (hl : lnc ≤ 48) (hi : i < n) (hli : t i < 10) (hq : q < lnc) (V : lt_val t n (Λ q)) (Y : yl_ok lnc Λ b_lFrom b_lTo b_lNumber b_lParagraph b_lHyphen b_lLast) (h1 : (Λ q).1 ≤ i) (h2 : i < (Λ q).2.1)
    (hp : ∀ y_glyphCount y_natural y_spaces b_glyphs b_glyphOf, post (gd_iI (rn_x t lg w kn sw (Λ q).1 (Λ q).2.1 (sh_hd t lg (Λ q).1 i) + rn_gp t lg kn sw (Λ q).1 (Λ q).2.1 (sh_hd t lg (Λ q).1 i)) + xr_adj x5 (nI (rn_sc t (Λ q).1 (Λ q).2.1)) (rn_sc t (Λ q).1 (sh_hd t lg (Λ q).1 i + 1))) ((nI n), (nI lc), (nI pc), (nI fw), (nI rw), (nI fl), (nI sw), (nI ss), (nI sk), (nI ba), (nI hyc), (nI ph), y_ready, y_glyphCount, y_breaks, y_natural, y_spaces, y_lineCount, y_paragraphs, (gd_tI t), (gd_tI w), (gd_lI lg), (gd_kI kn), b_patA, b_patB, b_patC, b_patDigits, b_glyphs, b_glyphOf, b_bEnd, b_bNext, b_bHyphen, b_least, b_before, b_way, b_lFrom, b_lTo, b_lNumber, b_lParagraph, b_lPage, b_lHyphen, b_lLast, b_best)) :
    wY_position_77 post (nI i) (nI q) (nI (rn_sc t (Λ q).1 (Λ q).2.1)) x5 (nI n) (nI lc) (nI pc) (nI fw) (nI rw) (nI fl) (nI sw) (nI ss) (nI sk) (nI ba) (nI hyc) (nI ph) y_ready y_glyphCount y_breaks y_natural y_spaces y_lineCount y_paragraphs (gd_tI t) (gd_tI w) (gd_lI lg) (gd_kI kn) b_patA b_patB b_patC b_patDigits b_glyphs b_glyphOf b_bEnd b_bNext b_bHyphen b_least b_before b_way b_lFrom b_lTo b_lNumber b_lParagraph b_lPage b_lHyphen b_lLast b_best := by
  have hn := C.1
  have ht := C.2.1
  unfold wY_position_77
  refine gl_ys C hl hi hli hq V Y h1 h2 (fun s2 e2 y_glyphCount b_glyphs b_glyphOf hw hok => ?_)
  obtain ⟨g1, g2, g3, g4, g5, g6, g7⟩ := id hw
  obtain ⟨w1, w2, w3, w4, w5, w6⟩ := V
  obtain ⟨r1, r2, _⟩ := Y q hq
  have vi : vp_in (nI q) 48 := vp_in_nI (by omega) (by omega)
  have cl : (nI q).toNatClampNeg = q := nI_clamp (by omega)
  have hhd : sh_hd t lg (Λ q).1 i = sh_hd t lg s2 i := sh_hd_w (e := e2) g1 g6 g2
  have hgl := sh_hd_le (t := t) (lg := lg) (s := s2) i
  have hgs := sh_hd_gs (t := t) (lg := lg) (s := s2) (i := i) g2
  rw [hhd] at hp
  have hpos := rn_pos (lg := lg) (w := w) (kn := kn) (sw := sw) (g := sh_hd t lg s2 i) g1 g6 g5 g4 g7 hgs (by omega)
  rw [hpos] at hp
  have hsw : rn_sc t (Λ q).1 (sh_hd t lg s2 i + 1) = rn_sc t (Λ q).1 (s2 + 1) := by
    have := rn_sword (t := t) (s := (Λ q).1) (i := s2) (sh_hd t lg s2 i - s2) (fun j a b => g5 j a (by omega))
    rw [show s2 + (sh_hd t lg s2 i - s2) + 1 = sh_hd t lg s2 i + 1 by omega] at this
    exact this
  rw [hsw] at hp
  have fin := fun F => po_sum (n := n) (lc := lc) (pc := pc) (fw := fw) (rw := rw) (fl := fl) (ss := ss) (sk := sk) (ba := ba) (hyc := hyc) (ph := ph) (w := w) (kn := kn) (sw := sw) (y_ready := y_ready) (y_glyphCount := y_glyphCount) (y_breaks := y_breaks) (y_natural := y_natural) (y_spaces := y_spaces) (y_lineCount := y_lineCount) (y_paragraphs := y_paragraphs) (b_patA := b_patA) (b_patB := b_patB) (b_patC := b_patC) (b_patDigits := b_patDigits) (b_bEnd := b_bEnd) (b_bNext := b_bNext) (b_bHyphen := b_bHyphen) (b_least := b_least) (b_before := b_before) (b_way := b_way) (b_lFrom := b_lFrom) (b_lTo := b_lTo) (b_lNumber := b_lNumber) (b_lParagraph := b_lParagraph) (b_lPage := b_lPage) (b_lHyphen := b_lHyphen) (b_lLast := b_lLast) (b_best := b_best) post (q := q) (x4 := nI (rn_sc t (Λ q).1 (Λ q).2.1)) (x5 := x5) (Λ q) (show i < 48 by omega) (show e2 ≤ 48 by omega) hw hok F (i - s2 + 1) s2 0 (by omega) (Nat.le_refl _) g2 (sh_jn_0 (Nat.le_refl _)) (by rw [rn_x0 (Nat.le_refl _), rn_gp, if_neg (by omega)]; rfl)
  rw [show sh_od t lg s2 s2 = 0 from sh_od_0 (Nat.le_refl _)] at fin
  refine ⟨_, fin (fun F => ?_)⟩
  refine ⟨vp_in_nI (by omega) (by omega), br_t ?_ ⟨vi, ?_⟩⟩
  · rw [nI_clamp (by omega), (hok i g2 g3).1]
    exact nI_le (Nat.le_refl _) (by have := sh_od_le (t := t) (lg := lg) (s := s2) (i := i) g2; omega)
  refine pk_eq s2 (Λ q).1 (fun e => ?_) (fun e => ?_) rfl (by rw [cl, r1]) (by omega) (by omega)
  · have h3 := hp y_glyphCount y_natural y_spaces b_glyphs b_glyphOf
    rw [show rn_x t lg w kn sw (Λ q).1 (Λ q).2.1 s2 = 0 from rn_x0 (by omega), show rn_gp t lg kn sw (Λ q).1 (Λ q).2.1 s2 = 0 by rw [rn_gp, if_neg (by omega)], rn_sc0 (i := s2 + 1) (by omega), xr_adj0, Int32.add_zero, Int.zero_add, Int.zero_add] at h3
    exact h3
  · have hnl : ¬ t (s2 - 1) < 10 := by
      rcases g6 with z | z
      · exact absurd z e
      · exact z
    have hls2 := g5 s2 (Nat.le_refl _) (by omega)
    have hgap : rn_gp t lg kn sw (Λ q).1 (Λ q).2.1 s2 = (sw : Int) := by rw [rn_gp, if_pos (by omega), if_neg hnl]
    have hcnt : 1 ≤ rn_sc t (Λ q).1 (Λ q).2.1 := by
      have a := rn_scy (t := t) (s := (Λ q).1) (i := s2) (by omega) hls2 hnl
      have b := rn_scm (t := t) (s := (Λ q).1) (i := s2 + 1) (j := (Λ q).2.1) (by omega)
      omega
    have hcle := rn_sc_le (t := t) (s := (Λ q).1) (Λ q).2.1
    have nz : ¬ nI (rn_sc t (Λ q).1 (Λ q).2.1) = 0 := nI_ne0 hcnt (by omega)
    have down : ∀ m, (Λ q).1 < m → m ≤ s2 → (∀ j, m ≤ j → j < s2 → ¬ t j < 10) → wY_position_171 post (nI q) (nI (rn_sc t (Λ q).1 (Λ q).2.1)) x5 (gd_iI (rn_x t lg w kn sw s2 e2 (sh_hd t lg s2 i) + rn_gp t lg kn sw s2 e2 (sh_hd t lg s2 i))) (nI n) (nI lc) (nI pc) (nI fw) (nI rw) (nI fl) (nI sw) (nI ss) (nI sk) (nI ba) (nI hyc) (nI ph) y_ready y_glyphCount y_breaks y_natural y_spaces y_lineCount y_paragraphs (gd_tI t) (gd_tI w) (gd_lI lg) (gd_kI kn) b_patA b_patB b_patC b_patDigits b_glyphs b_glyphOf b_bEnd b_bNext b_bHyphen b_least b_before b_way b_lFrom b_lTo b_lNumber b_lParagraph b_lPage b_lHyphen b_lLast b_best (m + 1) (nI m) := by
      intro m
      induction m with
      | zero => intro h; omega
      | succ m ih =>
        intro c1 c2 c3
        unfold wY_position_171
        rw [nI_pred]
        refine yl_is hn (by omega) ht (gd_bt (fun z => ?_) (fun z => ?_))
        · have z := of_decide_eq_false z
          have hm : ¬ t m < 10 := fun y => z ⟨by omega, y⟩
          have hmr : (Λ q).1 ≠ m := fun y => hm (by rw [← y]; exact w3)
          refine nm_r (pk_m1 m) (ih (by omega) (by omega) (fun j a b => ?_))
          by_cases y : j = m
          · rw [y]; exact hm
          · exact c3 j (by omega) b
        · have z := of_decide_eq_true z
          have hms : m + 1 < s2 := by
            rcases Nat.lt_or_ge (m + 1) s2 with y | y
            · exact y
            · have : m + 1 = s2 := by omega
              rw [← this, show m + 1 - 1 = m by omega] at hnl
              exact absurd z.2 hnl
          refine ⟨vi, ?_⟩
          rw [cl, r1]
          refine yk_walk hn (by omega) (by omega) ht w3 (fun j a b => w5 j a (by omega)) false (fun y_glyphCount b_glyphs b_glyphOf => ?_)
          have hxs : rn_x t lg w kn sw (Λ q).1 (Λ q).2.1 s2 = rn_x t lg w kn sw (Λ q).1 (m + 1) (m + 1) := by
            have a := rn_flat (t := t) (lg := lg) (w := w) (kn := kn) (sw := sw) (s := (Λ q).1) (e := (Λ q).2.1) (i := m + 1) (by omega) (s2 - (m + 1)) (fun j x y => c3 j x (by omega))
            rw [show m + 1 + (s2 - (m + 1)) = s2 by omega] at a
            rw [a, rn_trunc (e := m + 1) (by omega) (Or.inr (c3 (m + 1) (Nat.le_refl _) hms)) (m + 1) (Nat.le_refl _)]
          have hcs : rn_sc t (Λ q).1 (s2 + 1) = rn_sc t (Λ q).1 (m + 1) + 1 := by
            have a := rn_sflat (t := t) (s := (Λ q).1) (i := m + 1) (s2 - (m + 1)) (fun j x y => c3 j x (by omega))
            rw [show m + 1 + (s2 - (m + 1)) = s2 by omega] at a
            rw [rn_scy (by omega) hls2 hnl, a]
          refine nm_e (nm_e ⟨nz, ?_⟩)
          have h3 := hp y_glyphCount (gd_iI (rn_x t lg w kn sw (Λ q).1 (m + 1) (m + 1) + cond false 5 0)) (nI (rn_sc t (Λ q).1 (m + 1))) b_glyphs b_glyphOf
          rw [hgap, hxs, hcs, xr_adj, if_neg nz, ← nI_1, ← gd_add, ← gd_add, ← gd_nat] at h3
          have e5 : ∀ A B S D : Int32, A + (B + S) + D = B + S + A + D := by intro A B S D; grind
          rw [e5, show rn_x t lg w kn sw (Λ q).1 (m + 1) (m + 1) + cond false 5 0 = rn_x t lg w kn sw (Λ q).1 (m + 1) (m + 1) from Int.add_zero _] 
          rw [show rn_x t lg w kn sw (Λ q).1 (m + 1) (m + 1) + cond false 5 0 = rn_x t lg w kn sw (Λ q).1 (m + 1) (m + 1) from Int.add_zero _] at h3
          exact h3
    exact ⟨_, down s2 (by omega) (Nat.le_refl _) (fun j a b => absurd a (by omega))⟩
end
theorem i_vc_position {k : Nat} {u : SX} {v : SY} (I : i_Rel k u v) (hk : k + 5 ≤ 2560) (v1 : Int32) : wpX_position (fun r u' => wpY_position (fun r' v' => r' = r ∧ i_Rel (k + 5) u' v') v v1) u v1 := by
  refine rl_elim (Q := fun u v => wpX_position (fun r u' => wpY_position (fun r' v' => r' = r ∧ i_Rel (k + 5) u' v') v v1) u v1) I ?_
  intro n lc pc fw rw fl sw ss sk ba hyc ph t w lg kn P pa pb pq pd x_breakCount x_lineCount x_paragraphCount x_stale a_heads a_glyphs a_breakEnd a_breakNext a_breakHyphen a_breakTaken a_wayDemerits a_wayBefore a_lineFacts a_paragraphDemerits y_ready y_glyphCount y_breaks y_natural y_spaces y_lineCount y_paragraphs b_patA b_patB b_patC b_patDigits b_glyphs b_glyphOf b_bEnd b_bNext b_bHyphen b_least b_before b_way b_lFrom b_lTo b_lNumber b_lParagraph b_lPage b_lHyphen b_lLast b_best B
  obtain ⟨C, L, R, F⟩ := id B
  have hn := C.1
  have ht := C.2.1
  obtain ⟨e1, e2, e3, e4, e5⟩ := ly_end (P := P) C
  unfold wpX_position
  refine lo_x B (fun x_breakCount x_lineCount x_paragraphCount a_heads a_glyphs a_breakEnd a_breakNext a_breakHyphen a_breakTaken a_wayDemerits a_wayBefore a_lineFacts a_paragraphDemerits rx => ?_)
  by_cases h : ∃ i, i < n ∧ t i < 10 ∧ v1 = nI i
  · obtain ⟨i, hi, hli, rfl⟩ := h
    have rx' := rx
    obtain ⟨x1, x2, x3, x4⟩ := rx
    subst x1
    refine gl_x C e1 hi hli e3 (e5 i hi hli) x3.1 (fun q a_heads a_glyphs hq h1 h2 hno hok => ?_)
    have V := e3 q hq
    have V1 := V.1
    have V2 := V.2.1
    have hd := sh_hd_le (t := t) (lg := lg) (s := ((ly_at t w lg kn P n sw ss sk fw rw fl ba hyc (n + 1)).1.1 q).1) i
    have hgs := sh_hd_gs (t := t) (lg := lg) (s := ((ly_at t w lg kn P n sw ss sk fw rw fl ba hyc (n + 1)).1.1 q).1) h1
    obtain ⟨o1, o2⟩ := hok i h1 h2 hli
    obtain ⟨f0, f1, f2, f3, f4, f5, f7⟩ := x3.1 q hq
    have ix : ∀ c, c < 8 → nI (8 * q) + nI c = nI (8 * q + c) := fun c _ => nI_add _ _
    refine br_f (gd_nm1 (by omega)) (nm_r (e' := nI (8 * q)) (by rw [show (8 : Int32) = nI 8 from rfl, pk_mul, Nat.mul_comm]) ⟨pk_in (8 * q + 0) 384 (by omega) (ix 0 (by omega)), nm_r (e' := nI ((ly_at t w lg kn P n sw ss sk fw rw fl ba hyc (n + 1)).1.1 q).1) ?_ ⟨pk_in (8 * q + 1) 384 (by omega) (ix 1 (by omega)), nm_r (e' := nI ((ly_at t w lg kn P n sw ss sk fw rw fl ba hyc (n + 1)).1.1 q).2.1) ?_ ?_⟩⟩)
    · rw [show (0 : Int32) = nI 0 from rfl, ix 0 (by omega), nI_clamp (by omega), f0]
    · rw [show (1 : Int32) = nI 1 from rfl, ix 1 (by omega), nI_clamp (by omega), f1]
    refine xc_spaces V1 (by omega) ht ⟨vp_in_nI (by omega) (by omega), pk_in (8 * q + 7) 384 (by omega) (ix 7 (by omega)), ?_⟩
    have hF7 : a_lineFacts (nI (8 * q) + 7).toNatClampNeg = gd_iI (lt_ex t lg w kn sw sk fw rw fl ((ly_at t w lg kn P n sw ss sk fw rw fl ba hyc (n + 1)).1.1 q)) := by
      rw [show (7 : Int32) = nI 7 from rfl, ix 7 (by omega), nI_clamp (by omega), f7]
    rw [hF7, nI_clamp (show i < 2 ^ 31 by omega), o1]
    obtain ⟨l1, l2⟩ := sh_hd_l (t := t) (lg := lg) (s := ((ly_at t w lg kn P n sw ss sk fw rw fl ba hyc (n + 1)).1.1 q).1) hli
    refine xr_at hgs (by omega) (by omega) ht hok l1 l2 ?_
    unfold wpY_position
    refine lo_y B (fun y_glyphCount y_breaks y_natural y_spaces y_lineCount y_paragraphs b_glyphs b_glyphOf b_bEnd b_bNext b_bHyphen b_least b_before b_way b_lFrom b_lTo b_lNumber b_lParagraph b_lPage b_lHyphen b_lLast b_best ry => ?_)
    have ry' := ry
    obtain ⟨y1, y2, y3, y4⟩ := ry
    subst y1
    refine yl_is hn (by omega) ht ?_
    rw [decide_eq_true ⟨hi, hli⟩]
    refine br_f (by decide) (gl_yl e1 (by omega) hq e3 hn y3.1 h1 h2 hno (yd_diff C e1 hq V y3.1 (fun y_glyphCount b_glyphs b_glyphOf => ?_)))
    obtain ⟨r1, r2, r3, r4, r5, r6⟩ := y3.1 q hq
    have hdb := lt_dif_b (r := (ly_at t w lg kn P n sw ss sk fw rw fl ba hyc (n + 1)).1.1 q) C V2
    have hsc := rn_sc_le (t := t) (s := ((ly_at t w lg kn P n sw ss sk fw rw fl ba hyc (n + 1)).1.1 q).1) ((ly_at t w lg kn P n sw ss sk fw rw fl ba hyc (n + 1)).1.1 q).2.1
    have hsk := C.2.2.2.2.2.2.2.2.2.1
    have hmul : rn_sc t ((ly_at t w lg kn P n sw ss sk fw rw fl ba hyc (n + 1)).1.1 q).1 ((ly_at t w lg kn P n sw ss sk fw rw fl ba hyc (n + 1)).1.1 q).2.1 * sk ≤ 48 * 20 := Nat.mul_le_mul (by omega) hsk
    have eneg : -(nI (rn_sc t ((ly_at t w lg kn P n sw ss sk fw rw fl ba hyc (n + 1)).1.1 q).1 ((ly_at t w lg kn P n sw ss sk fw rw fl ba hyc (n + 1)).1.1 q).2.1)) * nI sk = gd_iI (-((rn_sc t ((ly_at t w lg kn P n sw ss sk fw rw fl ba hyc (n + 1)).1.1 q).1 ((ly_at t w lg kn P n sw ss sk fw rw fl ba hyc (n + 1)).1.1 q).2.1 * sk : Nat) : Int)) := by
      rw [← gd_neg, ← gd_nat, ← pk_mul]; grind
    have go : ∀ z0 y_natural, z0 = gd_iI (lt_ex t lg w kn sw sk fw rw fl ((ly_at t w lg kn P n sw ss sk fw rw fl ba hyc (n + 1)).1.1 q)) → wY_position_77 (fun r' v' => r' = gd_iI (rn_x t lg w kn sw ((ly_at t w lg kn P n sw ss sk fw rw fl ba hyc (n + 1)).1.1 q).1 ((ly_at t w lg kn P n sw ss sk fw rw fl ba hyc (n + 1)).1.1 q).2.1 (sh_hd t lg ((ly_at t w lg kn P n sw ss sk fw rw fl ba hyc (n + 1)).1.1 q).1 i) + rn_gp t lg kn sw ((ly_at t w lg kn P n sw ss sk fw rw fl ba hyc (n + 1)).1.1 q).1 ((ly_at t w lg kn P n sw ss sk fw rw fl ba hyc (n + 1)).1.1 q).2.1 (sh_hd t lg ((ly_at t w lg kn P n sw ss sk fw rw fl ba hyc (n + 1)).1.1 q).1 i)) + xr_adj (gd_iI (lt_ex t lg w kn sw sk fw rw fl ((ly_at t w lg kn P n sw ss sk fw rw fl ba hyc (n + 1)).1.1 q))) (nI (rn_sc t ((ly_at t w lg kn P n sw ss sk fw rw fl ba hyc (n + 1)).1.1 q).1 ((ly_at t w lg kn P n sw ss sk fw rw fl ba hyc (n + 1)).1.1 q).2.1)) (rn_sc t ((ly_at t w lg kn P n sw ss sk fw rw fl ba hyc (n + 1)).1.1 q).1 (sh_hd t lg ((ly_at t w lg kn P n sw ss sk fw rw fl ba hyc (n + 1)).1.1 q).1 i + 1)) ∧ i_Rel (k + 5) ((nI n), (nI lc), (nI pc), (nI fw), (nI rw), (nI fl), (nI sw), (nI ss), (nI sk), (nI ba), (nI hyc), (nI ph), x_breakCount, (nI (ly_at t w lg kn P n sw ss sk fw rw fl ba hyc (n + 1)).1.2.1), x_paragraphCount, 0, (gd_tI t), (gd_tI w), (gd_lI lg), (gd_kI kn), (gd_tI P), a_heads, a_glyphs, a_breakEnd, a_breakNext, a_breakHyphen, a_breakTaken, a_wayDemerits, a_wayBefore, a_lineFacts, a_paragraphDemerits) v') (nI i) (nI q) (nI (rn_sc t ((ly_at t w lg kn P n sw ss sk fw rw fl ba hyc (n + 1)).1.1 q).1 ((ly_at t w lg kn P n sw ss sk fw rw fl ba hyc (n + 1)).1.1 q).2.1)) z0 (nI n) (nI lc) (nI pc) (nI fw) (nI rw) (nI fl) (nI sw) (nI ss) (nI sk) (nI ba) (nI hyc) (nI ph) 1 y_glyphCount y_breaks y_natural (nI (rn_sc t ((ly_at t w lg kn P n sw ss sk fw rw fl ba hyc (n + 1)).1.1 q).1 ((ly_at t w lg kn P n sw ss sk fw rw fl ba hyc (n + 1)).1.1 q).2.1)) (nI (ly_at t w lg kn P n sw ss sk fw rw fl ba hyc (n + 1)).1.2.1) y_paragraphs (gd_tI t) (gd_tI w) (gd_lI lg) (gd_kI kn) b_patA b_patB b_patC b_patDigits b_glyphs b_glyphOf b_bEnd b_bNext b_bHyphen b_least b_before b_way b_lFrom b_lTo b_lNumber b_lParagraph b_lPage b_lHyphen b_lLast b_best := by
      intro z0 y_natural hz
      subst hz
      exact po_y C e1 hi hli hq V y3.1 h1 h2 (fun y_glyphCount y_natural y_spaces b_glyphs b_glyphOf => ⟨rfl, rl_set C L R (by omega) rx' ry'⟩)
    have hex : lt_ex t lg w kn sw sk fw rw fl ((ly_at t w lg kn P n sw ss sk fw rw fl ba hyc (n + 1)).1.1 q) = lt_exv sk (lt_dif t lg w kn sw fw rw fl ((ly_at t w lg kn P n sw ss sk fw rw fl ba hyc (n + 1)).1.1 q)) (rn_sc t ((ly_at t w lg kn P n sw ss sk fw rw fl ba hyc (n + 1)).1.1 q).1 ((ly_at t w lg kn P n sw ss sk fw rw fl ba hyc (n + 1)).1.1 q).2.1) (lt_last ((ly_at t w lg kn P n sw ss sk fw rw fl ba hyc (n + 1)).1.1 q)) := rfl
    rw [lt_exv] at hex
    generalize hD : lt_dif t lg w kn sw fw rw fl ((ly_at t w lg kn P n sw ss sk fw rw fl ba hyc (n + 1)).1.1 q) = D at *
    generalize hM : rn_sc t ((ly_at t w lg kn P n sw ss sk fw rw fl ba hyc (n + 1)).1.1 q).1 ((ly_at t w lg kn P n sw ss sk fw rw fl ba hyc (n + 1)).1.1 q).2.1 * sk = M at *
    refine gd_zle D 0 (fun c => ?_) (fun c => ⟨vp_in_nI (by omega) (by omega), ?_⟩) rfl rfl (by omega) (by omega)
    · rw [if_neg (by omega)] at hex
      refine gd_zle D (-(M : Int)) (fun c2 => go _ _ ?_) (fun c2 => go _ _ ?_) rfl eneg (by omega) (by omega)
      · rw [eneg, hex, if_pos c2]
      · rw [hex, if_neg (by omega)]
    · rw [if_pos c] at hex
      refine gd_bx (lt_last ((ly_at t w lg kn P n sw ss sk fw rw fl ba hyc (n + 1)).1.1 q)) (by rw [nI_clamp (by omega), r5]) (fun c2 => go _ _ ?_) (fun c2 => go _ _ ?_)
      · rw [hex, if_neg (by rw [c2]; decide)]
      · rw [hex, if_pos c2]; rfl
  · have h' : ∀ i, i < n → t i < 10 → v1 ≠ nI i := fun i a b c => h ⟨i, a, b, c⟩
    refine gl_xn hn C.2.1 h' (br_t rfl ?_)
    unfold wpY_position
    refine lo_y B (fun y_glyphCount y_breaks y_natural y_spaces y_lineCount y_paragraphs b_glyphs b_glyphOf b_bEnd b_bNext b_bHyphen b_least b_before b_way b_lFrom b_lTo b_lNumber b_lParagraph b_lPage b_lHyphen b_lLast b_best ry => ?_)
    exact gl_yn hn C.2.1 h' (br_t rfl ⟨rfl, rl_set C L R (by omega) rx ry⟩)
end
