/-! badness, kind of line, the width due -/
def bd_g (ss sk : Nat) (d : Int) (sp : Nat) : Nat := sp * (if 0 < d then ss else sk)
def bd_q (ss sk : Nat) (d : Int) (sp : Nat) : Nat := (100 * d.natAbs * d.natAbs * d.natAbs) / (bd_g ss sk d sp * bd_g ss sk d sp * bd_g ss sk d sp)
def bd_v (ss sk : Nat) (d : Int) (sp : Nat) (last : Bool) : Int :=
  if d = 0 ∨ (0 < d ∧ last = true) then 0 else if d < 0 ∧ bd_g ss sk d sp < d.natAbs then -1 else if bd_g ss sk d sp = 0 then 10000 else if bd_q ss sk d sp ≤ 10000 then (bd_q ss sk d sp : Int) else 10000
def bd_c (b d : Int) : Nat := if 12 < b then (if 0 ≤ d then (if 100 ≤ b then 3 else 2) else 0) else 1
def bd_due (fw rw fl q : Nat) : Nat := if fl ≤ q then rw else fw
theorem bd_v_b (ss sk : Nat) (d : Int) (sp : Nat) (last : Bool) : -1 ≤ bd_v ss sk d sp last ∧ bd_v ss sk d sp last ≤ 10000 := by
  rw [bd_v]; split
  · omega
  · split
    · omega
    · split
      · omega
      · split <;> omega
theorem bd_c_b (b d : Int) : bd_c b d ≤ 3 := by
  rw [bd_c]; split
  · split
    · split <;> omega
    · omega
  · omega
theorem bd_negT {a : Nat} (ha : a < 2 ^ 62) : (-(lN a)).toInt = -(a : Int) := by
  rw [Int64.toInt_neg, pk_lT (by omega)]; exact Int.bmod_eq_of_le (by omega) (by omega)
theorem bd_ndiv {a b : Nat} (ha : a < 2 ^ 62) (h0 : 0 < b) (hb : b < 2 ^ 62) : (-(lN a)) / lN b = -(lN (a / b)) := by
  have hq : a / b ≤ a := Nat.div_le_self a b
  apply Int64.toInt_inj.mp
  rw [Int64.toInt_div_of_ne_right, bd_negT ha, bd_negT (Nat.lt_of_le_of_lt hq ha), pk_lT (by omega), Int.neg_tdiv, Int.natCast_ediv, Int.tdiv_eq_ediv_of_nonneg (by omega)]
  intro e
  have := congrArg Int64.toInt e
  rw [pk_lT (by omega)] at this
  have h2 : (-1 : Int64).toInt = -1 := by decide
  omega
theorem bd_neg64 {a : Nat} (ha : a < 2 ^ 30) : (-(nI a)).toInt64 = -(lN a) := by
  apply Int64.toInt_inj.mp
  rw [Int32.toInt_toInt64, Int64.toInt_neg, Int32.toInt_neg, nI_toInt (by omega), pk_lT (by omega), Int.bmod_eq_of_le (by omega) (by omega), Int.bmod_eq_of_le (by omega) (by omega)]
theorem bd_cube {a : Nat} (ha : a ≤ 10000) : a * a * a ≤ 1000000000000 := by
  have h1 : a * a ≤ 10000 * 10000 := Nat.mul_le_mul ha ha
  have h2 : a * a * a ≤ 10000 * 10000 * 10000 := Nat.mul_le_mul h1 ha
  omega
theorem bd_fits {ss sk sp : Nat} {d : Int} (hd : -10000 ≤ d ∧ d ≤ 10000) (h1 : ss ≤ 20) (h2 : sk ≤ 20) (h3 : sp ≤ 48) : bd_g ss sk d sp ≤ 960 ∧ 100 * d.natAbs * d.natAbs * d.natAbs < 2 ^ 62 ∧ bd_g ss sk d sp * bd_g ss sk d sp * bd_g ss sk d sp < 2 ^ 62 := by
  have hg : bd_g ss sk d sp ≤ 960 := by
    rw [bd_g]
    have : sp * (if 0 < d then ss else sk) ≤ 48 * 20 := Nat.mul_le_mul h3 (by split <;> omega)
    omega
  refine ⟨hg, ?_, ?_⟩
  · have := bd_cube (a := d.natAbs) (by omega)
    have e : 100 * d.natAbs * d.natAbs * d.natAbs = 100 * (d.natAbs * d.natAbs * d.natAbs) := by grind
    omega
  · have := bd_cube (a := bd_g ss sk d sp) (by omega)
    omega
section
variable {n lc pc fw rw fl sw ss sk ba hyc ph : Nat} {t w lg : Nat → Nat} {kn : Nat → Int}
variable {x_breakCount x_lineCount x_paragraphCount x_stale : Int32} {a_patterns a_heads a_glyphs a_breakEnd a_breakNext a_breakHyphen a_breakTaken a_wayBefore a_lineFacts : Nat → Int32} {a_wayDemerits a_paragraphDemerits : Nat → Int64}
theorem bx_62 {post : Int32 → Prop} {d : Int} {sp : Nat} {last : Bool} (hd : -10000 ≤ d ∧ d ≤ 10000) (h1 : ss ≤ 20) (h2 : sk ≤ 20) (h3 : sp ≤ 48) (c1 : ¬ (d = 0 ∨ (0 < d ∧ last = true))) (c2 : ¬ (d < 0 ∧ bd_g ss sk d sp < d.natAbs))
    (hp : post (gd_iI (bd_v ss sk d sp last))) : wX_badnessOf_62 post (lN d.natAbs) (lN (bd_g ss sk d sp)) (nI n) (nI lc) (nI pc) (nI fw) (nI rw) (nI fl) (nI sw) (nI ss) (nI sk) (nI ba) (nI hyc) (nI ph) x_breakCount x_lineCount x_paragraphCount x_stale (gd_tI t) (gd_tI w) (gd_lI lg) (gd_kI kn) a_patterns a_heads a_glyphs a_breakEnd a_breakNext a_breakHyphen a_breakTaken a_wayDemerits a_wayBefore a_lineFacts a_paragraphDemerits := by
  obtain ⟨b1, b2, b3⟩ := bd_fits (sp := sp) hd h1 h2 h3
  rw [bd_v, if_neg c1, if_neg c2] at hp
  refine br_c (fun z => ?_) (fun z => ?_)
  · rw [if_pos ((pk_lEQ (b := 0) (by omega) (by omega)).mp z)] at hp
    exact hp
  · have z0 : bd_g ss sk d sp ≠ 0 := fun y => z (by rw [y]; rfl)
    rw [if_neg z0] at hp
    have zp : 0 < bd_g ss sk d sp * bd_g ss sk d sp * bd_g ss sk d sp := Nat.mul_pos (Nat.mul_pos (by omega) (by omega)) (by omega)
    refine ⟨?_, nm_r (e' := lN (bd_q ss sk d sp)) ?_ ?_⟩
    · rw [lN_mul, lN_mul]
      intro y
      have := (pk_lEQ (b := 0) (by omega) (by omega)).mp y
      omega
    · rw [show (100 : Int64) = lN 100 from rfl, lN_mul, lN_mul, lN_mul, lN_mul, lN_mul, pk_lDiv (by omega) zp (by omega)]; rfl
    · have hq : bd_q ss sk d sp ≤ 100 * d.natAbs * d.natAbs * d.natAbs := Nat.div_le_self _ _
      refine br_c (fun y => ?_) (fun y => ?_)
      · have y2 := (pk_lLE (b := 10000) (by omega) (by omega)).mp y
        rw [if_pos y2] at hp
        rw [lN_i, gd_nat]
        exact hp
      · have y2 : ¬ bd_q ss sk d sp ≤ 10000 := fun q => y ((pk_lLE (b := 10000) (by omega) (by omega)).mpr q)
        rw [if_neg y2] at hp
        exact hp
theorem bx_bad {post : Int32 → Prop} {d : Int} {sp : Nat} {last : Bool} (hd : -10000 ≤ d ∧ d ≤ 10000) (h1 : ss ≤ 20) (h2 : sk ≤ 20) (h3 : sp ≤ 48)
    (hp : post (gd_iI (bd_v ss sk d sp last))) : wpX_badnessOf post ((nI n), (nI lc), (nI pc), (nI fw), (nI rw), (nI fl), (nI sw), (nI ss), (nI sk), (nI ba), (nI hyc), (nI ph), x_breakCount, x_lineCount, x_paragraphCount, x_stale, (gd_tI t), (gd_tI w), (gd_lI lg), (gd_kI kn), a_patterns, a_heads, a_glyphs, a_breakEnd, a_breakNext, a_breakHyphen, a_breakTaken, a_wayDemerits, a_wayBefore, a_lineFacts, a_paragraphDemerits) (gd_iI d) (nI sp) (gd_bI last) := by
  obtain ⟨b1, b2, b3⟩ := bd_fits (sp := sp) hd h1 h2 h3
  refine gd_zeq d 0 (fun e => ?_) (fun e => ?_) rfl rfl (by omega) (by omega)
  · rw [bd_v, if_pos (Or.inl e)] at hp; exact hp
  have neg : d < 0 → wX_badnessOf_14 post (gd_iI d) (nI sp) (nI n) (nI lc) (nI pc) (nI fw) (nI rw) (nI fl) (nI sw) (nI ss) (nI sk) (nI ba) (nI hyc) (nI ph) x_breakCount x_lineCount x_paragraphCount x_stale (gd_tI t) (gd_tI w) (gd_lI lg) (gd_kI kn) a_patterns a_heads a_glyphs a_breakEnd a_breakNext a_breakHyphen a_breakTaken a_wayDemerits a_wayBefore a_lineFacts a_paragraphDemerits := by
    intro hneg
    have hdn : gd_iI d = -(nI d.natAbs) := by rw [gd_nat, gd_neg]; congr 1; omega
    have hgv : nI sp * nI sk = nI (bd_g ss sk d sp) := by rw [pk_mul, bd_g, if_neg (by omega)]
    refine gd_zle d 0 (fun _ => ?_) (fun y => absurd y (by omega)) rfl rfl (by omega) (by omega)
    refine gd_zle d 0 (fun _ => ?_) (fun y => absurd y (by omega)) rfl rfl (by omega) (by omega)
    refine nm_r (e' := lN (bd_g ss sk d sp)) (by rw [hgv, nI_l (by omega)]) ?_
    have hoff : (-(gd_iI d)).toInt64 = lN d.natAbs := by
      rw [gd_neg, show -d = (d.natAbs : Int) by omega, ← gd_nat, nI_l (by omega)]
    rw [hoff]
    refine gd_zle 0 d (fun y => absurd y (by omega)) (fun _ => ?_) rfl rfl (by omega) (by omega)
    refine br_c (fun y => ?_) (fun y => ?_)
    · have y2 := (pk_lLE (by omega) (by omega)).mp y
      exact bx_62 hd h1 h2 h3 (by omega) (by omega) hp
    · have y2 : ¬ d.natAbs ≤ bd_g ss sk d sp := fun q => y ((pk_lLE (by omega) (by omega)).mpr q)
      rw [bd_v, if_neg (by omega), if_pos (by omega)] at hp
      exact hp
  have pos : 0 < d → last = false → wX_badnessOf_14 post (gd_iI d) (nI sp) (nI n) (nI lc) (nI pc) (nI fw) (nI rw) (nI fl) (nI sw) (nI ss) (nI sk) (nI ba) (nI hyc) (nI ph) x_breakCount x_lineCount x_paragraphCount x_stale (gd_tI t) (gd_tI w) (gd_lI lg) (gd_kI kn) a_patterns a_heads a_glyphs a_breakEnd a_breakNext a_breakHyphen a_breakTaken a_wayDemerits a_wayBefore a_lineFacts a_paragraphDemerits := by
    intro hpos hlast
    have hgv : nI sp * nI ss = nI (bd_g ss sk d sp) := by rw [pk_mul, bd_g, if_pos hpos]
    refine gd_zle d 0 (fun y => absurd y (by omega)) (fun _ => ?_) rfl rfl (by omega) (by omega)
    refine gd_zle d 0 (fun y => absurd y (by omega)) (fun _ => ?_) rfl rfl (by omega) (by omega)
    refine nm_r (e' := lN (bd_g ss sk d sp)) (by rw [hgv, nI_l (by omega)]) ?_
    have hoff : (gd_iI d).toInt64 = lN d.natAbs := by
      rw [show d = (d.natAbs : Int) by omega, ← gd_nat, nI_l (by omega)]; rfl
    rw [hoff]
    refine gd_zle 0 d (fun _ => ?_) (fun y => absurd y (by omega)) rfl rfl (by omega) (by omega)
    exact bx_62 hd h1 h2 h3 (by rw [hlast]; simp; omega) (by omega) hp
  refine gd_zle d 0 (fun y => neg (by omega)) (fun y => ?_) rfl rfl (by omega) (by omega)
  refine gd_bt (fun z => pos y z) (fun z => ?_)
  rw [bd_v, if_pos (Or.inr ⟨y, z⟩)] at hp; exact hp
theorem bx_cls {post : Int32 → Prop} {b d : Int} (hb : -1 ≤ b ∧ b ≤ 10000) (hd : -10000 ≤ d ∧ d ≤ 10000) (hp : post (nI (bd_c b d))) : wpX_classOf post (gd_iI b) (gd_iI d) := by
  refine gd_zlt 12 b (fun y => gd_zle 0 d (fun y2 => gd_zle 100 b (fun y3 => ?_) (fun y3 => ?_) rfl rfl (by omega) (by omega)) (fun y2 => ?_) rfl rfl (by omega) (by omega)) (fun y => ?_) rfl rfl (by omega) (by omega)
  · rw [bd_c, if_pos y, if_pos y2, if_pos y3] at hp; exact hp
  · rw [bd_c, if_pos y, if_pos y2, if_neg (by omega)] at hp; exact hp
  · rw [bd_c, if_pos y, if_neg (by omega)] at hp; exact hp
  · rw [bd_c, if_neg (by omega)] at hp; exact hp
theorem bx_due {post : Int32 → Prop} {q : Nat} (hq : q < 1000) (h3 : fl ≤ 3) (hp : post (nI (bd_due fw rw fl q))) : wpX_widthDue post ((nI n), (nI lc), (nI pc), (nI fw), (nI rw), (nI fl), (nI sw), (nI ss), (nI sk), (nI ba), (nI hyc), (nI ph), x_breakCount, x_lineCount, x_paragraphCount, x_stale, (gd_tI t), (gd_tI w), (gd_lI lg), (gd_kI kn), a_patterns, a_heads, a_glyphs, a_breakEnd, a_breakNext, a_breakHyphen, a_breakTaken, a_wayDemerits, a_wayBefore, a_lineFacts, a_paragraphDemerits) (nI q) := by
  refine pk_le fl q (fun y => ?_) (fun y => ?_)
  · rw [bd_due, if_pos y] at hp; exact hp
  · rw [bd_due, if_neg (by omega)] at hp; exact hp
theorem bx_nat {post : Int32 → SX → Prop} {a b s e : Nat} {h : Bool} (ht : ∀ i, t i ≤ 11) (ha : a < 49) (hb : b < 49) (hN : a_breakNext a = nI s) (hE : a_breakEnd b = nI e) (hH : a_breakHyphen b = gd_bI h) (hs : s ≤ e) (he : e ≤ 48)
    (hp : ∀ a_heads a_glyphs, post (gd_iI (rn_x t lg w kn sw s e e + cond h 5 0)) ((nI n), (nI lc), (nI pc), (nI fw), (nI rw), (nI fl), (nI sw), (nI ss), (nI sk), (nI ba), (nI hyc), (nI ph), x_breakCount, x_lineCount, x_paragraphCount, x_stale, (gd_tI t), (gd_tI w), (gd_lI lg), (gd_kI kn), a_patterns, a_heads, a_glyphs, a_breakEnd, a_breakNext, a_breakHyphen, a_breakTaken, a_wayDemerits, a_wayBefore, a_lineFacts, a_paragraphDemerits)) : wpX_naturalWidth post ((nI n), (nI lc), (nI pc), (nI fw), (nI rw), (nI fl), (nI sw), (nI ss), (nI sk), (nI ba), (nI hyc), (nI ph), x_breakCount, x_lineCount, x_paragraphCount, x_stale, (gd_tI t), (gd_tI w), (gd_lI lg), (gd_kI kn), a_patterns, a_heads, a_glyphs, a_breakEnd, a_breakNext, a_breakHyphen, a_breakTaken, a_wayDemerits, a_wayBefore, a_lineFacts, a_paragraphDemerits) (nI a) (nI b) := by
  refine ⟨vp_in_nI ha (by omega), nm_r (e' := nI s) (by rw [nI_clamp (by omega), hN]) ⟨vp_in_nI hb (by omega), nm_r (e' := nI e) (by rw [nI_clamp (by omega), hE]) ?_⟩⟩
  refine xs_shape hs he ht (fun a_heads a_glyphs hok => ?_)
  refine xr_end hs he ht hok ⟨vp_in_nI hb (by omega), ?_⟩
  rw [show xr_adj 0 0 (rn_sc t s e) = 0 by rw [xr_adj, if_pos rfl], Int32.add_zero]
  refine gd_bx h (by rw [nI_clamp (by omega), hH]) (fun z => ?_) (fun z => ?_)
  · have := hp a_heads a_glyphs
    rw [z] at this
    rw [show rn_x t lg w kn sw s e e = rn_x t lg w kn sw s e e + cond false 5 0 from (Int.add_zero _).symm]
    exact this
  · have := hp a_heads a_glyphs
    rw [z] at this
    rw [show (5 : Int32) = gd_iI 5 from rfl, gd_add]
    exact this
end
section
variable {n lc pc fw rw fl sw ss sk ba hyc ph : Nat} {t w lg : Nat → Nat} {kn : Nat → Int}
variable {y_ready y_glyphCount y_breaks y_natural y_spaces y_lineCount y_paragraphs : Int32} {b_patA b_patB b_patC b_patDigits b_glyphs b_glyphOf b_bEnd b_bNext b_bHyphen b_before b_way b_lFrom b_lTo b_lNumber b_lParagraph b_lPage b_lHyphen b_lLast : Nat → Int32} {b_least b_best : Nat → Int64}
theorem by_bad {post : Int32 → Prop} {d : Int} {sp : Nat} {last : Bool} (hd : -10000 ≤ d ∧ d ≤ 10000) (h1 : ss ≤ 20) (h2 : sk ≤ 20) (h3 : sp ≤ 48)
    (hp : post (gd_iI (bd_v ss sk d sp last))) : wpY_badness post ((nI n), (nI lc), (nI pc), (nI fw), (nI rw), (nI fl), (nI sw), (nI ss), (nI sk), (nI ba), (nI hyc), (nI ph), y_ready, y_glyphCount, y_breaks, y_natural, (nI sp), y_lineCount, y_paragraphs, (gd_tI t), (gd_tI w), (gd_lI lg), (gd_kI kn), b_patA, b_patB, b_patC, b_patDigits, b_glyphs, b_glyphOf, b_bEnd, b_bNext, b_bHyphen, b_least, b_before, b_way, b_lFrom, b_lTo, b_lNumber, b_lParagraph, b_lPage, b_lHyphen, b_lLast, b_best) (gd_iI d) (gd_bI last) := by
  obtain ⟨b1, b2, b3⟩ := bd_fits (sp := sp) hd h1 h2 h3
  refine gd_zeq d 0 (fun e => ?_) (fun e => ?_) rfl rfl (by omega) (by omega)
  · rw [bd_v, if_pos (Or.inl e)] at hp; exact hp
  have fin : ∀ c1 : ¬ (d = 0 ∨ (0 < d ∧ last = true)), ∀ c2 : ¬ (d < 0 ∧ bd_g ss sk d sp < d.natAbs), wY_badness_51 post (gd_iI d) (lN (bd_g ss sk d sp)) (nI n) (nI lc) (nI pc) (nI fw) (nI rw) (nI fl) (nI sw) (nI ss) (nI sk) (nI ba) (nI hyc) (nI ph) y_ready y_glyphCount y_breaks y_natural (nI sp) y_lineCount y_paragraphs (gd_tI t) (gd_tI w) (gd_lI lg) (gd_kI kn) b_patA b_patB b_patC b_patDigits b_glyphs b_glyphOf b_bEnd b_bNext b_bHyphen b_least b_before b_way b_lFrom b_lTo b_lNumber b_lParagraph b_lPage b_lHyphen b_lLast b_best := by
    intro c1 c2
    rw [bd_v, if_neg c1, if_neg c2] at hp
    refine br_c (fun z => ?_) (fun z => ?_)
    · rw [if_pos ((pk_lEQ (b := 0) (by omega) (by omega)).mp z)] at hp
      exact hp
    · have z0 : bd_g ss sk d sp ≠ 0 := fun y => z (by rw [y]; rfl)
      rw [if_neg z0] at hp
      have zp : 0 < bd_g ss sk d sp * bd_g ss sk d sp * bd_g ss sk d sp := Nat.mul_pos (Nat.mul_pos (by omega) (by omega)) (by omega)
      have hq : bd_q ss sk d sp ≤ 100 * d.natAbs * d.natAbs * d.natAbs := Nat.div_le_self _ _
      have last93 : wY_badness_93 post (lN (bd_q ss sk d sp)) (nI n) (nI lc) (nI pc) (nI fw) (nI rw) (nI fl) (nI sw) (nI ss) (nI sk) (nI ba) (nI hyc) (nI ph) y_ready y_glyphCount y_breaks y_natural (nI sp) y_lineCount y_paragraphs (gd_tI t) (gd_tI w) (gd_lI lg) (gd_kI kn) b_patA b_patB b_patC b_patDigits b_glyphs b_glyphOf b_bEnd b_bNext b_bHyphen b_least b_before b_way b_lFrom b_lTo b_lNumber b_lParagraph b_lPage b_lHyphen b_lLast b_best := by
        refine br_c (fun y => ?_) (fun y => ?_)
        · have y2 := (pk_lLE (b := 10000) (by omega) (by omega)).mp y
          rw [if_pos y2] at hp
          rw [lN_i, gd_nat]
          exact hp
        · have y2 : ¬ bd_q ss sk d sp ≤ 10000 := fun q => y ((pk_lLE (b := 10000) (by omega) (by omega)).mpr q)
          rw [if_neg y2] at hp
          exact hp
      have nz : ¬ lN (bd_g ss sk d sp) * lN (bd_g ss sk d sp) * lN (bd_g ss sk d sp) = 0 := by
        rw [lN_mul, lN_mul]
        intro y
        have := (pk_lEQ (b := 0) (by omega) (by omega)).mp y
        omega
      rcases Int.lt_or_gt_of_ne e with hneg | hpos
      · have hdn : (gd_iI d).toInt64 = -(lN d.natAbs) := by
          rw [← bd_neg64 (by omega), gd_nat, gd_neg]; congr 2; omega
        refine ⟨nz, nm_r (e' := -(lN (bd_q ss sk d sp))) ?_ ?_⟩
        · rw [hdn, show (100 : Int64) * -(lN d.natAbs) * -(lN d.natAbs) * -(lN d.natAbs) = -(100 * lN d.natAbs * lN d.natAbs * lN d.natAbs) by grind, show (100 : Int64) = lN 100 from rfl, lN_mul, lN_mul, lN_mul, lN_mul, lN_mul, bd_ndiv (by omega) zp (by omega)]; rfl
        · have tq : (-(lN (bd_q ss sk d sp))).toInt = -((bd_q ss sk d sp : Nat) : Int) := by
            rw [Int64.toInt_neg, pk_lT (by omega)]; exact Int.bmod_eq_of_le (by omega) (by omega)
          refine br_c (fun y => ?_) (fun y => ?_)
          · rw [Int64.le_iff_toInt_le, tq, show (0 : Int64).toInt = 0 from by decide] at y
            have z : bd_q ss sk d sp = 0 := by omega
            have e2 : -(lN (bd_q ss sk d sp)) = lN (bd_q ss sk d sp) := by rw [z]; rfl
            rw [e2]
            exact last93
          · refine nm_r (e' := lN (bd_q ss sk d sp)) ?_ last93
            exact Int64.neg_neg
      · have hdn : (gd_iI d).toInt64 = lN d.natAbs := by
          rw [show d = (d.natAbs : Int) by omega, ← gd_nat, nI_l (by omega)]; rfl
        refine ⟨nz, nm_r (e' := lN (bd_q ss sk d sp)) ?_ ?_⟩
        · rw [hdn, show (100 : Int64) = lN 100 from rfl, lN_mul, lN_mul, lN_mul, lN_mul, lN_mul, pk_lDiv (by omega) zp (by omega)]; rfl
        · exact br_t ((pk_lLE (a := 0) (by omega) (by omega)).mpr (by omega)) last93
  have neg : d < 0 → wY_badness_14 post (gd_iI d) (nI n) (nI lc) (nI pc) (nI fw) (nI rw) (nI fl) (nI sw) (nI ss) (nI sk) (nI ba) (nI hyc) (nI ph) y_ready y_glyphCount y_breaks y_natural (nI sp) y_lineCount y_paragraphs (gd_tI t) (gd_tI w) (gd_lI lg) (gd_kI kn) b_patA b_patB b_patC b_patDigits b_glyphs b_glyphOf b_bEnd b_bNext b_bHyphen b_least b_before b_way b_lFrom b_lTo b_lNumber b_lParagraph b_lPage b_lHyphen b_lLast b_best := by
    intro hneg
    refine gd_zle d 0 (fun _ => ?_) (fun y => absurd y (by omega)) rfl rfl (by omega) (by omega)
    refine nm_r (e' := lN (bd_g ss sk d sp)) (by rw [nI_l (by omega), nI_l (by omega), lN_mul, bd_g, if_neg (by omega)]) ?_
    have hoff : (-(gd_iI d)).toInt64 = lN d.natAbs := by
      rw [gd_neg, show -d = (d.natAbs : Int) by omega, ← gd_nat, nI_l (by omega)]
    refine gd_zle 0 d (fun y => absurd y (by omega)) (fun _ => ?_) rfl rfl (by omega) (by omega)
    rw [hoff]
    refine br_c (fun y => ?_) (fun y => ?_)
    · have y2 := (pk_lLE (by omega) (by omega)).mp y
      exact fin (by omega) (by omega)
    · have y2 : ¬ d.natAbs ≤ bd_g ss sk d sp := fun q => y ((pk_lLE (by omega) (by omega)).mpr q)
      rw [bd_v, if_neg (by omega), if_pos (by omega)] at hp
      exact hp
  have pos : 0 < d → last = false → wY_badness_14 post (gd_iI d) (nI n) (nI lc) (nI pc) (nI fw) (nI rw) (nI fl) (nI sw) (nI ss) (nI sk) (nI ba) (nI hyc) (nI ph) y_ready y_glyphCount y_breaks y_natural (nI sp) y_lineCount y_paragraphs (gd_tI t) (gd_tI w) (gd_lI lg) (gd_kI kn) b_patA b_patB b_patC b_patDigits b_glyphs b_glyphOf b_bEnd b_bNext b_bHyphen b_least b_before b_way b_lFrom b_lTo b_lNumber b_lParagraph b_lPage b_lHyphen b_lLast b_best := by
    intro hpos hlast
    refine gd_zle d 0 (fun y => absurd y (by omega)) (fun _ => ?_) rfl rfl (by omega) (by omega)
    refine nm_r (e' := lN (bd_g ss sk d sp)) (by rw [nI_l (by omega), nI_l (by omega), lN_mul, bd_g, if_pos hpos]) ?_
    refine gd_zle 0 d (fun _ => ?_) (fun y => absurd y (by omega)) rfl rfl (by omega) (by omega)
    exact fin (by rw [hlast]; simp; omega) (by omega)
  refine gd_zle d 0 (fun y => neg (by omega)) (fun y => ?_) rfl rfl (by omega) (by omega)
  refine gd_bt (fun z => pos y z) (fun z => ?_)
  rw [bd_v, if_pos (Or.inr ⟨y, z⟩)] at hp; exact hp
theorem by_cls {post : Int32 → Prop} {b d : Int} (hb : -1 ≤ b ∧ b ≤ 10000) (hd : -10000 ≤ d ∧ d ≤ 10000) (hp : post (nI (bd_c b d))) : wpY_classOf post ((nI n), (nI lc), (nI pc), (nI fw), (nI rw), (nI fl), (nI sw), (nI ss), (nI sk), (nI ba), (nI hyc), (nI ph), y_ready, y_glyphCount, y_breaks, y_natural, y_spaces, y_lineCount, y_paragraphs, (gd_tI t), (gd_tI w), (gd_lI lg), (gd_kI kn), b_patA, b_patB, b_patC, b_patDigits, b_glyphs, b_glyphOf, b_bEnd, b_bNext, b_bHyphen, b_least, b_before, b_way, b_lFrom, b_lTo, b_lNumber, b_lParagraph, b_lPage, b_lHyphen, b_lLast, b_best) (gd_iI b) (gd_iI d) := by
  refine gd_zlt 12 b (fun y => gd_zle 0 d (fun y2 => gd_zle 100 b (fun y3 => ?_) (fun y3 => ?_) rfl rfl (by omega) (by omega)) (fun y2 => ?_) rfl rfl (by omega) (by omega)) (fun y => ?_) rfl rfl (by omega) (by omega)
  · rw [bd_c, if_pos y, if_pos y2, if_pos y3] at hp; exact hp
  · rw [bd_c, if_pos y, if_pos y2, if_neg (by omega)] at hp; exact hp
  · rw [bd_c, if_pos y, if_neg (by omega)] at hp; exact hp
  · rw [bd_c, if_neg (by omega)] at hp; exact hp
theorem by_due {post : Int32 → Prop} {q : Nat} (hq : q < 1000) (h3 : fl ≤ 3) (hp : post (nI (bd_due fw rw fl q))) : wpY_should post ((nI n), (nI lc), (nI pc), (nI fw), (nI rw), (nI fl), (nI sw), (nI ss), (nI sk), (nI ba), (nI hyc), (nI ph), y_ready, y_glyphCount, y_breaks, y_natural, y_spaces, y_lineCount, y_paragraphs, (gd_tI t), (gd_tI w), (gd_lI lg), (gd_kI kn), b_patA, b_patB, b_patC, b_patDigits, b_glyphs, b_glyphOf, b_bEnd, b_bNext, b_bHyphen, b_least, b_before, b_way, b_lFrom, b_lTo, b_lNumber, b_lParagraph, b_lPage, b_lHyphen, b_lLast, b_best) (nI q) := by
  refine pk_le fl q (fun y => ?_) (fun y => ?_)
  · rw [bd_due, if_pos y] at hp; exact hp
  · rw [bd_due, if_neg (by omega)] at hp; exact hp
theorem by_meas {post : SY → Prop} {a b s e : Nat} {h : Bool} (hn : n ≤ 48) (ht : ∀ i, t i ≤ 11) (ha : a < 50) (hb : b < 50) (hN : b_bNext a = nI s) (hE : b_bEnd b = nI e) (hH : b_bHyphen b = gd_bI h) (hse : s < e) (he : e ≤ n) (hl : t s < 10) (h11 : ∀ j, s ≤ j → j < e → t j ≠ 11)
    (hp : ∀ y_glyphCount b_glyphs b_glyphOf, post ((nI n), (nI lc), (nI pc), (nI fw), (nI rw), (nI fl), (nI sw), (nI ss), (nI sk), (nI ba), (nI hyc), (nI ph), y_ready, y_glyphCount, y_breaks, (gd_iI (rn_x t lg w kn sw s e e + (cond h 5 0))), (nI (rn_sc t s e)), y_lineCount, y_paragraphs, (gd_tI t), (gd_tI w), (gd_lI lg), (gd_kI kn), b_patA, b_patB, b_patC, b_patDigits, b_glyphs, b_glyphOf, b_bEnd, b_bNext, b_bHyphen, b_least, b_before, b_way, b_lFrom, b_lTo, b_lNumber, b_lParagraph, b_lPage, b_lHyphen, b_lLast, b_best)) : wpY_measureLine post ((nI n), (nI lc), (nI pc), (nI fw), (nI rw), (nI fl), (nI sw), (nI ss), (nI sk), (nI ba), (nI hyc), (nI ph), y_ready, y_glyphCount, y_breaks, y_natural, y_spaces, y_lineCount, y_paragraphs, (gd_tI t), (gd_tI w), (gd_lI lg), (gd_kI kn), b_patA, b_patB, b_patC, b_patDigits, b_glyphs, b_glyphOf, b_bEnd, b_bNext, b_bHyphen, b_least, b_before, b_way, b_lFrom, b_lTo, b_lNumber, b_lParagraph, b_lPage, b_lHyphen, b_lLast, b_best) (nI a) (nI b) := by
  refine ⟨vp_in_nI ha (by omega), vp_in_nI hb (by omega), vp_in_nI hb (by omega), ?_⟩
  rw [nI_clamp (show a < 2 ^ 31 by omega), nI_clamp (show b < 2 ^ 31 by omega), hN, hE, hH]
  exact yk_walk hn hse he ht hl h11 h (fun y_glyphCount b_glyphs b_glyphOf => hp _ _ _)
end
