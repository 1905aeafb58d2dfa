/-! the table of lines: from, to, hyphen, number, last, paragraph -/
abbrev lt_R : Type := Nat × Nat × Bool × Nat × Bool × Nat
abbrev lt_T : Type := Nat → lt_R
def lt_up (Λ : lt_T) (i : Nat) (r : lt_R) : lt_T := fun j => if j = i then r else Λ j
def lt_nat (t lg w : Nat → Nat) (kn : Nat → Int) (sw : Nat) (r : lt_R) : Int := rn_x t lg w kn sw r.1 r.2.1 r.2.1 + cond r.2.2.1 5 0
def lt_dif (t lg w : Nat → Nat) (kn : Nat → Int) (sw fw rw fl : Nat) (r : lt_R) : Int := (bd_due fw rw fl r.2.2.2.1 : Int) - lt_nat t lg w kn sw r
def lt_bad (t lg w : Nat → Nat) (kn : Nat → Int) (sw ss sk fw rw fl : Nat) (r : lt_R) : Int := bd_v ss sk (lt_dif t lg w kn sw fw rw fl r) (rn_sc t r.1 r.2.1) r.2.2.2.2.1
def lt_exv (sk : Nat) (d : Int) (sp : Nat) (last : Bool) : Int := if 0 < d then (if last = true then 0 else d) else if d ≤ -((sp * sk : Nat) : Int) then -((sp * sk : Nat) : Int) else d
def lt_ex (t lg w : Nat → Nat) (kn : Nat → Int) (sw sk fw rw fl : Nat) (r : lt_R) : Int := lt_exv sk (lt_dif t lg w kn sw fw rw fl r) (rn_sc t r.1 r.2.1) r.2.2.2.2.1
def xl_row (t lg w : Nat → Nat) (kn : Nat → Int) (sw ss sk fw rw fl : Nat) (F : Nat → Int32) (i : Nat) (r : lt_R) : Prop :=
  F (8 * i + 0) = nI r.1 ∧ F (8 * i + 1) = nI r.2.1 ∧ F (8 * i + 2) = gd_iI (lt_nat t lg w kn sw r) ∧ F (8 * i + 3) = gd_iI (lt_bad t lg w kn sw ss sk fw rw fl r) ∧ F (8 * i + 4) = gd_bI r.2.2.1 ∧ F (8 * i + 5) = nI r.2.2.2.2.2 ∧ F (8 * i + 7) = gd_iI (lt_ex t lg w kn sw sk fw rw fl r)
def xl_ok (t lg w : Nat → Nat) (kn : Nat → Int) (sw ss sk fw rw fl : Nat) (lc : Nat) (Λ : lt_T) (F : Nat → Int32) : Prop := ∀ i, i < lc → xl_row t lg w kn sw ss sk fw rw fl F i (Λ i)
/-- the lines of a way -/
def lt_seq (E N : Nat → Nat) (H : Nat → Bool) (m par : Nat) : lt_T → Nat → Nat → Nat → List Nat → lt_T
  | Λ, _, _, _, [] => Λ
  | Λ, lc, p, num, k :: l => lt_seq E N H m par (lt_up Λ lc (N p, E k, H k, num, decide (k = m), par)) (lc + 1) k (num + 1) l
/-- a way from break a to the last -/
def cs_ok (m : Nat) : Nat → List Nat → Prop
  | a, [] => a = m
  | a, k :: l => a < k ∧ k ≤ m ∧ cs_ok m k l
theorem cs_len {m : Nat} : ∀ l a, cs_ok m a l → a + l.length ≤ m := by
  intro l
  induction l with
  | nil => intro a h; rw [cs_ok] at h; simp; omega
  | cons k l ih =>
    intro a h
    rw [cs_ok] at h
    have := ih k h.2.2
    rw [List.length_cons]; omega
theorem cs_mem {m : Nat} : ∀ l a, cs_ok m a l → ∀ k, k ∈ l → a < k ∧ k ≤ m := by
  intro l
  induction l with
  | nil => intro a h k hk; exact absurd hk (by simp)
  | cons j l ih =>
    intro a h k hk
    rw [cs_ok] at h
    rcases List.mem_cons.mp hk with e | e
    · subst e; exact ⟨h.1, h.2.1⟩
    · have := ih j h.2.2 k e; omega
theorem lt_us {Λ : lt_T} {i : Nat} {r : lt_R} : lt_up Λ i r i = r := if_pos rfl
theorem lt_un {Λ : lt_T} {i j : Nat} {r : lt_R} (h : j ≠ i) : lt_up Λ i r j = Λ j := if_neg h
section
variable {n lc pc fw rw fl sw ss sk ba hyc ph : Nat} {t w lg : Nat → Nat} {kn : Nat → Int}
variable {m fr to par lnc : Nat} {E N : Nat → Nat} {H : Nat → Bool} {Λ : lt_T}
variable {x_breakCount x_lineCount x_paragraphCount x_stale : Int32} {a_patterns a_heads a_glyphs a_breakEnd a_breakNext a_breakHyphen a_breakTaken a_wayBefore a_lineFacts : Nat → Int32} {a_wayDemerits a_paragraphDemerits : Nat → Int64}
theorem bx_ext {post : Int32 → Prop} {d : Int} {sp : Nat} {last : Bool} (hd : -10000 ≤ d ∧ d ≤ 10000) (h2 : sk ≤ 20) (h3 : sp ≤ 48) (hp : post (gd_iI (lt_exv sk d sp last))) : wpX_extraOf post ((nI n), (nI lc), (nI pc), (nI fw), (nI rw), (nI fl), (nI sw), (nI ss), (nI sk), (nI ba), (nI hyc), (nI ph), x_breakCount, x_lineCount, x_paragraphCount, x_stale, (gd_tI t), (gd_tI w), (gd_lI lg), (gd_kI kn), a_patterns, a_heads, a_glyphs, a_breakEnd, a_breakNext, a_breakHyphen, a_breakTaken, a_wayDemerits, a_wayBefore, a_lineFacts, a_paragraphDemerits) (gd_iI d) (nI sp) (gd_bI last) := by
  have hq : sp * sk ≤ 48 * 20 := Nat.mul_le_mul h3 h2
  rw [lt_exv] at hp
  generalize hsk : sp * sk = v at *
  refine gd_zle d 0 (fun y => ?_) (fun y => ?_) rfl rfl (by omega) (by omega)
  · rw [if_neg (by omega)] at hp
    refine nm_r (e' := gd_iI (-(v : Int))) (by rw [pk_mul, hsk, gd_nat, gd_neg]) (gd_zle d (-(v : Int)) (fun y2 => ?_) (fun y2 => ?_) rfl rfl (by omega) (by omega))
    · rw [if_pos y2] at hp; exact hp
    · rw [if_neg (by omega)] at hp; exact hp
  · rw [if_pos y] at hp
    refine gd_bt (fun z => ?_) (fun z => ?_)
    · rw [if_neg (by rw [z]; decide)] at hp; exact hp
    · rw [if_pos z] at hp; exact hp
theorem ax_line {post : SX → Prop} {a b num : Nat} (C : cf_ok t w lg kn n fw rw fl sw ss sk ba hyc ph) (hton : to ≤ n) (hm : m ≤ 48) (ok : bk_ok t fr to m E N H) (xb : bk_xb m E N H a_breakEnd a_breakNext a_breakHyphen) (hab : a < b) (hbm : b ≤ m) (hnum : num < 1000) (hlc : lnc < 48) (X : (xl_ok t lg w kn sw ss sk fw rw fl) lnc Λ a_lineFacts)
    (hp : ∀ a_heads a_glyphs a_lineFacts, (xl_ok t lg w kn sw ss sk fw rw fl) (lnc + 1) (lt_up Λ lnc (N a, E b, H b, num, decide (b = m), par)) a_lineFacts → post ((nI n), (nI lc), (nI pc), (nI fw), (nI rw), (nI fl), (nI sw), (nI ss), (nI sk), (nI ba), (nI hyc), (nI ph), (nI (m + 1)), (nI (lnc + 1)), (nI par), x_stale, (gd_tI t), (gd_tI w), (gd_lI lg), (gd_kI kn), a_patterns, a_heads, a_glyphs, a_breakEnd, a_breakNext, a_breakHyphen, a_breakTaken, a_wayDemerits, a_wayBefore, a_lineFacts, a_paragraphDemerits)) :
    wpX_addLine post ((nI n), (nI lc), (nI pc), (nI fw), (nI rw), (nI fl), (nI sw), (nI ss), (nI sk), (nI ba), (nI hyc), (nI ph), (nI (m + 1)), (nI lnc), (nI par), x_stale, (gd_tI t), (gd_tI w), (gd_lI lg), (gd_kI kn), a_patterns, a_heads, a_glyphs, a_breakEnd, a_breakNext, a_breakHyphen, a_breakTaken, a_wayDemerits, a_wayBefore, a_lineFacts, a_paragraphDemerits) (nI a) (nI b) (nI num) := by
  obtain ⟨c1, c2, c3, c4, c5, c6, c7, c8, c9, c10, c11, c12, c13, c14⟩ := id C
  have hlt := bk_lt ok hab hbm
  have hEb := ok.2.1 b (by omega) hbm
  obtain ⟨x1, x2, x3⟩ := id xb
  have xE := x1 b (by omega) hbm
  have xN := x2 a (by omega)
  have xH := x3 b hbm
  have hd := ln_d_b (E := E) (N := N) (H := H) C (p := a) (k := b) (q := num) (by omega)
  have hsc := rn_sc_le (t := t) (s := N a) (E b)
  have key : ∀ z0, z0 = gd_bI (decide (b = m)) → wX_addLine_25 post (nI a) (nI b) (nI num) z0 (nI n) (nI lc) (nI pc) (nI fw) (nI rw) (nI fl) (nI sw) (nI ss) (nI sk) (nI ba) (nI hyc) (nI ph) (nI (m + 1)) (nI lnc) (nI par) x_stale (gd_tI t) (gd_tI w) (gd_lI lg) (gd_kI kn) a_patterns a_heads a_glyphs a_breakEnd a_breakNext a_breakHyphen a_breakTaken a_wayDemerits a_wayBefore a_lineFacts a_paragraphDemerits := by
    intro z0 hz
    subst hz
    unfold wX_addLine_25
    refine bx_nat c2 (by omega) (by omega) xN xE xH (by omega) (by omega) (fun a_heads a_glyphs => ?_)
    refine ⟨vp_in_nI (by omega) (by omega), vp_in_nI (by omega) (by omega), ?_⟩
    rw [nI_clamp (show a < 2 ^ 31 by omega), nI_clamp (show b < 2 ^ 31 by omega), xN, xE, xH]
    refine xc_spaces hlt (by omega) c2 (bx_due hnum c7 ?_)
    have ix : ∀ c, c < 8 → nI (8 * lnc) + nI c = nI (8 * lnc + c) := fun c _ => nI_add _ _
    have vi : ∀ c, c < 8 → vp_in (nI (8 * lnc + c)) 384 := fun c _ => vp_in_nI (by omega) (by omega)
    have cl : ∀ c, c < 8 → (nI (8 * lnc + c)).toNatClampNeg = 8 * lnc + c := fun c _ => nI_clamp (by omega)
    refine nm_r (e' := gd_iI ((ln_d t lg w kn sw fw rw fl E N H) a b num)) (by rw [gd_nat, gd_sub]; rfl) (nm_r (e' := nI (8 * lnc)) (by rw [show (8 : Int32) = nI 8 from rfl, pk_mul, Nat.mul_comm]) ?_)
    refine ⟨vp_in_nI (by omega) (by omega), ?_⟩
    rw [show (0 : Int32) = nI 0 from rfl, ix 0 (by omega), cl 0 (by omega)]
    refine ⟨vi 0 (by omega), nm_e ⟨vp_in_nI (by omega) (by omega), ?_⟩⟩
    rw [show (1 : Int32) = nI 1 from rfl, ix 1 (by omega), cl 1 (by omega)]
    refine ⟨vi 1 (by omega), nm_e ?_⟩
    rw [show (2 : Int32) = nI 2 from rfl, ix 2 (by omega), cl 2 (by omega)]
    refine ⟨vi 2 (by omega), nm_e (bx_bad hd c9 c10 (by omega) ?_)⟩
    rw [show (3 : Int32) = nI 3 from rfl, ix 3 (by omega), cl 3 (by omega)]
    refine ⟨vi 3 (by omega), nm_e ⟨vp_in_nI (by omega) (by omega), ?_⟩⟩
    have fin : ∀ z0, z0 = gd_bI (H b) → ∀ F, F = upd (upd (upd (upd a_lineFacts (8 * lnc + 0) (nI (N a))) (8 * lnc + 1) (nI (E b))) (8 * lnc + 2) (gd_iI ((ln_w t lg w kn sw E N H) a b))) (8 * lnc + 3) (gd_iI (bd_v ss sk ((ln_d t lg w kn sw fw rw fl E N H) a b num) (rn_sc t (N a) (E b)) (decide (b = m)))) → wX_addLine_154 post (gd_bI (decide (b = m))) (nI (rn_sc t (N a) (E b))) (gd_iI ((ln_d t lg w kn sw fw rw fl E N H) a b num)) (nI (8 * lnc)) z0 (nI (8 * lnc) + 4) (nI n) (nI lc) (nI pc) (nI fw) (nI rw) (nI fl) (nI sw) (nI ss) (nI sk) (nI ba) (nI hyc) (nI ph) (nI (m + 1)) (nI lnc) (nI par) x_stale (gd_tI t) (gd_tI w) (gd_lI lg) (gd_kI kn) a_patterns a_heads a_glyphs a_breakEnd a_breakNext a_breakHyphen a_breakTaken a_wayDemerits a_wayBefore F a_paragraphDemerits := by
      intro z0 hz F hF
      subst hz
      unfold wX_addLine_154
      rw [show (4 : Int32) = nI 4 from rfl, ix 4 (by omega), cl 4 (by omega), show (5 : Int32) = nI 5 from rfl, ix 5 (by omega), cl 5 (by omega), show (7 : Int32) = nI 7 from rfl, ix 7 (by omega), cl 7 (by omega)]
      refine ⟨vi 4 (by omega), nm_e ⟨vi 5 (by omega), nm_e (bx_ext hd c10 (by omega) ⟨vi 7 (by omega), nm_e (nm_r (nI_1 lnc) (hp _ _ _ (fun i hi => ?_)))⟩)⟩⟩
      by_cases e : i = lnc
      · subst e
        rw [lt_us]
        refine ⟨?_, ?_, ?_, ?_, ?_, ?_, ?_⟩ <;> rw [hF] <;> repeat (first | rw [pk_us] | rw [pk_un (by omega)])
        · rfl
        · rfl
        · rfl
      · rw [lt_un e, hF]
        obtain ⟨r0, r1, r2, r3, r4, r5, r7⟩ := X i (by omega)
        refine ⟨?_, ?_, ?_, ?_, ?_, ?_, ?_⟩ <;> repeat (rw [pk_un (by omega)])
        · exact r0
        · exact r1
        · exact r2
        · exact r3
        · exact r4
        · exact r5
        · exact r7
    refine gd_bt (fun z => fin _ (by rw [z]; rfl) _ rfl) (fun z => fin _ (by rw [z]; rfl) _ rfl)
  refine br_t (nI_lt (b := 48) hlc (by decide)) (pk_eq b m (fun y => key _ (by rw [decide_eq_true y]; rfl)) (fun y => key _ (by rw [decide_eq_false y]; rfl)) rfl (nI_pred m) (by omega) (by omega))
end
