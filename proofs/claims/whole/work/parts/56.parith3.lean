/-! one more, one less; turned bytes; the decimal correction; pairs added -/
section V
variable {t : Nat} {rf : Int32 × (Int32 → Int32)} {tr : Int32} {c : zS}
theorem value_x (h : Iv t c) (hl : t + 9 < 2 ^ 31) {j : Nat} (hj : j < 8) : ∃ (v : Int32) (t' : Nat), t ≤ t' ∧ t' ≤ t + 9 ∧ B8 v ∧ fX3_value (nI j) c = some (v, st1 c 0 (nI t')) ∧ fX9_operand (nI j) (al c rf tr) = some (v, al (st1 c 0 (nI t')) rf tr) := by
  by_cases h6 : j = 6
  · subst h6
    have h1 := tA_le (c.2 4 3) t
    refine ⟨c.2 0 (ix (c.2 4 3)), tA (c.2 4 3) t + 3, by omega, by omega, h.mm _, ?_, ?_⟩
    · unfold fX3_value fX3_isAtHl
      have e6 : nI 6 = (6 : Int32) := rfl
      rw [if_pos e6, bd_s, if_neg (by decide), pair_3, bd2_s, read_c h.1 (by omega), bd2_s]
    · unfold fX9_operand
      have e6 : nI 6 = (6 : Int32) := rfl
      rw [if_pos e6, hl_m h, bd2_s, read_m (t := t) h.1 (by omega), bd2_s, al_s0]; rfl
  · have e6 : ¬ nI j = 6 := mt (nI_eq (b := 6) (by omega) (by decide)).mp h6
    refine ⟨rg (c.2 4) 0 j, t, Nat.le_refl _, by omega, B8_rg h j, ?_, ?_⟩
    · rw [st1_eq h.1]
      unfold fX3_value fX3_isAtHl
      rw [if_neg e6, bd_s, if_pos rfl, single_c hj h6]; rfl
    · rw [st1_eq h.1]
      unfold fX9_operand gd
      rw [if_neg e6, if_pos ⟨nI_pos' (by omega), (nI_ltI (b := 8) (by omega) (by decide)).mpr hj⟩, nI_clamp (by omega)]; rfl
end V
def incF (v k : Int32) : Int32 := ((k ||| szF (v + 1)) ||| (if ((v + 1) &&& 255) &&& 15 = 0 then 16 else 0)) ||| (if (v + 1) &&& 255 = 128 then 4 else 0)
def decF (v k : Int32) : Int32 := (((k ||| szF (v - 1)) ||| (if ((v - 1) &&& 255) &&& 15 = 15 then 16 else 0)) ||| (if (v - 1) &&& 255 = 127 then 4 else 0)) ||| 2
theorem more_c (v : Int32) (c : zS) : fX0_oneMore v c = some ((v + 1) &&& 255, cF6 c (incF v (lo (c.2 4 0) &&& 1))) := by
  unfold fX0_oneMore
  simp only [nm, bd_ite, flags_c, bd2_s, sz_c, bd_s, lflags_d]
  rfl
theorem less_c (v : Int32) (c : zS) : fX0_oneLess v c = some ((v - 1) &&& 255, cF6 c (decF v (lo (c.2 4 0) &&& 1))) := by
  unfold fX0_oneLess
  simp only [nm, bd_ite, flags_c, bd2_s, sz_c, bd_s, lflags_d]
  rfl
theorem inc_d : ∀ n, n < 256 → ∀ k, k < 2 → incF (nI n) (nI k) = (plusF (nI n) 1 0 &&& -2) ||| nI k := by decide +kernel
theorem dec_d : ∀ n, n < 256 → ∀ k, k < 2 → decF (nI n) (nI k) = (minusF (nI n) 1 0 &&& -2) ||| nI k := by decide +kernel
theorem inc_B {v k : Int32} (hv : B8 v) (hk : ∃ q : Nat, q < 2 ∧ k = nI q) : incF v k = (plusF v 1 0 &&& -2) ||| k ∧ B8 (incF v k) := by
  obtain ⟨n, hn, rfl⟩ := hv
  obtain ⟨q, hq, rfl⟩ := hk
  exact ⟨inc_d n hn q hq, B8_or (B8_or (B8_or (B8_n q (by omega)) (B8_sz _)) (B8_if (B8_n 16 (by omega)) B8_0)) (B8_if (B8_n 4 (by omega)) B8_0)⟩
theorem dec_B {v k : Int32} (hv : B8 v) (hk : ∃ q : Nat, q < 2 ∧ k = nI q) : decF v k = (minusF v 1 0 &&& -2) ||| k ∧ B8 (decF v k) := by
  obtain ⟨n, hn, rfl⟩ := hv
  obtain ⟨q, hq, rfl⟩ := hk
  exact ⟨dec_d n hn q hq, B8_or (B8_or (B8_or (B8_or (B8_n q (by omega)) (B8_sz _)) (B8_if (B8_n 16 (by omega)) B8_0)) (B8_if (B8_n 4 (by omega)) B8_0)) (B8_n 2 (by omega))⟩
section ST
variable {t : Nat} {rf : Int32 × (Int32 → Int32)} {tr : Int32} {c : zS}
/-- pass(1) where r is (HL), else nothing; then the byte is stored -/
theorem s_step1 (h : Iv t c) (hl : t + 10 < 2 ^ 31) {j : Nat} (hj : j < 8) {v F F0 F1 : Int32} (hv : B8 v) (hF : B8 F) (e : F = (F0 &&& -2) ||| F1) : SimS t 10 rf tr (bd (fX3_isAtHl (nI j)) fun r9 => if r9 = (0 : Int32) then (bd (fX3_store (nI j) v (cF6 c F)) fun s12 => some s12) else (bd (fX1_pass (1 : Int32) (cF6 c F)) fun s14 => bd (fX3_store (nI j) v s14) fun s16 => some s16))
    (bd (if nI j = (6 : Int32) then (some (((al c rf tr).1 3) + (1 : Int32))) else (some ((al c rf tr).1 3))) fun x9 => bd (fX9_setOperand (nI j) v (st2 (st2 (st1 (al c rf tr) 3 x9) 1 6 F0) 1 6 ((((st2 (st1 (al c rf tr) 3 x9) 1 6 F0).2 1 6) &&& (-2 : Int32)) ||| F1))) fun s16 => some s16) := by
  have hf := h.f hF
  by_cases h6 : j = 6
  · subst h6
    unfold fX3_isAtHl
    have e6 : nI 6 = (6 : Int32) := rfl
    rw [if_pos e6, if_pos e6, bd_s, bd_s, if_neg (by decide), show fX1_pass (1 : Int32) (cF6 c F) = some (st1 (cF6 c F) 0 (nI (t + 1))) from pass_c hf 1, bd_s, al_3, h.1]
    have e2 : st2 (st2 (st1 (al c rf tr) 3 (nI t + 1)) 1 6 F0) 1 6 ((((st2 (st1 (al c rf tr) 3 (nI t + 1)) 1 6 F0).2 1 6) &&& (-2 : Int32)) ||| F1) = al (st1 (cF6 c F) 0 (nI (t + 1))) rf tr := by
      rw [st2_same, al_s0, al_f h hF, e, ← nI_add]; rfl
    rw [e2]
    exact (SimS.bd (k := 9) (k2 := 0) (s_store (hf.t (by omega)) (by omega) (by omega) hv) (fun t' c' hI _ _ => SimS.ret hI)).elim fun t' q => ⟨t', q.choose, q.choose_spec.1, q.choose_spec.2.1, q.choose_spec.2.2.1, by have := q.choose_spec.2.2.2; omega, by have := q.choose_spec.2.2.2; omega⟩
  · have e6 : ¬ nI j = 6 := mt (nI_eq (b := 6) (by omega) (by decide)).mp h6
    unfold fX3_isAtHl
    rw [if_neg e6, if_neg e6, bd_s, bd_s, if_pos rfl]
    have e2 : st2 (st2 (st1 (al c rf tr) 3 ((al c rf tr).1 3)) 1 6 F0) 1 6 ((((st2 (st1 (al c rf tr) 3 ((al c rf tr).1 3)) 1 6 F0).2 1 6) &&& (-2 : Int32)) ||| F1) = al (cF6 c F) rf tr := by
      rw [st1_self, st2_same, al_f h hF, e]; rfl
    rw [e2]
    exact (SimS.bd (k := 9) (k2 := 0) (s_store hf (by omega) hj hv) (fun t' c' hI _ _ => SimS.ret hI)).le (by omega)
theorem s_step (h : Iv t c) (hl : t + 19 < 2 ^ 31) {j : Nat} (hj : j < 8) (up : Bool) : SimS t 19 rf tr (fX5_stepOperand (nI j) (if up then 1 else 0) c) (fX9_step (nI j) (if up then 0 else 1) (al c rf tr)) := by
  obtain ⟨v, t', h1, h2, hv, ec, em⟩ := value_x (rf := rf) (tr := tr) h (by omega) hj
  have h' := h.t h1
  unfold fX5_stepOperand fX9_step fX9_carry
  rw [ec, bd2_s, bd2_s, em, bd2_s]
  have hk : ∃ q : Nat, q < 2 ∧ lo ((st1 c 0 (nI t')).2 4 0) &&& 1 = nI q := B8_k
  cases up with
  | true =>
    obtain ⟨e1, e2⟩ := inc_B hv hk
    simp only [if_true, if_neg (by decide : ¬ (1 : Int32) = 0), more_c, bd2_s, plus_m, tn_6, alr_6]
    have := s_step1 (rf := rf) (tr := tr) (F0 := plusF v 1 0) (F1 := lo (c.2 4 0) &&& 1) h' (by omega) hj (B8_and (v + 1)) e2 e1
    rw [show (v + 1 + 0) &&& 255 = (v + 1) &&& 255 by rw [Int32.add_zero]]
    obtain ⟨t2, c2, q1, q2, q3, q4, q5⟩ := this
    exact ⟨t2, c2, q1, q2, q3, by omega, by omega⟩
  | false =>
    obtain ⟨e1, e2⟩ := dec_B hv hk
    simp only [Bool.false_eq_true, if_false, if_true, if_neg (by decide : ¬ (1 : Int32) = 0), less_c, bd2_s, minus_m, tn_6, alr_6]
    have := s_step1 (rf := rf) (tr := tr) (F0 := minusF v 1 0) (F1 := lo (c.2 4 0) &&& 1) h' (by omega) hj (B8_and (v - 1)) e2 e1
    rw [show (v - 1 - 0) &&& 255 = (v - 1) &&& 255 by rw [Int32.sub_zero]]
    obtain ⟨t2, c2, q1, q2, q3, q4, q5⟩ := this
    exact ⟨t2, c2, q1, q2, q3, by omega, by omega⟩
end ST
