/-! the run, side by side -/
section RUN
variable {t : Nat} {r tr : Int32} {c : zS}
theorem loopM (n : Nat) (v1 v2 : Int32) (m : zS) : fX9_run_L37 (n + 1) v1 v2 m = if v2 ≤ m.1 3 then (if m.1 7 = 0 then some (1, m) else some (0, m)) else if m.1 7 = 0 then bd (bodM m) (fX9_run_L37 n v1 v2) else (if m.1 7 = 0 then some (1, m) else some (0, m)) := by
  rw [fX9_run_L37]
  unfold bodM
  simp only [bd_if]
theorem run_L {a M : Nat} (hb : a + M + 130 < 2 ^ 31) : ∀ (n k t : Nat) (c : zS), Iv t c → a + 4 * k ≤ t → t ≤ a + M + 60 → k ≤ M → M + 1 ≤ n + k → ∃ (v tr : Int32) (t' : Nat) (c' : zS), fX8_run_L30 n (nI M) (nI a) (nI k) c = some (v, c') ∧ fX9_run_L37 n (nI M) (nI (a + M)) (al c (rF r) 0) = some (v, al c' (rF r) tr) ∧ Iv t' c' ∧ t' ≤ a + M + 60 ∧ (v = 0 ∨ v = 1) := by
  intro n
  induction n with
  | zero => intro k t c _ _ _ h1 h2; omega
  | succ n ih =>
    intro k t c h h1 h2 h3 h4
    rw [loopM, fX8_run_L30]
    have e1 : (nI M ≤ nI k) ↔ M ≤ k := nI_leI (by omega) (by omega)
    have e2 : (nI M ≤ c.1 0 - nI a) ↔ M ≤ t - a := by
      rw [h.1, pk_sub (a := t) (b := a) (by omega)]
      exact nI_leI (by omega) (by omega)
    have e3 : (nI (a + M) ≤ (al c (rF r) 0).1 3) ↔ a + M ≤ t := by
      rw [al_3, h.1]
      exact nI_leI (by omega) (by omega)
    by_cases z : a + M ≤ t
    · rw [if_pos (e3.mpr z), if_pos (show (al c (rF r) 0).1 7 = 0 from rfl)]
      refine ⟨1, 0, t, c, ?_, rfl, h, h2, Or.inr rfl⟩
      by_cases y : M ≤ k
      · rw [if_pos (e1.mpr y)]
      · rw [if_neg (fun w => y (e1.mp w)), if_pos (e2.mpr (by omega))]
    · rw [if_neg (fun w => z (e3.mp w)), if_neg (fun w => by have := e1.mp w; omega), if_neg (fun w => by have := e2.mp w; omega), if_pos (show (al c (rF r) 0).1 7 = 0 from rfl)]
      rcases s_turn1 (r := r) h (by omega) with ⟨t', c', q1, q2, q3, q4, q5⟩ | ⟨q1, q2⟩
      · rw [q1, q2, bd2_s, bd_s, if_neg (by decide)]
        obtain ⟨v, tr, t2, c2, w1, w2, w3⟩ := ih (k + 1) t' c' q3 (by omega) (by omega) (by omega) (by omega)
        refine ⟨v, tr, t2, c2, ?_, w2, w3⟩
        unfold nm
        rw [show nI k + (1 : Int32) = nI (k + 1) from nI_add k 1]
        exact w1
      · rw [q1, q2, bd2_s, bd_s, if_pos (by decide)]
        refine ⟨0, 1, t, c, rfl, ?_, h, by omega, Or.inl rfl⟩
        obtain ⟨n', rfl⟩ : ∃ n', n = n' + 1 := ⟨n - 1, by omega⟩
        rw [loopM, if_neg (show ¬ nI (a + M) ≤ (al c (rF r) 1).1 3 from fun w => z (e3.mp w)), if_neg (show ¬ (al c (rF r) 1).1 7 = 0 by show ¬ (1 : Int32) = 0; decide), if_neg (show ¬ (al c (rF r) 1).1 7 = 0 by show ¬ (1 : Int32) = 0; decide)]
theorem of_rng {p : Int32} {a : Nat} (ha : a < 2 ^ 31) (h0 : ¬ p < 0) (h1 : p ≤ nI a) : ∃ n : Nat, n ≤ a ∧ p = nI n := by
  obtain ⟨n, hn, rfl⟩ := nz_of p
  by_cases z : n < 2 ^ 31
  · exact ⟨n, (nI_leI z ha).mp h1, rfl⟩
  · exfalso
    apply h0
    rw [Int32.lt_iff_toInt_lt]
    have e0 : (0 : Int32).toInt = 0 := by decide
    have e1 : (nI n).toInt = (n : Int).bmod Int32.size := Int32.toInt_ofNat'
    rw [e0, e1, Int.bmod]
    have e2 : Int32.size = 4294967296 := rfl
    rw [e2]
    split <;> omega
theorem ref0 {rf : Int32} : fX9_refused 0 (al c (rF rf) tr) = some (0, al c (rF 0) tr) := by
  unfold fX9_refused
  rw [if_pos (by decide), al_rf]
theorem ref1 {rf : Int32} : fX9_refused 1 (al c (rF rf) tr) = some (1, al c (rF 1) tr) := by
  unfold fX9_refused
  rw [if_neg (by decide), al_rf]
theorem ref2 {rf : Int32} : fX9_refused 2 (al c (rF rf) tr) = some (1, al c (rF 2) tr) := by
  unfold fX9_refused
  rw [if_neg (by decide), al_rf]
/-- what the class refuses -/
def tX8_poke (p1 p3 : Int32) : Option Int32 := bd (fX2_has p1) fun r2 => if r2 = (0 : Int32) then some 1 else (if p3 < (1 : Int32) then some 1 else (if p3 ≤ (4 : Int32) then none else some 1))
def tX8_peek (p1 : Int32) : Option Int32 := bd (fX2_has p1) fun r2 => if r2 = (0 : Int32) then some 1 else none
def tX8_set (p1 p2 : Int32) : Option Int32 := bd (fX6_has p1) fun r2 => if r2 = (0 : Int32) then some 1 else (if p2 < (0 : Int32) then some 1 else (if p2 ≤ (65535 : Int32) then none else some 1))
def tX8_get (p1 : Int32) : Option Int32 := bd (fX6_has p1) fun r2 => if r2 = (0 : Int32) then some 1 else none
def tX8_key (p1 p2 : Int32) : Option Int32 := if p1 < (0 : Int32) then some 1 else (if (8 : Int32) ≤ p1 then some 1 else (if p2 < (0 : Int32) then some 1 else (if p2 ≤ (31 : Int32) then none else some 1)))
def tX8_edge (p1 : Int32) (s : zS) : Option Int32 := if p1 < (1 : Int32) then some 1 else (if p1 ≤ (100000 : Int32) then (bd2 (fX7_isFull s) fun r4 _ => if r4 = (0 : Int32) then none else some 2) else some 1)
def tX8_run (p1 : Int32) : Option Int32 := if p1 < (1 : Int32) then some 1 else (if p1 ≤ (20000 : Int32) then none else some 1)
def tX8_count (p1 : Int32) : Option Int32 := if p1 ∈ ([0] : List Int32) then none else if p1 ∈ ([1] : List Int32) then none else if p1 ∈ ([2] : List Int32) then none else if p1 ∈ ([3] : List Int32) then none else if p1 ∈ ([4] : List Int32) then none else if p1 ∈ ([5] : List Int32) then none else if p1 ∈ ([6] : List Int32) then none else if p1 ∈ ([7] : List Int32) then none else some 1
/-- a call of both: refused alike, or answered alike -/
def CallI (t k : Nat) (c : zS) (x : Option Int32) (f g : Option (Int32 × zS)) : Prop := (∃ (q v tr : Int32), x = some q ∧ (q = 1 ∨ q = 2) ∧ g = some (v, al c (rF q) tr)) ∨ (x = none ∧ ∃ (v tr : Int32) (t' : Nat) (c' : zS), f = some (v, c') ∧ g = some (v, al c' (rF 0) tr) ∧ Iv t' c' ∧ t' ≤ t + k)
def CallV (t k : Nat) (c : zS) (x : Option Int32) (f g : Option zS) : Prop := (∃ (q tr : Int32), x = some q ∧ (q = 1 ∨ q = 2) ∧ g = some (al c (rF q) tr)) ∨ (x = none ∧ ∃ (tr : Int32) (t' : Nat) (c' : zS), f = some c' ∧ g = some (al c' (rF 0) tr) ∧ Iv t' c' ∧ t' ≤ t + k)
theorem isIn_n {p a b : Int32} : fX9_isIn p a b = some (if p < a ∨ b < p then 0 else 1) := by
  unfold fX9_isIn
  by_cases z : p < a
  · rw [if_pos z, if_pos (Or.inl z)]
  · rw [if_neg z]
    by_cases y : b < p
    · rw [if_pos y, if_pos (Or.inr y)]
    · rw [if_neg y, if_neg (fun w => w.elim z y)]
theorem not_lt32 {a b : Int32} : ¬ a < b ↔ b ≤ a := by
  rw [Int32.lt_iff_toInt_lt, Int32.le_iff_toInt_le]; omega
theorem not_le32 {a b : Int32} : ¬ a ≤ b ↔ b < a := by
  rw [Int32.lt_iff_toInt_lt, Int32.le_iff_toInt_le]; omega
theorem p_run (h : Iv t c) (hl : t + 20200 < 2 ^ 31) (p : Int32) : CallI t 20060 c (tX8_run p) (fX8_run p c) (fX9_run p (al c (rF r) tr)) := by
  unfold tX8_run fX8_run fX9_run
  rw [isIn_n, bd_s]
  by_cases z1 : p < 1
  · left
    rw [if_pos z1, if_pos (Or.inl z1), if_pos rfl, bd_s, ref1, bd2_s, if_neg (by decide)]
    exact ⟨1, 0, tr, rfl, Or.inl rfl, rfl⟩
  · by_cases z2 : p ≤ 20000
    · right
      rw [if_neg z1, if_pos z2, if_neg z1, if_pos z2, if_neg (show ¬ (p < 1 ∨ (20000 : Int32) < p) from fun w => w.elim z1 (fun w => (not_le32.mpr w) z2)), if_neg (by decide), bd_s, ref0, bd2_s, if_pos rfl]
      refine ⟨rfl, ?_⟩
      obtain ⟨M, hM, rfl⟩ := of_rng (p := p) (a := 20000) (by decide) (fun w => z1 (by
        rw [Int32.lt_iff_toInt_lt] at w ⊢
        have e0 : (0 : Int32).toInt = 0 := by decide
        have e1 : (1 : Int32).toInt = 1 := by decide
        omega)) z2
      unfold nm
      rw [h.1, show (al c (rF 0) tr).1 3 = nI t from h.1, nI_add, al_tr]
      obtain ⟨v, tr', t', c', w1, w2, w3, w4, w5⟩ := run_L (r := 0) (a := t) (M := M) (by omega) 20001 0 t c h (by omega) (by omega) (by omega) (by omega)
      exact ⟨v, tr', t', c', w1, w2, w3, by omega⟩
    · left
      rw [if_neg z1, if_neg z2, if_pos (Or.inr (not_le32.mp z2)), if_pos rfl, bd_s, ref1, bd2_s, if_neg (by decide)]
      exact ⟨1, 0, tr, rfl, Or.inl rfl, rfl⟩
end RUN
