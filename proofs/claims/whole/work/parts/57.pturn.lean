/-! turned bytes, the decimal correction, what works on A alone, single bits -/
def tuP (p v k : Int32) : Int32 := if p ∈ ([0] : List Int32) then ((((v <<< ((1 : Int32) &&& 31)) ||| (v >>> ((7 : Int32) &&& 31))) &&& 255) ||| ((v <<< ((1 : Int32) &&& 31)) &&& 256)) else if p ∈ ([1] : List Int32) then (((v >>> ((1 : Int32) &&& 31)) ||| ((v <<< ((7 : Int32) &&& 31)) &&& 128)) ||| ((v <<< ((8 : Int32) &&& 31)) &&& 256)) else if p ∈ ([2] : List Int32) then (((v <<< ((1 : Int32) &&& 31)) &&& 511) ||| k) else if p ∈ ([3] : List Int32) then (((v >>> ((1 : Int32) &&& 31)) ||| (k <<< ((7 : Int32) &&& 31))) ||| ((v <<< ((8 : Int32) &&& 31)) &&& 256)) else if p ∈ ([4] : List Int32) then ((v <<< ((1 : Int32) &&& 31)) &&& 511) else if p ∈ ([5] : List Int32) then (((v >>> ((1 : Int32) &&& 31)) ||| (v &&& 128)) ||| ((v <<< ((8 : Int32) &&& 31)) &&& 256)) else ((v >>> ((1 : Int32) &&& 31)) ||| ((v <<< ((8 : Int32) &&& 31)) &&& 256))
theorem turned_m (p v : Int32) (m : zS) : fX9_turned p v m = some (tuP p v (m.2 1 6 &&& 1), m) := by
  unfold fX9_turned fX9_carry tuP
  simp only [bd2_s, tn_6]
  repeat' split
  all_goals first | rfl | contradiction
def mvOk (j n k : Nat) : Bool := decide (j = 6) || (decide (fX0_moved (nI j) (nI n) (nI k) = some ((fX0_moved (nI j) (nI n) (nI k)).getD 0)) && (decide ((fX0_moved (nI j) (nI n) (nI k)).getD 0 &&& 255 = tuP (nI j) (nI n) (nI k) &&& 255) && (decide (fX0_bitOut (nI j) (nI n) = some (tuP (nI j) (nI n) (nI k) >>> ((8 : Int32) &&& 31))) && decide ((tuP (nI j) (nI n) (nI k)).toBitVec.toNat < 512))))
theorem mv_d0 : ∀ j, j < 8 → ∀ n, n < 256 → ∀ k, k < 2 → mvOk j n k = true := by decide +kernel
theorem mv_d (j : Nat) (hj : j < 8) (n : Nat) (hn : n < 256) (k : Nat) (hk : k < 2) (h6 : j ≠ 6) : fX0_moved (nI j) (nI n) (nI k) = some ((fX0_moved (nI j) (nI n) (nI k)).getD 0) ∧ (fX0_moved (nI j) (nI n) (nI k)).getD 0 &&& 255 = tuP (nI j) (nI n) (nI k) &&& 255 ∧ fX0_bitOut (nI j) (nI n) = some (tuP (nI j) (nI n) (nI k) >>> ((8 : Int32) &&& 31)) ∧ (tuP (nI j) (nI n) (nI k)).toBitVec.toNat < 512 := by
  have h := mv_d0 j hj n hn k hk
  unfold mvOk at h
  simp only [Bool.or_eq_true, Bool.and_eq_true, decide_eq_true_eq] at h
  exact h.resolve_left h6
theorem mv_B {j : Nat} (hj : j < 8) (h6 : j ≠ 6) {v k : Int32} (hv : B8 v) (hk : ∃ q : Nat, q < 2 ∧ k = nI q) : ∃ x, fX0_moved (nI j) v k = some x ∧ x &&& 255 = tuP (nI j) v k &&& 255 ∧ fX0_bitOut (nI j) v = some (tuP (nI j) v k >>> ((8 : Int32) &&& 31)) ∧ ∃ w : Nat, w < 512 ∧ tuP (nI j) v k = nI w := by
  obtain ⟨n, hn, rfl⟩ := hv
  obtain ⟨q, hq, rfl⟩ := hk
  obtain ⟨h1, h2, h3, h4⟩ := mv_d j hj n hn q hq h6
  refine ⟨_, h1, h2, h3, _, h4, ?_⟩
  apply Int32.toBitVec_inj.1
  show _ = BitVec.ofNat 32 _
  simp
theorem szF_255 (v : Int32) : szF (v &&& 255) = szF v := by
  unfold szF
  rw [B8_id (B8_and v), show (v &&& 255) &&& 128 = v &&& 128 by rw [Int32.and_assoc]; rfl]
theorem B8_s8 {w : Nat} (h : w < 512) : B8 (nI w >>> ((8 : Int32) &&& 31)) := by
  rw [pk_shrN (by omega) _ 8 (by decide)]
  exact B8_n _ (by omega)
section TU
variable {t : Nat} {rf : Int32 × (Int32 → Int32)} {tr : Int32} {c : zS}
theorem shifted_c (h : Iv t c) {j : Nat} (hj : j < 8) (h6 : j ≠ 6) {v : Int32} (hv : B8 v) : ∃ w : Int32, w = tuP (nI j) v (lo (c.2 4 0) &&& 1) ∧ fX0_shifted (nI j) v c = some (w &&& 255, cF6 c ((szF w ||| evF (w &&& 255)) ||| (w >>> ((8 : Int32) &&& 31)))) ∧ fX9_even w = some (evF (w &&& 255)) ∧ B8 ((szF w ||| evF (w &&& 255)) ||| (w >>> ((8 : Int32) &&& 31))) := by
  obtain ⟨x, e1, e2, e3, w, hw, e4⟩ := mv_B hj h6 hv (B8_k (x := lo (c.2 4 0)))
  refine ⟨_, rfl, ?_, ?_, ?_⟩
  · unfold fX0_shifted
    rw [flags_c, bd2_s, e1, bd_s]
    simp only [nm, e2, sz_c, bd_s, ev_c (B8_and _), e3, lflags_d]
  · rw [e4]; exact ev_d2 w hw
  · rw [e4]; exact B8_or (B8_or (B8_sz _) (B8_ev (B8_and _))) (B8_s8 hw)
theorem s_shiftA (h : Iv t c) {j : Nat} (hj : j < 4) : SimS t 0 rf tr (fX0_shiftA (nI j) c) (fX9_turnA (nI j) (al c rf tr)) := by
  have ha : B8 (hi (c.2 4 0)) := B8_hi (h.b (by omega))
  obtain ⟨x, e1, e2, e3, w, hw, e4⟩ := mv_B (j := j) (by omega) (by omega) ha (B8_k (x := lo (c.2 4 0)))
  unfold fX0_shiftA fX9_turnA
  rw [single_7, bd2_s, flags_c, bd2_s, e1, bd_s, turned_m, bd2_s]
  obtain ⟨c', q1, q2, q3, -⟩ := lA (rf := rf) (tr := tr) h (B8_and x)
  rw [q1, bd_s, e3, bd_s, lflags_d, bd_s]
  simp only [tn_6, tn_7, alr_6, alr_7]
  have hF : B8 ((lo (c.2 4 0) &&& 196) ||| (tuP (nI j) (hi (c.2 4 0)) (lo (c.2 4 0) &&& 1) >>> ((8 : Int32) &&& 31))) := by
    rw [e4]; exact B8_or (B8_ae (B8_lo _)) (B8_s8 hw)
  refine ⟨t, _, rfl, ?_, q3.f hF, Nat.le_refl _, Nat.le_refl _⟩
  rw [al_f q3 hF, q2, e2]
  rfl
theorem s_daa (h : Iv t c) : SimS t 0 rf tr (fX0_adjustDecimal c) (fX9_correct (al c rf tr)) := by
  unfold fX0_adjustDecimal fX9_correct
  rw [single_7, bd2_s, flags_c, bd2_s]
  simp only [nm, bd_ite, tn_6, tn_7, alr_6, alr_7, some_ite, bd_s]
  generalize ea : hi (c.2 4 0) = a
  generalize ef : lo (c.2 4 0) = f
  generalize ex : (if f &&& 16 = 0 then (if a &&& 15 ≤ 9 then (0 : Int32) else 6) else 6) = x
  have hy : ∃ y : Int32, (if f &&& 1 = 0 then (if a ≤ 153 then (0 : Int32) else 1) else 1) = y ∧ (y = 0 ∨ y = 1) := by
    refine ⟨_, rfl, ?_⟩
    split
    · split
      · exact Or.inl rfl
      · exact Or.inr rfl
    · exact Or.inr rfl
  obtain ⟨y, ey, hy⟩ := hy
  rw [ey]
  have e1 : (if y = 0 then x else x + 96) = x + 96 * y := by
    rcases hy with rfl | rfl
    · rw [if_pos rfl]; simp
    · rw [if_neg (by decide)]; simp
  have e2 : (if y = 0 then (0 : Int32) else 1) = y := by rcases hy with rfl | rfl <;> rfl
  rw [e1, e2]
  generalize (if f &&& 2 = 0 then a + (x + 96 * y) else a - (x + 96 * y)) = z
  have hz : B8 (z &&& 255) := B8_and z
  obtain ⟨c', q1, q2, q3, -⟩ := lA (rf := rf) (tr := tr) h hz
  rw [q1, bd_s, sz_b hz, bd_s, ev_c hz, bd_s, lflags_d, bd_s, signs_m, bd_s, ev_m hz, bd_s]
  have hyb : B8 y := by rcases hy with rfl | rfl; exact B8_0; exact B8_n 1 (by omega)
  have hF : B8 ((((szF (z &&& 255) ||| evF (z &&& 255)) ||| ((a ^^^ (z &&& 255)) &&& 16)) ||| (f &&& 2)) ||| y) := B8_or (B8_or (B8_or (B8_or (B8_sz _) (B8_ev hz)) (by rw [and16]; exact B8_if (B8_n 16 (by omega)) B8_0)) (by rw [← ef]; exact B8_ae (B8_lo _))) hyb
  refine ⟨t, _, rfl, ?_, q3.f hF, Nat.le_refl _, Nat.le_refl _⟩
  rw [al_f q3 hF, q2, Int32.xor_comm a]
theorem s_changeA (h : Iv t c) {j : Nat} (hj : j < 8) : SimS t 0 rf tr (fX5_changeA (nI j) c) (fX9_accumulator (nI j) (al c rf tr)) := by
  have ha : B8 (hi (c.2 4 0)) := B8_hi (h.b (by omega))
  have hf : B8 (lo (c.2 4 0)) := B8_lo _
  unfold fX5_changeA fX9_accumulator
  simp only [nm]
  by_cases h4 : j < 4
  · have e : ∀ q, q < 4 → (nI q ∈ ([0, 1, 2, 3] : List Int32)) ∧ ¬ nI q ∈ ([4] : List Int32) ∧ ¬ nI q ∈ ([5] : List Int32) ∧ ¬ nI q ∈ ([6] : List Int32) ∧ ¬ nI q ∈ ([7] : List Int32) := by decide
    obtain ⟨e0, e4, e5, e6, e7⟩ := e j h4
    rw [if_neg e4, if_neg e5, if_neg e6, if_neg e7, if_pos e0]
    exact SimS.bd (k := 0) (k2 := 0) (s_shiftA h h4) (fun t' c' hI _ _ => SimS.ret hI)
  · rcases (show j = 4 ∨ j = 5 ∨ j = 6 ∨ j = 7 by omega) with rfl | rfl | rfl | rfl
    · rw [if_pos (by decide), if_neg (by decide), if_pos (by decide)]
      exact SimS.bd (k := 0) (k2 := 0) (s_daa h) (fun t' c' hI _ _ => SimS.ret hI)
    · rw [if_neg (by decide), if_pos (by decide), if_neg (by decide), if_neg (by decide), if_pos (by decide)]
      unfold fX0_turnRoundA
      rw [single_7, bd2_s]
      obtain ⟨c', q1, q2, q3, -⟩ := lA (rf := rf) (tr := tr) h (B8_xor ha (B8_n 255 (by omega)))
      have e1 : fX6_loadSingle (7 : Int32) (hi (c.2 4 0) ^^^ 255) c = some c' := q1
      have elo : lo (c'.2 4 0) = lo (c.2 4 0) := by
        have := congrArg (fun z => z.2 1 6) q2
        exact this
      have hF : B8 ((lo (c.2 4 0) ||| 16) ||| 2) := B8_or (B8_or hf (B8_n 16 (by omega))) (B8_n 2 (by omega))
      rw [e1, bd_s, flags_c, bd2_s, lflags_d, bd_s, elo]
      simp only [tn_6, tn_7, alr_6, alr_7]
      refine ⟨t, _, rfl, ?_, q3.f hF, Nat.le_refl _, Nat.le_refl _⟩
      rw [al_f q3 hF, q2]; rfl
    · rw [if_neg (by decide), if_neg (by decide), if_pos (by decide), if_neg (by decide), if_neg (by decide), if_neg (by decide), if_pos (by decide)]
      unfold fX0_setCarry
      have hF : B8 ((lo (c.2 4 0) &&& 196) ||| 1) := B8_or (B8_ae hf) (B8_n 1 (by omega))
      rw [flags_c, bd2_s, lflags_d, bd_s]
      simp only [tn_6, alr_6]
      exact ⟨t, _, rfl, by rw [al_f h hF], h.f hF, Nat.le_refl _, Nat.le_refl _⟩
    · rw [if_neg (by decide), if_neg (by decide), if_neg (by decide), if_pos (by decide), if_neg (by decide), if_neg (by decide), if_neg (by decide), if_neg (by decide)]
      unfold fX0_turnRoundCarry
      rw [flags_c, bd2_s]
      simp only [tn_6, alr_6, bd_ite, lflags_d, bd_s]
      have e : (if (if lo (c.2 4 0) &&& 1 = 0 then (0 : Int32) else 1) = 0 then (1 : Int32) else 16) = if lo (c.2 4 0) &&& 1 = 0 then (1 : Int32) else 16 := by
        by_cases q : lo (c.2 4 0) &&& 1 = 0
        · rw [if_pos q, if_pos q, if_pos rfl]
        · rw [if_neg q, if_neg q, if_neg (by decide)]
      rw [e]
      have hF : B8 ((lo (c.2 4 0) &&& 196) ||| (if lo (c.2 4 0) &&& 1 = 0 then (1 : Int32) else 16)) := B8_or (B8_ae hf) (B8_if (B8_n 1 (by omega)) (B8_n 16 (by omega)))
      exact ⟨t, _, rfl, by rw [al_f h hF], h.f hF, Nat.le_refl _, Nat.le_refl _⟩
end TU
