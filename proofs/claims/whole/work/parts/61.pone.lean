/-! the first quarter, side by side -/
theorem sub4 : ∀ j, j < 4 → nI (j + 4) - (4 : Int32) = nI j := by decide +kernel
section ON
variable {t : Nat} {rf : Int32 × (Int32 → Int32)} {tr : Int32} {c : zS}
theorem next_fl (h : Iv t c) (hl : t + 9 < 2 ^ 31) : ∃ (v : Int32) (t' : Nat) (c' : zS), fX3_next c = some (v, c') ∧ fX9_next (al c rf tr) = some (v, al c' rf tr) ∧ Iv t' c' ∧ t ≤ t' ∧ t' ≤ t + 9 ∧ B8 v ∧ c'.2 4 0 = c.2 4 0 := by
  have h1 := tA_le (c.2 4 9) t
  refine ⟨_, tA (c.2 4 9) t + 3, _, next_c h hl, ?_, (h.t (by omega)).p (B16_and _), by omega, by omega, h.mm _, rfl⟩
  rw [next_m (t := t) h.1 (by omega), al_pc, al_s0]; rfl
theorem s_jumpNear (h : Iv t c) (hl : t + 15 < 2 ^ 31) {j : Nat} (hj : j < 8) : SimS t 15 rf tr (fX5_jumpNear (nI j) c) (fX9_jumpRelative (nI j) (al c rf tr)) := by
  unfold fX5_jumpNear fX9_jumpRelative
  by_cases h4 : j < 4
  · rcases (show j = 0 ∨ j = 1 ∨ j = 2 ∨ j = 3 by omega) with rfl | rfl | rfl | rfl
    · rw [if_pos (by decide), if_pos (by decide)]
      exact (SimS.ret h).le (by omega)
    · rw [if_neg (by decide), if_pos (by decide), if_neg (by decide), if_pos (by decide)]
      obtain ⟨t2, c2, q1, q2, q3, q4, q5⟩ := s_exaf (rf := rf) (tr := tr) h
      rw [q1, bd_s]
      exact ⟨t2, c2, rfl, q2, q3, by omega, by omega⟩
    · rw [if_neg (by decide), if_neg (by decide), if_pos (by decide), if_neg (by decide), if_neg (by decide), if_neg (by decide), bd_s, if_pos (by decide)]
      exact s_djnz h hl
    · rw [if_neg (by decide), if_neg (by decide), if_neg (by decide), if_pos (by decide), if_neg (by decide), if_neg (by decide), if_pos (by decide), bd_s, if_neg (by decide), if_pos (by decide)]
      refine (SimV.bd (k := 9) (k2 := 5) (s_next h (by omega)) (fun v t1 c1 h1 l1 l2 hv => ?_)).le (by omega)
      simp only [nm]
      obtain ⟨t2, c2, q1, q2, q3, q4, q5⟩ := s_jumpBy (rf := rf) (tr := tr) h1 v 1
      rw [q1, bd_s]
      exact ⟨t2, c2, rfl, q2, q3, by omega, by omega⟩
  · obtain ⟨i, rfl⟩ : ∃ i, j = i + 4 := ⟨j - 4, by omega⟩
    have e : ∀ i, i < 4 → (¬ nI (i + 4) ∈ ([0] : List Int32)) ∧ (¬ nI (i + 4) ∈ ([1] : List Int32)) ∧ (¬ nI (i + 4) ∈ ([2] : List Int32)) ∧ (¬ nI (i + 4) ∈ ([3] : List Int32)) := by decide
    have e' : ∀ i, i < 4 → (¬ nI (i + 4) = 0) ∧ (¬ nI (i + 4) = 1) ∧ (¬ nI (i + 4) = 2) ∧ (¬ nI (i + 4) = 3) ∧ ¬ nI (i + 4) ≤ 3 := by decide
    obtain ⟨a0, a1, a2, a3⟩ := e i (by omega)
    obtain ⟨b0, b1, b2, b3, b4⟩ := e' i (by omega)
    rw [if_neg a0, if_neg a1, if_neg a2, if_neg a3, if_neg b0, if_neg b1, if_neg b3, bd_s, if_neg b2, if_neg b4, sub4 i (by omega)]
    obtain ⟨v, t1, c1, n1, n2, n3, n4, n5, n6, n7⟩ := next_fl (rf := rf) (tr := tr) h (by omega)
    have hc := holds_cm (rf := rf) (tr := tr) (c := c) (j := i) (by omega)
    have hc1 := holds_cm (rf := rf) (tr := tr) (c := c1) (j := i) (by omega)
    rw [n7] at hc1
    rw [hc.2.2, bd2_s, n1, n2, bd2_s, bd2_s, hc1.2.1, bd2_s]
    simp only [nm]
    obtain ⟨t2, c2, q1, q2, q3, q4, q5⟩ := s_jumpBy (rf := rf) (tr := tr) n3 v (hdF i (lo (c.2 4 0)))
    rw [q1, bd_s]
    exact ⟨t2, c2, rfl, q2, q3, by omega, by omega⟩
theorem load_k {q : Nat} (hq : q < 4) (v : Int32) : fX6_load (nI (if q = 3 then 8 else q + 1)) v c = some (st2 c 4 (if q = 3 then 8 else q + 1) (v &&& 65535)) := by
  match q, hq with
  | 0, _ => rfl
  | 1, _ => rfl
  | 2, _ => rfl
  | 3, _ => rfl
theorem s_loadPair (h : Iv t c) (hl : t + 18 < 2 ^ 31) {q : Nat} (hq : q < 4) : SimS t 18 rf tr (bd2 (fX3_nextPair c) fun r12 s13 => bd (fX6_load (nI (if q = 3 then 8 else q + 1)) r12 s13) fun s15 => some s15) (bd2 (fX9_nextPair (al c rf tr)) fun r11 s12 => bd (fX9_setPair (nI q) r11 s12) fun s14 => some s14) := by
  refine SimV.bd (k := 18) (k2 := 0) (s_nextPair h hl) (fun v t1 c1 h1 l1 l2 hv => ?_)
  rw [load_k hq, setPair_m h1 hq, bd_s, bd_s]
  exact SimS.ret (h1.p (B16_and v))
theorem s_stepPair (h : Iv t c) {q : Nat} (hq : q < 4) (d : Int32) : SimS t 2 rf tr (bd (fX1_pass (2 : Int32) c) fun s2 => bd (some (nI (if q = 3 then 8 else q + 1))) fun r4 => bd (fX6_move r4 d s2) fun s10 => some s10) (bd2 (fX9_pair (nI q) (st1 (al c rf tr) 3 (((al c rf tr).1 3) + (2 : Int32)))) fun r20 s21 => bd (fX9_setPair (nI q) ((r20 + d) &&& (65535 : Int32)) s21) fun s27 => some s27) := by
  have h1 := h.t (t' := t + 2) (by omega)
  have hb : (if q = 3 then 8 else q + 1) < 10 := by split <;> omega
  have em : mk (if q = 3 then 8 else q + 1) = 65535 := by
    rcases (show q = 0 ∨ q = 1 ∨ q = 2 ∨ q = 3 by omega) with rfl | rfl | rfl | rfl <;> rfl
  rw [show fX1_pass (2 : Int32) c = some (st1 c 0 (nI (t + 2))) from pass_c h 2, bd_s, bd_s, al_3, h.1, show nI t + (2 : Int32) = nI (t + 2) from nI_add t 2, ← al_s0, pair_m h1 hq, bd2_s, setPair_m h1 hq, bd_s, and_65535, move_c hb, bd_s, em]
  exact ⟨t + 2, _, rfl, rfl, h1.p (B16_and _), by omega, by omega⟩
theorem s_storeA (h : Iv t c) (hl : t + 9 < 2 ^ 31) (a : Int32) : SimS t 9 rf tr (fX5_storeA a c) (bd (fX9_write a (hi (c.2 4 0)) (al c rf tr)) fun s => some s) := by
  unfold fX5_storeA
  rw [single_7, bd2_s]
  exact SimS.bd (k := 9) (k2 := 0) (s_write h hl a _) (fun t' c' hI _ _ => SimS.ret hI)
theorem s_loadA (h : Iv t c) (hl : t + 9 < 2 ^ 31) (a : Int32) : SimS t 9 rf tr (fX5_loadA a c) (bd2 (fX9_read a (al c rf tr)) fun r s => some (st2 s 1 7 r)) := by
  unfold fX5_loadA
  refine SimV.bd (k := 9) (k2 := 0) (s_read h hl a) (fun v t1 c1 h1 l1 l2 hv => ?_)
  obtain ⟨c', q1, q2, q3, -⟩ := lA (rf := rf) (tr := tr) h1 hv
  rw [q1, bd_s]
  exact ⟨t1, c', rfl, by rw [q2], q3, Nat.le_refl _, Nat.le_refl _⟩
theorem s_writeHL (h : Iv t c) (hl : t + 18 < 2 ^ 31) (a : Int32) : SimS t 18 rf tr (fX3_writePair a (c.2 4 3) c) (bd (fX9_write a (lo (c.2 4 3)) (al c rf tr)) fun s7 => bd (fX9_write (a + (1 : Int32)) (s7.2 1 4) s7) fun s9 => some s9) := by
  have l1 := tA_le a t
  have l2 := tA_le (a + 1) (tA a t + 3)
  unfold fX3_writePair
  rw [show ∀ x, fX2_write a x c = _ from fun x => write_c (t := t) h.1 (by omega) a x, bd_s, write_m (t := t) h.1 (by omega), bd_s, ← al_s0, ← al_w]
  have h1 : Iv (tA a t + 3) (wrm (st1 c 0 (nI (tA a t + 3))) a (lo (c.2 4 3))) := (h.t (by omega)).w
  have e1 : (al (wrm (st1 c 0 (nI (tA a t + 3))) a (lo (c.2 4 3))) rf tr).2 1 4 = hi (c.2 4 3) := by
    rw [alr_4, wrm_4]; rfl
  rw [e1]
  have := s_write (rf := rf) (tr := tr) h1 (by omega) (a + 1) (hi (c.2 4 3))
  obtain ⟨t2, c2, q1, q2, q3, q4, q5⟩ := this
  have q1' : fX2_write (a + 1) ((c.2 4 3) >>> ((8 : Int32) &&& 31)) (wrm (st1 c 0 (nI (tA a t + 3))) a ((c.2 4 3) &&& 255)) = some c2 := q1
  rw [q1', q2, bd_s, bd_s]
  exact ⟨t2, c2, rfl, rfl, q3, by omega, by omega⟩
theorem s_readHL (h : Iv t c) (hl : t + 18 < 2 ^ 31) (a : Int32) : SimS t 18 rf tr (bd2 (fX3_readPair a c) fun r39 s40 => bd (fX6_load (3 : Int32) r39 s40) fun s42 => some s42) (bd2 (fX9_read a (al c rf tr)) fun r12 s13 => bd2 (fX9_read (a + (1 : Int32)) (st2 s13 1 5 r12)) fun r15 s16 => some (st2 s16 1 4 r15)) := by
  have l1 := tA_le a t
  have l2 := tA_le (a + 1) (tA a t + 3)
  unfold fX3_readPair
  rw [read_c (t := t) h.1 (by omega), bd2_s, read_c (c := st1 c 0 (nI (tA a t + 3))) (t := tA a t + 3) rfl (by omega), bd2_s, bd2_s, st1_same, load_3, bd_s, read_m (t := t) h.1 (by omega), bd2_s, read_m (m := st2 (st1 (al c rf tr) 3 (nI (tA a t + 3))) 1 5 ((al c rf tr).2 0 (ix a))) (t := tA a t + 3) rfl (by omega), bd2_s]
  have h1 : Iv (tA (a + 1) (tA a t + 3) + 3) (st1 c 0 (nI (tA (a + 1) (tA a t + 3) + 3))) := h.t (by omega)
  refine ⟨tA (a + 1) (tA a t + 3) + 3, _, rfl, ?_, h1.hl _, by omega, by omega⟩
  unfold cHL
  have hp : B16 (pr (c.2 0 (ix (a + 1))) (c.2 0 (ix a))) := B16_pr (h.mm _) (h.mm _)
  have e : ((c.2 0 (ix (a + 1)) <<< ((8 : Int32) &&& 31)) ||| c.2 0 (ix a)) &&& 65535 = pr (c.2 0 (ix (a + 1))) (c.2 0 (ix a)) := B16_id hp
  show some (st2 (st1 (st2 (st1 (al c rf tr) 3 (nI (tA a t + 3))) 1 5 (c.2 0 (ix a))) 3 (nI (tA (a + 1) (tA a t + 3) + 3))) 1 4 (c.2 0 (ix (a + 1)))) = some (al (st2 (st1 c 0 (nI (tA (a + 1) (tA a t + 3) + 3))) 4 3 (((c.2 0 (ix (a + 1)) <<< ((8 : Int32) &&& 31)) ||| c.2 0 (ix a)) &&& 65535)) rf tr)
  rw [e, al_p3, hi_pr (h.mm _) (h.mm _), lo_pr (h.mm _) (h.mm _), al_s0]
  simp only [st12, st1_same]
  rw [st2_comm (i := 5) (j := 4) (Or.inr (by decide))]
theorem s_loads (h : Iv t c) (hl : t + 36 < 2 ^ 31) {j : Nat} (hj : j < 8) : SimS t 36 rf tr (fX5_loadByAddress (nI j) c) (fX9_loads (nI j) (al c rf tr)) := by
  unfold fX5_loadByAddress fX9_loads
  match j, hj with
  | 0, _ =>
    rw [if_pos (by decide), if_neg (by decide), pair_1, bd2_s, show fX9_pair (nI 0 / (2 : Int32)) (al c rf tr) = some (c.2 4 1, al c rf tr) from pair_m h (n := 0) (by omega), bd2_s, if_pos (by decide), tn_7, alr_7]
    obtain ⟨t2, c2, q1, q2, q3, q4, q5⟩ := s_storeA (rf := rf) (tr := tr) h (by omega) (c.2 4 1)
    rw [q1, q2, bd_s]
    exact ⟨t2, c2, rfl, rfl, q3, by omega, by omega⟩
  | 1, _ =>
    rw [if_neg (by decide), if_pos (by decide), if_neg (by decide), pair_1, bd2_s, show fX9_pair (nI 1 / (2 : Int32)) (al c rf tr) = some (c.2 4 1, al c rf tr) from pair_m h (n := 0) (by omega), bd2_s, if_neg (by decide), tn_7]
    obtain ⟨t2, c2, q1, q2, q3, q4, q5⟩ := s_loadA (rf := rf) (tr := tr) h (by omega) (c.2 4 1)
    rw [q1, q2, bd_s]
    exact ⟨t2, c2, rfl, rfl, q3, by omega, by omega⟩
  | 2, _ =>
    rw [if_neg (by decide), if_neg (by decide), if_pos (by decide), if_neg (by decide), pair_2, bd2_s, show fX9_pair (nI 2 / (2 : Int32)) (al c rf tr) = some (c.2 4 2, al c rf tr) from pair_m h (n := 1) (by omega), bd2_s, if_pos (by decide), tn_7, alr_7]
    obtain ⟨t2, c2, q1, q2, q3, q4, q5⟩ := s_storeA (rf := rf) (tr := tr) h (by omega) (c.2 4 2)
    rw [q1, q2, bd_s]
    exact ⟨t2, c2, rfl, rfl, q3, by omega, by omega⟩
  | 3, _ =>
    rw [if_neg (by decide), if_neg (by decide), if_neg (by decide), if_pos (by decide), if_neg (by decide), pair_2, bd2_s, show fX9_pair (nI 3 / (2 : Int32)) (al c rf tr) = some (c.2 4 2, al c rf tr) from pair_m h (n := 1) (by omega), bd2_s, if_neg (by decide), tn_7]
    obtain ⟨t2, c2, q1, q2, q3, q4, q5⟩ := s_loadA (rf := rf) (tr := tr) h (by omega) (c.2 4 2)
    rw [q1, q2, bd_s]
    exact ⟨t2, c2, rfl, rfl, q3, by omega, by omega⟩
  | 4, _ =>
    rw [if_neg (by decide), if_neg (by decide), if_neg (by decide), if_neg (by decide), if_pos (by decide), if_pos (by decide)]
    refine SimV.bd (k := 18) (k2 := 18) (s_nextPair h (by omega)) (fun v t1 c1 h1 l1 l2 hv => ?_)
    rw [if_pos (by decide), pair_3, bd2_s, tn_5, alr_5]
    simp only [tn_4]
    obtain ⟨t2, c2, q1, q2, q3, q4, q5⟩ := s_writeHL (rf := rf) (tr := tr) h1 (by omega) v
    rw [q1, q2, bd_s]
    exact ⟨t2, c2, rfl, rfl, q3, by omega, by omega⟩
  | 5, _ =>
    rw [if_neg (by decide), if_neg (by decide), if_neg (by decide), if_neg (by decide), if_neg (by decide), if_pos (by decide), if_pos (by decide)]
    refine SimV.bd (k := 18) (k2 := 18) (s_nextPair h (by omega)) (fun v t1 c1 h1 l1 l2 hv => ?_)
    rw [if_neg (by decide), if_pos (by decide)]
    simp only [tn_4, tn_5]
    exact s_readHL h1 (by omega) v
  | 6, _ =>
    rw [if_neg (by decide), if_neg (by decide), if_neg (by decide), if_neg (by decide), if_neg (by decide), if_neg (by decide), if_pos (by decide), if_pos (by decide)]
    refine SimV.bd (k := 18) (k2 := 18) (s_nextPair h (by omega)) (fun v t1 c1 h1 l1 l2 hv => ?_)
    rw [if_neg (by decide), if_neg (by decide), if_pos (by decide), tn_7, alr_7]
    obtain ⟨t2, c2, q1, q2, q3, q4, q5⟩ := s_storeA (rf := rf) (tr := tr) h1 (by omega) v
    rw [q1, q2, bd_s]
    exact ⟨t2, c2, rfl, rfl, q3, by omega, by omega⟩
  | 7, _ =>
    rw [if_neg (by decide), if_neg (by decide), if_neg (by decide), if_neg (by decide), if_neg (by decide), if_neg (by decide), if_neg (by decide), if_pos (by decide)]
    refine SimV.bd (k := 18) (k2 := 18) (s_nextPair h (by omega)) (fun v t1 c1 h1 l1 l2 hv => ?_)
    rw [if_neg (by decide), if_neg (by decide), if_neg (by decide), tn_7]
    obtain ⟨t2, c2, q1, q2, q3, q4, q5⟩ := s_loadA (rf := rf) (tr := tr) h1 (by omega) v
    rw [q1, q2, bd_s]
    exact ⟨t2, c2, rfl, rfl, q3, by omega, by omega⟩
theorem s_one (h : Iv t c) (hl : t + 36 < 2 ^ 31) {n : Nat} (hn : n < 64) : SimS t 36 rf tr (fX5_executeFirstQuarter (nI (n / 8 % 8)) (nI (n % 8)) c) (fX9_one (nI n) (al c rf tr)) := by
  have k3 : ∀ n, n < 64 → (nI n >>> ((4 : Int32) &&& 31)) &&& 3 = nI (n / 16 % 4) ∧ (nI (n / 8 % 8) >>> ((1 : Int32) &&& 31)) = nI (n / 16 % 4) ∧ ((nI (n / 8 % 8) &&& 1 = 0) ↔ (nI n &&& 8 = 0)) := by decide +kernel
  obtain ⟨e4, e1, e8⟩ := k3 n hn
  have e3 : (nI n >>> ((3 : Int32) &&& 31)) &&& 7 = nI (n / 8 % 8) := by rw [cd_3 (by omega), nz_7]
  have e7 : nI n &&& 7 = nI (n % 8) := nz_7 n
  unfold fX5_executeFirstQuarter fX9_one
  simp only [nm, e3, e4, e7]
  have hm : n / 8 % 8 < 8 := by omega
  have hq : n / 16 % 4 < 4 := by omega
  rcases (show n % 8 = 0 ∨ n % 8 = 1 ∨ n % 8 = 2 ∨ n % 8 = 3 ∨ n % 8 = 4 ∨ n % 8 = 5 ∨ n % 8 = 6 ∨ n % 8 = 7 by omega) with z | z | z | z | z | z | z | z <;> rw [z]
  · rw [if_pos (by decide), if_pos (by decide)]
    exact (SimS.bd (k := 15) (k2 := 0) (s_jumpNear h (by omega) hm) (fun t' c' hI _ _ => SimS.ret hI)).le (by omega)
  · rw [if_neg (by decide), if_pos (by decide), if_neg (by decide), if_pos (by decide)]
    unfold fX5_loadPairOrAdd
    rw [e1, pairOf_c hq, bd_s]
    by_cases d : nI n &&& 8 = 0
    · rw [if_pos d, if_pos (e8.mpr d)]
      obtain ⟨t2, c2, q1, q2, q3, q4, q5⟩ := s_loadPair (rf := rf) (tr := tr) h (by omega) hq
      rw [q1, q2, bd_s]
      exact ⟨t2, c2, rfl, rfl, q3, by omega, by omega⟩
    · rw [if_neg d, if_neg (mt e8.mp d)]
      obtain ⟨t2, c2, q1, q2, q3, q4, q5⟩ := s_addHl (rf := rf) (tr := tr) h hq
      rw [q1, q2, bd_s, bd_s]
      exact ⟨t2, c2, rfl, rfl, q3, by omega, by omega⟩
  · rw [if_neg (by decide), if_neg (by decide), if_pos (by decide), if_neg (by decide), if_neg (by decide), if_pos (by decide)]
    exact SimS.bd (k := 36) (k2 := 0) (s_loads h (by omega) hm) (fun t' c' hI _ _ => SimS.ret hI)
  · rw [if_neg (by decide), if_neg (by decide), if_neg (by decide), if_pos (by decide), if_neg (by decide), if_neg (by decide), if_neg (by decide), if_pos (by decide)]
    unfold fX5_stepPair
    have ei : (if nI (n / 8 % 8) &&& 1 = 0 then (1 : Int32) else -1) = if nI n &&& 8 = 0 then (1 : Int32) else -1 := if_cg e8
    rw [e1, pairOf_c hq]
    simp only [bd_ite, ei]
    obtain ⟨t2, c2, q1, q2, q3, q4, q5⟩ := s_stepPair (rf := rf) (tr := tr) h hq (if nI n &&& 8 = 0 then (1 : Int32) else -1)
    rw [q1, q2, bd_s]
    exact ⟨t2, c2, rfl, rfl, q3, by omega, by omega⟩
  · rw [if_neg (by decide), if_neg (by decide), if_neg (by decide), if_neg (by decide), if_pos (by decide), if_neg (by decide), if_neg (by decide), if_neg (by decide), if_neg (by decide), if_pos (by decide), if_neg (by decide), bd_s]
    exact (SimS.bd (k := 19) (k2 := 0) (s_step h (by omega) hm true) (fun t' c' hI _ _ => SimS.ret hI)).le (by omega)
  · rw [if_neg (by decide), if_neg (by decide), if_neg (by decide), if_neg (by decide), if_neg (by decide), if_pos (by decide), if_neg (by decide), if_neg (by decide), if_neg (by decide), if_neg (by decide), if_pos (by decide), if_pos (by decide), bd_s]
    exact (SimS.bd (k := 19) (k2 := 0) (s_step h (by omega) hm false) (fun t' c' hI _ _ => SimS.ret hI)).le (by omega)
  · rw [if_neg (by decide), if_neg (by decide), if_neg (by decide), if_neg (by decide), if_neg (by decide), if_neg (by decide), if_pos (by decide), if_neg (by decide), if_neg (by decide), if_neg (by decide), if_neg (by decide), if_neg (by decide), if_pos (by decide)]
    refine (SimV.bd (k := 9) (k2 := 9) (s_next h (by omega)) (fun v t1 c1 h1 l1 l2 hv => ?_)).le (by omega)
    exact SimS.bd (k := 9) (k2 := 0) (s_store h1 (by omega) hm hv) (fun t' c' hI _ _ => SimS.ret hI)
  · rw [if_neg (by decide), if_neg (by decide), if_neg (by decide), if_neg (by decide), if_neg (by decide), if_neg (by decide), if_neg (by decide), if_neg (by decide), if_neg (by decide), if_neg (by decide), if_neg (by decide), if_neg (by decide), if_neg (by decide)]
    exact (SimS.bd (k := 0) (k2 := 0) (s_changeA h hm) (fun t' c' hI _ _ => SimS.ret hI)).le (by omega)
end ON
