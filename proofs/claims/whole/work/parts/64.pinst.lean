/-! the last quarter whole; the instruction -/
section IN
variable {t : Nat} {rf : Int32 × (Int32 → Int32)} {tr : Int32} {c : zS}
theorem fetch_x (h : Iv t c) (hl : t + 10 < 2 ^ 31) : ∃ t' : Nat, t + 4 ≤ t' ∧ t' ≤ t + 10 ∧ fX3_fetchNext c = some (c.2 0 (ix (c.2 4 9)), st2 (st1 c 0 (nI t')) 4 9 ((c.2 4 9 + 1) &&& 65535)) ∧ fX9_fetch (al c rf tr) = some (c.2 0 (ix (c.2 4 9)), al (st2 (st1 c 0 (nI t')) 4 9 ((c.2 4 9 + 1) &&& 65535)) rf tr) := by
  have h1 := tA_le (c.2 4 9) t
  refine ⟨tA (c.2 4 9) t + 4, by omega, by omega, ?_, ?_⟩
  · unfold fX3_fetchNext
    rw [pair_9, bd2_s, fetch_c h.1 (by omega), bd2_s, move_9, bd_s]; rfl
  · rw [fetch_m (t := t) h.1 (by omega), al_pc, al_s0]; rfl
theorem Iv.i5 (h : Iv t c) {v : Int32} (hv : v = 0 ∨ v = 1) : Iv t (st1 c 5 v) := by
  obtain ⟨h1, h2, h3, ⟨a, b, d, e⟩, h5, h6⟩ := h
  exact ⟨h1, h2, h3, ⟨a, hv, d, e⟩, h5, h6⟩
theorem Iv.i6 (h : Iv t c) {v : Int32} (hv : v = 0 ∨ v = 1) (hh : c.1 4 = 0 ∨ v = 0) : Iv t (st1 c 6 v) := by
  obtain ⟨h1, h2, h3, ⟨a, b, d, e⟩, h5, h6⟩ := h
  exact ⟨h1, h2, h3, ⟨a, b, hv, hh⟩, h5, h6⟩
theorem Iv.i4 (h : Iv t c) {v : Int32} (hv : v = 0 ∨ v = 1) (hh : v = 0 ∨ c.1 6 = 0) : Iv t (st1 c 4 v) := by
  obtain ⟨h1, h2, h3, ⟨a, b, d, e⟩, h5, h6⟩ := h
  exact ⟨h1, h2, h3, ⟨hv, b, d, hh⟩, h5, h6⟩
theorem Iv.i7 (h : Iv t c) (v : Int32) : Iv t (st1 c 7 v) := h
theorem Iv.i8 (h : Iv t c) (v : Int32) : Iv t (st1 c 8 v) := h
set_option maxRecDepth 4000 in
theorem s_three (h : Iv t c) (hl : t + 40 < 2 ^ 31) (hj : c.1 6 = 0) (hh : c.1 4 = 0) {n : Nat} (n1 : 192 ≤ n) (n2 : n < 256) (d1 : n ≠ 221) (d2 : n ≠ 253) (hcb : n = 203 → ∀ q, q < 256 → c.2 0 (ix (c.2 4 9)) = nI q → q / 8 ≠ 6) (hed : n = 237 → ∀ q, q < 256 → c.2 0 (ix (c.2 4 9)) = nI q → (q &&& 199 = 66 ∨ q = 68 ∨ q = 160 ∨ q = 176)) :
    SimS t 40 rf tr (if alone n then fX5_executeAlone (nI n) c else fX5_executeLastQuarter (nI (n / 8 % 8)) (nI (n % 8)) c) (fX9_three (nI n) (al c rf tr)) := by
  have hk : n / 8 % 8 < 8 := by omega
  have e3 : (nI n >>> ((3 : Int32) &&& 31)) &&& 7 = nI (n / 8 % 8) := by rw [cd_3 (by omega), nz_7]
  have e7 : nI n &&& 7 = nI (n % 8) := nz_7 n
  unfold fX9_three
  simp only [nm, e3, e7]
  rcases (show n % 8 = 0 ∨ n % 8 = 1 ∨ n % 8 = 2 ∨ n % 8 = 3 ∨ n % 8 = 4 ∨ n % 8 = 5 ∨ n % 8 = 6 ∨ n % 8 = 7 by omega) with z | z | z | z | z | z | z | z
  · -- RET c
    rw [if_neg (show ¬ alone n by omega), z, if_pos (by decide)]
    unfold fX5_executeLastQuarter
    rw [if_pos (by decide)]
    exact (s_retIf h (by omega) hk).le (by omega)
  · -- POP, RET, EXX, JP (HL), LD SP,HL
    by_cases ev : n / 8 % 2 = 0
    · rw [if_neg (show ¬ alone n by omega), z, if_neg (by decide), if_pos (by decide)]
      unfold fX9_back
      unfold fX5_executeLastQuarter
      rw [if_neg (by decide), if_pos (by decide)]
      have eh : ∀ k, k < 8 → k % 2 = 0 → nI k >>> ((1 : Int32) &&& 31) = nI (k / 2) ∧ nI k / (2 : Int32) = nI (k / 2) ∧ ((nI k ∈ ([0, 2, 4] : List Int32)) ↔ k / 2 ≠ 3) := by decide +kernel
      obtain ⟨a1, a2, a3⟩ := eh (n / 8 % 8) hk (by omega)
      rw [a1]
      have key := s_popP (rf := rf) (tr := tr) h (by omega) (q := n / 8 % 8 / 2) (by omega)
      obtain ⟨t2, c2, q1, q2, q3, q4, q5⟩ := key
      rw [q1]
      refine ⟨t2, c2, rfl, ?_, q3, by omega, by omega⟩
      by_cases y : n / 8 % 8 / 2 = 3
      · have e6 : n / 8 % 8 = 6 := by omega
        have b1 : ¬ nI (n / 8 % 8) ∈ ([1] : List Int32) := by rw [e6]; decide
        have b2 : ¬ nI (n / 8 % 8) ∈ ([3] : List Int32) := by rw [e6]; decide
        have b3 : ¬ nI (n / 8 % 8) ∈ ([5] : List Int32) := by rw [e6]; decide
        have b4 : nI (n / 8 % 8) ∈ ([6] : List Int32) := by rw [e6]; decide
        rw [if_pos y] at q2
        rw [if_neg (fun w => (a3.mp w) y), if_neg b1, if_neg b2, if_neg b3, if_pos b4]
        simp only [tn_7, tn_6]
        rw [q2, bd_s]
      · rw [if_neg y] at q2
        rw [if_pos (a3.mpr y), a2, q2, bd_s]
    · rw [if_pos (show alone n by omega), z, if_neg (by decide), if_pos (by decide)]
      unfold fX9_back
      rcases (show n = 201 ∨ n = 217 ∨ n = 233 ∨ n = 249 by omega) with rfl | rfl | rfl | rfl
      · unfold fX5_executeAlone
        rw [if_neg (by decide), if_pos (by decide), if_neg (by decide), if_pos (by decide)]
        obtain ⟨t2, c2, q1, q2, q3, q4, q5⟩ := SimV.bd (k := 18) (k2 := 0) (s_pop (rf := rf) (tr := tr) h (by omega)) (f := fun r9 s10 => bd (fX5_jumpTo r9 (1 : Int32) s10) fun s12 => some s12) (g := fun r9 s10 => some (st1 s10 2 r9)) (fun v t' c' hI _ _ hv => by
          unfold fX5_jumpTo
          rw [if_neg (by decide)]
          obtain ⟨u, w, z1, z2, z3, z4, z5⟩ := s_goto (rf := rf) (tr := tr) hI hv
          rw [z1, bd_s]
          exact ⟨u, w, rfl, z2, z3, z4, z5⟩)
        rw [q1, q2, bd_s]
        exact ⟨t2, c2, rfl, rfl, q3, by omega, by omega⟩
      · unfold fX5_executeAlone
        rw [if_neg (by decide), if_neg (by decide), if_neg (by decide), if_neg (by decide), if_neg (by decide), if_pos (by decide), if_neg (by decide), if_neg (by decide), if_pos (by decide)]
        obtain ⟨t2, c2, q1, q2, q3, q4, q5⟩ := s_exx (rf := rf) (tr := tr) h
        rw [q1, q2, bd_s, bd_s, bd_s]
        exact ⟨t2, c2, rfl, rfl, q3, by omega, by omega⟩
      · unfold fX5_executeAlone
        rw [if_neg (by decide), if_neg (by decide), if_neg (by decide), if_neg (by decide), if_neg (by decide), if_neg (by decide), if_neg (by decide), if_neg (by decide), if_pos (by decide), if_neg (by decide), if_neg (by decide), if_neg (by decide), if_pos (by decide), pair_3, bd2_s, hl_m h, bd2_s, bd_s]
        unfold fX5_jumpTo
        rw [if_neg (by decide)]
        obtain ⟨t2, c2, q1, q2, q3, q4, q5⟩ := s_goto (rf := rf) (tr := tr) h (h.b (k := 3) (by omega))
        rw [q1, bd_s]
        exact ⟨t2, c2, rfl, q2, q3, by omega, by omega⟩
      · unfold fX5_executeAlone fX5_loadStackFromHl
        have h2 := h.t (t' := t + 2) (by omega)
        rw [if_neg (by decide), if_neg (by decide), if_neg (by decide), if_neg (by decide), if_neg (by decide), if_neg (by decide), if_neg (by decide), if_neg (by decide), if_neg (by decide), if_neg (by decide), if_neg (by decide), if_neg (by decide), if_pos (by decide), if_neg (by decide), if_neg (by decide), if_neg (by decide), if_neg (by decide), if_neg (by decide), show fX1_pass (2 : Int32) c = some (st1 c 0 (nI (t + 2))) from pass_c h 2, bd_s, pair_3, bd2_s, load_8, bd_s, bd_s, al_3, h.1, show nI t + (2 : Int32) = nI (t + 2) from nI_add t 2, ← al_s0, hl_m h2, bd2_s, bd_s, B16_id (h2.b (k := 3) (by omega))]
        exact ⟨t + 2, _, rfl, by rw [al_sp], h2.p (h2.b (by omega)), by omega, by omega⟩
  · -- JP c,nn
    rw [if_neg (show ¬ alone n by omega), z, if_neg (by decide), if_neg (by decide), if_pos (by decide)]
    unfold fX5_executeLastQuarter
    rw [if_neg (by decide), if_neg (by decide), if_pos (by decide)]
    exact (s_jumpIf h (by omega) hk).le (by omega)
  · rw [if_pos (show alone n by omega), z, if_neg (by decide), if_neg (by decide), if_neg (by decide), if_pos (by decide)]
    unfold fX9_various fX5_executeAlone
    rcases (show n = 195 ∨ n = 203 ∨ n = 211 ∨ n = 219 ∨ n = 227 ∨ n = 235 ∨ n = 243 ∨ n = 251 by omega) with rfl | rfl | rfl | rfl | rfl | rfl | rfl | rfl
    · rw [if_pos (by decide), if_pos (by decide)]
      obtain ⟨t2, c2, q1, q2, q3, q4, q5⟩ := SimV.bd (k := 18) (k2 := 0) (s_nextPair (rf := rf) (tr := tr) h (by omega)) (f := fun r9 s10 => bd (fX5_jumpTo r9 (1 : Int32) s10) fun s12 => some s12) (g := fun r9 s10 => some (st1 s10 2 r9)) (fun v t' c' hI _ _ hv => by
        unfold fX5_jumpTo
        rw [if_neg (by decide)]
        obtain ⟨u, w, z1, z2, z3, z4, z5⟩ := s_goto (rf := rf) (tr := tr) hI hv
        rw [z1, bd_s]
        exact ⟨u, w, rfl, z2, z3, z4, z5⟩)
      rw [q1, q2, bd_s]
      exact ⟨t2, c2, rfl, rfl, q3, by omega, by omega⟩
    · rw [if_neg (by decide), if_neg (by decide), if_pos (by decide), if_neg (by decide), if_pos (by decide)]
      obtain ⟨t', l1, l2, ec, em⟩ := fetch_x (rf := rf) (tr := tr) h (by omega)
      obtain ⟨q, hq, eq⟩ := h.mm (ix (c.2 4 9))
      have h1 : Iv t' (st2 (st1 c 0 (nI t')) 4 9 ((c.2 4 9 + 1) &&& 65535)) := (h.t (by omega)).p (B16_and _)
      rw [ec, em, bd2_s, bd2_s, eq]
      obtain ⟨t2, c2, q1, q2, q3, q4, q5⟩ := s_bits (rf := rf) (tr := tr) h1 (by omega) hq (hcb rfl q hq eq)
      rw [q1, q2, bd_s, bd_s, bd_s]
      exact ⟨t2, c2, rfl, rfl, q3, by omega, by omega⟩
    · rw [if_neg (by decide), if_neg (by decide), if_neg (by decide), if_neg (by decide), if_pos (by decide), if_neg (by decide), if_neg (by decide), if_pos (by decide)]
      obtain ⟨t2, c2, q1, q2, q3, q4, q5⟩ := SimV.bd (k := 9) (k2 := 10) (s_next (rf := rf) (tr := tr) h (by omega)) (f := fun r27 s28 => bd2 (fX6_single (7 : Int32) s28) fun r30 s31 => bd (fX4_output r27 r30 s31) fun s33 => some s33) (g := fun r13 s14 => bd (fX9_send r13 s14) fun s16 => some s16) (fun v t' c' hI w1 w2 hv => by
        obtain ⟨m, hm, rfl⟩ := hv
        rw [single_7, bd2_s]
        obtain ⟨u, w, z1, z2, z3, z4, z5⟩ := s_output (rf := rf) (tr := tr) hI (by omega) hm
        rw [z1, z2, bd_s, bd_s]
        exact ⟨u, w, rfl, rfl, z3, z4, z5⟩)
      rw [q1, q2, bd_s]
      exact ⟨t2, c2, rfl, rfl, q3, by omega, by omega⟩
    · rw [if_neg (by decide), if_neg (by decide), if_neg (by decide), if_neg (by decide), if_neg (by decide), if_neg (by decide), if_pos (by decide), if_neg (by decide), if_neg (by decide), if_neg (by decide), if_pos (by decide)]
      unfold fX5_inputToA
      obtain ⟨t2, c2, q1, q2, q3, q4, q5⟩ := SimV.bd (k := 9) (k2 := 10) (s_next (rf := rf) (tr := tr) h (by omega)) (f := fun r2 s3 => bd2 (fX6_single (7 : Int32) s3) fun r5 s6 => bd2 (fX4_input r2 r5 s6) fun r8 s9 => bd (fX6_loadSingle (7 : Int32) r8 s9) fun s11 => some s11) (g := fun r19 s20 => bd (fX9_receive r19 s20) fun s22 => some s22) (fun v t' c' hI w1 w2 hv => by
        obtain ⟨m, hm, rfl⟩ := hv
        rw [single_7, bd2_s]
        obtain ⟨u, w, z1, z2, z3, z4, z5⟩ := s_input (rf := rf) (tr := tr) hI (by omega) hm
        rw [z1, z2, bd_s]
        exact ⟨u, w, rfl, rfl, z3, z4, z5⟩)
      rw [q1, q2, bd_s, bd_s]
      exact ⟨t2, c2, rfl, rfl, q3, by omega, by omega⟩
    · rw [if_neg (by decide), if_neg (by decide), if_neg (by decide), if_neg (by decide), if_neg (by decide), if_neg (by decide), if_neg (by decide), if_pos (by decide), if_neg (by decide), if_neg (by decide), if_neg (by decide), if_neg (by decide), if_pos (by decide)]
      simp only [tn_5, tn_4]
      obtain ⟨t2, c2, q1, q2, q3, q4, q5⟩ := s_exsp (rf := rf) (tr := tr) h (by omega)
      rw [q1, q2, bd_s, bd_s]
      exact ⟨t2, c2, rfl, rfl, q3, by omega, by omega⟩
    · rw [if_neg (by decide), if_neg (by decide), if_neg (by decide), if_neg (by decide), if_neg (by decide), if_neg (by decide), if_neg (by decide), if_neg (by decide), if_neg (by decide), if_pos (by decide), if_neg (by decide), if_neg (by decide), if_neg (by decide), if_neg (by decide), if_neg (by decide), if_pos (by decide)]
      obtain ⟨t2, c2, q1, q2, q3, q4, q5⟩ := s_exdehl (rf := rf) (tr := tr) h
      rw [q1, q2, bd_s, bd_s]
      exact ⟨t2, c2, rfl, rfl, q3, by omega, by omega⟩
    · rw [if_neg (by decide), if_neg (by decide), if_neg (by decide), if_neg (by decide), if_neg (by decide), if_neg (by decide), if_neg (by decide), if_neg (by decide), if_neg (by decide), if_neg (by decide), if_neg (by decide), if_pos (by decide), if_neg (by decide), if_neg (by decide), if_neg (by decide), if_neg (by decide), if_neg (by decide), if_neg (by decide), if_neg (by decide), bd_s]
      unfold gd
      rw [if_pos (by decide), bd_s, if_pos (by decide), bd_s]
      refine ⟨t, st1 c 5 0, rfl, ?_, h.i5 (by decide), by omega, by omega⟩
      rw [al_s5]
      exact congrArg some (st1_eq hj)
    · rw [if_neg (by decide), if_neg (by decide), if_neg (by decide), if_neg (by decide), if_neg (by decide), if_neg (by decide), if_neg (by decide), if_neg (by decide), if_neg (by decide), if_neg (by decide), if_neg (by decide), if_neg (by decide), if_neg (by decide), if_neg (by decide), if_neg (by decide), if_neg (by decide), if_neg (by decide), if_neg (by decide), if_neg (by decide), if_pos (by decide), bd_s]
      unfold gd fX5_turnInterruptsOn
      rw [if_pos (by decide), bd_s, bd_s, if_pos (by decide), bd_s]
      refine ⟨t, _, rfl, ?_, (h.i5 (by decide)).i6 (by decide) (Or.inl hh), by omega, by omega⟩
      rw [al_s6, al_s5]
  · -- CALL c,nn
    rw [if_neg (show ¬ alone n by omega), z, if_neg (by decide), if_neg (by decide), if_neg (by decide), if_neg (by decide), if_pos (by decide)]
    unfold fX5_executeLastQuarter
    rw [if_neg (by decide), if_neg (by decide), if_neg (by decide), if_pos (by decide)]
    exact (s_callCc h (by omega) hk).le (by omega)
  · -- PUSH, CALL, EDh
    by_cases ev : n / 8 % 2 = 0
    · rw [if_neg (show ¬ alone n by omega), z, if_neg (by decide), if_neg (by decide), if_neg (by decide), if_neg (by decide), if_neg (by decide), if_pos (by decide)]
      unfold fX9_ahead
      unfold fX5_executeLastQuarter
      rw [if_neg (by decide), if_neg (by decide), if_neg (by decide), if_neg (by decide), if_pos (by decide)]
      have eh : ∀ k, k < 8 → k % 2 = 0 → nI k >>> ((1 : Int32) &&& 31) = nI (k / 2) ∧ nI k / (2 : Int32) = nI (k / 2) ∧ ((nI k ∈ ([0, 2, 4] : List Int32)) ↔ k / 2 ≠ 3) := by decide +kernel
      obtain ⟨a1, a2, a3⟩ := eh (n / 8 % 8) hk (by omega)
      rw [a1]
      have key := s_pushP (rf := rf) (tr := tr) h (by omega) (q := n / 8 % 8 / 2) (by omega)
      obtain ⟨t2, c2, q1, q2, q3, q4, q5⟩ := key
      rw [q1, bd_s]
      refine ⟨t2, c2, rfl, ?_, q3, by omega, by omega⟩
      by_cases y : n / 8 % 8 / 2 = 3
      · have e6 : n / 8 % 8 = 6 := by omega
        have b1 : ¬ nI (n / 8 % 8) ∈ ([1] : List Int32) := by rw [e6]; decide
        have b3 : ¬ nI (n / 8 % 8) ∈ ([5] : List Int32) := by rw [e6]; decide
        have b4 : nI (n / 8 % 8) ∈ ([6] : List Int32) := by rw [e6]; decide
        rw [if_pos y] at q2
        rw [if_neg (fun w => (a3.mp w) y), if_neg b1, if_neg b3, if_pos b4]
        simp only [tn_7, tn_6]
        rw [q2, bd_s]
      · rw [if_neg y] at q2
        rw [if_pos (a3.mpr y), a2, q2, bd_s]
    · rw [if_pos (show alone n by omega), z, if_neg (by decide), if_neg (by decide), if_neg (by decide), if_neg (by decide), if_neg (by decide), if_pos (by decide)]
      unfold fX5_executeAlone fX9_ahead
      rcases (show n = 205 ∨ n = 237 by omega) with rfl | rfl
      · rw [if_neg (by decide), if_neg (by decide), if_neg (by decide), if_pos (by decide), if_neg (by decide), if_pos (by decide)]
        obtain ⟨t2, c2, q1, q2, q3, q4, q5⟩ := s_callIf (rf := rf) (tr := tr) h (by omega) 1
        rw [q1, q2, bd_s, bd_s]
        exact ⟨t2, c2, rfl, rfl, q3, by omega, by omega⟩
      · rw [if_neg (by decide), if_neg (by decide), if_neg (by decide), if_neg (by decide), if_neg (by decide), if_neg (by decide), if_neg (by decide), if_neg (by decide), if_neg (by decide), if_neg (by decide), if_pos (by decide), if_neg (by decide), if_neg (by decide), if_pos (by decide)]
        obtain ⟨t', l1, l2, ec, em⟩ := fetch_x (rf := rf) (tr := tr) h (by omega)
        obtain ⟨q, hq, eq⟩ := h.mm (ix (c.2 4 9))
        have h1 : Iv t' (st2 (st1 c 0 (nI t')) 4 9 ((c.2 4 9 + 1) &&& 65535)) := (h.t (by omega)).p (B16_and _)
        rw [ec, em, bd2_s, bd2_s, eq]
        obtain ⟨t2, c2, q1, q2, q3, q4, q5⟩ := s_extended (rf := rf) (tr := tr) h1 (by omega) hq (hed rfl q hq eq)
        rw [q1, q2, bd_s, bd_s, bd_s]
        exact ⟨t2, c2, rfl, rfl, q3, by omega, by omega⟩
  · -- with n
    rw [if_neg (show ¬ alone n by omega), z, if_neg (by decide), if_neg (by decide), if_neg (by decide), if_neg (by decide), if_neg (by decide), if_neg (by decide), if_pos (by decide)]
    unfold fX5_executeLastQuarter
    rw [if_neg (by decide), if_neg (by decide), if_neg (by decide), if_neg (by decide), if_neg (by decide), if_pos (by decide)]
    refine (SimV.bd (k := 9) (k2 := 0) (s_next h (by omega)) (fun v t1 c1 h1 l1 l2 hv => ?_)).le (by omega)
    exact SimS.bd (k := 0) (k2 := 0) (s_withA h1 hk hv) (fun t' c' hI _ _ => SimS.ret hI)
  · -- RST
    rw [if_neg (show ¬ alone n by omega), z, if_neg (by decide), if_neg (by decide), if_neg (by decide), if_neg (by decide), if_neg (by decide), if_neg (by decide), if_neg (by decide)]
    unfold fX5_executeLastQuarter fX5_callTo
    rw [if_neg (by decide), if_neg (by decide), if_neg (by decide), if_neg (by decide), if_neg (by decide), if_neg (by decide), if_neg (by decide)]
    have hv : B16 ((8 : Int32) * nI (n / 8 % 8)) := ⟨8 * (n / 8 % 8), by omega, pk_mul 8 _⟩
    obtain ⟨t2, c2, q1, q2, q3, q4, q5⟩ := s_call1 (rf := rf) (tr := tr) h (by omega) hv
    rw [q1, q2, bd_s]
    exact ⟨t2, c2, rfl, rfl, q3, by omega, by omega⟩
end IN
