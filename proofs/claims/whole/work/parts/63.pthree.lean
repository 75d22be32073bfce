/-! the last quarter, side by side -/
abbrev alone (n : Nat) : Prop := n % 8 = 3 ∨ (n / 8 % 2 = 1 ∧ (n % 8 = 1 ∨ n % 8 = 5))
theorem alone_c : ∀ n, n < 256 → fX5_standsAlone (nI (n / 8 % 8)) (nI (n % 8)) = some (if alone n then 1 else 0) := by decide +kernel
theorem nextPair_c {t : Nat} {c : zS} (h : Iv t c) (hl : t + 18 < 2 ^ 31) : fX3_nextPair c = some (pr (c.2 0 (ix (c.2 4 9 + 1))) (c.2 0 (ix (c.2 4 9))), st1 (st2 c 4 9 ((c.2 4 9 + 2) &&& 65535)) 0 (nI (tA (c.2 4 9 + 1) (tA (c.2 4 9) t + 3) + 3))) := by
  have h1 := tA_le (c.2 4 9) t
  have h2 := tA_le (c.2 4 9 + 1) (tA (c.2 4 9) t + 3)
  unfold fX3_nextPair
  rw [pair_9, bd2_s, move_9, bd_s, read_c (c := st2 c 4 9 ((c.2 4 9 + 2) &&& 65535)) (t := t) h.1 (by omega), bd2_s, read_c (t := tA (c.2 4 9) t + 3) rfl (by omega), bd2_s, st1_same]
  rfl
theorem stk_c : ∀ q, q < 4 → fX3_stackPairOf (nI q) = some (nI (if q = 3 then 0 else q + 1)) := by decide +kernel
theorem bt_65495 : ∀ i, i < 32 → bt 65495 i = (decide (i < 16) && !(decide (i = 3) || decide (i = 5))) := by decide +kernel
theorem bt_215 : ∀ i, i < 32 → bt 215 i = (decide (i < 8) && !(decide (i = 3) || decide (i = 5))) := by decide +kernel
theorem hi_af {v : Int32} (hv : B16 v) : hi (v &&& 65495) = hi v := by
  apply bt_ext
  intro i hi'
  unfold hi
  rw [show ((8 : Int32) &&& 31) = (nI 8 &&& 31) from rfl, bt_shr 8 (by omega) _ hi', bt_shr 8 (by omega) _ hi']
  by_cases h : 8 + i < 32
  · rw [if_pos h, if_pos h, bt_and, bt_65495 _ h]
    by_cases q : 8 + i < 16
    · have q3 : ¬ 8 + i = 3 := by omega
      have q5 : ¬ 8 + i = 5 := by omega
      simp [q, q3, q5]
    · obtain ⟨n, hn, rfl⟩ := hv
      have e0 : bt (nI n) (8 + i) = false := by
        rw [bt_n h, decide_eq_false_iff_not]
        have : n / 2 ^ (8 + i) = 0 := Nat.div_eq_of_lt (Nat.lt_of_lt_of_le (show n < 2 ^ 16 from hn) (Nat.pow_le_pow_right (n := 2) (by decide) (by omega)))
        rw [this]; decide
      simp [e0]
  · obtain ⟨n, hn, rfl⟩ := hv
    have e0 : bt (nI n) 31 = false := by
      rw [bt_n (by omega), decide_eq_false_iff_not]
      omega
    rw [if_neg h, if_neg h, bt_and, e0]; rfl
theorem lo_af (v : Int32) : lo (v &&& 65495) = v &&& 215 := by
  unfold lo
  rw [Int32.and_assoc]; rfl
theorem B16_af {v : Int32} (hv : B16 v) : B16 (v &&& 65495) := by
  obtain ⟨a, ha, rfl⟩ := hv
  exact ⟨a &&& 65495, Nat.lt_of_le_of_lt Nat.and_le_left ha, nz_and a 65495⟩
section TH
variable {t : Nat} {rf : Int32 × (Int32 → Int32)} {tr : Int32} {c : zS}
theorem SimS.up {t t' k k2 : Nat} {x y : Option zS} (h : SimS t' k rf tr x y) (h1 : t ≤ t') (h2 : t' + k ≤ t + k2) : SimS t k2 rf tr x y := by
  obtain ⟨t2, c2, q1, q2, q3, q4, q5⟩ := h
  exact ⟨t2, c2, q1, q2, q3, by omega, by omega⟩
theorem load_9 (v : Int32) : fX6_load (9 : Int32) v c = some (st2 c 4 9 (v &&& 65535)) := rfl
theorem load_8 (v : Int32) : fX6_load (8 : Int32) v c = some (st2 c 4 8 (v &&& 65535)) := rfl
theorem s_goto (h : Iv t c) {v : Int32} (hv : B16 v) : SimS t 0 rf tr (bd (fX6_load (9 : Int32) v c) fun s => some s) (some (st1 (al c rf tr) 2 v)) := by
  rw [load_9, bd_s, B16_id hv]
  exact ⟨t, _, rfl, by rw [al_pc], h.p hv, Nat.le_refl _, Nat.le_refl _⟩
theorem s_retIf (h : Iv t c) (hl : t + 19 < 2 ^ 31) {k : Nat} (hk : k < 8) : SimS t 19 rf tr (bd2 (fX3_holds (nI k) c) fun r3 s4 => bd (fX5_returnIf r3 s4) fun s6 => some s6) (bd2 (fX9_holds (nI k) (st1 (al c rf tr) 3 (((al c rf tr).1 3) + (1 : Int32)))) fun r4 s5 => if r4 = (0 : Int32) then (some s5) else (bd2 (fX9_pop s5) fun r8 s9 => some (st1 s9 2 r8))) := by
  have h1 := h.t (t' := t + 1) (by omega)
  obtain ⟨-, e1, -⟩ := holds_cm (rf := rf) (tr := tr) (c := c) hk
  obtain ⟨-, -, e2⟩ := holds_cm (rf := rf) (tr := tr) (c := st1 c 0 (nI (t + 1))) hk
  rw [e1, bd2_s, al_3, h.1, show nI t + (1 : Int32) = nI (t + 1) from nI_add t 1, ← al_s0, e2, bd2_s]
  unfold fX5_returnIf
  rw [show fX1_pass (1 : Int32) c = some (st1 c 0 (nI (t + 1))) from pass_c h 1, bd_s]
  show SimS t 19 rf tr _ (if hdF k (lo (c.2 4 0)) = 0 then _ else _)
  by_cases z : hdF k (lo (c.2 4 0)) = 0
  · rw [if_pos z, if_pos z, bd_s]
    exact (SimS.ret h1).up (by omega) (by omega)
  · rw [if_neg z, if_neg z]
    have := SimV.bd (k := 18) (k2 := 0) (s_pop (rf := rf) (tr := tr) h1 (by omega)) (f := fun r5 s6 => bd (fX6_load (9 : Int32) r5 s6) fun s8 => some s8) (g := fun r8 s9 => some (st1 s9 2 r8)) (fun v t' c' hI _ _ hv => s_goto hI hv)
    obtain ⟨t2, c2, q1, q2, q3, q4, q5⟩ := this
    rw [q1, q2, bd_s]
    exact ⟨t2, c2, rfl, rfl, q3, by omega, by omega⟩
theorem s_popP (h : Iv t c) (hl : t + 18 < 2 ^ 31) {q : Nat} (hq : q < 4) : SimS t 18 rf tr (bd (fX3_stackPairOf (nI q)) fun r9 => bd2 (fX3_pop c) fun r11 s12 => bd (fX6_load r9 r11 s12) fun s14 => some s14) (if q = 3 then (bd2 (fX9_pop (al c rf tr)) fun r20 s21 => some (st2 (st2 s21 1 7 (r20 >>> ((8 : Int32) &&& 31))) 1 6 (r20 &&& (215 : Int32)))) else (bd2 (fX9_pop (al c rf tr)) fun r3 s4 => bd (fX9_setPair (nI q) r3 s4) fun s6 => some s6)) := by
  rw [stk_c q hq, bd_s]
  by_cases z : q = 3
  · rw [if_pos z, if_pos z]
    refine SimV.bd (k := 18) (k2 := 0) (s_pop h hl) (fun v t1 c1 h1 l1 l2 hv => ?_)
    show SimS t1 0 rf tr (some (st2 c1 4 0 (v &&& 65495))) _
    refine ⟨t1, _, rfl, ?_, h1.p (B16_af hv), Nat.le_refl _, Nat.le_refl _⟩
    rw [al_p0, hi_af hv, lo_af]; rfl
  · rw [if_neg z, if_neg z]
    refine SimV.bd (k := 18) (k2 := 0) (s_pop h hl) (fun v t1 c1 h1 l1 l2 hv => ?_)
    have e := load_k (c := c1) hq v
    rw [if_neg z] at e
    have e2 := setPair_m (rf := rf) (tr := tr) h1 hq v
    rw [if_neg z] at e2
    rw [e, e2, bd_s, bd_s]
    exact SimS.ret (h1.p (B16_and v))
theorem s_jumpIf (h : Iv t c) (hl : t + 18 < 2 ^ 31) {k : Nat} (hk : k < 8) : SimS t 18 rf tr (bd2 (fX3_nextPair c) fun r17 s18 => bd2 (fX3_holds (nI k) s18) fun r20 s21 => bd (fX5_jumpTo r17 r20 s21) fun s23 => some s23) (bd2 (fX9_nextPair (al c rf tr)) fun r15 s16 => bd2 (fX9_holds (nI k) s16) fun r18 s19 => bd (if r18 = (0 : Int32) then (some (s19.1 2)) else (some r15)) fun x22 => some (st1 s19 2 x22)) := by
  refine SimV.bd (k := 18) (k2 := 0) (s_nextPair h hl) (fun v t1 c1 h1 l1 l2 hv => ?_)
  obtain ⟨-, e1, e2⟩ := holds_cm (rf := rf) (tr := tr) (c := c1) hk
  rw [e1, e2, bd2_s, bd2_s]
  unfold fX5_jumpTo
  by_cases z : hdF k (lo (c1.2 4 0)) = 0
  · rw [if_pos z, if_pos z, bd_s, bd_s, st1_self]
    exact SimS.ret h1
  · rw [if_neg z, if_neg z, bd_s]
    obtain ⟨t2, c2, q1, q2, q3, q4, q5⟩ := s_goto (rf := rf) (tr := tr) h1 hv
    rw [q1, bd_s]
    exact ⟨t2, c2, rfl, q2, q3, q4, q5⟩
theorem s_call1 (h : Iv t c) (hl : t + 19 < 2 ^ 31) {v : Int32} (hv : B16 v) : SimS t 19 rf tr (bd (fX1_pass (1 : Int32) c) fun s3 => bd2 (fX6_pair (9 : Int32) s3) fun r5 s6 => bd (fX3_push r5 s6) fun s8 => bd (fX6_load (9 : Int32) v s8) fun s10 => some s10) (bd (fX9_push ((st1 (al c rf tr) 3 (((al c rf tr).1 3) + (1 : Int32))).1 2) (st1 (al c rf tr) 3 (((al c rf tr).1 3) + (1 : Int32)))) fun s6 => some (st1 s6 2 v)) := by
  have h1 := h.t (t' := t + 1) (by omega)
  rw [show fX1_pass (1 : Int32) c = some (st1 c 0 (nI (t + 1))) from pass_c h 1, bd_s, pair_9, bd2_s, al_3, h.1, show nI t + (1 : Int32) = nI (t + 1) from nI_add t 1, ← al_s0, al_2]
  exact (SimS.bd (k := 18) (k2 := 0) (s_push h1 (by omega) _) (fun t' c' hI _ _ => s_goto hI hv)).up (by omega) (by omega)
theorem s_callIf (h : Iv t c) (hl : t + 37 < 2 ^ 31) (g : Int32) : SimS t 37 rf tr (bd2 (fX3_nextPair c) fun r26 s27 => bd (fX5_callTo r26 g s27) fun s32 => some s32) (fX9_callIf g (al c rf tr)) := by
  unfold fX9_callIf
  refine SimV.bd (k := 18) (k2 := 19) (s_nextPair h (by omega)) (fun v t1 c1 h1 l1 l2 hv => ?_)
  unfold fX5_callTo
  by_cases z : g = 0
  · rw [if_pos z, if_pos z, bd_s]
    exact (SimS.ret h1).le (by omega)
  · rw [if_neg z, if_neg z]
    obtain ⟨t2, c2, q1, q2, q3, q4, q5⟩ := s_call1 (rf := rf) (tr := tr) h1 (by omega) hv
    rw [q1, q2, bd_s]
    exact ⟨t2, c2, rfl, rfl, q3, by omega, by omega⟩
theorem s_callCc (h : Iv t c) (hl : t + 37 < 2 ^ 31) {k : Nat} (hk : k < 8) : SimS t 37 rf tr (bd2 (fX3_nextPair c) fun r26 s27 => bd2 (fX3_holds (nI k) s27) fun r29 s30 => bd (fX5_callTo r26 r29 s30) fun s32 => some s32) (bd2 (fX9_holds (nI k) (al c rf tr)) fun r29 s30 => bd (fX9_callIf r29 s30) fun s32 => some s32) := by
  obtain ⟨-, -, e2⟩ := holds_cm (rf := rf) (tr := tr) (c := c) hk
  rw [e2, bd2_s]
  obtain ⟨t2, c2, q1, q2, q3, q4, q5⟩ := s_callIf (rf := rf) (tr := tr) h hl (hdF k (lo (c.2 4 0)))
  rw [q2, bd_s]
  refine ⟨t2, c2, ?_, rfl, q3, q4, q5⟩
  rw [nextPair_c h (by omega), bd2_s] at q1 ⊢
  obtain ⟨-, e1, -⟩ := holds_cm (rf := rf) (tr := tr) (c := st1 (st2 c 4 9 ((c.2 4 9 + 2) &&& 65535)) 0 (nI (tA (c.2 4 9 + 1) (tA (c.2 4 9) t + 3) + 3))) hk
  rw [e1, bd2_s]
  exact q1
theorem s_pushP (h : Iv t c) (hl : t + 19 < 2 ^ 31) {q : Nat} (hq : q < 4) : SimS t 19 rf tr (fX5_pushPair (nI q) c) (if q = 3 then (bd (fX9_push ((((st1 (al c rf tr) 3 (((al c rf tr).1 3) + (1 : Int32))).2 1 7) <<< ((8 : Int32) &&& 31)) ||| ((st1 (al c rf tr) 3 (((al c rf tr).1 3) + (1 : Int32))).2 1 6)) (st1 (al c rf tr) 3 (((al c rf tr).1 3) + (1 : Int32)))) fun s18 => some s18) else (bd2 (fX9_pair (nI q) (st1 (al c rf tr) 3 (((al c rf tr).1 3) + (1 : Int32)))) fun r3 s4 => bd (fX9_push r3 s4) fun s6 => some s6)) := by
  have h1 := h.t (t' := t + 1) (by omega)
  have hb : (if q = 3 then 0 else q + 1) < 10 := by split <;> omega
  unfold fX5_pushPair
  rw [show fX1_pass (1 : Int32) c = some (st1 c 0 (nI (t + 1))) from pass_c h 1, bd_s, stk_c q hq, bd_s, pair_c hb, bd2_s, al_3, h.1, show nI t + (1 : Int32) = nI (t + 1) from nI_add t 1, ← al_s0]
  by_cases z : q = 3
  · rw [if_pos z, if_pos z, alr_7, alr_6]
    have e : (hi ((st1 c 0 (nI (t + 1))).2 4 0) <<< ((8 : Int32) &&& 31)) ||| lo ((st1 c 0 (nI (t + 1))).2 4 0) = (st1 c 0 (nI (t + 1))).2 4 0 := pr_hl (h1.b (by omega))
    rw [e]
    exact (SimS.bd (k := 18) (k2 := 0) (s_push h1 (by omega) _) (fun t' c' hI _ _ => SimS.ret hI)).up (by omega) (by omega)
  · have e := pair_m (rf := rf) (tr := tr) h1 hq
    rw [if_neg z] at e
    rw [if_neg z, if_neg z, e, bd2_s]
    exact (SimS.bd (k := 18) (k2 := 0) (s_push h1 (by omega) _) (fun t' c' hI _ _ => SimS.ret hI)).up (by omega) (by omega)
theorem readPair_x (h : Iv t c) (hl : t + 18 < 2 ^ 31) (a : Int32) : ∃ (v : Int32) (t' : Nat), B16 v ∧ t ≤ t' ∧ t' ≤ t + 18 ∧ fX3_readPair a c = some (v, st1 c 0 (nI t')) ∧ fX9_readPair a (al c rf tr) = some (v, al (st1 c 0 (nI t')) rf tr) := by
  have l1 := tA_le a t
  have l2 := tA_le (a + 1) (tA a t + 3)
  refine ⟨pr (c.2 0 (ix (a + 1))) (c.2 0 (ix a)), tA (a + 1) (tA a t + 3) + 3, B16_pr (h.mm _) (h.mm _), by omega, by omega, ?_, ?_⟩
  · unfold fX3_readPair
    rw [read_c (t := t) h.1 (by omega), bd2_s, read_c (c := st1 c 0 (nI (tA a t + 3))) (t := tA a t + 3) rfl (by omega), bd2_s, st1_same]
    rfl
  · unfold fX9_readPair
    rw [read_m (t := t) h.1 (by omega), bd2_s, read_m (m := st1 (al c rf tr) 3 (nI (tA a t + 3))) (t := tA a t + 3) rfl (by omega), bd2_s, st1_same, al_s0, Int32.or_comm]
    rfl
theorem s_exsp (h : Iv t c) (hl : t + 39 < 2 ^ 31) : SimS t 39 rf tr (fX5_exchangeHlWithStack c) (bd2 (fX9_readPair ((al c rf tr).1 1) (al c rf tr)) fun r25 s26 => bd (fX9_write ((st1 s26 3 ((s26.1 3) + (1 : Int32))).1 1) ((st1 s26 3 ((s26.1 3) + (1 : Int32))).2 1 5) (st1 s26 3 ((s26.1 3) + (1 : Int32)))) fun s28 => bd (fX9_write ((s28.1 1) + (1 : Int32)) (s28.2 1 4) s28) fun s30 => bd (fX9_setPair (2 : Int32) r25 (st1 s30 3 ((s30.1 3) + (2 : Int32)))) fun s32 => some s32) := by
  unfold fX5_exchangeHlWithStack
  obtain ⟨v, t2, hv, l1, l2, ec, em⟩ := readPair_x (rf := rf) (tr := tr) h (by omega) (c.2 4 8)
  rw [pair_8, bd2_s, ec, bd2_s, al_1, em, bd2_s]
  have h2 : Iv t2 (st1 c 0 (nI t2)) := h.t (by omega)
  have h3 := h2.t (t' := t2 + 1) (by omega)
  rw [show fX1_pass (1 : Int32) (st1 c 0 (nI t2)) = some (st1 (st1 c 0 (nI t2)) 0 (nI (t2 + 1))) from pass_c h2 1, bd_s, pair_3, bd2_s, al_3, h2.1, show nI t2 + (1 : Int32) = nI (t2 + 1) from nI_add t2 1, ← al_s0, al_1, alr_5]
  have e8 : (st1 (st1 c 0 (nI t2)) 0 (nI (t2 + 1))).2 4 8 = c.2 4 8 := rfl
  rw [e8]
  generalize hc3 : st1 (st1 c 0 (nI t2)) 0 (nI (t2 + 1)) = c3 at h3 ⊢
  have e83 : c3.2 4 8 = c.2 4 8 := by rw [← hc3]; rfl
  have l3 := tA_le (c.2 4 8) (t2 + 1)
  have l4 := tA_le (c.2 4 8 + 1) (tA (c.2 4 8) (t2 + 1) + 3)
  unfold fX3_writePair
  rw [show ∀ x, fX2_write (c.2 4 8) x c3 = _ from fun x => write_c (t := t2 + 1) h3.1 (by omega) (c.2 4 8) x, bd_s, write_m (t := t2 + 1) h3.1 (by omega), bd_s, ← al_s0, ← al_w]
  have h4 : Iv (tA (c.2 4 8) (t2 + 1) + 3) (wrm (st1 c3 0 (nI (tA (c.2 4 8) (t2 + 1) + 3))) (c.2 4 8) (lo (c3.2 4 3))) := (h3.t (by omega)).w
  have e4 : (al (wrm (st1 c3 0 (nI (tA (c.2 4 8) (t2 + 1) + 3))) (c.2 4 8) (lo (c3.2 4 3))) rf tr).2 1 4 = hi (c3.2 4 3) := by rw [alr_4, wrm_4]; rfl
  have e1 : (al (wrm (st1 c3 0 (nI (tA (c.2 4 8) (t2 + 1) + 3))) (c.2 4 8) (lo (c3.2 4 3))) rf tr).1 1 = c.2 4 8 := by rw [al_1, wrm_4]; exact e83
  rw [e4, e1]
  obtain ⟨t5, c5, q1, q2, q3, q4, q5⟩ := s_write (rf := rf) (tr := tr) h4 (by omega) (c.2 4 8 + 1) (hi (c3.2 4 3))
  have q1' : fX2_write (c.2 4 8 + 1) ((c3.2 4 3) >>> ((8 : Int32) &&& 31)) (wrm (st1 c3 0 (nI (tA (c.2 4 8) (t2 + 1) + 3))) (c.2 4 8) ((c3.2 4 3) &&& 255)) = some c5 := q1
  rw [q1', q2, bd_s, bd_s, bd_s]
  have h6 := q3.t (t' := t5 + 2) (by omega)
  rw [show fX1_pass (2 : Int32) c5 = some (st1 c5 0 (nI (t5 + 2))) from pass_c q3 2, bd_s, load_3, bd_s, al_3, q3.1, show nI t5 + (2 : Int32) = nI (t5 + 2) from nI_add t5 2, ← al_s0, show ∀ x, fX9_setPair (2 : Int32) x (al (st1 c5 0 (nI (t5 + 2))) rf tr) = some (al (st2 (st1 c5 0 (nI (t5 + 2))) 4 3 (x &&& 65535)) rf tr) from fun x => setPair_m h6 (q := 2) (by omega) x, bd_s]
  exact ⟨t5 + 2, _, rfl, rfl, h6.hl v, by omega, by omega⟩
end TH
