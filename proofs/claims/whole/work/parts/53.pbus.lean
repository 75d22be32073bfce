/-! fetch, next, pairs, push, pop, operands: side by side -/
theorem ix_65535 (a : Int32) : ix (a &&& 65535) = ix a := by
  obtain ⟨n, -, rfl⟩ := nz_of a
  rw [nz_65535, ix_n, ix_n]
  omega
theorem tA_ix {a b : Int32} (h : ix a = ix b) (t : Nat) : tA a t = tA b t := by
  unfold tA wd
  rw [h]
theorem wrm_ix {a b : Int32} (h : ix a = ix b) (m : zS) (v : Int32) : wrm m a v = wrm m b v := by
  unfold wrm
  rw [h]
theorem wrm_255 (m : zS) (a v : Int32) : wrm m a (v &&& 255) = wrm m a v := by
  unfold wrm
  rw [B8_id (B8_and v)]
theorem wrm_st1 (m : zS) (k : Nat) (x a v : Int32) : wrm (st1 m k x) a v = st1 (wrm m a v) k x := by
  unfold wrm
  split <;> rfl
theorem wrm_1 (m : zS) (a v : Int32) : (wrm m a v).1 = m.1 := by
  unfold wrm
  split <;> rfl
theorem wrm_4 (m : zS) (a v : Int32) : (wrm m a v).2 4 = m.2 4 := by
  unfold wrm
  split <;> rfl
theorem wrm_p (m : zS) (k : Nat) (x a v : Int32) : wrm (st2 m 4 k x) a v = st2 (wrm m a v) 4 k x := by
  unfold wrm
  split
  · rfl
  · exact st2_comm (Or.inl (by decide))
theorem fetch_m {m : zS} {t : Nat} (ht : m.1 3 = nI t) (hl : t < 2 ^ 31) : fX9_fetch m = some (m.2 0 (ix (m.1 2)), st1 (st1 m 3 (nI (tA (m.1 2) t + 4))) 2 ((m.1 2 + 1) &&& 65535)) := by
  unfold fX9_fetch
  rw [open_m ht hl]
  have e : (st1 m 3 (nI (tA (m.1 2) t))).1 3 + 4 = nI (tA (m.1 2) t + 4) := by show nI (tA (m.1 2) t) + nI 4 = _; rw [nI_add]
  have hg := ix_gd (m.1 2)
  simp only [bd, Option.bind_some, e, st1_same]
  show gd ((0 : Int32) ≤ m.1 2 &&& 4095 ∧ m.1 2 &&& 4095 < 4096) _ = _
  unfold gd
  rw [if_pos hg]
  rfl
theorem next_m {m : zS} {t : Nat} (ht : m.1 3 = nI t) (hl : t < 2 ^ 31) : fX9_next m = some (m.2 0 (ix (m.1 2)), st1 (st1 m 3 (nI (tA (m.1 2) t + 3))) 2 ((m.1 2 + 1) &&& 65535)) := by
  unfold fX9_next
  rw [read_m ht hl]
  rfl
theorem inc16 {x : Int32} : ((x + 1) &&& 65535) + 1 &&& 65535 = (x + 2) &&& 65535 := by
  obtain ⟨n, -, rfl⟩ := nz_of x
  show ((nI n + nI 1) &&& 65535) + nI 1 &&& 65535 = (nI n + nI 2) &&& 65535
  rw [nI_add, nI_add, nz_65535, nI_add, nz_65535, nz_65535]
  exact congrArg nI (by omega)
theorem nz_sub (n k : Nat) (hk : k ≤ 4294967296) : nI n - nI k = nI (n + (4294967296 - k)) := by
  have e : nI (n + (4294967296 - k)) + nI k = nI n := by
    rw [nI_add, show n + (4294967296 - k) + k = n + 4294967296 by omega]
    apply Int32.toBitVec_inj.1
    show BitVec.ofNat 32 (n + 4294967296) = BitVec.ofNat 32 n
    apply BitVec.eq_of_toNat_eq
    simp
  rw [← e, Int32.add_sub_cancel]
theorem dec16 {x : Int32} : ((x - 1) &&& 65535) - 1 &&& 65535 = (x + -2) &&& 65535 := by
  obtain ⟨n, -, rfl⟩ := nz_of x
  show ((nI n - nI 1) &&& 65535) - nI 1 &&& 65535 = (nI n + nI 4294967294) &&& 65535
  rw [nz_sub _ _ (by omega), nz_65535, nz_sub _ _ (by omega), nz_65535, nI_add, nz_65535]
  exact congrArg nI (by omega)
theorem ix_dec {x : Int32} : ix (((x - 1) &&& 65535) - 1 &&& 65535) = ix (x - 2) := by
  obtain ⟨n, -, rfl⟩ := nz_of x
  show ix (((nI n - nI 1) &&& 65535) - nI 1 &&& 65535) = ix (nI n - nI 2)
  rw [nz_sub _ _ (by omega), nz_65535, nz_sub _ _ (by omega), nz_65535, nz_sub _ _ (by omega), ix_n, ix_n]
  omega
theorem bd_s {α β : Type} {a : α} {f : α → Option β} : bd (some a) f = f a := rfl
theorem bd2_s {α σ β : Type} {a : α} {s : σ} {f : α → σ → Option β} : bd2 (some (a, s)) f = f a s := rfl
theorem al_2 {c : zS} {rf : Int32 × (Int32 → Int32)} {tr : Int32} : (al c rf tr).1 2 = c.2 4 9 := rfl
theorem al_1 {c : zS} {rf : Int32 × (Int32 → Int32)} {tr : Int32} : (al c rf tr).1 1 = c.2 4 8 := rfl
theorem pair_9 {c : zS} : fX6_pair (9 : Int32) c = some (c.2 4 9, c) := rfl
theorem pair_8 {c : zS} : fX6_pair (8 : Int32) c = some (c.2 4 8, c) := rfl
theorem pair_3 {c : zS} : fX6_pair (3 : Int32) c = some (c.2 4 3, c) := rfl
theorem pair_2 {c : zS} : fX6_pair (2 : Int32) c = some (c.2 4 2, c) := rfl
theorem pair_1 {c : zS} : fX6_pair (1 : Int32) c = some (c.2 4 1, c) := rfl
theorem move_9 {c : zS} {d : Int32} : fX6_move (9 : Int32) d c = some (st2 c 4 9 ((c.2 4 9 + d) &&& 65535)) := rfl
theorem move_8 {c : zS} {d : Int32} : fX6_move (8 : Int32) d c = some (st2 c 4 8 ((c.2 4 8 + d) &&& 65535)) := rfl
theorem move_3 {c : zS} {d : Int32} : fX6_move (3 : Int32) d c = some (st2 c 4 3 ((c.2 4 3 + d) &&& 65535)) := rfl
theorem move_2 {c : zS} {d : Int32} : fX6_move (2 : Int32) d c = some (st2 c 4 2 ((c.2 4 2 + d) &&& 65535)) := rfl
theorem move_1 {c : zS} {d : Int32} : fX6_move (1 : Int32) d c = some (st2 c 4 1 ((c.2 4 1 + d) &&& 65535)) := rfl
theorem mk9 : mk 9 = 65535 := rfl
theorem mk8 : mk 8 = 65535 := rfl
section BUS2
variable {t : Nat} {rf : Int32 × (Int32 → Int32)} {tr : Int32} {c : zS}
theorem s_fetch (h : Iv t c) (hl : t + 10 < 2 ^ 31) : SimV t 10 rf tr B8 (fX3_fetchNext c) (fX9_fetch (al c rf tr)) := by
  have h1 := tA_le (c.2 4 9) t
  refine ⟨c.2 0 (ix (c.2 4 9)), tA (c.2 4 9) t + 4, st2 (st1 c 0 (nI (tA (c.2 4 9) t + 4))) 4 9 ((c.2 4 9 + 1) &&& 65535), ?_, ?_, (h.t (by omega)).p (B16_and _), by omega, by omega, h.mm _⟩
  · unfold fX3_fetchNext
    rw [pair_9, bd2_s, fetch_c h.1 (by omega), bd2_s, move_9, bd_s]; rfl
  · rw [fetch_m (t := t) h.1 (by omega), al_pc, al_s0]; rfl
theorem next_c (h : Iv t c) (hl : t + 9 < 2 ^ 31) : fX3_next c = some (c.2 0 (ix (c.2 4 9)), st2 (st1 c 0 (nI (tA (c.2 4 9) t + 3))) 4 9 ((c.2 4 9 + 1) &&& 65535)) := by
  have h1 := tA_le (c.2 4 9) t
  unfold fX3_next
  rw [pair_9, bd2_s, read_c h.1 (by omega), bd2_s, move_9, bd_s]; rfl
theorem s_next (h : Iv t c) (hl : t + 9 < 2 ^ 31) : SimV t 9 rf tr B8 (fX3_next c) (fX9_next (al c rf tr)) := by
  have h1 := tA_le (c.2 4 9) t
  refine ⟨_, tA (c.2 4 9) t + 3, _, next_c h hl, ?_, (h.t (by omega)).p (B16_and _), by omega, by omega, h.mm _⟩
  rw [next_m (t := t) h.1 (by omega), al_pc, al_s0]; rfl
theorem s_nextPair (h : Iv t c) (hl : t + 18 < 2 ^ 31) : SimV t 18 rf tr B16 (fX3_nextPair c) (fX9_nextPair (al c rf tr)) := by
  have h1 := tA_le (c.2 4 9) t
  have h2 := tA_le (c.2 4 9 + 1) (tA (c.2 4 9) t + 3)
  refine ⟨pr (c.2 0 (ix (c.2 4 9 + 1))) (c.2 0 (ix (c.2 4 9))), tA (c.2 4 9 + 1) (tA (c.2 4 9) t + 3) + 3, st1 (st2 c 4 9 ((c.2 4 9 + 2) &&& 65535)) 0 (nI (tA (c.2 4 9 + 1) (tA (c.2 4 9) t + 3) + 3)), ?_, ?_, (h.p (B16_and _)).t (by omega), by omega, by omega, B16_pr (h.mm _) (h.mm _)⟩
  · unfold fX3_nextPair
    rw [pair_9, bd2_s, move_9, bd_s, read_c (c := st2 c 4 9 ((c.2 4 9 + 2) &&& 65535)) (t := t) h.1 (by omega), bd2_s, read_c (t := tA (c.2 4 9) t + 3) rfl (by omega), bd2_s, st1_same]
    rfl
  · unfold fX9_nextPair
    rw [next_m (t := t) h.1 (by omega), bd2_s, al_2, next_m (t := tA (c.2 4 9) t + 3) rfl (by omega), bd2_s]
    show some ((c.2 0 (ix (c.2 4 9)) ||| (c.2 0 (ix ((c.2 4 9 + 1) &&& 65535)) <<< ((8 : Int32) &&& 31))), st1 (st1 (st1 (st1 (al c rf tr) 3 (nI (tA (c.2 4 9) t + 3))) 2 ((c.2 4 9 + 1) &&& 65535)) 3 (nI (tA ((c.2 4 9 + 1) &&& 65535) (tA (c.2 4 9) t + 3) + 3))) 2 (((c.2 4 9 + 1) &&& 65535) + 1 &&& 65535)) = _
    rw [ix_65535, tA_ix (ix_65535 (c.2 4 9 + 1)), inc16, st1_comm (k := 2) (l := 3) (by decide), st1_same, st1_same, Int32.or_comm, al_s0, al_pc, st1_comm (k := 2) (l := 3) (by decide)]
    rfl
theorem s_readPair (h : Iv t c) (hl : t + 18 < 2 ^ 31) (a : Int32) : SimV t 18 rf tr B16 (fX3_readPair a c) (fX9_readPair a (al c rf tr)) := by
  unfold fX3_readPair fX9_readPair
  refine SimV.bdv (k := 9) (k2 := 9) (s_read h (by omega) a) (fun v t' c' hI h1 h2 hv => ?_)
  refine SimV.bdv (k := 9) (k2 := 0) (s_read hI (by omega) (a + 1)) (fun v2 t2 c2 hI2 h3 h4 hv2 => ?_)
  exact ⟨pr v2 v, t2, c2, rfl, by rw [Int32.or_comm]; rfl, hI2, Nat.le_refl _, Nat.le_refl _, B16_pr hv2 hv⟩
theorem s_push (h : Iv t c) (hl : t + 18 < 2 ^ 31) (v : Int32) : SimS t 18 rf tr (fX3_push v c) (fX9_push v (al c rf tr)) := by
  have h1 := tA_le (c.2 4 8 - 1) t
  have h2 := tA_le (c.2 4 8 - 2) (tA (c.2 4 8 - 1) t + 3)
  refine ⟨tA (c.2 4 8 - 2) (tA (c.2 4 8 - 1) t + 3) + 3, st2 (wrm (st1 (wrm c (c.2 4 8 - 1) (hi v)) 0 (nI (tA (c.2 4 8 - 2) (tA (c.2 4 8 - 1) t + 3) + 3))) (c.2 4 8 - 2) v) 4 8 ((c.2 4 8 + -2) &&& 65535), ?_, ?_, ((h.w.t (by omega)).w).p (B16_and _), by omega, by omega⟩
  · unfold fX3_push
    rw [pair_8, bd2_s, show ∀ x, fX2_write (c.2 4 8 - 1) x c = _ from fun x => write_c (t := t) h.1 (by omega) _ x, bd_s, wrm_st1, write_c (t := tA (c.2 4 8 - 1) t + 3) rfl (by omega), bd_s, wrm_255, st1_same, move_8, bd_s, wrm_4]
    show some (st2 _ 4 8 (((wrm c (c.2 4 8 - 1) (hi v)).2 4 8 + -2) &&& 65535)) = _
    rw [wrm_4]
    rfl
  · unfold fX9_push
    show bd (fX9_write ((c.2 4 8 - 1) &&& 65535) (hi v) (st1 (al c rf tr) 1 ((c.2 4 8 - 1) &&& 65535))) _ = _
    rw [write_m (t := t) h.1 (by omega), tA_ix (ix_65535 (c.2 4 8 - 1)), wrm_ix (ix_65535 (c.2 4 8 - 1)), wrm_st1, wrm_st1, ← al_w, bd_s]
    show bd (fX9_write (((c.2 4 8 - 1) &&& 65535) - 1 &&& 65535) v (st1 (st1 (st1 (al (wrm c (c.2 4 8 - 1) (hi v)) rf tr) 1 ((c.2 4 8 - 1) &&& 65535)) 3 (nI (tA (c.2 4 8 - 1) t + 3))) 1 (((c.2 4 8 - 1) &&& 65535) - 1 &&& 65535))) _ = _
    rw [write_m (t := tA (c.2 4 8 - 1) t + 3) rfl (by omega), bd_s, tA_ix ix_dec, wrm_ix ix_dec, dec16]
    rw [st1_comm (k := 1) (l := 3) (by decide), st1_same, st1_comm (k := 1) (l := 3) (by decide), st1_same]
    simp only [al_sp, al_w, al_s0, wrm_st1]
theorem s_pop (h : Iv t c) (hl : t + 18 < 2 ^ 31) : SimV t 18 rf tr B16 (fX3_pop c) (fX9_pop (al c rf tr)) := by
  have h1 := tA_le (c.2 4 8) t
  have h2 := tA_le (c.2 4 8 + 1) (tA (c.2 4 8) t + 3)
  refine ⟨pr (c.2 0 (ix (c.2 4 8 + 1))) (c.2 0 (ix (c.2 4 8))), tA (c.2 4 8 + 1) (tA (c.2 4 8) t + 3) + 3, st1 (st2 c 4 8 ((c.2 4 8 + 2) &&& 65535)) 0 (nI (tA (c.2 4 8 + 1) (tA (c.2 4 8) t + 3) + 3)), ?_, ?_, (h.p (B16_and _)).t (by omega), by omega, by omega, B16_pr (h.mm _) (h.mm _)⟩
  · unfold fX3_pop
    rw [pair_8, bd2_s, move_8, bd_s, read_c (c := st2 c 4 8 ((c.2 4 8 + 2) &&& 65535)) (t := t) h.1 (by omega), bd2_s, read_c (t := tA (c.2 4 8) t + 3) rfl (by omega), bd2_s, st1_same]
    rfl
  · unfold fX9_pop fX9_readPair
    rw [al_1, read_m (t := t) h.1 (by omega), bd2_s, read_m (t := tA (c.2 4 8) t + 3) rfl (by omega), bd2_s, bd2_s, st1_same, al_s0, al_sp, st1_comm (k := 1) (l := 3) (by decide), Int32.or_comm]
    rfl
theorem s_value (h : Iv t c) (hl : t + 9 < 2 ^ 31) {j : Nat} (hj : j < 8) : SimV t 9 rf tr B8 (fX3_value (nI j) c) (fX9_operand (nI j) (al c rf tr)) := by
  by_cases h6 : j = 6
  · subst h6
    unfold fX3_value fX9_operand fX3_isAtHl
    have e6 : nI 6 = (6 : Int32) := rfl
    rw [if_pos e6, if_pos e6, bd_s, if_neg (by decide), pair_3, hl_m h, bd2_s, bd2_s]
    exact SimV.bdv (k := 9) (k2 := 0) (s_read h hl (c.2 4 3)) (fun v t' c' hI h1 h2 hv => ⟨v, t', c', rfl, rfl, hI, Nat.le_refl _, Nat.le_refl _, hv⟩)
  · have e6 : ¬ nI j = 6 := mt (nI_eq (b := 6) (by omega) (by decide)).mp h6
    refine ⟨rg (c.2 4) 0 j, t, c, ?_, ?_, h, Nat.le_refl _, by omega, B8_rg h j⟩
    · unfold fX3_value fX3_isAtHl
      rw [if_neg e6, bd_s, if_pos rfl, single_c hj h6]; rfl
    · unfold fX9_operand gd
      rw [if_neg e6, if_pos ⟨nI_pos' (by omega), (nI_ltI (b := 8) (by omega) (by decide)).mpr hj⟩, nI_clamp (by omega)]; rfl
theorem s_store (h : Iv t c) (hl : t + 9 < 2 ^ 31) {j : Nat} (hj : j < 8) {v : Int32} (hv : B8 v) : SimS t 9 rf tr (fX3_store (nI j) v c) (fX9_setOperand (nI j) v (al c rf tr)) := by
  by_cases h6 : j = 6
  · subst h6
    unfold fX3_store fX9_setOperand fX3_isAtHl
    have e6 : nI 6 = (6 : Int32) := rfl
    rw [if_pos e6, if_pos e6, bd_s, if_neg (by decide), pair_3, hl_m h, bd2_s, bd2_s]
    exact SimS.bd (k := 9) (k2 := 0) (s_write h hl (c.2 4 3) v) (fun t' c' hI h1 h2 => SimS.ret hI)
  · have e6 : ¬ nI j = 6 := mt (nI_eq (b := 6) (by omega) (by decide)).mp h6
    obtain ⟨c', e1, e2, e3, -⟩ := lsingle_c (rf := rf) (tr := tr) hj h6 h hv
    refine ⟨t, c', ?_, ?_, e3, Nat.le_refl _, by omega⟩
    · unfold fX3_store fX3_isAtHl
      rw [if_neg e6, bd_s, if_pos rfl, e1]; rfl
    · unfold fX9_setOperand gd
      rw [if_neg e6, if_pos ⟨nI_pos' (by omega), (nI_ltI (b := 8) (by omega) (by decide)).mpr hj⟩, nI_clamp (by omega), B8_id hv, e2]
end BUS2
