/-! ADC HL and SBC HL, LDI and LDIR, what stands behind EDh -/
theorem inr_ti (X : Int32) : inr X (-32768) 32767 ↔ (-32768 ≤ X.toInt ∧ X.toInt ≤ 32767) := by
  unfold inr
  rw [Int32.lt_iff_toInt_lt, Int32.lt_iff_toInt_lt, show (-32768 : Int32).toInt = -32768 from rfl, show (32767 : Int32).toInt = 32767 from rfl]
  omega
theorem adcV {a b k : Nat} (ha : a < 65536) (hb : b < 65536) (hk : k < 2) : (((nI a ^^^ nI (a + b + k)) &&& (nI b ^^^ nI (a + b + k))) &&& 32768) >>> ((13 : Int32) &&& 31) = if (if inr (((nI a).toInt16.toInt32 + (nI b).toInt16.toInt32) + nI k) (-32768) 32767 then (1 : Int32) else 0) = 0 then (4 : Int32) else 0 := by
  rw [ov13, bt_and, bt_xor, bt_xor, bt_n (by omega), bt_n (by omega), bt_n (by omega)]
  have t1 := sh_ti ha
  have t2 := sh_ti hb
  have t3 : (nI k).toInt = k := nI_toInt (by omega)
  have t4 : ((nI a).toInt16.toInt32 + (nI b).toInt16.toInt32).toInt = (nI a).toInt16.toInt32.toInt + (nI b).toInt16.toInt32.toInt := ti_add (by split at t1 <;> split at t2 <;> omega) (by split at t1 <;> split at t2 <;> omega)
  have t5 : (((nI a).toInt16.toInt32 + (nI b).toInt16.toInt32) + nI k).toInt = (nI a).toInt16.toInt32.toInt + (nI b).toInt16.toInt32.toInt + k := by
    rw [ti_add (by rw [t4, t3]; split at t1 <;> split at t2 <;> omega) (by rw [t4, t3]; split at t1 <;> split at t2 <;> omega), t4, t3]
  generalize ((nI a).toInt16.toInt32 + (nI b).toInt16.toInt32) + nI k = X at t5 ⊢
  by_cases h : -32768 ≤ X.toInt ∧ X.toInt ≤ 32767
  · rw [if_pos ((inr_ti X).mpr h), if_neg (by decide : ¬ (1 : Int32) = 0), if_neg]
    simp
    split at t1 <;> split at t2 <;> omega
  · rw [if_neg (mt (inr_ti X).mp h), if_pos rfl, if_pos]
    simp
    split at t1 <;> split at t2 <;> omega
theorem sbcF {a b k : Nat} (ha : a < 65536) (hb : b < 65536) (hk : k < 2) :
    (((((nI a ^^^ nI b) ^^^ ((nI a - nI b) - nI k)) >>> ((8 : Int32) &&& 31)) &&& 16) = if ((nI a &&& 4095) - (nI b &&& 4095)) - nI k < 0 then (16 : Int32) else if ((nI a &&& 4095) - (nI b &&& 4095)) - nI k ≤ 4095 then 0 else 16) ∧
    ((((nI a - nI b) - nI k) >>> ((16 : Int32) &&& 31)) &&& 1 = if (nI a - nI b) - nI k < 0 then (1 : Int32) else if (nI a - nI b) - nI k ≤ 65535 then 0 else 1) ∧
    ((((nI a ^^^ nI b) &&& (nI a ^^^ ((nI a - nI b) - nI k))) &&& 32768) >>> ((13 : Int32) &&& 31) = if (if inr (((nI a).toInt16.toInt32 - (nI b).toInt16.toInt32) - nI k) (-32768) 32767 then (1 : Int32) else 0) = 0 then (4 : Int32) else 0) := by
  have es : (nI a - nI b) - nI k = nI (a + (4294967296 - b) + (4294967296 - k)) := by rw [nz_sub _ _ (by omega), nz_sub _ _ (by omega)]
  have t3 : (nI k).toInt = k := nI_toInt (by omega)
  have ti : ((nI a - nI b) - nI k).toInt = (a : Int) - b - k := by
    have t1 : (nI a).toInt = a := nI_toInt (by omega)
    have t2 : (nI b).toInt = b := nI_toInt (by omega)
    have t4 : (nI a - nI b).toInt = (a : Int) - b := by rw [ti_sub (by omega) (by omega), t1, t2]
    rw [ti_sub (by omega) (by omega), t4, t3]
  refine ⟨?_, ?_, ?_⟩
  · rw [es, s8a16, bt_xor, bt_xor, bt_n (by omega), bt_n (by omega), bt_n (by omega), nz_4095, nz_4095, xor3 (by omega) (by omega) (by omega)]
    have t1 : (nI (a % 4096)).toInt = ((a % 4096 : Nat) : Int) := nI_toInt (by omega)
    have t2 : (nI (b % 4096)).toInt = ((b % 4096 : Nat) : Int) := nI_toInt (by omega)
    have t4 : (nI (a % 4096) - nI (b % 4096)).toInt = ((a % 4096 : Nat) : Int) - ((b % 4096 : Nat) : Int) := by rw [ti_sub (by omega) (by omega), t1, t2]
    have t5 : ((nI (a % 4096) - nI (b % 4096)) - nI k).toInt = ((a % 4096 : Nat) : Int) - ((b % 4096 : Nat) : Int) - k := by rw [ti_sub (by omega) (by omega), t4, t3]
    have h1 : ((nI (a % 4096) - nI (b % 4096)) - nI k < 0) ↔ a % 4096 < b % 4096 + k := by
      rw [Int32.lt_iff_toInt_lt, Int32.toInt_zero, t5]; omega
    have h2 : (nI (a % 4096) - nI (b % 4096)) - nI k ≤ 4095 := by
      rw [Int32.le_iff_toInt_le, t5, show (4095 : Int32).toInt = 4095 from rfl]; omega
    by_cases h : a % 4096 < b % 4096 + k
    · rw [if_pos (h1.mpr h), if_pos]
      rw [decide_eq_true_iff]
      omega
    · rw [if_neg (mt h1.mp h), if_pos h2, if_neg]
      rw [decide_eq_true_iff]
      omega
  · have h1 : ((nI a - nI b) - nI k < 0) ↔ a < b + k := by
      rw [Int32.lt_iff_toInt_lt, Int32.toInt_zero, ti]; omega
    have h2 : (nI a - nI b) - nI k ≤ 65535 := by
      rw [Int32.le_iff_toInt_le, ti, show (65535 : Int32).toInt = 65535 from rfl]; omega
    rw [s16a1]
    have e16 : bt ((nI a - nI b) - nI k) 16 = decide ((a + (4294967296 - b) + (4294967296 - k)) / 2 ^ 16 % 2 = 1) := by rw [es, bt_n (by omega)]
    rw [e16]
    by_cases h : a < b + k
    · rw [if_pos (h1.mpr h), if_pos]
      rw [decide_eq_true_iff]
      omega
    · rw [if_neg (mt h1.mp h), if_pos h2, if_neg]
      rw [decide_eq_true_iff]
      omega
  · rw [ov13, bt_and, bt_xor, bt_xor, es, bt_n (by omega), bt_n (by omega), bt_n (by omega)]
    have t1 := sh_ti ha
    have t2 := sh_ti hb
    have t4 : ((nI a).toInt16.toInt32 - (nI b).toInt16.toInt32).toInt = (nI a).toInt16.toInt32.toInt - (nI b).toInt16.toInt32.toInt := ti_sub (by split at t1 <;> split at t2 <;> omega) (by split at t1 <;> split at t2 <;> omega)
    have t5 : (((nI a).toInt16.toInt32 - (nI b).toInt16.toInt32) - nI k).toInt = (nI a).toInt16.toInt32.toInt - (nI b).toInt16.toInt32.toInt - k := by
      rw [ti_sub (by rw [t4, t3]; split at t1 <;> split at t2 <;> omega) (by rw [t4, t3]; split at t1 <;> split at t2 <;> omega), t4, t3]
    generalize ((nI a).toInt16.toInt32 - (nI b).toInt16.toInt32) - nI k = X at t5 ⊢
    by_cases h : -32768 ≤ X.toInt ∧ X.toInt ≤ 32767
    · rw [if_pos ((inr_ti X).mpr h), if_neg (by decide : ¬ (1 : Int32) = 0), if_neg]
      simp
      split at t1 <;> split at t2 <;> omega
    · rw [if_neg (mt (inr_ti X).mp h), if_pos rfl, if_pos]
      simp
      split at t1 <;> split at t2 <;> omega
theorem szp_c (v : Int32) : fX0_signAndZeroOfPair v = some (((v >>> ((8 : Int32) &&& 31)) &&& 128) ||| (if v &&& 65535 = 0 then 64 else 0)) := by
  unfold fX0_signAndZeroOfPair
  rw [bd_ite]
theorem hl_65535 (v : Int32) : ((v &&& 65535) >>> ((8 : Int32) &&& 31)) &&& 255 = (v >>> ((8 : Int32) &&& 31)) &&& 255 := by
  have e : (v &&& 65535) >>> ((8 : Int32) &&& 31) = hi (v &&& 65535) := rfl
  rw [e, hi_65535, B8_id (B8_and _)]
theorem lo_655 (v : Int32) : (v &&& 65535) &&& 255 = v &&& 255 := lo_65535 v
theorem B8_16b (x : Int32) : B8 ((x >>> ((8 : Int32) &&& 31)) &&& 128) := B8_a128 _
section AS
variable {t : Nat} {rf : Int32 × (Int32 → Int32)} {tr : Int32} {c : zS}
theorem s_adcHl (h : Iv t c) {q : Nat} (hq : q < 4) : SimS t 7 rf tr (bd (fX1_pass (7 : Int32) c) fun s2 => bd2 (fX6_pair (nI (if q = 3 then 8 else q + 1)) s2) fun r6 s7 => bd (fX0_addToHlWithCarry r6 s7) fun s10 => some s10) (fX9_addPairWithCarry (nI q) 0 (al c rf tr)) := by
  have h' := h.t (t' := t + 7) (by omega)
  have hb : (if q = 3 then 8 else q + 1) < 10 := by split <;> omega
  rw [show fX1_pass (7 : Int32) c = some (st1 c 0 (nI (t + 7))) from pass_c h 7, bd_s, pair_c hb, bd2_s]
  unfold fX9_addPairWithCarry fX0_addToHlWithCarry fX9_carry
  rw [al_3, h.1, show nI t + (7 : Int32) = nI (t + 7) from nI_add t 7, ← al_s0, hl_m h', bd2_s, pair_m h' hq, bd2_s, bd2_s, pair_3, bd2_s, flags_c, bd2_s]
  simp only [nm, load_3, bd_s, lflags_d, tn_6, alr_6, bd_ite, some_ite, szp_c, isIn_m, setPair_2, if_true, hl_65535, lo_655]
  obtain ⟨a, ha, ea⟩ := h'.b (k := 3) (by omega)
  obtain ⟨b, hb', eb⟩ := h'.b hb
  obtain ⟨k, hk, ek⟩ := B8_k (x := lo ((st1 c 0 (nI (t + 7))).2 4 0))
  rw [ea, eb, ek, nI_add, nI_add]
  obtain ⟨f1, f2⟩ := addHL_F ha hb' hk
  have f3 := adcV ha hb' hk
  rw [f1, f2, f3]
  have n1 : ¬ ((nI a &&& 4095) + (nI b &&& 4095)) + nI k < 0 := by
    rw [nz_4095, nz_4095, nI_add, nI_add]; exact nI_pos (by omega)
  have n2 : ¬ nI (a + b + k) < 0 := nI_pos (by omega)
  rw [if_neg n1, if_neg n2]
  have hF : B8 ((((((nI (a + b + k) >>> ((8 : Int32) &&& 31)) &&& 128) ||| (if nI (a + b + k) &&& 65535 = 0 then (64 : Int32) else 0)) ||| (if ((nI a &&& 4095) + (nI b &&& 4095)) + nI k ≤ 4095 then (0 : Int32) else 16)) ||| (if (if inr (((nI a).toInt16.toInt32 + (nI b).toInt16.toInt32) + nI k) (-32768) 32767 then (1 : Int32) else 0) = 0 then (4 : Int32) else 0)) ||| (if nI (a + b + k) ≤ 65535 then (0 : Int32) else 1)) := B8_or (B8_or (B8_or (B8_or (B8_16b _) (B8_if (B8_n 64 (by omega)) B8_0)) (B8_if B8_0 (B8_n 16 (by omega)))) (B8_if (B8_n 4 (by omega)) B8_0)) (B8_if B8_0 (B8_n 1 (by omega)))
  refine ⟨t + 7, _, rfl, ?_, (h'.hl _).f hF, by omega, by omega⟩
  rw [al_HLF h' hF, Int32.or_zero]
  congr 4
  ac_rfl
theorem s_sbcHl (h : Iv t c) {q : Nat} (hq : q < 4) : SimS t 7 rf tr (bd (fX1_pass (7 : Int32) c) fun s2 => bd2 (fX6_pair (nI (if q = 3 then 8 else q + 1)) s2) fun r6 s7 => bd (fX0_takeFromHlWithCarry r6 s7) fun s12 => some s12) (fX9_addPairWithCarry (nI q) 1 (al c rf tr)) := by
  have h' := h.t (t' := t + 7) (by omega)
  have hb : (if q = 3 then 8 else q + 1) < 10 := by split <;> omega
  rw [show fX1_pass (7 : Int32) c = some (st1 c 0 (nI (t + 7))) from pass_c h 7, bd_s, pair_c hb, bd2_s]
  unfold fX9_addPairWithCarry fX0_takeFromHlWithCarry fX9_carry
  rw [al_3, h.1, show nI t + (7 : Int32) = nI (t + 7) from nI_add t 7, ← al_s0, hl_m h', bd2_s, pair_m h' hq, bd2_s, bd2_s, pair_3, bd2_s, flags_c, bd2_s]
  simp only [nm, load_3, bd_s, lflags_d, tn_6, alr_6, bd_ite, some_ite, szp_c, isIn_m, setPair_2, if_neg (by decide : ¬ (1 : Int32) = 0), hl_65535, lo_655]
  obtain ⟨a, ha, ea⟩ := h'.b (k := 3) (by omega)
  obtain ⟨b, hb', eb⟩ := h'.b hb
  obtain ⟨k, hk, ek⟩ := B8_k (x := lo ((st1 c 0 (nI (t + 7))).2 4 0))
  rw [ea, eb, ek]
  obtain ⟨f1, f2, f3⟩ := sbcF ha hb' hk
  rw [f1, f2, f3]
  generalize (if ((nI a &&& 4095) - (nI b &&& 4095)) - nI k < 0 then (16 : Int32) else if ((nI a &&& 4095) - (nI b &&& 4095)) - nI k ≤ 4095 then 0 else 16) = H9 at f1 ⊢
  generalize (if (nI a - nI b) - nI k < 0 then (1 : Int32) else if (nI a - nI b) - nI k ≤ 65535 then 0 else 1) = C9 at f2 ⊢
  have hH : B8 H9 := by rw [← f1, s8a16]; exact B8_if (B8_n 16 (by omega)) B8_0
  have hC : B8 C9 := by rw [← f2, s16a1]; exact B8_if (B8_n 1 (by omega)) B8_0
  have hF : B8 ((((((((nI a - nI b - nI k) >>> ((8 : Int32) &&& 31)) &&& 128) ||| (if (nI a - nI b - nI k) &&& 65535 = 0 then (64 : Int32) else 0)) ||| H9) ||| (if (if inr (((nI a).toInt16.toInt32 - (nI b).toInt16.toInt32) - nI k) (-32768) 32767 then (1 : Int32) else 0) = 0 then (4 : Int32) else 0)) ||| 2) ||| C9) := B8_or (B8_or (B8_or (B8_or (B8_or (B8_16b _) (B8_if (B8_n 64 (by omega)) B8_0)) hH) (B8_if (B8_n 4 (by omega)) B8_0)) (B8_n 2 (by omega))) hC
  refine ⟨t + 7, _, rfl, ?_, (h'.hl _).f hF, by omega, by omega⟩
  rw [al_HLF h' hF]
  congr 4
  ac_rfl
end AS
section LDI
variable {t : Nat} {rf : Int32 × (Int32 → Int32)} {tr : Int32} {c : zS}
theorem setPair_m (h : Iv t c) {q : Nat} (hq : q < 4) (v : Int32) : fX9_setPair (nI q) v (al c rf tr) = some (al (st2 c 4 (if q = 3 then 8 else q + 1) (v &&& 65535)) rf tr) := by
  match q, hq with
  | 0, _ =>
    show some (st2 (st2 (al c rf tr) 1 0 ((v >>> ((8 : Int32) &&& 31)) &&& 255)) 1 1 (v &&& 255)) = some (al (st2 c 4 1 (v &&& 65535)) rf tr)
    rw [al_p1, hi_65535, lo_65535]
  | 1, _ =>
    show some (st2 (st2 (al c rf tr) 1 2 ((v >>> ((8 : Int32) &&& 31)) &&& 255)) 1 3 (v &&& 255)) = some (al (st2 c 4 2 (v &&& 65535)) rf tr)
    rw [al_p2, hi_65535, lo_65535]
  | 2, _ =>
    show some (st2 (st2 (al c rf tr) 1 4 ((v >>> ((8 : Int32) &&& 31)) &&& 255)) 1 5 (v &&& 255)) = some (al (st2 c 4 3 (v &&& 65535)) rf tr)
    rw [al_p3, hi_65535, lo_65535]
  | 3, _ =>
    show some (st1 (al c rf tr) 1 (v &&& 65535)) = some (al (st2 c 4 8 (v &&& 65535)) rf tr)
    rw [al_sp]
theorem and_65535 (v : Int32) : (v &&& 65535) &&& 65535 = v &&& 65535 := B16_id (B16_and v)
theorem s_move (h : Iv t c) (hl : t + 25 < 2 ^ 31) (again : Bool) : SimS t 25 rf tr (fX5_copyByte (if again then 1 else 0) c) (fX9_move (if again then 1 else 0) (al c rf tr)) := by
  unfold fX5_copyByte fX9_move
  rw [pair_3, bd2_s, hl_m h, bd2_s]
  refine SimV.bd (k := 9) (k2 := 16) (s_read h (by omega) _) (fun v t1 c1 h1 l1 l2 hv => ?_)
  rw [pair_2, bd2_s, show fX9_pair (1 : Int32) (al c1 rf tr) = some (c1.2 4 2, al c1 rf tr) from pair_m h1 (n := 1) (by omega), bd2_s]
  refine SimS.bd (k := 9) (k2 := 7) (s_write h1 (by omega) _ _) (fun t2 c2 h2 l3 l4 => ?_)
  have h3 := h2.t (t' := t2 + 2) (by omega)
  rw [show fX1_pass (2 : Int32) c2 = some (st1 c2 0 (nI (t2 + 2))) from pass_c h2 2, bd_s, al_3, h2.1, show nI t2 + (2 : Int32) = nI (t2 + 2) from nI_add t2 2, ← al_s0]
  generalize st1 c2 0 (nI (t2 + 2)) = c3 at h3 ⊢
  rw [move_3, bd_s, hl_m h3, bd2_s, show ∀ x, fX9_setPair (2 : Int32) x (al c3 rf tr) = some (al (st2 c3 4 3 (x &&& 65535)) rf tr) from fun x => setPair_m h3 (q := 2) (by omega) x, bd_s, and_65535]
  have h4 := h3.p (k := 3) (B16_and (c3.2 4 3 + 1))
  generalize st2 c3 4 3 ((c3.2 4 3 + 1) &&& 65535) = c4 at h4 ⊢
  rw [move_2, bd_s, show fX9_pair (1 : Int32) (al c4 rf tr) = some (c4.2 4 2, al c4 rf tr) from pair_m h4 (n := 1) (by omega), bd2_s, show ∀ x, fX9_setPair (1 : Int32) x (al c4 rf tr) = some (al (st2 c4 4 2 (x &&& 65535)) rf tr) from fun x => setPair_m h4 (q := 1) (by omega) x, bd_s, and_65535]
  have h5 := h4.p (k := 2) (B16_and (c4.2 4 2 + 1))
  generalize st2 c4 4 2 ((c4.2 4 2 + 1) &&& 65535) = c5 at h5 ⊢
  rw [move_1, bd_s, show fX9_pair (0 : Int32) (al c5 rf tr) = some (c5.2 4 1, al c5 rf tr) from pair_m h5 (n := 0) (by omega), bd2_s]
  simp only [nm]
  rw [show ∀ x, fX9_setPair (0 : Int32) x (al c5 rf tr) = some (al (st2 c5 4 1 (x &&& 65535)) rf tr) from fun x => setPair_m h5 (q := 0) (by omega) x, bd_s, and_65535, show c5.2 4 1 - 1 = c5.2 4 1 + -1 from Int32.sub_eq_add_neg _ _]
  have h6 := h5.p (k := 1) (B16_and (c5.2 4 1 + -1))
  have e6 : (st2 c5 4 1 ((c5.2 4 1 + -1) &&& 65535)).2 4 1 = (c5.2 4 1 + -1) &&& 65535 := rfl
  generalize st2 c5 4 1 ((c5.2 4 1 + -1) &&& 65535) = c6 at h6 e6 ⊢
  rw [pair_1, bd2_s, e6]
  generalize (c5.2 4 1 + -1) &&& 65535 = x9
  simp only [flags_c, bd2_s, bd_ite, lflags_d, bd_s, tn_6, alr_6]
  have e7 : (if (if x9 = 0 then (0 : Int32) else 1) = 0 then (0 : Int32) else 4) = if x9 = 0 then (0 : Int32) else 4 := by
    by_cases q : x9 = 0
    · rw [if_pos q, if_pos q, if_pos rfl]
    · rw [if_neg q, if_neg q, if_neg (by decide)]
  have e8 : ((if x9 = 0 then (0 : Int32) else 1) = 0) ↔ x9 = 0 := by
    by_cases q : x9 = 0
    · rw [if_pos q]; exact ⟨fun _ => q, fun _ => rfl⟩
    · rw [if_neg q]; exact ⟨fun z => absurd z (by decide), fun z => absurd z q⟩
  rw [e7]
  have hF : B8 ((lo (c6.2 4 0) &&& 193) ||| (if x9 = 0 then (0 : Int32) else 4)) := B8_or (B8_ae (B8_lo _)) (B8_if B8_0 (B8_n 4 (by omega)))
  have h7 := h6.f hF
  rw [← al_f h6 hF]
  generalize cF6 c6 ((lo (c6.2 4 0) &&& 193) ||| (if x9 = 0 then (0 : Int32) else 4)) = c7 at h7 ⊢
  cases again with
  | false =>
    simp only [Bool.false_eq_true, if_false, if_true]
    exact ⟨t2 + 2, c7, rfl, rfl, h7, by omega, by omega⟩
  | true =>
    simp only [if_true, if_neg (by decide : ¬ (1 : Int32) = 0)]
    by_cases q : x9 = 0
    · rw [if_pos (e8.mpr q), if_pos q]
      exact ⟨t2 + 2, c7, rfl, rfl, h7, by omega, by omega⟩
    · rw [if_neg (mt e8.mp q), if_neg q, show fX1_pass (5 : Int32) c7 = some (st1 c7 0 (nI (t2 + 2 + 5))) from pass_c h7 5, bd_s, move_9, bd_s, al_3, h7.1, show nI (t2 + 2) + (5 : Int32) = nI (t2 + 2 + 5) from nI_add (t2 + 2) 5, ← al_s0]
      have h8 := h7.t (t' := t2 + 2 + 5) (by omega)
      refine ⟨t2 + 2 + 5, _, rfl, ?_, h8.p (B16_and _), by omega, by omega⟩
      rw [al_pc, al_2, Int32.sub_eq_add_neg]
theorem s_extended (h : Iv t c) (hl : t + 25 < 2 ^ 31) {n : Nat} (hn : n < 256) (hok : n &&& 199 = 66 ∨ n = 68 ∨ n = 160 ∨ n = 176) : SimS t 25 rf tr (fX5_executeMore (nI n) c) (fX9_extended (nI n) (al c rf tr)) := by
  unfold fX5_executeMore fX9_extended
  by_cases d68 : n = 68
  · subst d68
    rw [if_pos (by decide), if_pos (by decide)]
    simp only [nm, tn_7, alr_7]
    obtain ⟨t2, c2, q1, q2, q3, q4, q5⟩ := s_negate (rf := rf) (tr := tr) h
    rw [tn_7] at q2
    rw [q1, bd_s]
    exact ⟨t2, c2, rfl, q2, q3, by omega, by omega⟩
  · by_cases d160 : n = 160
    · subst d160
      rw [if_neg (by decide), if_pos (by decide), if_neg (by decide), if_neg (by decide), if_pos (by decide), if_neg (by decide), bd_s]
      exact SimS.bd (k := 25) (k2 := 0) (s_move h hl false) (fun t' c' hI _ _ => SimS.ret hI)
    · by_cases d176 : n = 176
      · subst d176
        rw [if_neg (by decide), if_neg (by decide), if_pos (by decide), if_neg (by decide), if_neg (by decide), if_neg (by decide), if_pos (by decide), if_pos (by decide), bd_s]
        exact SimS.bd (k := 25) (k2 := 0) (s_move h hl true) (fun t' c' hI _ _ => SimS.ret hI)
      · have hm : n &&& 199 = 66 := by
          rcases hok with q | q | q | q
          · exact q
          · exact absurd q d68
          · exact absurd q d160
          · exact absurd q d176
        have key1 : ∀ n, n < 256 → n &&& 199 = 66 → (¬ nI n ∈ ([68] : List Int32)) ∧ (¬ nI n ∈ ([160] : List Int32)) ∧ (¬ nI n ∈ ([176] : List Int32)) := by decide +kernel
        have key2 : ∀ n, n < 256 → n &&& 199 = 66 → ¬ nI n = 68 ∧ nI n &&& 199 = 66 ∧ (nI n >>> ((4 : Int32) &&& 31)) &&& 3 = nI (n / 16 % 4) := by decide +kernel
        have key3 : ∀ n, n < 256 → n &&& 199 = 66 → (nI n >>> ((3 : Int32) &&& 31)) &&& 7 = nI (n / 8 % 8) ∧ (nI (n / 8 % 8) >>> ((1 : Int32) &&& 31)) = nI (n / 16 % 4) ∧ ((nI (n / 8 % 8) &&& 1 = 0) ↔ (nI n &&& 8 = 0)) := by decide +kernel
        obtain ⟨k1, k2, k3⟩ := key1 n hn hm
        obtain ⟨k4, k5, k6⟩ := key2 n hn hm
        obtain ⟨k7, k8, k9⟩ := key3 n hn hm
        rw [if_neg k1, if_neg k2, if_neg k3, if_neg k4, if_pos k5, k6, k7]
        unfold fX5_calculateWithHl
        rw [k8, pairOf_c (by omega)]
        by_cases z : nI n &&& 8 = 0
        · rw [if_pos z, bd_s]
          have := s_sbcHl (rf := rf) (tr := tr) h (q := n / 16 % 4) (by omega)
          obtain ⟨t2, c2, q1, q2, q3, q4, q5⟩ := this
          rw [q2, bd_s]
          refine ⟨t2, c2, ?_, rfl, q3, by omega, by omega⟩
          rw [show fX1_pass (7 : Int32) c = some (st1 c 0 (nI (t + 7))) from pass_c h 7, bd_s] at q1
          rw [show fX1_pass (7 : Int32) c = some (st1 c 0 (nI (t + 7))) from pass_c h 7, bd_s, bd_s]
          simp only [if_pos (k9.mpr z)]
          rw [q1, bd_s]
        · rw [if_neg z, bd_s]
          have := s_adcHl (rf := rf) (tr := tr) h (q := n / 16 % 4) (by omega)
          obtain ⟨t2, c2, q1, q2, q3, q4, q5⟩ := this
          rw [q2, bd_s]
          refine ⟨t2, c2, ?_, rfl, q3, by omega, by omega⟩
          rw [show fX1_pass (7 : Int32) c = some (st1 c 0 (nI (t + 7))) from pass_c h 7, bd_s] at q1
          rw [show fX1_pass (7 : Int32) c = some (st1 c 0 (nI (t + 7))) from pass_c h 7, bd_s, bd_s]
          simp only [if_neg (mt k9.mp z)]
          rw [q1, bd_s]
end LDI
