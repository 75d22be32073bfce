/-! single bits and turned operands (CB); pairs added and taken off -/
theorem nz_self (x : Int32) : x = nI x.toBitVec.toNat := by
  apply Int32.toBitVec_inj.1
  show x.toBitVec = BitVec.ofNat 32 x.toBitVec.toNat
  simp
theorem pow8 : ∀ k, k < 8 → B8 ((1 : Int32) <<< (nI k &&& 31)) := by
  intro k hk
  have : ∀ k, k < 8 → ((1 : Int32) <<< (nI k &&& 31)).toBitVec.toNat < 256 := by decide +kernel
  exact ⟨_, this k hk, nz_self _⟩
section BI
variable {t : Nat} {rf : Int32 × (Int32 → Int32)} {tr : Int32} {c : zS}
theorem s_testBit (h : Iv t c) (k v : Int32) : SimS t 0 rf tr (fX0_testBit k v c) (bd2 (fX9_carry (al c rf tr)) fun r23 s24 => bd (if ((v >>> (k &&& 31)) &&& (1 : Int32)) = (0 : Int32) then (some (64 : Int32)) else (some (0 : Int32))) fun x27 => some (st2 s24 1 ((6 : Int32).toNatClampNeg) ((r23 ||| (16 : Int32)) ||| x27))) := by
  unfold fX0_testBit fX9_carry
  simp only [bd_ite, flags_c, bd2_s, lflags_d, bd_s, tn_6, alr_6]
  have hF : B8 (((lo (c.2 4 0) &&& 1) ||| (if (v >>> (k &&& 31)) &&& 1 = 0 then (64 : Int32) else 0)) ||| 16) := B8_or (B8_or (B8_ae (B8_lo _)) (B8_if (B8_n 64 (by omega)) B8_0)) (B8_n 16 (by omega))
  refine ⟨t, _, rfl, ?_, h.f hF, Nat.le_refl _, Nat.le_refl _⟩
  rw [al_f h hF]
  congr 2
  ac_rfl
theorem s_bits0 (h : Iv t c) (hl : t + 9 < 2 ^ 31) {n : Nat} (hn : n < 256) (h6 : n / 8 ≠ 6) {v : Int32} (hv : B8 v) : SimS t 9 rf tr
    (if nI (n / 64) ∈ ([(0 : Int32)] : List Int32) then (bd2 (fX0_shifted (nI (n / 8 % 8)) v c) fun r11 s12 => bd (fX3_store (nI (n % 8)) r11 s12) fun s14 => some s14) else if nI (n / 64) ∈ ([(1 : Int32)] : List Int32) then (bd (fX0_testBit (nI (n / 8 % 8)) v c) fun s17 => some s17) else if nI (n / 64) ∈ ([(2 : Int32)] : List Int32) then (bd (fX3_store (nI (n % 8)) (v &&& (((1 : Int32) <<< (nI (n / 8 % 8) &&& 31)) ^^^ (-1 : Int32))) c) fun s20 => some s20) else (bd (fX3_store (nI (n % 8)) (v ||| ((1 : Int32) <<< (nI (n / 8 % 8) &&& 31))) c) fun s22 => some s22))
    (if nI (n / 64) ∈ ([(0 : Int32)] : List Int32) then (bd2 (fX9_turned (nI (n / 8 % 8)) v (al c rf tr)) fun r13 s14 => bd (fX9_signs r13) fun r16 => bd (fX9_even r13) fun r18 => bd (fX9_setOperand (nI (n % 8)) (r13 &&& (255 : Int32)) (st2 s14 1 ((6 : Int32).toNatClampNeg) ((r16 ||| r18) ||| (r13 >>> ((8 : Int32) &&& 31))))) fun s20 => some s20) else if nI (n / 64) ∈ ([(1 : Int32)] : List Int32) then (bd2 (fX9_carry (al c rf tr)) fun r23 s24 => bd (if ((v >>> (nI (n / 8 % 8) &&& 31)) &&& (1 : Int32)) = (0 : Int32) then (some (64 : Int32)) else (some (0 : Int32))) fun x27 => some (st2 s24 1 ((6 : Int32).toNatClampNeg) ((r23 ||| (16 : Int32)) ||| x27))) else if nI (n / 64) ∈ ([(2 : Int32)] : List Int32) then (bd (fX9_setOperand (nI (n % 8)) (v &&& (((1 : Int32) <<< (nI (n / 8 % 8) &&& 31)) ^^^ (-1 : Int32))) (al c rf tr)) fun s31 => some s31) else (bd (fX9_setOperand (nI (n % 8)) (v ||| ((1 : Int32) <<< (nI (n / 8 % 8) &&& 31))) (al c rf tr)) fun s33 => some s33)) := by
  have e : ∀ q, q < 4 → ((nI q ∈ ([0] : List Int32)) ↔ q = 0) ∧ ((nI q ∈ ([1] : List Int32)) ↔ q = 1) ∧ ((nI q ∈ ([2] : List Int32)) ↔ q = 2) := by decide
  obtain ⟨e0, e1, e2⟩ := e (n / 64) (by omega)
  by_cases d0 : n / 64 = 0
  · rw [if_pos (e0.mpr d0), if_pos (e0.mpr d0)]
    obtain ⟨w, ew, q1, q2, q3⟩ := shifted_c h (j := n / 8 % 8) (by omega) (by omega) hv
    rw [q1, bd2_s, turned_m, bd2_s, alr_6, ← ew, signs_m, bd_s, q2, bd_s, tn_6, ← al_f h q3]
    exact SimS.bd (k := 9) (k2 := 0) (s_store (h.f q3) hl (by omega) (B8_and w)) (fun t' c' hI _ _ => SimS.ret hI)
  · rw [if_neg (mt e0.mp d0), if_neg (mt e0.mp d0)]
    by_cases d1 : n / 64 = 1
    · rw [if_pos (e1.mpr d1), if_pos (e1.mpr d1)]
      obtain ⟨t2, c2, q1, q2, q3, q4, q5⟩ := s_testBit (rf := rf) (tr := tr) h (nI (n / 8 % 8)) v
      rw [q1, q2, bd_s]
      exact ⟨t2, c2, rfl, rfl, q3, by omega, by omega⟩
    · rw [if_neg (mt e1.mp d1), if_neg (mt e1.mp d1)]
      by_cases d2 : n / 64 = 2
      · rw [if_pos (e2.mpr d2), if_pos (e2.mpr d2)]
        exact SimS.bd (k := 9) (k2 := 0) (s_store h hl (by omega) (B8_ae hv)) (fun t' c' hI _ _ => SimS.ret hI)
      · rw [if_neg (mt e2.mp d2), if_neg (mt e2.mp d2)]
        exact SimS.bd (k := 9) (k2 := 0) (s_store h hl (by omega) (B8_or hv (pow8 _ (by omega)))) (fun t' c' hI _ _ => SimS.ret hI)
theorem shrN {n k p : Nat} (hn : n < 256) (hk : ((nI k &&& 31).toBitVec.smod 32).toNat = k) (hp : 2 ^ k = p) : nI n >>> (nI k &&& 31) = nI (n / p) := by
  rw [← hp]; exact pk_shrN (by omega) _ k hk
theorem cd_3 {n : Nat} (hn : n < 256) : nI n >>> ((3 : Int32) &&& 31) = nI (n / 8) := shrN (k := 3) hn (by decide) rfl
theorem cd_4 {n : Nat} (hn : n < 256) : nI n >>> ((4 : Int32) &&& 31) = nI (n / 16) := shrN (k := 4) hn (by decide) rfl
theorem cd_6 {n : Nat} (hn : n < 256) : nI n >>> ((6 : Int32) &&& 31) = nI (n / 64) := shrN (k := 6) hn (by decide) rfl
theorem cd_1 {n : Nat} (hn : n < 256) : nI n >>> ((1 : Int32) &&& 31) = nI (n / 2) := shrN (k := 1) hn (by decide) rfl
theorem s_bits (h : Iv t c) (hl : t + 19 < 2 ^ 31) {n : Nat} (hn : n < 256) (h6 : n / 8 ≠ 6) : SimS t 19 rf tr (fX5_executeBits (nI n) c) (fX9_bits (nI n) (al c rf tr)) := by
  obtain ⟨v, t', h1, h2, hv, ec, em⟩ := value_x (rf := rf) (tr := tr) h (by omega) (j := n % 8) (by omega)
  have h' := h.t h1
  have e8 : ¬ nI (n / 8) = (6 : Int32) := mt (nI_eq (b := 6) (by omega) (by decide)).mp h6
  unfold fX5_executeBits fX9_bits
  simp only [nm, nz_7, cd_3 hn, cd_6 hn]
  rw [ec, bd2_s, if_neg e8, em, bd2_s]
  by_cases d : n % 8 = 6
  · have e6 : nI (n % 8) = (6 : Int32) := by rw [d]; rfl
    unfold fX3_isAtHl
    rw [if_pos e6, bd_s, if_neg (by decide), if_pos e6, bd_s, show fX1_pass (1 : Int32) (st1 c 0 (nI t')) = some (st1 (st1 c 0 (nI t')) 0 (nI (t' + 1))) from pass_c h' 1, bd_s, al_3, h'.1, show nI t' + (1 : Int32) = nI (t' + 1) from nI_add t' 1, ← al_s0]
    have := s_bits0 (rf := rf) (tr := tr) (h'.t (t' := t' + 1) (by omega)) (by omega) hn h6 hv
    obtain ⟨t2, c2, q1, q2, q3, q4, q5⟩ := this
    exact ⟨t2, c2, q1, q2, q3, by omega, by omega⟩
  · have e6 : ¬ nI (n % 8) = (6 : Int32) := mt (nI_eq (b := 6) (by omega) (by decide)).mp d
    unfold fX3_isAtHl
    rw [if_neg e6, bd_s, if_pos rfl, if_neg e6, bd_s, st1_self]
    have := s_bits0 (rf := rf) (tr := tr) h' (by omega) hn h6 hv
    obtain ⟨t2, c2, q1, q2, q3, q4, q5⟩ := this
    exact ⟨t2, c2, q1, q2, q3, by omega, by omega⟩
end BI
/-! pairs -/
theorem bt_255 : ∀ i, i < 32 → bt 255 i = decide (i < 8) := by decide +kernel
theorem bt_65535 : ∀ i, i < 32 → bt 65535 i = decide (i < 16) := by decide +kernel
theorem hi_65535 (x : Int32) : hi (x &&& 65535) = (x >>> ((8 : Int32) &&& 31)) &&& 255 := by
  apply bt_ext
  intro i hi'
  unfold hi
  rw [show ((8 : Int32) &&& 31) = (nI 8 &&& 31) from rfl, bt_shr 8 (by omega) _ hi', bt_and (x >>> (nI 8 &&& 31)) 255, bt_shr 8 (by omega) _ hi', bt_255 i hi']
  by_cases h : 8 + i < 32
  · rw [if_pos h, if_pos h, bt_and, bt_65535 _ h]
    by_cases q : i < 8
    · simp [q]; intro; omega
    · simp [q]; intro; omega
  · rw [if_neg h, if_neg h, bt_and, bt_65535 31 (by omega)]
    have : ¬ i < 8 := by omega
    simp [this]
theorem lo_65535 (x : Int32) : lo (x &&& 65535) = x &&& 255 := by
  unfold lo
  rw [Int32.and_assoc]; rfl
def cHL (c : zS) (v : Int32) : zS := st2 c 4 3 (v &&& 65535)
section HL
variable {t : Nat} {rf : Int32 × (Int32 → Int32)} {tr : Int32} {c : zS}
theorem load_3 (v : Int32) : fX6_load (3 : Int32) v c = some (cHL c v) := rfl
theorem Iv.hl (h : Iv t c) (v : Int32) : Iv t (cHL c v) := h.p (B16_and v)
theorem al_HL (v : Int32) : al (cHL c v) rf tr = st2 (st2 (al c rf tr) 1 4 ((v >>> ((8 : Int32) &&& 31)) &&& 255)) 1 5 (v &&& 255) := by
  unfold cHL
  rw [al_p3, hi_65535, lo_65535]
theorem setPair_2 (v : Int32) (m : zS) : fX9_setPair (2 : Int32) v m = some (st2 (st2 m 1 4 ((v >>> ((8 : Int32) &&& 31)) &&& 255)) 1 5 (v &&& 255)) := rfl
/-- HL and F told, by either order -/
theorem al_HLF (h : Iv t c) {v F : Int32} (hF : B8 F) : al (cF6 (cHL c v) F) rf tr = st2 (st2 (st2 (al c rf tr) 1 6 F) 1 4 ((v >>> ((8 : Int32) &&& 31)) &&& 255)) 1 5 (v &&& 255) := by
  rw [al_f (h.hl v) hF, al_HL, st2_comm (i := 5) (j := 6) (Or.inr (by decide)), st2_comm (i := 4) (j := 6) (Or.inr (by decide))]
end HL
theorem nz_4095' (n : Nat) : nI n &&& 4095 = nI (n % 4096) := nz_4095 n
theorem addHL_F {a b k : Nat} (ha : a < 65536) (hb : b < 65536) (hk : k < 2) :
    (((((nI a ^^^ nI b) ^^^ nI (a + b + k)) >>> ((8 : Int32) &&& 31)) &&& 16) = if ((nI a &&& 4095) + (nI b &&& 4095)) + nI k ≤ 4095 then (0 : Int32) else 16) ∧ (nI (a + b + k) >>> ((16 : Int32) &&& 31) = if nI (a + b + k) ≤ 65535 then (0 : Int32) else 1) := by
  constructor
  · rw [s8a16, bt_xor, bt_xor, bt_n (by omega), bt_n (by omega), bt_n (by omega), nz_4095, nz_4095, nI_add, nI_add, xor3 (by omega) (by omega) (by omega)]
    have h1 : (nI (a % 4096 + b % 4096 + k) ≤ (4095 : Int32)) ↔ a % 4096 + b % 4096 + k ≤ 4095 := nI_leI (b := 4095) (by omega) (by decide)
    by_cases h : a % 4096 + b % 4096 + k ≤ 4095
    · rw [if_pos (h1.mpr h), if_neg]
      rw [decide_eq_true_iff]
      omega
    · rw [if_neg (mt h1.mp h), if_pos]
      rw [decide_eq_true_iff]
      omega
  · have h1 : (nI (a + b + k) ≤ (65535 : Int32)) ↔ a + b + k ≤ 65535 := nI_leI (b := 65535) (by omega) (by decide)
    rw [pk_shrN (by omega) _ 16 (by decide)]
    by_cases h : a + b + k ≤ 65535
    · rw [if_pos (h1.mpr h), show (a + b + k) / 2 ^ 16 = 0 by omega]; rfl
    · rw [if_neg (mt h1.mp h), show (a + b + k) / 2 ^ 16 = 1 by omega]; rfl
section ADD
variable {t : Nat} {rf : Int32 × (Int32 → Int32)} {tr : Int32} {c : zS}
theorem s_addHl (h : Iv t c) {q : Nat} (hq : q < 4) : SimS t 7 rf tr (bd (fX1_pass (7 : Int32) c) fun s5 => bd2 (fX6_pair (nI (if q = 3 then 8 else q + 1)) s5) fun r7 s8 => bd (fX0_addToHl r7 s8) fun s10 => some s10) (fX9_addPair (nI q) (al c rf tr)) := by
  have h' := h.t (t' := t + 7) (by omega)
  have hb : (if q = 3 then 8 else q + 1) < 10 := by split <;> omega
  rw [show fX1_pass (7 : Int32) c = some (st1 c 0 (nI (t + 7))) from pass_c h 7, bd_s, pair_c hb, bd2_s]
  unfold fX9_addPair fX0_addToHl
  rw [al_3, h.1, show nI t + (7 : Int32) = nI (t + 7) from nI_add t 7, ← al_s0, hl_m h', bd2_s, pair_m h' hq, bd2_s, pair_3, bd2_s]
  simp only [nm, load_3, bd_s, flags_c, bd2_s, lflags_d, tn_6, alr_6, bd_ite, setPair_2]
  obtain ⟨a, ha, ea⟩ := h'.b (k := 3) (by omega)
  obtain ⟨b, hb', eb⟩ := h'.b hb
  have ef : lo ((cHL (st1 c 0 (nI (t + 7))) ((st1 c 0 (nI (t + 7))).2 4 3 + (st1 c 0 (nI (t + 7))).2 4 (if q = 3 then 8 else q + 1))).2 4 0) = lo ((st1 c 0 (nI (t + 7))).2 4 0) := rfl
  rw [ef, ea, eb, nI_add]
  obtain ⟨f1, f2⟩ := addHL_F (k := 0) ha hb' (by omega)
  rw [Nat.add_zero, show nI 0 = 0 from rfl, Int32.add_zero] at f1
  rw [Nat.add_zero] at f2
  rw [f1, f2]
  have hF : B8 (((lo ((st1 c 0 (nI (t + 7))).2 4 0) &&& 196) ||| (if (nI a &&& 4095) + (nI b &&& 4095) ≤ 4095 then (0 : Int32) else 16)) ||| (if nI (a + b) ≤ 65535 then (0 : Int32) else 1)) := B8_or (B8_or (B8_ae (B8_lo _)) (B8_if B8_0 (B8_n 16 (by omega)))) (B8_if B8_0 (B8_n 1 (by omega)))
  exact ⟨t + 7, _, rfl, by rw [al_HLF h' hF], (h'.hl _).f hF, by omega, by omega⟩
end ADD
