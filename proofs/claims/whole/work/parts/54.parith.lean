/-! bits; sums and differences with their flags -/
def bt (x : Int32) (i : Nat) : Bool := x.toBitVec.getLsbD i
theorem bt_ext {x y : Int32} (h : ∀ i, i < 32 → bt x i = bt y i) : x = y := Int32.toBitVec_inj.mp (BitVec.eq_of_getLsbD_eq (fun i hi => h i hi))
theorem bt_or (x y : Int32) (i : Nat) : bt (x ||| y) i = (bt x i || bt y i) := by unfold bt; rw [Int32.toBitVec_or, BitVec.getLsbD_or]
theorem bt_and (x y : Int32) (i : Nat) : bt (x &&& y) i = (bt x i && bt y i) := by unfold bt; rw [Int32.toBitVec_and, BitVec.getLsbD_and]
theorem bt_xor (x y : Int32) (i : Nat) : bt (x ^^^ y) i = (bt x i ^^ bt y i) := by unfold bt; rw [Int32.toBitVec_xor, BitVec.getLsbD_xor]
theorem bt_sl : ∀ n, n < 32 → ((nI n &&& 31).toBitVec.smod 32).toNat = n := by decide +kernel
theorem bt_shr (n : Nat) (hn : n < 32) (x : Int32) {i : Nat} (hi : i < 32) : bt (x >>> (nI n &&& 31)) i = if n + i < 32 then bt x (n + i) else bt x 31 := by
  unfold bt
  rw [Int32.toBitVec_shiftRight]
  show (x.toBitVec.sshiftRight ((nI n &&& 31).toBitVec.smod 32).toNat).getLsbD i = _
  rw [bt_sl n hn, BitVec.getLsbD_sshiftRight, BitVec.msb_eq_getLsbD_last]
  simp [hi]
theorem bt_n {n i : Nat} (hi : i < 32) : bt (nI n) i = decide (n / 2 ^ i % 2 = 1) := by
  show (BitVec.ofNat 32 n).getLsbD i = _
  rw [BitVec.getLsbD_ofNat, Nat.testBit_eq_decide_div_mod_eq]
  simp [hi]
theorem bt_pow : ∀ i, i < 32 → ∀ j, j < 32 → bt (nI (2 ^ i)) j = decide (j = i) := by decide +kernel
theorem bt_0 : ∀ j, j < 32 → bt 0 j = false := by decide +kernel
theorem xor3 {x y z : Nat} (hx : x < 2) (hy : y < 2) (hz : z < 2) : ((decide (x = 1) ^^ decide (y = 1)) ^^ decide (z = 1)) = decide ((x + y + z) % 2 = 1) := by
  rcases (show x = 0 ∨ x = 1 by omega) with rfl | rfl <;> rcases (show y = 0 ∨ y = 1 by omega) with rfl | rfl <;> rcases (show z = 0 ∨ z = 1 by omega) with rfl | rfl <;> rfl
theorem and_pow (x : Int32) {i : Nat} (hi : i < 32) : x &&& nI (2 ^ i) = if bt x i then nI (2 ^ i) else 0 := by
  apply bt_ext
  intro j hj
  rw [bt_and, bt_pow i hi j hj]
  by_cases h : j = i
  · subst h
    by_cases hb : bt x j = true
    · simp [hb, bt_pow j hj j hj]
    · simp [hb, bt_0 j hj]
  · simp only [h, decide_false, Bool.and_false]
    split
    · rw [bt_pow i hi j hj]; simp [h]
    · rw [bt_0 j hj]
theorem shr_pow (x : Int32) {k i : Nat} (h : k + i < 32) : (x >>> (nI k &&& 31)) &&& nI (2 ^ i) = if bt x (k + i) then nI (2 ^ i) else 0 := by
  rw [and_pow _ (by omega), bt_shr k (by omega) x (by omega), if_pos h]
theorem and16 (x : Int32) : x &&& 16 = if bt x 4 then 16 else 0 := and_pow x (i := 4) (by omega)
theorem and128 (x : Int32) : x &&& 128 = if bt x 7 then 128 else 0 := and_pow x (i := 7) (by omega)
theorem and1 (x : Int32) : x &&& 1 = if bt x 0 then 1 else 0 := and_pow x (i := 0) (by omega)
theorem and32768 (x : Int32) : x &&& 32768 = if bt x 15 then 32768 else 0 := and_pow x (i := 15) (by omega)
theorem s8a16 (x : Int32) : (x >>> ((8 : Int32) &&& 31)) &&& 16 = if bt x 12 then 16 else 0 := shr_pow x (k := 8) (i := 4) (by omega)
theorem s8a128 (x : Int32) : (x >>> ((8 : Int32) &&& 31)) &&& 128 = if bt x 15 then 128 else 0 := shr_pow x (k := 8) (i := 7) (by omega)
theorem s8a1 (x : Int32) : (x >>> ((8 : Int32) &&& 31)) &&& 1 = if bt x 8 then 1 else 0 := shr_pow x (k := 8) (i := 0) (by omega)
theorem s16a1 (x : Int32) : (x >>> ((16 : Int32) &&& 31)) &&& 1 = if bt x 16 then 1 else 0 := shr_pow x (k := 16) (i := 0) (by omega)
theorem ov5 (x : Int32) : (x &&& 128) >>> ((5 : Int32) &&& 31) = if bt x 7 then 4 else 0 := by
  rw [and128]; split <;> rfl
theorem ov13 (x : Int32) : (x &&& 32768) >>> ((13 : Int32) &&& 31) = if bt x 15 then 4 else 0 := by
  rw [and32768]; split <;> rfl
theorem B8_0 : B8 0 := ⟨0, by omega, rfl⟩
theorem B8_or {x y : Int32} (hx : B8 x) (hy : B8 y) : B8 (x ||| y) := by
  obtain ⟨a, ha, rfl⟩ := hx
  obtain ⟨b, hb, rfl⟩ := hy
  exact ⟨a ||| b, Nat.or_lt_two_pow (n := 8) ha hb, nz_or a b⟩
theorem B8_xor {x y : Int32} (hx : B8 x) (hy : B8 y) : B8 (x ^^^ y) := by
  obtain ⟨a, ha, rfl⟩ := hx
  obtain ⟨b, hb, rfl⟩ := hy
  exact ⟨a ^^^ b, Nat.xor_lt_two_pow (n := 8) ha hb, nz_xor a b⟩
theorem B8_ae {x y : Int32} (hx : B8 x) : B8 (x &&& y) := by
  obtain ⟨a, ha, rfl⟩ := hx
  obtain ⟨b, -, rfl⟩ := nz_of y
  exact ⟨a &&& b, Nat.lt_of_le_of_lt Nat.and_le_left ha, nz_and a b⟩
theorem B8_if {c : Prop} [Decidable c] {x y : Int32} (hx : B8 x) (hy : B8 y) : B8 (if c then x else y) := by
  split
  · exact hx
  · exact hy
theorem B8_n (n : Nat) (h : n < 256) : B8 (nI n) := ⟨n, h, rfl⟩
theorem B8_a128 (x : Int32) : B8 (x &&& 128) := by rw [and128]; exact B8_if (B8_n 128 (by omega)) B8_0
theorem ti_add {x y : Int32} (h1 : -2147483648 ≤ x.toInt + y.toInt) (h2 : x.toInt + y.toInt < 2147483648) : (x + y).toInt = x.toInt + y.toInt := by
  rw [Int32.toInt_add, Int.bmod_def]
  split <;> omega
theorem ti_sub {x y : Int32} (h1 : -2147483648 ≤ x.toInt - y.toInt) (h2 : x.toInt - y.toInt < 2147483648) : (x - y).toInt = x.toInt - y.toInt := by
  rw [Int32.toInt_sub, Int.bmod_def]
  split <;> omega
theorem sb_ti : ∀ n, n < 256 → (nI n).toInt8.toInt32.toInt = if n < 128 then (n : Int) else (n : Int) - 256 := by decide +kernel
theorem sh_ti {n : Nat} (h : n < 65536) : (nI n).toInt16.toInt32.toInt = if n < 32768 then (n : Int) else (n : Int) - 65536 := by
  have e : (nI n).toInt16.toInt32.toInt = (n : Int).bmod 65536 := by
    rw [Int16.toInt_toInt32, Int32.toInt_toInt16, nI_toInt (by omega)]
  rw [e, Int.bmod_def]
  split <;> split <;> omega
theorem bd_ite {α β : Type} {c : Prop} [Decidable c] {x y : α} {f : α → Option β} : bd (if c then some x else some y) f = f (if c then x else y) := by
  split <;> rfl
theorem some_ite {α : Type} {c : Prop} [Decidable c] {x y : α} : (if c then some x else some y) = some (if c then x else y) := by
  split <;> rfl
/-- S and Z -/
def szF (v : Int32) : Int32 := (v &&& 128) ||| (if v &&& 255 = 0 then 64 else 0)
theorem signs_m (v : Int32) : fX9_signs v = some (szF v) := by
  unfold fX9_signs
  rw [bd_ite]; rfl
theorem sz_c (v : Int32) : fX0_signAndZero (v &&& 255) = some (szF v) := by
  unfold fX0_signAndZero
  rw [bd_ite]
  have e : (v &&& 255) &&& 128 = v &&& 128 := by rw [Int32.and_assoc]; rfl
  rw [e]; rfl
theorem sz_b {v : Int32} (h : B8 v) : fX0_signAndZero v = some (szF v) := by
  have := sz_c v
  rw [B8_id h] at this
  exact this
theorem B8_sz (v : Int32) : B8 (szF v) := B8_or (B8_a128 v) (B8_if (B8_n 64 (by omega)) B8_0)
abbrev inr (x lo hi : Int32) : Prop := ¬ x < lo ∧ ¬ hi < x
theorem isIn_m (x l h : Int32) : fX9_isIn x l h = some (if inr x l h then 1 else 0) := by
  unfold fX9_isIn inr
  by_cases h1 : x < l
  · simp [h1]
  · by_cases h2 : h < x
    · simp [h1, h2]
    · simp [h1, h2]
def plusF (a b k : Int32) : Int32 := ((szF ((a + b) + k) ||| (if (a + b) + k ≤ 255 then 0 else 1)) ||| (if ((a &&& 15) + (b &&& 15)) + k ≤ 15 then 0 else 16)) ||| (if (if inr ((a.toInt8.toInt32 + b.toInt8.toInt32) + k) (-128) 127 then (1 : Int32) else 0) = 0 then 4 else 0)
theorem plus_m (a b k : Int32) (m : zS) : fX9_plus a b k m = some (((a + b) + k) &&& 255, st2 m 1 6 (plusF a b k)) := by
  unfold fX9_plus
  simp only [nm, signs_m, bd_s, bd_ite, isIn_m]
  rfl
def minusF (a b k : Int32) : Int32 := (((szF ((a - b) - k) ||| (if 0 ≤ (a - b) - k then 0 else 1)) ||| (if 0 ≤ ((a &&& 15) - (b &&& 15)) - k then 0 else 16)) ||| 2) ||| (if (if inr ((a.toInt8.toInt32 - b.toInt8.toInt32) - k) (-128) 127 then (1 : Int32) else 0) = 0 then 4 else 0)
theorem minus_m (a b k : Int32) (m : zS) : fX9_minus a b k m = some (((a - b) - k) &&& 255, st2 m 1 6 (minusF a b k)) := by
  unfold fX9_minus
  simp only [nm, signs_m, bd_s, bd_ite, isIn_m]
  rfl
def sumF (a b k : Int32) : Int32 := ((szF ((a + b) + k) ||| (((a ^^^ b) ^^^ ((a + b) + k)) &&& 16)) ||| ((((a ^^^ ((a + b) + k)) &&& (b ^^^ ((a + b) + k))) &&& 128) >>> ((5 : Int32) &&& 31))) ||| (((a + b) + k) >>> ((8 : Int32) &&& 31))
theorem sum_c (a b k : Int32) (c : zS) : fX0_sum a b k c = some (((a + b) + k) &&& 255, st2 c 4 0 (((c.2 4 0) &&& (65280 : Int32)) ||| sumF a b k)) := by
  unfold fX0_sum
  simp only [nm, sz_c, bd_s, lflags_c]
  rfl
def difF (a b k : Int32) : Int32 := (((szF ((a - b) - k) ||| (((a ^^^ b) ^^^ ((a - b) - k)) &&& 16)) ||| ((((a ^^^ b) &&& (a ^^^ ((a - b) - k))) &&& 128) >>> ((5 : Int32) &&& 31))) ||| 2) ||| ((((a - b) - k) >>> ((8 : Int32) &&& 31)) &&& 1)
theorem dif_c (a b k : Int32) (c : zS) : fX0_difference a b k c = some (((a - b) - k) &&& 255, st2 c 4 0 (((c.2 4 0) &&& (65280 : Int32)) ||| difF a b k)) := by
  unfold fX0_difference
  simp only [nm, sz_c, bd_s, lflags_c]
  rfl
theorem nz_15 (n : Nat) : nI n &&& 15 = nI (n % 16) := by
  show nI n &&& nI 15 = _
  rw [nz_and, show (15 : Nat) = 2 ^ 4 - 1 from rfl, Nat.and_two_pow_sub_one_eq_mod]
theorem if_cg {α : Type} {p q : Prop} [Decidable p] [Decidable q] {x y : α} (h : p ↔ q) : (if p then x else y) = if q then x else y := by
  by_cases hp : p
  · rw [if_pos hp, if_pos (h.mp hp)]
  · rw [if_neg hp, if_neg (mt h.mpr hp)]
theorem add_F {a b k : Nat} (ha : a < 256) (hb : b < 256) (hk : k < 2) : sumF (nI a) (nI b) (nI k) = plusF (nI a) (nI b) (nI k) := by
  have es : (nI a + nI b) + nI k = nI (a + b + k) := by rw [nI_add, nI_add]
  have eh : ((nI a ^^^ nI b) ^^^ nI (a + b + k)) &&& 16 = if ((nI a &&& 15) + (nI b &&& 15)) + nI k ≤ 15 then (0 : Int32) else 16 := by
    rw [and16, bt_xor, bt_xor, bt_n (by omega), bt_n (by omega), bt_n (by omega), nz_15, nz_15, nI_add, nI_add, xor3 (by omega) (by omega) (by omega)]
    have h1 : (nI (a % 16 + b % 16 + k) ≤ (15 : Int32)) ↔ a % 16 + b % 16 + k ≤ 15 := nI_leI (b := 15) (by omega) (by decide)
    by_cases h : a % 16 + b % 16 + k ≤ 15
    · rw [if_pos (h1.mpr h), if_neg]
      rw [decide_eq_true_iff]
      omega
    · rw [if_neg (mt h1.mp h), if_pos]
      rw [decide_eq_true_iff]
      omega
  have ec : nI (a + b + k) >>> ((8 : Int32) &&& 31) = if nI (a + b + k) ≤ 255 then (0 : Int32) else 1 := by
    have h1 : (nI (a + b + k) ≤ (255 : Int32)) ↔ a + b + k ≤ 255 := nI_leI (b := 255) (by omega) (by decide)
    rw [pk_shrN (by omega) _ 8 (by decide)]
    by_cases h : a + b + k ≤ 255
    · rw [if_pos (h1.mpr h), show (a + b + k) / 2 ^ 8 = 0 by omega]; rfl
    · rw [if_neg (mt h1.mp h), show (a + b + k) / 2 ^ 8 = 1 by omega]; rfl
  have ev : (((nI a ^^^ nI (a + b + k)) &&& (nI b ^^^ nI (a + b + k))) &&& 128) >>> ((5 : Int32) &&& 31) = if (if inr (((nI a).toInt8.toInt32 + (nI b).toInt8.toInt32) + nI k) (-128) 127 then (1 : Int32) else 0) = 0 then (4 : Int32) else 0 := by
    rw [ov5, bt_and, bt_xor, bt_xor, bt_n (by omega), bt_n (by omega), bt_n (by omega)]
    have t1 := sb_ti a ha
    have t2 := sb_ti b hb
    have t3 : (nI k).toInt = k := nI_toInt (by omega)
    have t4 : ((nI a).toInt8.toInt32 + (nI b).toInt8.toInt32).toInt = (nI a).toInt8.toInt32.toInt + (nI b).toInt8.toInt32.toInt := ti_add (by split at t1 <;> split at t2 <;> omega) (by split at t1 <;> split at t2 <;> omega)
    have t5 : (((nI a).toInt8.toInt32 + (nI b).toInt8.toInt32) + nI k).toInt = (nI a).toInt8.toInt32.toInt + (nI b).toInt8.toInt32.toInt + k := by
      rw [ti_add (by rw [t4, t3]; split at t1 <;> split at t2 <;> omega) (by rw [t4, t3]; split at t1 <;> split at t2 <;> omega), t4, t3]
    generalize ((nI a).toInt8.toInt32 + (nI b).toInt8.toInt32) + nI k = X at t5 ⊢
    have hi : inr X (-128) 127 ↔ (-128 ≤ X.toInt ∧ X.toInt ≤ 127) := by
      unfold inr
      rw [Int32.lt_iff_toInt_lt, Int32.lt_iff_toInt_lt, show (-128 : Int32).toInt = -128 from rfl, show (127 : Int32).toInt = 127 from rfl]
      omega
    by_cases h : -128 ≤ X.toInt ∧ X.toInt ≤ 127
    · rw [if_pos (hi.mpr h), if_neg (by decide : ¬ (1 : Int32) = 0), if_neg]
      simp
      split at t1 <;> split at t2 <;> omega
    · rw [if_neg (mt hi.mp h), if_pos rfl, if_pos]
      simp
      split at t1 <;> split at t2 <;> omega
  unfold sumF plusF
  rw [es, eh, ec, ev]
  ac_rfl
theorem sub_F {a b k : Nat} (ha : a < 256) (hb : b < 256) (hk : k < 2) : difF (nI a) (nI b) (nI k) = minusF (nI a) (nI b) (nI k) := by
  have es : (nI a - nI b) - nI k = nI (a + (4294967296 - b) + (4294967296 - k)) := by rw [nz_sub _ _ (by omega), nz_sub _ _ (by omega)]
  have ti : ((nI a - nI b) - nI k).toInt = (a : Int) - b - k := by
    have t1 : (nI a).toInt = a := nI_toInt (by omega)
    have t2 : (nI b).toInt = b := nI_toInt (by omega)
    have t3 : (nI k).toInt = k := nI_toInt (by omega)
    have t4 : (nI a - nI b).toInt = (a : Int) - b := by rw [ti_sub (by omega) (by omega), t1, t2]
    rw [ti_sub (by omega) (by omega), t4, t3]
  have eh : ((nI a ^^^ nI b) ^^^ ((nI a - nI b) - nI k)) &&& 16 = if 0 ≤ ((nI a &&& 15) - (nI b &&& 15)) - nI k then (0 : Int32) else 16 := by
    rw [es, and16, bt_xor, bt_xor, bt_n (by omega), bt_n (by omega), bt_n (by omega), nz_15, nz_15, xor3 (by omega) (by omega) (by omega)]
    have t1 : (nI (a % 16)).toInt = ((a % 16 : Nat) : Int) := nI_toInt (by omega)
    have t2 : (nI (b % 16)).toInt = ((b % 16 : Nat) : Int) := nI_toInt (by omega)
    have t3 : (nI k).toInt = k := nI_toInt (by omega)
    have t4 : (nI (a % 16) - nI (b % 16)).toInt = ((a % 16 : Nat) : Int) - ((b % 16 : Nat) : Int) := by rw [ti_sub (by omega) (by omega), t1, t2]
    have t5 : ((nI (a % 16) - nI (b % 16)) - nI k).toInt = ((a % 16 : Nat) : Int) - ((b % 16 : Nat) : Int) - k := by rw [ti_sub (by omega) (by omega), t4, t3]
    have h1 : (0 ≤ (nI (a % 16) - nI (b % 16)) - nI k) ↔ b % 16 + k ≤ a % 16 := by
      rw [Int32.le_iff_toInt_le, Int32.toInt_zero, t5]; omega
    by_cases h : b % 16 + k ≤ a % 16
    · rw [if_pos (h1.mpr h), if_neg]
      rw [decide_eq_true_iff]
      omega
    · rw [if_neg (mt h1.mp h), if_pos]
      rw [decide_eq_true_iff]
      omega
  have ec : (((nI a - nI b) - nI k) >>> ((8 : Int32) &&& 31)) &&& 1 = if 0 ≤ (nI a - nI b) - nI k then (0 : Int32) else 1 := by
    have h1 : (0 ≤ (nI a - nI b) - nI k) ↔ b + k ≤ a := by
      rw [Int32.le_iff_toInt_le, Int32.toInt_zero, ti]; omega
    rw [s8a1, es, bt_n (by omega), ← es]
    by_cases h : b + k ≤ a
    · rw [if_pos (h1.mpr h), if_neg]
      rw [decide_eq_true_iff]
      omega
    · rw [if_neg (mt h1.mp h), if_pos]
      rw [decide_eq_true_iff]
      omega
  have ev : (((nI a ^^^ nI b) &&& (nI a ^^^ ((nI a - nI b) - nI k))) &&& 128) >>> ((5 : Int32) &&& 31) = if (if inr (((nI a).toInt8.toInt32 - (nI b).toInt8.toInt32) - nI k) (-128) 127 then (1 : Int32) else 0) = 0 then (4 : Int32) else 0 := by
    rw [ov5, bt_and, bt_xor, bt_xor, es, bt_n (by omega), bt_n (by omega), bt_n (by omega)]
    have t1 := sb_ti a ha
    have t2 := sb_ti b hb
    have t3 : (nI k).toInt = k := nI_toInt (by omega)
    have t4 : ((nI a).toInt8.toInt32 - (nI b).toInt8.toInt32).toInt = (nI a).toInt8.toInt32.toInt - (nI b).toInt8.toInt32.toInt := ti_sub (by split at t1 <;> split at t2 <;> omega) (by split at t1 <;> split at t2 <;> omega)
    have t5 : (((nI a).toInt8.toInt32 - (nI b).toInt8.toInt32) - nI k).toInt = (nI a).toInt8.toInt32.toInt - (nI b).toInt8.toInt32.toInt - k := by
      rw [ti_sub (by rw [t4, t3]; split at t1 <;> split at t2 <;> omega) (by rw [t4, t3]; split at t1 <;> split at t2 <;> omega), t4, t3]
    generalize ((nI a).toInt8.toInt32 - (nI b).toInt8.toInt32) - nI k = X at t5 ⊢
    have hi : inr X (-128) 127 ↔ (-128 ≤ X.toInt ∧ X.toInt ≤ 127) := by
      unfold inr
      rw [Int32.lt_iff_toInt_lt, Int32.lt_iff_toInt_lt, show (-128 : Int32).toInt = -128 from rfl, show (127 : Int32).toInt = 127 from rfl]
      omega
    by_cases h : -128 ≤ X.toInt ∧ X.toInt ≤ 127
    · rw [if_pos (hi.mpr h), if_neg (by decide : ¬ (1 : Int32) = 0), if_neg]
      simp
      split at t1 <;> split at t2 <;> omega
    · rw [if_neg (mt hi.mp h), if_pos rfl, if_pos]
      simp
      split at t1 <;> split at t2 <;> omega
  unfold difF minusF
  rw [eh, ec, ev]
  ac_rfl
theorem B8_plusF (a b k : Int32) : B8 (plusF a b k) := B8_or (B8_or (B8_or (B8_sz _) (B8_if B8_0 (B8_n 1 (by omega)))) (B8_if B8_0 (B8_n 16 (by omega)))) (B8_if (B8_n 4 (by omega)) B8_0)
theorem B8_minusF (a b k : Int32) : B8 (minusF a b k) := B8_or (B8_or (B8_or (B8_or (B8_sz _) (B8_if B8_0 (B8_n 1 (by omega)))) (B8_if B8_0 (B8_n 16 (by omega)))) (B8_n 2 (by omega))) (B8_if (B8_n 4 (by omega)) B8_0)
