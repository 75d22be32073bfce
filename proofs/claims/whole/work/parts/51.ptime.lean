/-! states written twice, or in another order; the time; the accesses -/
theorem st1_same {s : zS} {k : Nat} {a b : Int32} : st1 (st1 s k a) k b = st1 s k b := by
  refine z_ext (fun j => ?_) (fun _ _ => rfl)
  simp only [st1, upd]
  split <;> rfl
theorem st1_comm {s : zS} {k l : Nat} {a b : Int32} (h : k ≠ l) : st1 (st1 s k a) l b = st1 (st1 s l b) k a := by
  refine z_ext (fun j => ?_) (fun _ _ => rfl)
  simp only [st1, upd]
  by_cases h1 : j = l
  · subst h1; simp [Ne.symm h]
  · simp [h1]
theorem st1_self {s : zS} {k : Nat} : st1 s k (s.1 k) = s := by
  refine z_ext (fun j => ?_) (fun _ _ => rfl)
  simp only [st1, upd]
  split
  · next h => rw [h]
  · rfl
theorem st1_eq {s : zS} {k : Nat} {v : Int32} (h : s.1 k = v) : st1 s k v = s := by rw [← h]; exact st1_self
theorem st12 {s : zS} {k l i : Nat} {a v : Int32} : st2 (st1 s k a) l i v = st1 (st2 s l i v) k a := rfl
theorem st2_same {s : zS} {k i : Nat} {a b : Int32} : st2 (st2 s k i a) k i b = st2 s k i b := by
  refine z_ext (fun _ => rfl) (fun l j => ?_)
  simp only [st2]
  by_cases h : l = k
  · simp only [h, if_true, upd]; split <;> rfl
  · simp only [h, if_false]
theorem st2_comm {s : zS} {k l i j : Nat} {a b : Int32} (h : k ≠ l ∨ i ≠ j) : st2 (st2 s k i a) l j b = st2 (st2 s l j b) k i a := by
  refine z_ext (fun _ => rfl) (fun m n => ?_)
  simp only [st2]
  by_cases h1 : m = l
  · subst h1
    by_cases h2 : m = k
    · subst h2
      have hij : i ≠ j := h.resolve_left (fun q => q rfl)
      simp only [if_true, upd]
      by_cases h3 : n = j
      · subst h3; simp [Ne.symm hij]
      · simp [h3]
    · have : ¬ k = m := fun q => h2 q.symm
      simp [h2, this]
  · by_cases h2 : m = k
    · subst h2
      have : ¬ l = m := fun q => h1 q.symm
      simp [h1, this]
    · simp [h1, h2]
theorem st2_self {s : zS} {k i : Nat} : st2 s k i (s.2 k i) = s := by
  refine z_ext (fun _ => rfl) (fun l j => ?_)
  simp only [st2]
  by_cases h : l = k
  · subst h
    simp only [if_true, upd]
    split
    · next q => rw [q]
    · rfl
  · simp only [h, if_false]
theorem st2_eq {s : zS} {k i : Nat} {v : Int32} (h : s.2 k i = v) : st2 s k i v = s := by rw [← h]; exact st2_self
/-! the time, as a number -/
abbrev dr (t : Nat) : Prop := t % 4000 < 2000 ∧ t % 100 < 64
def wt (t : Nat) : Nat := if t % 8 < 6 then 6 - t % 8 else 0
def tk (t : Nat) : Nat := if dr t then t + wt t else t
theorem wt_le (t : Nat) : wt t ≤ 6 := by unfold wt; split <;> omega
theorem tk_le (t : Nat) : t ≤ tk t ∧ tk t ≤ t + 6 := by
  have := wt_le t
  unfold tk
  split <;> omega
theorem ct0_wt (t : Nat) : ct0 (t % 8) = nI (wt t) := by
  have h : ∀ r, r < 8 → ct0 r = nI (if r < 6 then 6 - r else 0) := by decide
  exact h _ (Nat.mod_lt _ (by omega))
theorem nz_7 (n : Nat) : nI n &&& 7 = nI (n % 8) := by
  show nI n &&& nI 7 = _
  rw [nz_and, show (7 : Nat) = 2 ^ 3 - 1 from rfl, Nat.and_two_pow_sub_one_eq_mod]
theorem rem4000 {t : Nat} (h : t < 2 ^ 31) : nI t - nI t / (4000 : Int32) * (4000 : Int32) = nI (t % 4000) := pk_rem (d := 4000) h (by decide) (by decide)
theorem rem100 {t : Nat} (h : t < 2 ^ 31) : nI t - nI t / (100 : Int32) * (100 : Int32) = nI (t % 100) := pk_rem (d := 100) h (by decide) (by decide)
theorem rem8 {t : Nat} (h : t < 2 ^ 31) : nI t - nI t / (8 : Int32) * (8 : Int32) = nI (t % 8) := pk_rem (d := 8) h (by decide) (by decide)
theorem rem2 {t : Nat} (h : t < 2 ^ 31) : nI t - nI t / (2 : Int32) * (2 : Int32) = nI (t % 2) := pk_rem (d := 2) h (by decide) (by decide)
theorem div100 {t : Nat} (h : t < 2 ^ 31) : nI t / (100 : Int32) = nI (t / 100) := pk_div (d := 100) h (by decide) (by decide)
theorem le_nI {a b : Nat} (ha : a < 2 ^ 31) (hb : b < 2 ^ 31) : (Int32.ofNat a ≤ nI b) ↔ a ≤ b := nI_leI ha hb
theorem wait_c {c : zS} {t : Nat} (ht : c.1 0 = nI t) (hl : t < 2 ^ 31) (p : Int32) : fX1_waitForPictureIf p c = some (st1 c 0 (nI (if p = 0 then t else tk t))) := by
  have e0 : st1 c 0 (nI t) = c := st1_eq ht
  unfold fX1_waitForPictureIf
  simp only [nm, ht, rem4000 hl, nz_7, nI_clamp (show t % 8 < 2 ^ 31 by omega), ct0_wt]
  rw [rem100 (by omega), Nat.mod_mod_of_dvd t (by decide : 100 ∣ 4000)]
  have h1 : ((2000 : Int32) ≤ nI (t % 4000)) ↔ 2000 ≤ t % 4000 := nI_leI (a := 2000) (by decide) (by omega)
  have h2 : ((64 : Int32) ≤ nI (t % 100)) ↔ 64 ≤ t % 100 := nI_leI (a := 64) (by decide) (by omega)
  have h3 : (0 : Int32) ≤ nI (t % 8) := nI_pos' (by omega)
  have h4 : nI (t % 8) < (8 : Int32) := (nI_ltI (b := 8) (by omega) (by decide)).mpr (by omega)
  by_cases hp : p = 0
  · simp only [hp, if_true, bd, gd]
    split <;> simp [e0]
    split <;> simp [e0]
  · simp only [hp, if_false, bd, gd, h3, h4, and_self, if_true, tk]
    by_cases d1 : 2000 ≤ t % 4000
    · have : ¬ dr t := fun q => by have := q.1; omega
      simp [h1.mpr d1, this, e0]
    · by_cases d2 : 64 ≤ t % 100
      · have : ¬ dr t := fun q => by have := q.2; omega
        simp [mt h1.mp d1, h2.mpr d2, this, e0]
      · have hd : dr t := ⟨by omega, by omega⟩
        rw [if_pos hd]
        simp [mt h1.mp d1, mt h2.mp d2, nI_add]
theorem delay_m {m : zS} {t : Nat} (ht : m.1 3 = nI t) (hl : t < 2 ^ 31) : fX9_delay m = some (st1 m 3 (nI (tk t))) := by
  have e0 : st1 m 3 (nI t) = m := st1_eq ht
  unfold fX9_delay
  simp only [nm, ht, rem4000 hl, rem8 hl]
  rw [rem100 (by omega), Nat.mod_mod_of_dvd t (by decide : 100 ∣ 4000), div100 (by omega)]
  have h1 : ((20 : Int32) ≤ nI (t % 4000 / 100)) ↔ 20 ≤ t % 4000 / 100 := nI_leI (a := 20) (by decide) (by omega)
  have h2 : ((64 : Int32) ≤ nI (t % 100)) ↔ 64 ≤ t % 100 := nI_leI (a := 64) (by decide) (by omega)
  have h3 : ((6 : Int32) ≤ nI (t % 8)) ↔ 6 ≤ t % 8 := nI_leI (a := 6) (by decide) (by omega)
  unfold tk
  by_cases d1 : 20 ≤ t % 4000 / 100
  · have : ¬ dr t := fun q => by have := q.1; omega
    simp [h1.mpr d1, this, e0]
  · by_cases d2 : 64 ≤ t % 100
    · have : ¬ dr t := fun q => by have := q.2; omega
      simp [mt h1.mp d1, h2.mpr d2, this, e0]
    · have hd : dr t := ⟨by omega, by omega⟩
      rw [if_neg (mt h1.mp d1), if_neg (mt h2.mp d2), if_pos hd]
      unfold wt
      by_cases d3 : 6 ≤ t % 8
      · simp [bd, h3.mpr d3, Nat.not_lt.mpr d3, e0]
      · rw [if_neg (mt h3.mp d3), if_pos (by omega)]
        have e6 : (6 : Int32) - nI (t % 8) = nI (6 - t % 8) := pk_sub (a := 6) (by omega)
        simp [bd, e6, nI_add]
/-- the place of an address, and whether it is waited for -/
def ix (a : Int32) : Nat := (a &&& 4095).toNatClampNeg
theorem ix_n {n : Nat} : ix (nI n) = n % 4096 := by
  unfold ix
  rw [nz_4095, nI_clamp (by omega)]
theorem ix_lt (a : Int32) : ix a < 4096 := by
  obtain ⟨n, -, rfl⟩ := nz_of a
  rw [ix_n]; omega
theorem ix_and (a : Int32) : a &&& 4095 = nI (ix a) := by
  obtain ⟨n, -, rfl⟩ := nz_of a
  rw [ix_n, nz_4095]
theorem ix_gd (a : Int32) : (0 : Int32) ≤ a &&& 4095 ∧ a &&& 4095 < 4096 := by
  rw [ix_and]
  have := ix_lt a
  exact ⟨nI_pos' (by omega), (nI_ltI (b := 4096) (by omega) (by decide)).mpr this⟩
abbrev wd (a : Int32) : Prop := 1024 ≤ ix a ∧ ix a < 2048
def tA (a : Int32) (t : Nat) : Nat := if wd a then tk t else t
theorem tA_le (a : Int32) (t : Nat) : t ≤ tA a t ∧ tA a t ≤ t + 6 := by
  have := tk_le t
  unfold tA
  split <;> omega
theorem wait_wd (a : Int32) : fX2_isWaitedFor a = some (if wd a then 1 else 0) := by
  have h0 := ix_lt a
  unfold fX2_isWaitedFor nm
  rw [ix_and]
  have h1 : (nI (ix a) < (1024 : Int32)) ↔ ix a < 1024 := nI_ltI (b := 1024) (by omega) (by decide)
  have h2 : ((2048 : Int32) ≤ nI (ix a)) ↔ 2048 ≤ ix a := nI_leI (a := 2048) (by decide) (by omega)
  by_cases d1 : ix a < 1024
  · have : ¬ wd a := fun q => by have := q.1; omega
    simp [h1.mpr d1, this]
  · by_cases d2 : 2048 ≤ ix a
    · have : ¬ wd a := fun q => by have := q.2; omega
      simp [mt h1.mp d1, h2.mpr d2, this]
    · have : wd a := ⟨by omega, by omega⟩
      simp [mt h1.mp d1, mt h2.mp d2, this]
theorem open_m {m : zS} {t : Nat} (ht : m.1 3 = nI t) (hl : t < 2 ^ 31) (a : Int32) : fX9_open a m = some (st1 m 3 (nI (tA a t))) := by
  have h0 := ix_lt a
  unfold fX9_open fX9_isIn
  rw [ix_and, delay_m ht hl]
  have h1 : (nI (ix a) < (1024 : Int32)) ↔ ix a < 1024 := nI_ltI (b := 1024) (by omega) (by decide)
  have h2 : ((2047 : Int32) < nI (ix a)) ↔ 2047 < ix a := nI_ltI (a := 2047) (by decide) (by omega)
  unfold tA
  by_cases d1 : ix a < 1024
  · have : ¬ wd a := fun q => by have := q.1; omega
    simp [bd, h1.mpr d1, this, st1_eq ht]
  · by_cases d2 : 2047 < ix a
    · have : ¬ wd a := fun q => by have := q.2; omega
      simp [bd, mt h1.mp d1, h2.mpr d2, this, st1_eq ht]
    · have hw : wd a := ⟨by omega, by omega⟩
      rw [if_pos hw]
      simp [bd, mt h1.mp d1, mt h2.mp d2]
theorem at_c (a : Int32) (c : zS) : fX2_at a c = some (c.2 0 (ix a), c) := by
  unfold fX2_at gd
  rw [if_pos (ix_gd a)]; rfl
theorem put_c (a v : Int32) (c : zS) : fX2_put a v c = some (st2 c 0 (ix a) (v &&& 255)) := by
  unfold fX2_put gd
  rw [if_pos (ix_gd a)]; rfl
theorem if_wd (a : Int32) (t : Nat) : (if (if wd a then (1 : Int32) else 0) = 0 then t else tk t) = tA a t := by
  unfold tA
  split <;> simp_all
theorem read_c {c : zS} {t : Nat} (ht : c.1 0 = nI t) (hl : t < 2 ^ 31) (a : Int32) : fX2_read a c = some (c.2 0 (ix a), st1 c 0 (nI (tA a t + 3))) := by
  unfold fX2_read
  rw [wait_wd]
  simp only [bd, Option.bind_some, wait_c ht hl, if_wd, fX1_pass, at_c, bd2, st1_same]
  simp [st1, upd, ← nI_add]
  rfl
theorem fetch_c {c : zS} {t : Nat} (ht : c.1 0 = nI t) (hl : t < 2 ^ 31) (a : Int32) : fX2_fetch a c = some (c.2 0 (ix a), st1 c 0 (nI (tA a t + 4))) := by
  unfold fX2_fetch
  rw [wait_wd]
  simp only [bd, Option.bind_some, wait_c ht hl, if_wd, fX1_pass, at_c, bd2, st1_same]
  simp [st1, upd, ← nI_add]
  rfl
def wrm (c : zS) (a v : Int32) : zS := if ix a < 1024 then c else st2 c 0 (ix a) (v &&& 255)
theorem write_c {c : zS} {t : Nat} (ht : c.1 0 = nI t) (hl : t < 2 ^ 31) (a v : Int32) : fX2_write a v c = some (wrm (st1 c 0 (nI (tA a t + 3))) a v) := by
  have h0 := ix_lt a
  unfold fX2_write fX2_within
  rw [wait_wd, ix_and]
  simp only [bd, Option.bind_some, wait_c ht hl, if_wd, fX1_pass, put_c, st1_same]
  have h1 : (nI (ix a) < (1024 : Int32)) ↔ ix a < 1024 := nI_ltI (b := 1024) (by omega) (by decide)
  have e : (st1 c 0 (nI (tA a t))).1 0 + 3 = nI (tA a t + 3) := by show nI (tA a t) + nI 3 = _; rw [nI_add]
  rw [e]
  unfold wrm
  by_cases d : ix a < 1024
  · simp [h1.mpr d, d]
  · simp [mt h1.mp d, d]
theorem read_m {m : zS} {t : Nat} (ht : m.1 3 = nI t) (hl : t < 2 ^ 31) (a : Int32) : fX9_read a m = some (m.2 0 (ix a), st1 m 3 (nI (tA a t + 3))) := by
  unfold fX9_read
  rw [open_m ht hl]
  have e : (st1 m 3 (nI (tA a t))).1 3 + 3 = nI (tA a t + 3) := by show nI (tA a t) + nI 3 = _; rw [nI_add]
  simp only [bd, Option.bind_some, gd, ix_gd, and_self, if_true, e, st1_same]
  rfl
theorem write_m {m : zS} {t : Nat} (ht : m.1 3 = nI t) (hl : t < 2 ^ 31) (a v : Int32) : fX9_write a v m = some (wrm (st1 m 3 (nI (tA a t + 3))) a v) := by
  have h0 := ix_lt a
  unfold fX9_write
  rw [open_m ht hl]
  have e : (st1 m 3 (nI (tA a t))).1 3 + 3 = nI (tA a t + 3) := by show nI (tA a t) + nI 3 = _; rw [nI_add]
  have hg := ix_gd a
  simp only [bd, Option.bind_some, gd, hg, and_self, if_true, e, st1_same]
  rw [ix_and]
  have h1 : (nI (ix a) ≤ (1023 : Int32)) ↔ ix a ≤ 1023 := nI_leI (b := 1023) (by omega) (by decide)
  unfold wrm
  by_cases d : ix a < 1024
  · simp [h1.mpr (by omega), d]
  · rw [if_neg (mt h1.mp (by omega)), if_neg d, nI_clamp (by omega)]
