/-! what holds of a state; the two runs side by side -/
def Rgs (c : zS) : Prop := ∀ k, k < 10 → B16 (c.2 4 k)
def Mms (c : zS) : Prop := ∀ i, B8 (c.2 0 i)
def Bls (c : zS) : Prop := (c.1 4 = 0 ∨ c.1 4 = 1) ∧ (c.1 5 = 0 ∨ c.1 5 = 1) ∧ (c.1 6 = 0 ∨ c.1 6 = 1) ∧ (c.1 4 = 0 ∨ c.1 6 = 0)
def Chg (t : Nat) (c : zS) : Prop := ∃ g : Nat, g ≤ t ∧ c.1 3 = nI g
def Tap (c : zS) : Prop := ∃ (e : Nat) (f : Nat → Nat), e ≤ 64 ∧ c.1 9 = nI e ∧ (∀ i, i < e → c.2 3 i = nI (f i) ∧ f i ≤ 100000 * (i + 1)) ∧ (∀ i j, i < j → j < e → f i < f j) ∧ c.1 10 = nI (if e = 0 then 0 else f (e - 1))
def Iv (t : Nat) (c : zS) : Prop := c.1 0 = nI t ∧ Rgs c ∧ Mms c ∧ Bls c ∧ Chg t c ∧ Tap c
theorem Chg.up {t t' : Nat} {c : zS} (h : Chg t c) (ht : t ≤ t') : Chg t' c := by
  obtain ⟨g, h1, h2⟩ := h
  exact ⟨g, by omega, h2⟩
theorem Iv.t {t t' : Nat} {c : zS} (h : Iv t c) (ht : t ≤ t') : Iv t' (st1 c 0 (nI t')) := by
  obtain ⟨h1, h2, h3, h4, h5, h6⟩ := h
  exact ⟨rfl, h2, h3, h4, h5.up ht, h6⟩
theorem Iv.p {t k : Nat} {c : zS} {v : Int32} (h : Iv t c) (hv : B16 v) : Iv t (st2 c 4 k v) := by
  obtain ⟨h1, h2, h3, h4, h5, h6⟩ := h
  refine ⟨h1, fun j hj => ?_, h3, h4, h5, h6⟩
  show B16 (upd (c.2 4) k v j)
  unfold upd
  split
  · exact hv
  · exact h2 j hj
theorem Iv.m {t i : Nat} {c : zS} {v : Int32} (h : Iv t c) (hv : B8 v) : Iv t (st2 c 0 i v) := by
  obtain ⟨h1, h2, h3, h4, h5, h6⟩ := h
  refine ⟨h1, h2, fun j => ?_, h4, h5, h6⟩
  show B8 (upd (c.2 0) i v j)
  unfold upd
  split
  · exact hv
  · exact h3 j
theorem Iv.w {t : Nat} {c : zS} {a v : Int32} (h : Iv t c) : Iv t (wrm c a v) := by
  unfold wrm
  split
  · exact h
  · exact h.m (B8_and v)
theorem al_w {c : zS} {rf : Int32 × (Int32 → Int32)} {tr a v : Int32} : al (wrm c a v) rf tr = wrm (al c rf tr) a v := by
  unfold wrm
  split
  · rfl
  · exact al_r0
theorem Iv.b {t k : Nat} {c : zS} (h : Iv t c) (hk : k < 10) : B16 (c.2 4 k) := h.2.1 k hk
theorem Iv.mm {t : Nat} {c : zS} (h : Iv t c) (i : Nat) : B8 (c.2 0 i) := h.2.2.1 i
def SimS (t k : Nat) (rf : Int32 × (Int32 → Int32)) (tr : Int32) (x y : Option zS) : Prop := ∃ (t' : Nat) (c' : zS), x = some c' ∧ y = some (al c' rf tr) ∧ Iv t' c' ∧ t ≤ t' ∧ t' ≤ t + k
def SimV (t k : Nat) (rf : Int32 × (Int32 → Int32)) (tr : Int32) (P : Int32 → Prop) (x y : Option (Int32 × zS)) : Prop := ∃ (v : Int32) (t' : Nat) (c' : zS), x = some (v, c') ∧ y = some (v, al c' rf tr) ∧ Iv t' c' ∧ t ≤ t' ∧ t' ≤ t + k ∧ P v
section SIM
variable {t k k2 : Nat} {rf : Int32 × (Int32 → Int32)} {tr : Int32} {P P2 : Int32 → Prop} {c : zS}
theorem SimS.ret (h : Iv t c) : SimS t 0 rf tr (some c) (some (al c rf tr)) := ⟨t, c, rfl, rfl, h, Nat.le_refl _, Nat.le_refl _⟩
theorem SimS.le {x y : Option zS} (h : SimS t k rf tr x y) (hk : k ≤ k2) : SimS t k2 rf tr x y := by
  obtain ⟨t', c', h1, h2, h3, h4, h5⟩ := h
  exact ⟨t', c', h1, h2, h3, h4, by omega⟩
theorem SimV.le {x y : Option (Int32 × zS)} (h : SimV t k rf tr P x y) (hk : k ≤ k2) : SimV t k2 rf tr P x y := by
  obtain ⟨v, t', c', h1, h2, h3, h4, h5, h6⟩ := h
  exact ⟨v, t', c', h1, h2, h3, h4, by omega, h6⟩
theorem SimS.bd {x y : Option zS} {f g : zS → Option zS} (h : SimS t k rf tr x y) (hf : ∀ (t' : Nat) (c' : zS), Iv t' c' → t ≤ t' → t' ≤ t + k → SimS t' k2 rf tr (f c') (g (al c' rf tr))) : SimS t (k + k2) rf tr (bd x f) (bd y g) := by
  obtain ⟨t', c', rfl, rfl, h3, h4, h5⟩ := h
  obtain ⟨t2, c2, e1, e2, q3, q4, q5⟩ := hf t' c' h3 h4 h5
  exact ⟨t2, c2, e1, e2, q3, by omega, by omega⟩
theorem SimV.bd {x y : Option (Int32 × zS)} {f g : Int32 → zS → Option zS} (h : SimV t k rf tr P x y) (hf : ∀ (v : Int32) (t' : Nat) (c' : zS), Iv t' c' → t ≤ t' → t' ≤ t + k → P v → SimS t' k2 rf tr (f v c') (g v (al c' rf tr))) : SimS t (k + k2) rf tr (bd2 x f) (bd2 y g) := by
  obtain ⟨v, t', c', rfl, rfl, h3, h4, h5, h6⟩ := h
  obtain ⟨t2, c2, e1, e2, q3, q4, q5⟩ := hf v t' c' h3 h4 h5 h6
  exact ⟨t2, c2, e1, e2, q3, by omega, by omega⟩
theorem SimV.bdv {x y : Option (Int32 × zS)} {f g : Int32 → zS → Option (Int32 × zS)} (h : SimV t k rf tr P x y) (hf : ∀ (v : Int32) (t' : Nat) (c' : zS), Iv t' c' → t ≤ t' → t' ≤ t + k → P v → SimV t' k2 rf tr P2 (f v c') (g v (al c' rf tr))) : SimV t (k + k2) rf tr P2 (bd2 x f) (bd2 y g) := by
  obtain ⟨v, t', c', rfl, rfl, h3, h4, h5, h6⟩ := h
  obtain ⟨v2, t2, c2, e1, e2, q3, q4, q5, q6⟩ := hf v t' c' h3 h4 h5 h6
  exact ⟨v2, t2, c2, e1, e2, q3, by omega, by omega, q6⟩
end SIM
theorem al_3 {c : zS} {rf : Int32 × (Int32 → Int32)} {tr : Int32} : (al c rf tr).1 3 = c.1 0 := rfl
theorem al_m {c : zS} {rf : Int32 × (Int32 → Int32)} {tr : Int32} : (al c rf tr).2 0 = c.2 0 := rfl
theorem tn_0 : (0 : Int32).toNatClampNeg = 0 := by decide
theorem tn_1 : (1 : Int32).toNatClampNeg = 1 := by decide
theorem tn_2 : (2 : Int32).toNatClampNeg = 2 := by decide
theorem tn_3 : (3 : Int32).toNatClampNeg = 3 := by decide
theorem tn_4 : (4 : Int32).toNatClampNeg = 4 := by decide
theorem tn_5 : (5 : Int32).toNatClampNeg = 5 := by decide
theorem tn_6 : (6 : Int32).toNatClampNeg = 6 := by decide
theorem tn_7 : (7 : Int32).toNatClampNeg = 7 := by decide
theorem tn_8 : (8 : Int32).toNatClampNeg = 8 := by decide
theorem tn_9 : (9 : Int32).toNatClampNeg = 9 := by decide
/-! accesses, side by side -/
section BUS
variable {t : Nat} {rf : Int32 × (Int32 → Int32)} {tr : Int32} {c : zS}
theorem s_read (h : Iv t c) (hl : t + 9 < 2 ^ 31) (a : Int32) : SimV t 9 rf tr B8 (fX2_read a c) (fX9_read a (al c rf tr)) := by
  have h1 := tA_le a t
  refine ⟨c.2 0 (ix a), tA a t + 3, st1 c 0 (nI (tA a t + 3)), read_c h.1 (by omega) a, ?_, h.t (by omega), by omega, by omega, h.mm _⟩
  rw [read_m (t := t) h.1 (by omega), al_s0]; rfl
theorem s_write (h : Iv t c) (hl : t + 9 < 2 ^ 31) (a v : Int32) : SimS t 9 rf tr (fX2_write a v c) (fX9_write a v (al c rf tr)) := by
  have h1 := tA_le a t
  refine ⟨tA a t + 3, wrm (st1 c 0 (nI (tA a t + 3))) a v, write_c h.1 (by omega) a v, ?_, (h.t (by omega)).w, by omega, by omega⟩
  rw [write_m (t := t) h.1 (by omega), al_w, al_s0]
theorem s_pass (h : Iv t c) (n : Nat) : SimS t n rf tr (fX1_pass (nI n) c) (some (st1 (al c rf tr) 3 ((al c rf tr).1 3 + nI n))) := by
  refine ⟨t + n, st1 c 0 (nI (t + n)), ?_, ?_, h.t (by omega), by omega, by omega⟩
  · unfold fX1_pass
    rw [h.1, nI_add]
  · rw [al_3, h.1, nI_add, al_s0]
theorem pass_c (h : Iv t c) (n : Nat) : fX1_pass (nI n) c = some (st1 c 0 (nI (t + n))) := by
  unfold fX1_pass
  rw [h.1, nI_add]
theorem pair_c {n : Nat} (hn : n < 10) : fX6_pair (nI n) c = some (c.2 4 n, c) := by
  unfold fX6_pair gd
  rw [if_pos ⟨nI_pos' (by omega), (nI_ltI (b := 10) (by omega) (by decide)).mpr hn⟩, nI_clamp (by omega)]
def mk (n : Nat) : Int32 := if n = 0 ∨ n = 4 then 65495 else 65535
theorem load_c {n : Nat} (hn : n < 10) (v : Int32) : fX6_load (nI n) v c = some (st2 c 4 n (v &&& mk n)) := by
  match n, hn with
  | 0, _ => rfl
  | 1, _ => rfl
  | 2, _ => rfl
  | 3, _ => rfl
  | 4, _ => rfl
  | 5, _ => rfl
  | 6, _ => rfl
  | 7, _ => rfl
  | 8, _ => rfl
  | 9, _ => rfl
theorem move_c {n : Nat} (hn : n < 10) (d : Int32) : fX6_move (nI n) d c = some (st2 c 4 n ((c.2 4 n + d) &&& mk n)) := by
  unfold fX6_move gd
  rw [if_pos ⟨nI_pos' (by omega), (nI_ltI (b := 10) (by omega) (by decide)).mpr hn⟩, nI_clamp (by omega), load_c hn]
  rfl
theorem flags_c : fX6_flags c = some (lo (c.2 4 0), c) := rfl
theorem lflags_c (f : Int32) : fX6_loadFlags f c = some (st2 c 4 0 (((c.2 4 0) &&& (65280 : Int32)) ||| f)) := rfl
theorem s_lflags {f : Int32} (h : Iv t c) (hf : B8 f) : fX6_loadFlags f c = some (st2 c 4 0 (((c.2 4 0) &&& (65280 : Int32)) ||| f)) ∧ Iv t (st2 c 4 0 (((c.2 4 0) &&& (65280 : Int32)) ||| f)) ∧ al (st2 c 4 0 (((c.2 4 0) &&& (65280 : Int32)) ||| f)) rf tr = st2 (al c rf tr) 1 6 f := ⟨rfl, h.p (B16_wl (h.b (by omega)) hf), al_l0 (h.b (by omega)) hf⟩
theorem single_c {j : Nat} (hj : j < 8) (h6 : j ≠ 6) : fX6_single (nI j) c = some (rg (c.2 4) 0 j, c) := by
  match j, hj, h6 with
  | 0, _, _ => rfl
  | 1, _, _ => rfl
  | 2, _, _ => rfl
  | 3, _, _ => rfl
  | 4, _, _ => rfl
  | 5, _, _ => rfl
  | 7, _, _ => rfl
theorem lsingle_c {j : Nat} (hj : j < 8) (h6 : j ≠ 6) {v : Int32} (h : Iv t c) (hv : B8 v) : ∃ c', fX6_loadSingle (nI j) v c = some c' ∧ al c' rf tr = st2 (al c rf tr) 1 j v ∧ Iv t c' ∧ c'.1 = c.1 := by
  match j, hj, h6 with
  | 0, _, _ => exact ⟨_, rfl, al_h1 hv, h.p (B16_wr hv), rfl⟩
  | 1, _, _ => exact ⟨st2 c 4 1 (((c.2 4 1) &&& (65280 : Int32)) ||| v), rfl, al_l1 (h.b (by omega)) hv, h.p (B16_wl (h.b (by omega)) hv), rfl⟩
  | 2, _, _ => exact ⟨_, rfl, al_h2 hv, h.p (B16_wr hv), rfl⟩
  | 3, _, _ => exact ⟨st2 c 4 2 (((c.2 4 2) &&& (65280 : Int32)) ||| v), rfl, al_l2 (h.b (by omega)) hv, h.p (B16_wl (h.b (by omega)) hv), rfl⟩
  | 4, _, _ => exact ⟨_, rfl, al_h3 hv, h.p (B16_wr hv), rfl⟩
  | 5, _, _ => exact ⟨st2 c 4 3 (((c.2 4 3) &&& (65280 : Int32)) ||| v), rfl, al_l3 (h.b (by omega)) hv, h.p (B16_wl (h.b (by omega)) hv), rfl⟩
  | 7, _, _ => exact ⟨_, rfl, al_h0 hv, h.p (B16_wr hv), rfl⟩
theorem B8_rg (h : Iv t c) (j : Nat) : B8 (rg (c.2 4) 0 j) := by
  match j with
  | 0 => exact B8_hi (h.b (by omega))
  | 1 => exact B8_lo _
  | 2 => exact B8_hi (h.b (by omega))
  | 3 => exact B8_lo _
  | 4 => exact B8_hi (h.b (by omega))
  | 5 => exact B8_lo _
  | 6 => exact B8_lo _
  | 7 => exact B8_hi (h.b (by omega))
  | j + 8 => exact ⟨0, by omega, rfl⟩
theorem hl_m (h : Iv t c) : fX9_hl (al c rf tr) = some (c.2 4 3, al c rf tr) := by
  have e : pr (hi (c.2 4 3)) (lo (c.2 4 3)) = c.2 4 3 := pr_hl (h.b (by omega))
  exact congrArg (fun z => some (z, al c rf tr)) e
theorem pair_m (h : Iv t c) {n : Nat} (hn : n < 4) : fX9_pair (nI n) (al c rf tr) = some (c.2 4 (if n = 3 then 8 else n + 1), al c rf tr) := by
  match n, hn with
  | 0, _ => exact congrArg (fun z => some (z, al c rf tr)) (pr_hl (h.b (by omega)))
  | 1, _ => exact congrArg (fun z => some (z, al c rf tr)) (pr_hl (h.b (by omega)))
  | 2, _ => exact congrArg (fun z => some (z, al c rf tr)) (pr_hl (h.b (by omega)))
  | 3, _ => rfl
theorem pairOf_c {n : Nat} (hn : n < 4) : fX3_pairOf (nI n) = some (nI (if n = 3 then 8 else n + 1)) := by
  match n, hn with
  | 0, _ => rfl
  | 1, _ => rfl
  | 2, _ => rfl
  | 3, _ => rfl
end BUS
