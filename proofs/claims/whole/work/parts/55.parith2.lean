/-! the eight with A, one more and one less, turned bytes, the decimal correction: side by side -/
theorem alr_0 {c : zS} {rf : Int32 × (Int32 → Int32)} {tr : Int32} : (al c rf tr).2 1 0 = hi (c.2 4 1) := rfl
theorem alr_1 {c : zS} {rf : Int32 × (Int32 → Int32)} {tr : Int32} : (al c rf tr).2 1 1 = lo (c.2 4 1) := rfl
theorem alr_4 {c : zS} {rf : Int32 × (Int32 → Int32)} {tr : Int32} : (al c rf tr).2 1 4 = hi (c.2 4 3) := rfl
theorem alr_5 {c : zS} {rf : Int32 × (Int32 → Int32)} {tr : Int32} : (al c rf tr).2 1 5 = lo (c.2 4 3) := rfl
theorem alr_6 {c : zS} {rf : Int32 × (Int32 → Int32)} {tr : Int32} : (al c rf tr).2 1 6 = lo (c.2 4 0) := rfl
theorem alr_7 {c : zS} {rf : Int32 × (Int32 → Int32)} {tr : Int32} : (al c rf tr).2 1 7 = hi (c.2 4 0) := rfl
theorem single_7 {c : zS} : fX6_single (7 : Int32) c = some (hi (c.2 4 0), c) := rfl
theorem single_0 {c : zS} : fX6_single (0 : Int32) c = some (hi (c.2 4 1), c) := rfl
theorem B8_k {x : Int32} : ∃ k : Nat, k < 2 ∧ x &&& 1 = nI k := by
  rw [and1]
  split
  · exact ⟨1, by omega, rfl⟩
  · exact ⟨0, by omega, rfl⟩
/-- the class's F -/
def cF6 (c : zS) (F : Int32) : zS := st2 c 4 0 (((c.2 4 0) &&& (65280 : Int32)) ||| F)
theorem lflags_d (f : Int32) (c : zS) : fX6_loadFlags f c = some (cF6 c f) := rfl
section AR
variable {t : Nat} {rf : Int32 × (Int32 → Int32)} {tr : Int32} {c : zS}
theorem Iv.f (h : Iv t c) {F : Int32} (hF : B8 F) : Iv t (cF6 c F) := h.p (B16_wl (h.b (by omega)) hF)
theorem al_f (h : Iv t c) {F : Int32} (hF : B8 F) : al (cF6 c F) rf tr = st2 (al c rf tr) 1 6 F := al_l0 (h.b (by omega)) hF
theorem lo_f (h : Iv t c) {F : Int32} (hF : B8 F) : lo ((cF6 c F).2 4 0) = F := lo_wl (h.b (by omega)) hF
theorem lA (h : Iv t c) {v : Int32} (hv : B8 v) : ∃ c', fX6_loadSingle (7 : Int32) v c = some c' ∧ al c' rf tr = st2 (al c rf tr) 1 7 v ∧ Iv t c' ∧ c'.1 = c.1 := lsingle_c (j := 7) (by omega) (by omega) h hv
end AR
def evF (v : Int32) : Int32 := (fX9_even v).getD 0
theorem ev_d : ∀ n, n < 256 → fX0_even (nI n) = some (evF (nI n)) ∧ fX9_even (nI n) = some (evF (nI n)) ∧ (evF (nI n) = 0 ∨ evF (nI n) = 4) := by decide +kernel
theorem ev_d2 : ∀ n, n < 512 → fX9_even (nI n) = some (evF (nI n &&& 255)) := by decide +kernel
theorem ev_c {v : Int32} (h : B8 v) : fX0_even v = some (evF v) := by
  obtain ⟨n, hn, rfl⟩ := h
  exact (ev_d n hn).1
theorem ev_m {v : Int32} (h : B8 v) : fX9_even v = some (evF v) := by
  obtain ⟨n, hn, rfl⟩ := h
  exact (ev_d n hn).2.1
theorem B8_ev {v : Int32} (h : B8 v) : B8 (evF v) := by
  obtain ⟨n, hn, rfl⟩ := h
  rcases (ev_d n hn).2.2 with e | e <;> rw [e]
  · exact B8_0
  · exact B8_n 4 (by omega)
theorem add_FB {a b k : Int32} (ha : B8 a) (hb : B8 b) (hk : ∃ q : Nat, q < 2 ∧ k = nI q) : sumF a b k = plusF a b k := by
  obtain ⟨x, hx, rfl⟩ := ha
  obtain ⟨y, hy, rfl⟩ := hb
  obtain ⟨q, hq, rfl⟩ := hk
  exact add_F hx hy hq
theorem sub_FB {a b k : Int32} (ha : B8 a) (hb : B8 b) (hk : ∃ q : Nat, q < 2 ∧ k = nI q) : difF a b k = minusF a b k := by
  obtain ⟨x, hx, rfl⟩ := ha
  obtain ⟨y, hy, rfl⟩ := hb
  obtain ⟨q, hq, rfl⟩ := hk
  exact sub_F hx hy hq
theorem k0 : ∃ q : Nat, q < 2 ∧ (0 : Int32) = nI q := ⟨0, by omega, rfl⟩
section AR2
variable {t : Nat} {rf : Int32 × (Int32 → Int32)} {tr : Int32} {c : zS}
theorem sum_d {a b k : Int32} (h : Iv t c) (ha : B8 a) (hb : B8 b) (hk : ∃ q : Nat, q < 2 ∧ k = nI q) : fX0_sum a b k c = some (((a + b) + k) &&& 255, cF6 c (plusF a b k)) := by
  rw [sum_c, add_FB ha hb hk]; rfl
theorem dif_d {a b k : Int32} (h : Iv t c) (ha : B8 a) (hb : B8 b) (hk : ∃ q : Nat, q < 2 ∧ k = nI q) : fX0_difference a b k c = some (((a - b) - k) &&& 255, cF6 c (minusF a b k)) := by
  rw [dif_c, sub_FB ha hb hk]; rfl
theorem w_add {a b k : Int32} (h : Iv t c) (ha : B8 a) (hb : B8 b) (hk : ∃ q : Nat, q < 2 ∧ k = nI q) : SimS t 0 rf tr (bd2 (fX0_sum a b k c) fun r s => bd (fX6_loadSingle (7 : Int32) r s) fun s => some s) (bd2 (fX9_plus a b k (al c rf tr)) fun r s => some (st2 s 1 ((7 : Int32).toNatClampNeg) r)) := by
  rw [sum_d h ha hb hk, plus_m, bd2_s, bd2_s, tn_7]
  obtain ⟨c', e1, e2, e3, -⟩ := lA (rf := rf) (tr := tr) (h.f (B8_plusF a b k)) (B8_and ((a + b) + k))
  rw [e1, bd_s]
  exact ⟨t, c', rfl, by rw [e2, al_f h (B8_plusF a b k)], e3, Nat.le_refl _, Nat.le_refl _⟩
theorem w_sub {a b k : Int32} (h : Iv t c) (ha : B8 a) (hb : B8 b) (hk : ∃ q : Nat, q < 2 ∧ k = nI q) : SimS t 0 rf tr (bd2 (fX0_difference a b k c) fun r s => bd (fX6_loadSingle (7 : Int32) r s) fun s => some s) (bd2 (fX9_minus a b k (al c rf tr)) fun r s => some (st2 s 1 ((7 : Int32).toNatClampNeg) r)) := by
  rw [dif_d h ha hb hk, minus_m, bd2_s, bd2_s, tn_7]
  obtain ⟨c', e1, e2, e3, -⟩ := lA (rf := rf) (tr := tr) (h.f (B8_minusF a b k)) (B8_and ((a - b) - k))
  rw [e1, bd_s]
  exact ⟨t, c', rfl, by rw [e2, al_f h (B8_minusF a b k)], e3, Nat.le_refl _, Nat.le_refl _⟩
theorem w_log {v H : Int32} (h : Iv t c) (hv : B8 v) (hH : B8 H) : SimS t 0 rf tr (fX0_logical v H c) (some (st2 (st2 (al c rf tr) 1 7 v) 1 6 ((szF v ||| evF v) ||| H))) := by
  obtain ⟨c', e1, e2, e3, -⟩ := lA (rf := rf) (tr := tr) h hv
  have hF : B8 ((szF v ||| evF v) ||| H) := B8_or (B8_or (B8_sz v) (B8_ev hv)) hH
  unfold fX0_logical
  rw [e1, bd_s, sz_b hv, bd_s, ev_c hv, bd_s, lflags_d, bd_s]
  exact ⟨t, _, rfl, by rw [al_f e3 hF, e2], e3.f hF, Nat.le_refl _, Nat.le_refl _⟩
theorem s_withA (h : Iv t c) {j : Nat} (hj : j < 8) {v : Int32} (hv : B8 v) : SimS t 0 rf tr (fX0_withA (nI j) v c) (fX9_reckon (nI j) v (al c rf tr)) := by
  have ha : B8 (hi (c.2 4 0)) := B8_hi (h.b (by omega))
  unfold fX0_withA fX9_reckon fX9_carry
  simp only [nm, single_7, bd2_s, flags_c, tn_7, tn_6, alr_6, alr_7]
  match j, hj with
  | 0, _ =>
    rw [if_pos (by decide), if_pos (by decide), if_neg (by decide)]
    exact w_add h ha hv k0
  | 1, _ =>
    rw [if_neg (by decide), if_pos (by decide), if_pos (by decide), if_pos (by decide)]
    exact w_add h ha hv B8_k
  | 2, _ =>
    rw [if_neg (by decide), if_neg (by decide), if_pos (by decide), if_neg (by decide), if_pos (by decide), if_neg (by decide)]
    exact w_sub h ha hv k0
  | 3, _ =>
    rw [if_neg (by decide), if_neg (by decide), if_neg (by decide), if_pos (by decide), if_neg (by decide), if_pos (by decide), if_pos (by decide)]
    exact w_sub h ha hv B8_k
  | 4, _ =>
    rw [if_neg (by decide), if_neg (by decide), if_neg (by decide), if_neg (by decide), if_pos (by decide), if_neg (by decide), if_neg (by decide), if_neg (by decide), if_pos (by decide), bd_s, signs_m, bd_s, ev_m (B8_ae ha), bd_s, if_pos (by decide), bd_s]
    exact SimS.bd (k2 := 0) (w_log h (B8_ae ha) (B8_n 16 (by omega))) (fun t' c' hI _ _ => SimS.ret hI)
  | 5, _ =>
    rw [if_neg (by decide), if_neg (by decide), if_neg (by decide), if_neg (by decide), if_neg (by decide), if_pos (by decide), if_neg (by decide), if_neg (by decide), if_neg (by decide), if_neg (by decide), if_pos (by decide), bd_s, bd_s, signs_m, bd_s, ev_m (B8_xor ha hv), bd_s, if_neg (by decide), bd_s]
    exact SimS.bd (k2 := 0) (w_log h (B8_xor ha hv) B8_0) (fun t' c' hI _ _ => SimS.ret hI)
  | 6, _ =>
    rw [if_neg (by decide), if_neg (by decide), if_neg (by decide), if_neg (by decide), if_neg (by decide), if_neg (by decide), if_pos (by decide), if_neg (by decide), if_neg (by decide), if_neg (by decide), if_neg (by decide), if_neg (by decide), bd_s, bd_s, signs_m, bd_s, ev_m (B8_or ha hv), bd_s, if_neg (by decide), bd_s]
    exact SimS.bd (k2 := 0) (w_log h (B8_or ha hv) B8_0) (fun t' c' hI _ _ => SimS.ret hI)
  | 7, _ =>
    rw [if_neg (by decide), if_neg (by decide), if_neg (by decide), if_neg (by decide), if_neg (by decide), if_neg (by decide), if_neg (by decide), if_neg (by decide), if_neg (by decide), if_pos (by decide), dif_d h ha hv k0, minus_m, bd2_s, bd2_s]
    exact ⟨t, _, rfl, by rw [al_f h (B8_minusF _ _ _)], h.f (B8_minusF _ _ _), Nat.le_refl _, Nat.le_refl _⟩
theorem s_negate (h : Iv t c) : SimS t 0 rf tr (fX0_negate c) (bd2 (fX9_minus 0 (hi (c.2 4 0)) 0 (al c rf tr)) fun r s => some (st2 s 1 ((7 : Int32).toNatClampNeg) r)) := by
  unfold fX0_negate
  rw [single_7, bd2_s]
  exact w_sub h B8_0 (B8_hi (h.b (by omega))) k0
end AR2
