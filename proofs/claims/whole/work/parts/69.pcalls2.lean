/-! edge, count, change -/
section CALLS2
variable {t : Nat} {r tr : Int32} {c : zS}
theorem p_count (h : Iv t c) (p : Int32) : CallI t 0 c (tX8_count p) (fX8_count p c) (fX9_count p (al c (rF r) tr)) := by
  by_cases z1 : p < 0 ∨ (7 : Int32) < p
  · left
    have hne : ∀ k, k < 8 → ¬ p ∈ ([nI k] : List Int32) := by
      intro k hk w
      have e : p = nI k := by simpa using w
      have : ∀ k, k < 8 → ¬ (nI k < 0 ∨ (7 : Int32) < nI k) := by decide +kernel
      exact this k hk (e ▸ z1)
    unfold tX8_count fX9_count
    rw [if_neg (show ¬ p ∈ ([(0 : Int32)] : List Int32) from hne 0 (by omega)), if_neg (show ¬ p ∈ ([(1 : Int32)] : List Int32) from hne 1 (by omega)), if_neg (show ¬ p ∈ ([(2 : Int32)] : List Int32) from hne 2 (by omega)), if_neg (show ¬ p ∈ ([(3 : Int32)] : List Int32) from hne 3 (by omega)), if_neg (show ¬ p ∈ ([(4 : Int32)] : List Int32) from hne 4 (by omega)), if_neg (show ¬ p ∈ ([(5 : Int32)] : List Int32) from hne 5 (by omega)), if_neg (show ¬ p ∈ ([(6 : Int32)] : List Int32) from hne 6 (by omega)), if_neg (show ¬ p ∈ ([(7 : Int32)] : List Int32) from hne 7 (by omega)), isIn_n, bd_s, if_pos z1, if_pos rfl, bd_s, ref1, bd2_s, if_neg n10]
    exact ⟨1, 0, tr, rfl, Or.inl rfl, rfl⟩
  · right
    unfold fX9_count
    rw [isIn_n, bd_s, if_neg z1, if_neg n10, bd_s, ref0, bd2_s, if_pos rfl]
    obtain ⟨k, hk, rfl⟩ := in_n (a := 7) (by decide) z1
    match k, hk with
    | 0, _ => exact ⟨rfl, _, tr, t, c, rfl, rfl, h, by omega⟩
    | 1, _ => exact ⟨rfl, _, tr, t, c, rfl, rfl, h, by omega⟩
    | 2, _ => exact ⟨rfl, _, tr, t, c, rfl, rfl, h, by omega⟩
    | 3, _ => exact ⟨rfl, _, tr, t, c, rfl, rfl, h, by omega⟩
    | 4, _ =>
      refine ⟨rfl, if c.1 4 = 0 then 0 else 1, tr, t, c, ?_, ?_, h, by omega⟩
      · show (if c.1 4 = 0 then some ((0 : Int32), c) else some ((1 : Int32), c)) = _
        split <;> rfl
      · show (if c.1 4 = 0 then some ((0 : Int32), al c (rF 0) tr) else some ((1 : Int32), al c (rF 0) tr)) = _
        split <;> rfl
    | 5, _ =>
      refine ⟨rfl, if c.1 5 = 0 then 0 else 1, tr, t, c, ?_, ?_, h, by omega⟩
      · show (if c.1 5 = 0 then some ((0 : Int32), c) else some ((1 : Int32), c)) = _
        split <;> rfl
      · show (if c.1 5 = 0 then some ((0 : Int32), al c (rF 0) tr) else some ((1 : Int32), al c (rF 0) tr)) = _
        split <;> rfl
    | 6, _ => exact ⟨rfl, _, tr, t, c, rfl, rfl, h, by omega⟩
    | 7, _ => exact ⟨rfl, _, tr, t, c, rfl, rfl, h, by omega⟩
theorem p_change (h : Iv t c) (hl : t < 2 ^ 31) (p : Int32) : CallI t 0 c none (fX8_change p c) (fX9_change p (al c (rF r) tr)) := by
  right
  refine ⟨rfl, ?_⟩
  unfold fX8_change fX4_timeOfChange fX9_change
  rw [al_rf, isIn_n, bd_s]
  obtain ⟨g, hg, eg⟩ := h.2.2.2.2.1
  have e13 : (al c (rF 0) tr).1 13 = nI g := eg
  rw [e13, eg]
  have eq : (nI g - 1 < p) ↔ (nI g ≤ p) := by
    by_cases z : g = 0
    · subst z
      rw [lt32_iff, le32_iff, show (nI 0 - 1 : Int32).toInt = -1 by decide, show (nI 0 : Int32).toInt = 0 by decide]; omega
    · rw [show nI g - (1 : Int32) = nI (g - 1) from pk_sub (a := g) (b := 1) (by omega), lt32_iff, le32_iff]
      have w : ∀ n : Nat, n < 2 ^ 31 → (nI n).toInt = (n : Int) := by
        intro n hn
        have e1 : (nI n).toInt = (n : Int).bmod Int32.size := Int32.toInt_ofNat'
        rw [e1, Int.bmod]
        have e2 : Int32.size = 4294967296 := rfl
        rw [e2]
        split <;> omega
      rw [w _ (by omega), w _ (by omega)]; omega
  by_cases z0 : p < 0
  · rw [kept_l z0, bd_s, if_pos rfl, bd2_s, if_pos (Or.inl z0), if_pos rfl]
    exact ⟨_, tr, t, c, rfl, rfl, h, by omega⟩
  · by_cases z1 : (100 : Int32) ≤ p
    · rw [kept_g z1, bd_s, if_pos rfl, bd2_s, if_pos z1, ite_self]
      exact ⟨_, tr, t, c, rfl, rfl, h, by omega⟩
    · rw [kept_y z0 z1, bd_s, if_neg n10, if_neg z1]
      by_cases z2 : nI g ≤ p
      · rw [if_pos z2, bd2_s, if_pos (Or.inr (eq.mpr z2)), if_pos rfl]
        exact ⟨_, tr, t, c, rfl, rfl, h, by omega⟩
      · rw [if_neg z2, if_neg (show ¬ (p < 0 ∨ nI g - 1 < p) from fun w => w.elim z0 (fun w => z2 (eq.mp w))), if_neg n10]
        unfold gd
        have hq : (0 : Int32) ≤ p ∧ p < 100 := ⟨not_lt32.mp z0, not_le32.mp z1⟩
        rw [if_pos hq, if_pos hq, bd2_s]
        exact ⟨_, tr, t, c, rfl, rfl, h, by omega⟩
theorem tap_add {g : Nat} (h : Tap c) (g1 : 1 ≤ g) (g2 : g ≤ 100000) {e : Nat} (he : e < 64) (ee : c.1 9 = nI e) {L : Nat} (eL : c.1 10 = nI L) (hL : L < 2 ^ 31) : Tap (st1 (st2 (st1 c 10 (nI (L + g))) 3 e (nI (L + g))) 9 (nI (e + 1))) := by
  obtain ⟨e', f, a1, a2, a3, a4, a5⟩ := h
  have e1 : e' = e := nI_i (by omega) (by omega) (a2.symm.trans ee)
  subst e1
  have hf : ∀ i, i < e' → f i ≤ 100000 * (i + 1) := fun i hi => (a3 i hi).2
  have hLf : L = if e' = 0 then 0 else f (e' - 1) := by
    refine nI_i hL ?_ (eL.symm.trans a5)
    split
    · omega
    · have := hf (e' - 1) (by omega)
      omega
  refine ⟨e' + 1, fun i => if i = e' then L + g else f i, by omega, rfl, fun i hi => ?_, fun i j hij hj => ?_, ?_⟩
  · show upd (c.2 3) e' (nI (L + g)) i = _ ∧ _
    unfold upd
    by_cases z : i = e'
    · rw [if_pos z]
      simp only [z, if_true]
      refine ⟨trivial, ?_⟩
      by_cases y : e' = 0
      · rw [if_pos y] at hLf; omega
      · rw [if_neg y] at hLf
        have := hf (e' - 1) (by omega)
        omega
    · rw [if_neg z]
      simp only [z, if_false]
      exact a3 i (by omega)
  · show (if i = e' then L + g else f i) < (if j = e' then L + g else f j)
    rw [if_neg (show ¬ i = e' by omega)]
    by_cases z : j = e'
    · rw [if_pos z]
      rw [if_neg (show ¬ e' = 0 by omega)] at hLf
      by_cases y : i = e' - 1
      · rw [y]; omega
      · have := a4 i (e' - 1) (by omega) (by omega)
        omega
    · rw [if_neg z]
      exact a4 i j hij (by omega)
  · show nI (L + g) = _
    rw [if_neg (by omega)]
    simp
theorem p_edge (h : Iv t c) (p : Int32) : CallI t 0 c (tX8_edge p c) (fX8_edge p c) (fX9_edge p (al c (rF r) tr)) := by
  unfold tX8_edge fX8_edge fX9_edge
  rw [isIn_n, bd_s]
  obtain ⟨e, f, a1, a2, a3, a4, a5⟩ := h.2.2.2.2.2
  have em : ∀ rf : Int32, (al c (rF rf) tr).1 10 = nI e := fun _ => a2
  by_cases z1 : p < 1
  · left
    rw [if_pos z1, if_pos (Or.inl z1), if_pos rfl, bd_s, ref1, bd2_s, if_neg n10]
    exact ⟨1, 0, tr, rfl, Or.inl rfl, rfl⟩
  · by_cases z2 : p ≤ 100000
    · rw [if_neg z1, if_pos z2, if_neg z1, if_pos z2, if_neg (show ¬ (p < 1 ∨ (100000 : Int32) < p) from fun w => w.elim z1 (fun w => (not_le32.mpr w) z2)), if_neg n10]
      unfold fX7_isFull
      have e64 : (c.1 9 < 64) ↔ e < 64 := by rw [a2]; exact nI_ltI (b := 64) (by omega) (by decide)
      by_cases z3 : e < 64
      · right
        have hne : ¬ (al c (rF r) tr).1 10 = 64 := fun w => by
          rw [em r] at w
          have := nI_i (b := 64) (by omega) (by decide) w
          omega
        rw [if_pos (e64.mpr z3), bd2_s, bd2_s, if_pos rfl, if_pos rfl, if_neg hne, bd_s, bd_s, ref0, bd2_s, if_pos rfl]
        refine ⟨rfl, ?_⟩
        obtain ⟨g, hg, rfl⟩ := of_rng (p := p) (a := 100000) (by decide) (fun w => z1 (by
          rw [lt32_iff] at w ⊢
          have e0 : (0 : Int32).toInt = 0 := by decide
          have e1 : (1 : Int32).toInt = 1 := by decide
          omega)) z2
        have hg1 : 1 ≤ g := by
          rcases Nat.eq_zero_or_pos g with y | y
          · subst y; exact absurd (by decide) z1
          · exact y
        have hfe : e ≠ 0 → f (e - 1) ≤ 100000 * e := fun y => by
          have := (a3 (e - 1) (by omega)).2
          omega
        obtain ⟨L, hL, eL, eLm⟩ : ∃ L : Nat, L < 2 ^ 31 ∧ c.1 10 = nI L ∧ (bd (if (al c (rF 0) tr).1 10 ≤ (0 : Int32) then (some (0 : Int32)) else (gd (0 ≤ ((al c (rF 0) tr).1 10 - (1 : Int32)) ∧ ((al c (rF 0) tr).1 10 - (1 : Int32)) < 64) <| some ((al c (rF 0) tr).2 4 (((al c (rF 0) tr).1 10 - (1 : Int32)).toNatClampNeg)))) (fun x => some x)) = some (nI L) := by
          rw [em 0]
          by_cases y : e = 0
          · subst y
            exact ⟨0, by omega, a5, rfl⟩
          · rw [if_neg y] at a5
            refine ⟨f (e - 1), by have := hfe y; omega, a5, ?_⟩
            rw [if_neg (show ¬ nI e ≤ (0 : Int32) from fun w => y (by have := (nI_leI (b := 0) (show e < 2 ^ 31 by omega) (by omega)).mp w; omega)), show nI e - (1 : Int32) = nI (e - 1) from pk_sub (a := e) (b := 1) (by omega)]
            unfold gd
            rw [if_pos ⟨nI_pos' (by omega), (nI_ltI (b := 64) (by omega) (by decide)).mpr (by omega)⟩, nI_clamp (by omega), bd_s]
            exact congrArg some (a3 (e - 1) (by omega)).1
        obtain ⟨x, hx1, hx2⟩ := bd_some eLm
        have hx3 : x = nI L := by simpa using hx2
        rw [hx1, bd_s, hx3]
        unfold fX7_append
        have e9 : (st1 c 10 (c.1 10 + nI g)).1 9 = nI e := a2
        have e10 : (st1 c 10 (c.1 10 + nI g)).1 10 = nI (L + g) := by show c.1 10 + nI g = _; rw [eL, nI_add]
        have e9' : ∀ v, (st2 (st1 c 10 (c.1 10 + nI g)) 3 e v).1 9 = nI e := fun _ => a2
        have em' : ∀ v, (st2 (al c (rF 0) tr) 4 e v).1 10 = nI e := fun _ => a2
        have hgd : (0 : Int32) ≤ nI e ∧ nI e < 64 := ⟨nI_pos' (by omega), (nI_ltI (b := 64) (by omega) (by decide)).mpr z3⟩
        have en : nI e + (1 : Int32) = nI (e + 1) := nI_add e 1
        rw [e9, em 0, nI_clamp (show e < 2 ^ 31 by omega), e10, e9', en, nI_add, em', en]
        unfold gd
        rw [if_pos hgd, if_pos hgd, bd2_s, ← al_r3, ← al_s9]
        refine ⟨_, tr, t, _, rfl, ?_, ?_, Nat.le_refl _⟩
        · rw [eL, nI_add, st12, st1_comm (by decide), al_s10]
          rfl
        · rw [eL, nI_add]
          have ht := tap_add h.2.2.2.2.2 hg1 hg z3 a2 eL hL
          obtain ⟨h1, h2, h3, h4, h5, h6⟩ := h
          exact ⟨h1, h2, h3, h4, h5, ht⟩
      · left
        have he : e = 64 := by omega
        rw [if_neg (fun w => z3 (e64.mp w)), bd2_s, if_neg n10, if_pos (show (al c (rF r) tr).1 10 = 64 by rw [em r, he]; rfl), bd_s, bd_s, ref2, bd2_s, if_neg n10]
        exact ⟨2, 0, tr, rfl, Or.inr rfl, rfl⟩
    · left
      rw [if_neg z1, if_neg z2, if_pos (Or.inr (not_le32.mp z2)), if_pos rfl, bd_s, ref1, bd2_s, if_neg n10]
      exact ⟨1, 0, tr, rfl, Or.inl rfl, rfl⟩
end CALLS2
