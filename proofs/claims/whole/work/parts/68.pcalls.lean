/-! the other calls, side by side -/
section CALLS
variable {t : Nat} {r tr : Int32} {c : zS}
theorem n10 : ¬ ((1 : Int32) = 0) := by decide
theorem has_i (p : Int32) : fX2_has p = fX9_isIn p 0 4095 := rfl
theorem le32_iff {a b : Int32} : a ≤ b ↔ a.toInt ≤ b.toInt := Int32.le_iff_toInt_le
theorem lt32_iff {a b : Int32} : a < b ↔ a.toInt < b.toInt := Int32.lt_iff_toInt_lt
theorem has_r (p : Int32) : fX6_has p = fX9_isIn p 0 9 := by
  unfold fX6_has fX9_isIn
  have : (10 : Int32) ≤ p ↔ (9 : Int32) < p := by
    rw [le32_iff, lt32_iff, show (10 : Int32).toInt = 10 by decide, show (9 : Int32).toInt = 9 by decide]; omega
  simp only [this]
theorem in_n {p : Int32} {a : Nat} (ha : a < 2 ^ 31) (h : ¬ (p < 0 ∨ nI a < p)) : ∃ n : Nat, n ≤ a ∧ p = nI n := of_rng ha (fun w => h (Or.inl w)) (by
  have := fun w => h (Or.inr w)
  exact not_lt32.mp this)
theorem Iv.rw (h : Iv t c) (k : Nat) (v : Int32) : Iv t (st2 c 1 k v) := by
  obtain ⟨h1, h2, h3, h4, h5, h6⟩ := h
  exact ⟨h1, h2, h3, h4, h5, h6⟩
theorem poke_L {q : Nat} (hq : q ≤ 4) (p1 p2 : Int32) : ∀ (n k : Nat) (c : zS), Iv t c → k ≤ q → q + 1 ≤ n + k → ∃ (v : Int32) (c' : zS), fX8_poke_L28 n p1 p2 (nI q) (nI k) c = some (v, c') ∧ fX9_poke_L37 n p1 p2 (nI q) (nI k) (al c (rF r) tr) = some (v, al c' (rF r) tr) ∧ Iv t c' := by
  intro n
  induction n with
  | zero => intro k c _ h1 h2; omega
  | succ n ih =>
    intro k c h h1 h2
    rw [fX8_poke_L28, fX9_poke_L37]
    have e1 : (nI q ≤ nI k) ↔ q ≤ k := nI_leI (by omega) (by omega)
    by_cases z : q ≤ k
    · rw [if_pos (e1.mpr z), if_pos (e1.mpr z)]
      exact ⟨_, c, rfl, rfl, h⟩
    · rw [if_neg (fun w => z (e1.mp w)), if_neg (fun w => z (e1.mp w))]
      unfold fX2_put gd nm
      rw [if_pos (ix_gd _), if_pos (ix_gd _), bd_s, show nI k + (1 : Int32) = nI (k + 1) from nI_add k 1, ← al_r0]
      exact ih (k + 1) _ (h.m (B8_and _)) (by omega) (by omega)
theorem p_poke (h : Iv t c) (p1 p2 p3 : Int32) : CallI t 0 c (tX8_poke p1 p3) (fX8_poke p1 p2 p3 c) (fX9_poke p1 p2 p3 (al c (rF r) tr)) := by
  unfold tX8_poke fX8_poke fX9_poke
  rw [has_i, isIn_n, isIn_n, bd_s, bd_s, bd_s]
  by_cases z1 : p1 < 0 ∨ (4095 : Int32) < p1
  · left
    rw [if_pos z1, if_pos rfl, if_pos rfl, bd_s, ref1, bd2_s, if_neg (by decide)]
    exact ⟨1, 0, tr, rfl, Or.inl rfl, rfl⟩
  · rw [if_neg z1, if_neg n10, if_neg n10, if_neg n10]
    by_cases z2 : p3 < 1
    · left
      rw [if_pos z2, if_pos (Or.inl z2), bd_s, if_pos rfl, bd_s, bd_s, ref1, bd2_s, if_neg (by decide)]
      exact ⟨1, 0, tr, rfl, Or.inl rfl, rfl⟩
    · by_cases z3 : p3 ≤ 4
      · right
        rw [if_neg z2, if_pos z3, if_neg z2, if_pos z3, if_neg (show ¬ (p3 < 1 ∨ (4 : Int32) < p3) from fun w => w.elim z2 (fun w => (not_le32.mpr w) z3)), bd_s, if_neg n10, bd_s, bd_s, ref0, bd2_s, if_pos rfl]
        obtain ⟨q, hq, rfl⟩ := of_rng (p := p3) (a := 4) (by decide) (fun w => z2 (by
          rw [lt32_iff] at w ⊢
          have e0 : (0 : Int32).toInt = 0 := by decide
          have e1 : (1 : Int32).toInt = 1 := by decide
          omega)) z3
        obtain ⟨v, c', w1, w2, w3⟩ := poke_L (t := t) (r := 0) (tr := tr) hq p1 p2 20001 0 c h (by omega) (by omega)
        exact ⟨rfl, v, tr, t, c', w1, w2, w3, by omega⟩
      · left
        rw [if_neg z2, if_neg z3, if_pos (Or.inr (not_le32.mp z3)), bd_s, if_pos rfl, bd_s, bd_s, ref1, bd2_s, if_neg (by decide)]
        exact ⟨1, 0, tr, rfl, Or.inl rfl, rfl⟩
theorem p_peek (h : Iv t c) (p1 : Int32) : CallI t 0 c (tX8_peek p1) (fX8_peek p1 c) (fX9_peek p1 (al c (rF r) tr)) := by
  unfold tX8_peek fX8_peek fX9_peek
  rw [has_i, isIn_n, bd_s, bd_s, bd_s]
  by_cases z1 : p1 < 0 ∨ (4095 : Int32) < p1
  · left
    rw [if_pos z1, if_pos rfl, if_pos rfl, bd_s, ref1, bd2_s, if_neg (by decide)]
    exact ⟨1, 0, tr, rfl, Or.inl rfl, rfl⟩
  · right
    rw [if_neg z1, if_neg n10, if_neg n10, if_neg n10, bd_s, ref0, bd2_s, if_pos rfl, at_c, bd2_s]
    obtain ⟨n, hn, rfl⟩ := in_n (a := 4095) (by decide) z1
    unfold gd
    rw [if_pos ⟨nI_pos' (by omega), (nI_ltI (b := 4096) (by omega) (by decide)).mpr (by omega)⟩, nI_clamp (by omega), ix_n, Nat.mod_eq_of_lt (by omega)]
    exact ⟨rfl, _, tr, t, c, rfl, rfl, h, by omega⟩
theorem lo215 (v : Int32) : lo v &&& 215 = v &&& 215 := by
  unfold lo
  rw [Int32.and_assoc]; rfl
def setC (k : Nat) (v : Int32) (c : zS) : zS := if k = 9 then st1 (st2 c 4 9 (v &&& mk 9)) 4 0 else st2 c 4 k (v &&& mk k)
def setM (p1 p2 : Int32) (s15 : zS) : Option zS := nm (p2 >>> ((8 : Int32) &&& 31)) fun x17 => nm (p2 &&& (255 : Int32)) fun x18 => if p1 ∈ ([(0 : Int32)] : List Int32) then (some (st2 (st2 s15 1 ((7 : Int32).toNatClampNeg) x17) 1 ((6 : Int32).toNatClampNeg) (x18 &&& (215 : Int32)))) else if p1 ∈ ([(4 : Int32)] : List Int32) then (some (st2 (st2 s15 2 ((7 : Int32).toNatClampNeg) x17) 2 ((6 : Int32).toNatClampNeg) (x18 &&& (215 : Int32)))) else if p1 ∈ ([(8 : Int32)] : List Int32) then (some (st1 s15 1 p2)) else if p1 ∈ ([(9 : Int32)] : List Int32) then (some (st1 (st1 s15 2 p2) 4 (0 : Int32))) else (nm ((2 : Int32) * ((p1 - p1 / (4 : Int32) * (4 : Int32)) - (1 : Int32))) fun x23 => if (4 : Int32) ≤ p1 then (gd (0 ≤ x23 ∧ x23 < 8) <| gd (0 ≤ (x23 + (1 : Int32)) ∧ (x23 + (1 : Int32)) < 8) <| some (st2 (st2 s15 2 (x23.toNatClampNeg) x17) 2 ((x23 + (1 : Int32)).toNatClampNeg) x18)) else (gd (0 ≤ x23 ∧ x23 < 8) <| gd (0 ≤ (x23 + (1 : Int32)) ∧ (x23 + (1 : Int32)) < 8) <| some (st2 (st2 s15 1 (x23.toNatClampNeg) x17) 1 ((x23 + (1 : Int32)).toNatClampNeg) x18)))
theorem mk_n (k : Nat) : mk k = if k = 0 ∨ k = 4 then 65495 else 65535 := rfl
theorem setM_x {v : Int32} (hv : B16 v) {k : Nat} (hk : k < 10) {rf : Int32 × (Int32 → Int32)} : setM (nI k) v (al c rf tr) = some (al (setC k v c) rf tr) := by
  have ev := B16_id hv
  match k, hk with
  | 0, _ =>
    refine Eq.trans (b := some (st2 (st2 (al c rf tr) 1 7 (hi v)) 1 6 (lo v &&& 215))) rfl ?_
    show _ = some (al (st2 c 4 0 (v &&& 65495)) rf tr)
    rw [al_p0, hi_af hv, lo_af, lo215]
  | 1, _ =>
    refine Eq.trans (b := some (st2 (st2 (al c rf tr) 1 0 (hi v)) 1 1 (lo v))) rfl ?_
    show _ = some (al (st2 c 4 1 (v &&& 65535)) rf tr)
    rw [al_p1, ev]
  | 2, _ =>
    refine Eq.trans (b := some (st2 (st2 (al c rf tr) 1 2 (hi v)) 1 3 (lo v))) rfl ?_
    show _ = some (al (st2 c 4 2 (v &&& 65535)) rf tr)
    rw [al_p2, ev]
  | 3, _ =>
    refine Eq.trans (b := some (st2 (st2 (al c rf tr) 1 4 (hi v)) 1 5 (lo v))) rfl ?_
    show _ = some (al (st2 c 4 3 (v &&& 65535)) rf tr)
    rw [al_p3, ev]
  | 4, _ =>
    refine Eq.trans (b := some (st2 (st2 (al c rf tr) 2 7 (hi v)) 2 6 (lo v &&& 215))) rfl ?_
    show _ = some (al (st2 c 4 4 (v &&& 65495)) rf tr)
    rw [al_p4, hi_af hv, lo_af, lo215]
  | 5, _ =>
    refine Eq.trans (b := some (st2 (st2 (al c rf tr) 2 0 (hi v)) 2 1 (lo v))) rfl ?_
    show _ = some (al (st2 c 4 5 (v &&& 65535)) rf tr)
    rw [al_p5, ev]
  | 6, _ =>
    refine Eq.trans (b := some (st2 (st2 (al c rf tr) 2 2 (hi v)) 2 3 (lo v))) rfl ?_
    show _ = some (al (st2 c 4 6 (v &&& 65535)) rf tr)
    rw [al_p6, ev]
  | 7, _ =>
    refine Eq.trans (b := some (st2 (st2 (al c rf tr) 2 4 (hi v)) 2 5 (lo v))) rfl ?_
    show _ = some (al (st2 c 4 7 (v &&& 65535)) rf tr)
    rw [al_p7, ev]
  | 8, _ =>
    refine Eq.trans (b := some (st1 (al c rf tr) 1 v)) rfl ?_
    show _ = some (al (st2 c 4 8 (v &&& 65535)) rf tr)
    rw [al_sp, ev]
  | 9, _ =>
    refine Eq.trans (b := some (st1 (st1 (al c rf tr) 2 v) 4 0)) rfl ?_
    show _ = some (al (st1 (st2 c 4 9 (v &&& 65535)) 4 0) rf tr)
    rw [al_s4, al_pc, ev]
theorem p_set (h : Iv t c) (p1 p2 : Int32) : CallV t 0 c (tX8_set p1 p2) (fX8_set p1 p2 c) (fX9_set p1 p2 (al c (rF r) tr)) := by
  unfold tX8_set fX8_set fX9_set
  rw [has_r, isIn_n, isIn_n, bd_s, bd_s, bd_s]
  by_cases z1 : p1 < 0 ∨ (9 : Int32) < p1
  · left
    rw [if_pos z1, if_pos rfl, if_pos rfl, bd_s, ref1, bd2_s, if_neg (by decide)]
    exact ⟨1, tr, rfl, Or.inl rfl, rfl⟩
  · rw [if_neg z1, if_neg n10, if_neg n10, if_neg n10]
    by_cases z2 : p2 < 0
    · left
      rw [if_pos z2, if_pos (Or.inl z2), bd_s, if_pos rfl, bd_s, bd_s, ref1, bd2_s, if_neg (by decide)]
      exact ⟨1, tr, rfl, Or.inl rfl, rfl⟩
    · by_cases z3 : p2 ≤ 65535
      · right
        rw [if_neg z2, if_pos z3, if_neg z2, if_pos z3, if_neg (show ¬ (p2 < 0 ∨ (65535 : Int32) < p2) from fun w => w.elim z2 (fun w => (not_le32.mpr w) z3)), bd_s, if_neg n10, bd_s, bd_s, ref0, bd2_s, if_pos rfl]
        obtain ⟨k, hk, rfl⟩ := in_n (a := 9) (by decide) z1
        obtain ⟨w, hw, rfl⟩ := of_rng (p := p2) (a := 65535) (by decide) z2 z3
        have hv : B16 (nI w) := ⟨w, by omega, rfl⟩
        have e := setM_x (c := c) (tr := tr) (rf := rF 0) hv (k := k) (by omega)
        unfold setM at e
        rw [e, load_c (by omega), bd_s]
        have hb : B16 (nI w &&& mk k) := by
          unfold mk
          split
          · exact B16_af hv
          · exact B16_and _
        refine ⟨rfl, tr, t, setC k (nI w) c, ?_, rfl, ?_, by omega⟩
        · unfold setC
          by_cases z : k = 9
          · subst z; rfl
          · rw [if_neg z, if_neg (show ¬ nI k = (9 : Int32) from fun q => z (nI_i (b := 9) (by omega) (by decide) q))]
        · unfold setC
          split
          · exact (h.p (B16_and _)).i4 (Or.inl rfl) (Or.inl rfl)
          · exact h.p hb
      · left
        rw [if_neg z2, if_neg z3, if_pos (Or.inr (not_le32.mp z3)), bd_s, if_pos rfl, bd_s, bd_s, ref1, bd2_s, if_neg (by decide)]
        exact ⟨1, tr, rfl, Or.inl rfl, rfl⟩
def getM (p1 : Int32) (s9 : zS) : Option (Int32 × zS) := if p1 ≤ (7 : Int32) then (bd (if (p1 - p1 / (4 : Int32) * (4 : Int32)) = (0 : Int32) then (some (7 : Int32)) else (some ((2 : Int32) * ((p1 - p1 / (4 : Int32) * (4 : Int32)) - (1 : Int32))))) fun x14 => bd (if (p1 - p1 / (4 : Int32) * (4 : Int32)) = (0 : Int32) then (some (6 : Int32)) else (some (x14 + (1 : Int32)))) fun x18 => if (4 : Int32) ≤ p1 then (gd (0 ≤ x14 ∧ x14 < 8) <| gd (0 ≤ x18 ∧ x18 < 8) <| some ((((s9.2 2 (x14.toNatClampNeg)) <<< ((8 : Int32) &&& 31)) ||| (s9.2 2 (x18.toNatClampNeg))), s9)) else (gd (0 ≤ x14 ∧ x14 < 8) <| gd (0 ≤ x18 ∧ x18 < 8) <| some ((((s9.2 1 (x14.toNatClampNeg)) <<< ((8 : Int32) &&& 31)) ||| (s9.2 1 (x18.toNatClampNeg))), s9))) else (if p1 = (8 : Int32) then (some ((s9.1 1), s9)) else (some ((s9.1 2), s9)))
theorem getM_x (h : Iv t c) {k : Nat} (hk : k < 10) {rf : Int32 × (Int32 → Int32)} : getM (nI k) (al c rf tr) = some (c.2 4 k, al c rf tr) := by
  have e : ∀ k, k < 10 → pr (hi (c.2 4 k)) (lo (c.2 4 k)) = c.2 4 k := fun k hk => pr_hl (h.b hk)
  match k, hk with
  | 0, hk => exact Eq.trans (b := some (pr (hi (c.2 4 0)) (lo (c.2 4 0)), al c rf tr)) rfl (by rw [e 0 hk])
  | 1, hk => exact Eq.trans (b := some (pr (hi (c.2 4 1)) (lo (c.2 4 1)), al c rf tr)) rfl (by rw [e 1 hk])
  | 2, hk => exact Eq.trans (b := some (pr (hi (c.2 4 2)) (lo (c.2 4 2)), al c rf tr)) rfl (by rw [e 2 hk])
  | 3, hk => exact Eq.trans (b := some (pr (hi (c.2 4 3)) (lo (c.2 4 3)), al c rf tr)) rfl (by rw [e 3 hk])
  | 4, hk => exact Eq.trans (b := some (pr (hi (c.2 4 4)) (lo (c.2 4 4)), al c rf tr)) rfl (by rw [e 4 hk])
  | 5, hk => exact Eq.trans (b := some (pr (hi (c.2 4 5)) (lo (c.2 4 5)), al c rf tr)) rfl (by rw [e 5 hk])
  | 6, hk => exact Eq.trans (b := some (pr (hi (c.2 4 6)) (lo (c.2 4 6)), al c rf tr)) rfl (by rw [e 6 hk])
  | 7, hk => exact Eq.trans (b := some (pr (hi (c.2 4 7)) (lo (c.2 4 7)), al c rf tr)) rfl (by rw [e 7 hk])
  | 8, hk => rfl
  | 9, hk => rfl
theorem p_get (h : Iv t c) (p1 : Int32) : CallI t 0 c (tX8_get p1) (fX8_get p1 c) (fX9_get p1 (al c (rF r) tr)) := by
  unfold tX8_get fX8_get fX9_get
  rw [has_r, isIn_n, bd_s, bd_s, bd_s]
  by_cases z1 : p1 < 0 ∨ (9 : Int32) < p1
  · left
    rw [if_pos z1, if_pos rfl, if_pos rfl, bd_s, ref1, bd2_s, if_neg (by decide)]
    exact ⟨1, 0, tr, rfl, Or.inl rfl, rfl⟩
  · right
    rw [if_neg z1, if_neg n10, if_neg n10, if_neg n10, bd_s, ref0, bd2_s, if_pos rfl]
    obtain ⟨n, hn, rfl⟩ := in_n (a := 9) (by decide) z1
    have e := getM_x (tr := tr) (rf := rF 0) h (k := n) (by omega)
    unfold getM at e
    rw [e, pair_c (by omega), bd2_s]
    exact ⟨rfl, _, tr, t, c, rfl, rfl, h, by omega⟩
theorem p_key (h : Iv t c) (p1 p2 : Int32) : CallV t 0 c (tX8_key p1 p2) (fX8_key p1 p2 c) (fX9_key p1 p2 (al c (rF r) tr)) := by
  unfold tX8_key fX8_key fX9_key
  rw [isIn_n, isIn_n, bd_s, bd_s]
  have e8 : (8 : Int32) ≤ p1 ↔ (7 : Int32) < p1 := by
    rw [le32_iff, lt32_iff, show (8 : Int32).toInt = 8 by decide, show (7 : Int32).toInt = 7 by decide]; omega
  by_cases z0 : p1 < 0
  · left
    rw [if_pos z0, if_pos (Or.inl z0), if_pos rfl, bd_s, ref1, bd2_s, if_neg (by decide)]
    exact ⟨1, tr, rfl, Or.inl rfl, rfl⟩
  · by_cases z1 : (8 : Int32) ≤ p1
    · left
      rw [if_neg z0, if_pos z1, if_pos (Or.inr (e8.mp z1)), if_pos rfl, bd_s, ref1, bd2_s, if_neg (by decide)]
      exact ⟨1, tr, rfl, Or.inl rfl, rfl⟩
    · have z7 : ¬ (p1 < 0 ∨ (7 : Int32) < p1) := fun w => w.elim z0 (fun w => z1 (e8.mpr w))
      rw [if_neg z7, if_neg n10]
      by_cases z2 : p2 < 0
      · left
        rw [if_neg z0, if_neg z1, if_pos z2, if_pos (Or.inl z2), if_pos rfl, bd_s, bd_s, ref1, bd2_s, if_neg (by decide)]
        exact ⟨1, tr, rfl, Or.inl rfl, rfl⟩
      · by_cases z3 : p2 ≤ 31
        · right
          rw [if_neg z0, if_neg z1, if_neg z2, if_pos z3, if_neg z0, if_neg z1, if_neg z2, if_pos z3, if_neg (show ¬ (p2 < 0 ∨ (31 : Int32) < p2) from fun w => w.elim z2 (fun w => (not_le32.mpr w) z3)), if_neg n10, bd_s, bd_s, ref0, bd2_s, if_pos rfl]
          obtain ⟨k, hk, rfl⟩ := in_n (a := 7) (by decide) z7
          unfold gd
          have hg : (0 : Int32) ≤ nI k ∧ nI k < 8 := ⟨nI_pos' (by omega), (nI_ltI (b := 8) (by omega) (by decide)).mpr (by omega)⟩
          rw [if_pos hg, if_pos hg, ← al_r1]
          exact ⟨rfl, tr, t, _, rfl, rfl, h.rw _ _, by omega⟩
        · left
          rw [if_neg z0, if_neg z1, if_neg z2, if_neg z3, if_pos (Or.inr (not_le32.mp z3)), if_pos rfl, bd_s, bd_s, ref1, bd2_s, if_neg (by decide)]
          exact ⟨1, tr, rfl, Or.inl rfl, rfl⟩
end CALLS
