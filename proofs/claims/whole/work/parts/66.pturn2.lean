/-! a TRAP, an interrupt, a step -/
section TURN
variable {t : Nat} {rf : Int32 × (Int32 → Int32)} {tr r : Int32} {c : zS}
abbrev okED (q : Nat) : Prop := q &&& 199 = 66 ∨ q = 68 ∨ q = 160 ∨ q = 176
abbrev isT (n q : Nat) : Prop := (n = 203 ∧ q / 8 = 6) ∨ n = 221 ∨ n = 253 ∨ (n = 237 ∧ ¬ okED q)
theorem ofmore_c : ∀ q, q < 256 → fX5_isOfMore (nI q) = some (if okED q then 1 else 0) := by decide +kernel
theorem nI_i {a b : Nat} (ha : a < 2 ^ 31) (hb : b < 2 ^ 31) (h : nI a = nI b) : a = b := by
  have := congrArg Int32.toNatClampNeg h
  rwa [nI_clamp ha, nI_clamp hb] at this
theorem trap_c {n q : Nat} (hn : n < 256) (hq : q < 256) (e1 : c.2 0 (ix (c.2 4 9)) = nI n) (e2 : c.2 0 (ix (c.2 4 9 + 1)) = nI q) : fX5_isTrapNext c = some (if isT n q then 1 else 0, c) := by
  unfold fX5_isTrapNext
  rw [pair_9, bd2_s, at_c, bd2_s, at_c, bd2_s, e1, e2, ofmore_c q hq, bd_s, cd_3 hq]
  have a1 : nI n ∈ ([203] : List Int32) ↔ n = 203 := by
    have : ∀ n, n < 256 → (nI n ∈ ([203] : List Int32) ↔ n = 203) := by decide +kernel
    exact this n hn
  have a2 : nI n ∈ ([221] : List Int32) ↔ n = 221 := by
    have : ∀ n, n < 256 → (nI n ∈ ([221] : List Int32) ↔ n = 221) := by decide +kernel
    exact this n hn
  have a3 : nI n ∈ ([237] : List Int32) ↔ n = 237 := by
    have : ∀ n, n < 256 → (nI n ∈ ([237] : List Int32) ↔ n = 237) := by decide +kernel
    exact this n hn
  have a4 : nI n ∈ ([253] : List Int32) ↔ n = 253 := by
    have : ∀ n, n < 256 → (nI n ∈ ([253] : List Int32) ↔ n = 253) := by decide +kernel
    exact this n hn
  have a5 : nI (q / 8) = (6 : Int32) ↔ q / 8 = 6 := by
    have : ∀ n, n < 32 → (nI n = (6 : Int32) ↔ n = 6) := by decide +kernel
    exact this _ (by omega)
  by_cases z1 : n = 203
  · rw [if_pos (a1.mpr z1)]
    by_cases z : q / 8 = 6
    · rw [if_pos (a5.mpr z), if_pos (show isT n q from Or.inl ⟨z1, z⟩)]
    · rw [if_neg (fun w => z (a5.mp w)), if_neg (show ¬ isT n q by unfold isT; omega)]
  · rw [if_neg (fun w => z1 (a1.mp w))]
    by_cases z2 : n = 221
    · rw [if_pos (a2.mpr z2), if_pos (show isT n q from Or.inr (Or.inl z2))]
    · rw [if_neg (fun w => z2 (a2.mp w))]
      by_cases z3 : n = 237
      · rw [if_pos (a3.mpr z3)]
        by_cases z : okED q
        · rw [if_pos z, if_neg (by decide), if_neg (fun w => by
            rcases w with w | w | w | w
            · omega
            · omega
            · omega
            · exact w.2 z)]
        · rw [if_neg z, if_pos (by decide), if_pos (show isT n q from Or.inr (Or.inr (Or.inr ⟨z3, z⟩)))]
      · rw [if_neg (fun w => z3 (a3.mp w))]
        by_cases z4 : n = 253
        · rw [if_pos (a4.mpr z4), if_pos (show isT n q from Or.inr (Or.inr (Or.inl z4)))]
        · rw [if_neg (fun w => z4 (a4.mp w)), if_neg (fun w => by
            rcases w with w | w | w | w
            · exact z1 w.1
            · exact z2 w
            · exact z4 w
            · exact z3 w.1)]
theorem back_c {c2 : zS} (h1 : ∀ j, j ≠ 0 → j ≠ 6 → c2.1 j = c.1 j) (h2 : ∀ k j, k ≠ 4 ∨ j ≠ 9 → c2.2 k j = c.2 k j) : st1 (st2 (st1 c2 0 (c.1 0)) 4 9 (c.2 4 9)) 6 (c.1 6) = c := by
  refine z_ext (fun j => ?_) (fun k j => ?_)
  · simp only [st1, st2, upd]
    by_cases z : j = 6
    · rw [if_pos z, z]
    · rw [if_neg z]
      by_cases y : j = 0
      · rw [if_pos y, y]
      · rw [if_neg y]; exact h1 j y z
  · simp only [st1, st2, upd]
    by_cases z : k = 4
    · subst z
      rw [if_pos rfl]
      unfold upd
      by_cases y : j = 9
      · rw [if_pos y, y]
      · rw [if_neg y]; exact h2 4 j (Or.inr y)
    · rw [if_neg z]; exact h2 k j (Or.inl z)
theorem tl_back {c2 : zS} (h : Iv t c) (h1 : ∀ j, j ≠ 0 → j ≠ 6 → c2.1 j = c.1 j) (h2 : ∀ k j, k ≠ 4 ∨ j ≠ 9 → c2.2 k j = c.2 k j) : tlM (c.1 0) (c.2 4 9) (c.1 6) (st1 (al c2 rf tr) 7 1) = some (al c rf 1) := by
  unfold tlM gd
  rw [al_tr, if_neg (show ¬ (al c2 rf 1).1 7 = 0 by show ¬ (1 : Int32) = 0; decide), if_pos h.2.2.2.1.2.2.1, ← al_s0, ← al_pc, ← al_s6, back_c h1 h2]
theorem nIeq : ∀ n, n < 256 → (nI n : Int32) = nI n := fun _ _ => rfl
set_option maxRecDepth 4000 in
theorem s_trap (h : Iv t c) (hl : t + 60 < 2 ^ 31) (hh : c.1 4 = 0) {n q : Nat} (hn : n < 256) (hq : q < 256) (e1 : c.2 0 (ix (c.2 4 9)) = nI n) (e2 : c.2 0 (ix (c.2 4 9 + 1)) = nI q) (ht : isT n q) : fX9_instruction (al c rf 0) = some (al c rf 1) := by
  have h1 : Iv t (st1 c 6 0) := h.i6 (Or.inl rfl) (Or.inr rfl)
  rw [inst_m, if_pos (show (al c rf 0).1 4 = 0 from hh), al_tr, ← al_s6]
  obtain ⟨t', l1, l2, -, em⟩ := fetch_x (rf := rf) (tr := 0) h1 (by omega)
  rw [em, bd2_s, show (st1 c 6 0).2 0 (ix ((st1 c 6 0).2 4 9)) = nI n from e1]
  have hI : Iv t' (st2 (st1 (st1 c 6 0) 0 (nI t')) 4 9 (((st1 c 6 0).2 4 9 + 1) &&& 65535)) := (h1.t (by omega)).p (B16_and _)
  obtain ⟨t2, -, -, -, em2⟩ := fetch_x (rf := rf) (tr := 0) hI (by omega)
  have e2' : (st2 (st1 (st1 c 6 0) 0 (nI t')) 4 9 (((st1 c 6 0).2 4 9 + 1) &&& 65535)).2 0 (ix ((st2 (st1 (st1 c 6 0) 0 (nI t')) 4 9 (((st1 c 6 0).2 4 9 + 1) &&& 65535)).2 4 9)) = nI q := by
    show c.2 0 (ix ((c.2 4 9 + 1) &&& 65535)) = nI q
    rw [ix_65535]; exact e2
  rw [e2'] at em2
  have key : ∀ c2 : zS, (∀ j, j ≠ 0 → j ≠ 6 → c2.1 j = c.1 j) → (∀ k j, k ≠ 4 ∨ j ≠ 9 → c2.2 k j = c.2 k j) → bd (some (st1 (al c2 rf 0) 7 1)) (tlM ((al c rf 0).1 3) ((al c rf 0).1 2) ((al c rf 0).1 6)) = some (al c rf 1) := fun c2 w1 w2 => tl_back h w1 w2
  have ka : ∀ (c0 : zS) (a b : Int32), (∀ j, j ≠ 0 → j ≠ 6 → c0.1 j = c.1 j) → (∀ k j, k ≠ 4 ∨ j ≠ 9 → c0.2 k j = c.2 k j) → (∀ j, j ≠ 0 → j ≠ 6 → (st2 (st1 c0 0 a) 4 9 b).1 j = c.1 j) ∧ (∀ k j, k ≠ 4 ∨ j ≠ 9 → (st2 (st1 c0 0 a) 4 9 b).2 k j = c.2 k j) := by
    intro c0 a b w1 w2
    refine ⟨fun j a1 a2 => ?_, fun k j a1 => ?_⟩
    · show upd c0.1 0 a j = _
      unfold upd
      rw [if_neg a1]; exact w1 j a1 a2
    · show (if k = 4 then upd (c0.2 4) 9 b else c0.2 k) j = _
      by_cases z : k = 4
      · subst z
        rw [if_pos rfl]
        unfold upd
        rw [if_neg (a1.resolve_left (fun w => w rfl))]; exact w2 4 j a1
      · rw [if_neg z]; exact w2 k j a1
  have k0 := ka (st1 c 6 0) (nI t') (((st1 c 6 0).2 4 9 + 1) &&& 65535) (fun j _ a2 => by show upd c.1 6 0 j = _; unfold upd; rw [if_neg a2]) (fun _ _ _ => rfl)
  have k1 := ka _ (nI t2) (((st2 (st1 (st1 c 6 0) 0 (nI t')) 4 9 (((st1 c 6 0).2 4 9 + 1) &&& 65535)).2 4 9 + 1) &&& 65535) k0.1 k0.2
  rcases ht with ⟨rfl, z⟩ | rfl | rfl | ⟨rfl, z⟩
  · have e : ∀ m : zS, opM (nI 203) m = bd (bd2 (fX9_fetch m) fun r s => bd (fX9_bits r s) fun s => some s) fun s => some s := fun m => rfl
    rw [e, em2, bd2_s]
    unfold fX9_bits
    simp only [nm]
    rw [if_pos (show nI q >>> ((3 : Int32) &&& 31) = 6 by rw [cd_3 hq, z]; rfl), bd_s, bd_s]
    exact key _ k1.1 k1.2
  · have e : ∀ m : zS, opM (nI 221) m = some (st1 m 7 1) := fun m => rfl
    rw [e]
    exact key _ k0.1 k0.2
  · have e : ∀ m : zS, opM (nI 253) m = some (st1 m 7 1) := fun m => rfl
    rw [e]
    exact key _ k0.1 k0.2
  · have e : ∀ m : zS, opM (nI 237) m = bd (bd2 (fX9_fetch m) fun r s => bd (fX9_extended r s) fun s => some s) fun s => some s := fun m => rfl
    rw [e, em2, bd2_s]
    unfold fX9_extended
    have a1 : ∀ q, q < 256 → ((nI q = (68 : Int32) ↔ q = 68) ∧ ((nI q &&& 199 = (66 : Int32)) ↔ q &&& 199 = 66)) ∧ ((nI q = (160 : Int32) ↔ q = 160) ∧ (nI q = (176 : Int32) ↔ q = 176)) := by decide +kernel
    obtain ⟨⟨b1, b2⟩, b3, b4⟩ := a1 q hq
    rw [if_neg (fun w => z (Or.inr (Or.inl (b1.mp w)))), if_neg (fun w => z (Or.inl (b2.mp w))), if_neg (fun w => z (Or.inr (Or.inr (Or.inl (b3.mp w))))), if_neg (fun w => z (Or.inr (Or.inr (Or.inr (b4.mp w))))), bd_s, bd_s]
    exact key _ k1.1 k1.2
theorem s_ex (h : Iv t c) (hl : t + 60 < 2 ^ 31) (hh : c.1 4 = 0) {n q : Nat} (hn : n < 256) (hq : q < 256) (e1 : c.2 0 (ix (c.2 4 9)) = nI n) (e2 : c.2 0 (ix (c.2 4 9 + 1)) = nI q) (ht : ¬ isT n q) : ∃ (t' : Nat) (c' : zS), exC c = some (1, c') ∧ fX9_instruction (al c (rF r) 0) = some (al c' (rF r) 0) ∧ Iv t' c' ∧ t + 4 ≤ t' ∧ t' ≤ t + 60 := by
  have h1 : Iv t (st1 (st1 c 8 (c.1 8 + 1)) 6 0) := (h.i8 _).i6 (Or.inl rfl) (Or.inr rfl)
  rw [inst_m, if_pos (show (al c (rF r) 0).1 4 = 0 from hh), al_tr, ← al_in]
  unfold exC
  obtain ⟨t', l1, l2, ec, em⟩ := fetch_x (rf := rI r) (tr := 0) h1 (by omega)
  rw [em, ec, bd2_s, bd2_s, show (st1 (st1 c 8 (c.1 8 + 1)) 6 0).2 0 (ix ((st1 (st1 c 8 (c.1 8 + 1)) 6 0).2 4 9)) = nI n from e1]
  have hI : Iv t' (st2 (st1 (st1 (st1 c 8 (c.1 8 + 1)) 6 0) 0 (nI t')) 4 9 (((st1 (st1 c 8 (c.1 8 + 1)) 6 0).2 4 9 + 1) &&& 65535)) := (h1.t (by omega)).p (B16_and _)
  have e2' : ∀ p, p < 256 → c.2 0 (ix ((c.2 4 9 + 1) &&& 65535)) = nI p → p = q := by
    intro p hp w
    rw [ix_65535, e2] at w
    exact (nI_i (by omega) (by omega) w).symm
  obtain ⟨t2, c2, q1, q2, q3, q4, q5⟩ := s_op (rf := rI r) (tr := 0) hI (by omega) rfl hh hn (fun w => ht (Or.inr (Or.inl w))) (fun w => ht (Or.inr (Or.inr (Or.inl w)))) (fun w p hp wp z => ht (Or.inl ⟨w, by rw [← e2' p hp wp]; exact z⟩)) (fun w p hp wp => Decidable.byContradiction fun z => ht (Or.inr (Or.inr (Or.inr ⟨w, by rw [← e2' p hp wp]; exact z⟩))))
  rw [q1, q2, bd_s, bd_s]
  refine ⟨t2, c2, rfl, ?_, q3, by omega, by omega⟩
  unfold tlM
  rw [if_pos (show (al c2 (rI r) 0).1 7 = 0 from rfl), al_out]
def bodM (m : zS) : Option zS := if m.1 5 = 0 then fX9_instruction m else if (32 : Int32) ≤ (m.1 3 - m.1 3 / (4000 : Int32) * (4000 : Int32)) then fX9_instruction m else if m.1 6 = 0 then fX9_interrupt m else fX9_instruction m
def StepSim (t : Nat) (r : Int32) (c : zS) (x : Option (Int32 × zS)) (y : Option zS) : Prop := (∃ (t' : Nat) (c' : zS), x = some (1, c') ∧ y = some (al c' (rF r) 0) ∧ Iv t' c' ∧ t + 4 ≤ t' ∧ t' ≤ t + 60) ∨ (x = some (0, c) ∧ y = some (al c (rF r) 1))
theorem s_tr (h : Iv t c) (hl : t + 60 < 2 ^ 31) : StepSim t r c (trC c) (fX9_instruction (al c (rF r) 0)) := by
  unfold trC
  by_cases hh : c.1 4 = 0
  · obtain ⟨n, hn, e1⟩ := h.mm (ix (c.2 4 9))
    obtain ⟨q, hq, e2⟩ := h.mm (ix (c.2 4 9 + 1))
    rw [if_pos hh, trap_c hn hq e1 e2, bd2_s]
    by_cases ht : isT n q
    · right
      rw [if_pos ht, if_neg (by decide)]
      exact ⟨rfl, s_trap h hl hh hn hq e1 e2 ht⟩
    · left
      rw [if_neg ht, if_pos (by decide)]
      unfold goC
      rw [if_pos (show (st1 c 8 (c.1 8 + 1)).1 4 = 0 from hh)]
      exact s_ex h hl hh hn hq e1 e2 ht
  · left
    rw [if_neg hh]
    unfold goC
    have h8 := h.i8 (c.1 8 + 1)
    have h6 : c.1 6 = 0 := h.2.2.2.1.2.2.2.resolve_left hh
    rw [if_neg (show ¬ (st1 c 8 (c.1 8 + 1)).1 4 = 0 from hh), inst_m, if_neg (show ¬ (al c (rF r) 0).1 4 = 0 from hh), al_tr, show fX1_pass (4 : Int32) (st1 c 8 (c.1 8 + 1)) = some (st1 (st1 c 8 (c.1 8 + 1)) 0 (nI (t + 4))) from pass_c h8 4, bd_s]
    refine ⟨t + 4, _, rfl, ?_, h8.t (by omega), by omega, by omega⟩
    rw [al_3, h.1, show nI t + (4 : Int32) = nI (t + 4) from nI_add t 4, al_s0, al_s8]
    refine congrArg some ?_
    rw [st1_eq (k := 6) (show (st1 (st1 (al c (rF r) 0) 3 (nI (t + 4))) 9 _).1 6 = 0 from h6), st1_comm (by decide)]
    rfl
theorem s_turn1 (h : Iv t c) (hl : t + 60 < 2 ^ 31) : StepSim t r c (fX5_step c) (bodM (al c (rF r) 0)) := by
  rw [step_c]
  unfold bodM
  by_cases h5 : c.1 5 = 0
  · rw [if_pos h5, if_pos (show (al c (rF r) 0).1 5 = 0 from h5)]
    exact s_tr h hl
  · rw [if_neg h5, if_neg (show ¬ (al c (rF r) 0).1 5 = 0 from h5)]
    by_cases h6 : c.1 6 = 0
    · rw [if_pos h6]
      unfold fX1_asksForInterrupt
      rw [al_3]
      by_cases w : (32 : Int32) ≤ (c.1 0 - c.1 0 / (4000 : Int32) * (4000 : Int32))
      · rw [if_pos w, if_pos w, bd2_s, if_pos rfl]
        exact s_tr h hl
      · rw [if_neg w, if_neg w, bd2_s, if_neg (by decide), if_pos (show (al c (rF r) 0).1 6 = 0 from h6)]
        left
        unfold fX5_interrupt fX9_interrupt
        have hI : Iv t (st1 (st1 (st1 c 7 (c.1 7 + 1)) 5 0) 4 0) := ((h.i7 _).i5 (Or.inl rfl)).i4 (Or.inl rfl) (Or.inl rfl)
        have hJ := hI.t (t' := t + 7) (by omega)
        have ea : st1 (st1 (st1 (st1 (al c (rF r) 0) 5 (0 : Int32)) 4 (0 : Int32)) 8 (((st1 (st1 (al c (rF r) 0) 5 (0 : Int32)) 4 (0 : Int32)).1 8) + (1 : Int32))) 3 (((st1 (st1 (st1 (al c (rF r) 0) 5 (0 : Int32)) 4 (0 : Int32)) 8 (((st1 (st1 (al c (rF r) 0) 5 (0 : Int32)) 4 (0 : Int32)).1 8) + (1 : Int32))).1 3) + (7 : Int32)) = al (st1 (st1 (st1 (st1 c 7 (c.1 7 + 1)) 5 0) 4 0) 0 (nI (t + 7))) (rF r) 0 := by
          rw [al_s0, al_s4, al_s5, al_s7, ← nI_add, ← h.1]
          rw [st1_comm (k := 8) (l := 5) (by decide), st1_comm (k := 8) (l := 4) (by decide)]
          rfl
        rw [ea, show fX1_pass (7 : Int32) (st1 (st1 (st1 c 7 (c.1 7 + 1)) 5 0) 4 0) = some (st1 (st1 (st1 (st1 c 7 (c.1 7 + 1)) 5 0) 4 0) 0 (nI (t + 7))) from pass_c hI 7, bd_s, pair_9, bd2_s]
        obtain ⟨t2, c2, q1, q2, q3, q4, q5⟩ := s_push (rf := rF r) (tr := 0) hJ (by omega) ((st1 (st1 (st1 (st1 c 7 (c.1 7 + 1)) 5 0) 4 0) 0 (nI (t + 7))).2 4 9)
        rw [q1, bd_s, show (al (st1 (st1 (st1 (st1 c 7 (c.1 7 + 1)) 5 0) 4 0) 0 (nI (t + 7))) (rF r) 0).1 2 = (st1 (st1 (st1 (st1 c 7 (c.1 7 + 1)) 5 0) 4 0) 0 (nI (t + 7))).2 4 9 from rfl, q2, bd_s, load_9, bd_s, bd_s]
        exact ⟨t2, _, rfl, by rw [al_pc]; rfl, q3.p ⟨56, by omega, rfl⟩, by omega, by omega⟩
    · rw [if_neg h6]
      have hm : ¬ (al c (rF r) 0).1 6 = 0 := h6
      rw [if_neg hm, ite_self]
      exact s_tr h hl
end TURN
