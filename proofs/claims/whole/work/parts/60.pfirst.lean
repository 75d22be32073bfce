/-! conditions, exchanges, jumps, loads: the first quarter -/
def hdF (j : Nat) (f : Int32) : Int32 := match j with
  | 0 => if f &&& 64 = 0 then 1 else 0
  | 1 => if f &&& 64 = 0 then 0 else 1
  | 2 => if f &&& 1 = 0 then 1 else 0
  | 3 => if f &&& 1 = 0 then 0 else 1
  | 4 => if f &&& 4 = 0 then 1 else 0
  | 5 => if f &&& 4 = 0 then 0 else 1
  | 6 => if f &&& 128 = 0 then 1 else 0
  | _ => if f &&& 128 = 0 then 0 else 1
section HO
variable {t : Nat} {rf : Int32 × (Int32 → Int32)} {tr : Int32} {c : zS}
theorem holds_cm {j : Nat} (hj : j < 8) : (hdF j (lo (c.2 4 0)) = 0 ∨ hdF j (lo (c.2 4 0)) = 1) ∧ fX3_holds (nI j) c = some (hdF j (lo (c.2 4 0)), c) ∧ fX9_holds (nI j) (al c rf tr) = some (hdF j (lo (c.2 4 0)), al c rf tr) := by
  match j, hj with
  | 0, _ =>
    have e1 : fX3_holds (nI 0) c = bd (if lo (c.2 4 0) &&& 64 = 0 then some (0 : Int32) else some 1) fun x => if x = 0 then some (1, c) else some (0, c) := rfl
    have e2 : fX9_holds (nI 0) (al c rf tr) = bd (if lo (c.2 4 0) &&& 64 = 0 then some (0 : Int32) else some 1) fun x => if x = 0 then some (1, al c rf tr) else some (0, al c rf tr) := rfl
    by_cases z : lo (c.2 4 0) &&& 64 = 0
    · rw [e1, e2, if_pos z, bd_s, bd_s, show hdF 0 (lo (c.2 4 0)) = 1 from if_pos z]; exact ⟨by decide, rfl, rfl⟩
    · rw [e1, e2, if_neg z, bd_s, bd_s, show hdF 0 (lo (c.2 4 0)) = 0 from if_neg z]; exact ⟨by decide, rfl, rfl⟩
  | 1, _ =>
    have e1 : fX3_holds (nI 1) c = bd (if lo (c.2 4 0) &&& 64 = 0 then some (0 : Int32) else some 1) fun x => if x = 1 then some (1, c) else some (0, c) := rfl
    have e2 : fX9_holds (nI 1) (al c rf tr) = bd (if lo (c.2 4 0) &&& 64 = 0 then some (0 : Int32) else some 1) fun x => if x = 1 then some (1, al c rf tr) else some (0, al c rf tr) := rfl
    by_cases z : lo (c.2 4 0) &&& 64 = 0
    · rw [e1, e2, if_pos z, bd_s, bd_s, show hdF 1 (lo (c.2 4 0)) = 0 from if_pos z]; exact ⟨by decide, rfl, rfl⟩
    · rw [e1, e2, if_neg z, bd_s, bd_s, show hdF 1 (lo (c.2 4 0)) = 1 from if_neg z]; exact ⟨by decide, rfl, rfl⟩
  | 2, _ =>
    have e1 : fX3_holds (nI 2) c = bd (if lo (c.2 4 0) &&& 1 = 0 then some (0 : Int32) else some 1) fun x => if x = 0 then some (1, c) else some (0, c) := rfl
    have e2 : fX9_holds (nI 2) (al c rf tr) = bd (if lo (c.2 4 0) &&& 1 = 0 then some (0 : Int32) else some 1) fun x => if x = 0 then some (1, al c rf tr) else some (0, al c rf tr) := rfl
    by_cases z : lo (c.2 4 0) &&& 1 = 0
    · rw [e1, e2, if_pos z, bd_s, bd_s, show hdF 2 (lo (c.2 4 0)) = 1 from if_pos z]; exact ⟨by decide, rfl, rfl⟩
    · rw [e1, e2, if_neg z, bd_s, bd_s, show hdF 2 (lo (c.2 4 0)) = 0 from if_neg z]; exact ⟨by decide, rfl, rfl⟩
  | 3, _ =>
    have e1 : fX3_holds (nI 3) c = bd (if lo (c.2 4 0) &&& 1 = 0 then some (0 : Int32) else some 1) fun x => if x = 1 then some (1, c) else some (0, c) := rfl
    have e2 : fX9_holds (nI 3) (al c rf tr) = bd (if lo (c.2 4 0) &&& 1 = 0 then some (0 : Int32) else some 1) fun x => if x = 1 then some (1, al c rf tr) else some (0, al c rf tr) := rfl
    by_cases z : lo (c.2 4 0) &&& 1 = 0
    · rw [e1, e2, if_pos z, bd_s, bd_s, show hdF 3 (lo (c.2 4 0)) = 0 from if_pos z]; exact ⟨by decide, rfl, rfl⟩
    · rw [e1, e2, if_neg z, bd_s, bd_s, show hdF 3 (lo (c.2 4 0)) = 1 from if_neg z]; exact ⟨by decide, rfl, rfl⟩
  | 4, _ =>
    have e1 : fX3_holds (nI 4) c = bd (if lo (c.2 4 0) &&& 4 = 0 then some (0 : Int32) else some 1) fun x => if x = 0 then some (1, c) else some (0, c) := rfl
    have e2 : fX9_holds (nI 4) (al c rf tr) = bd (if lo (c.2 4 0) &&& 4 = 0 then some (0 : Int32) else some 1) fun x => if x = 0 then some (1, al c rf tr) else some (0, al c rf tr) := rfl
    by_cases z : lo (c.2 4 0) &&& 4 = 0
    · rw [e1, e2, if_pos z, bd_s, bd_s, show hdF 4 (lo (c.2 4 0)) = 1 from if_pos z]; exact ⟨by decide, rfl, rfl⟩
    · rw [e1, e2, if_neg z, bd_s, bd_s, show hdF 4 (lo (c.2 4 0)) = 0 from if_neg z]; exact ⟨by decide, rfl, rfl⟩
  | 5, _ =>
    have e1 : fX3_holds (nI 5) c = bd (if lo (c.2 4 0) &&& 4 = 0 then some (0 : Int32) else some 1) fun x => if x = 1 then some (1, c) else some (0, c) := rfl
    have e2 : fX9_holds (nI 5) (al c rf tr) = bd (if lo (c.2 4 0) &&& 4 = 0 then some (0 : Int32) else some 1) fun x => if x = 1 then some (1, al c rf tr) else some (0, al c rf tr) := rfl
    by_cases z : lo (c.2 4 0) &&& 4 = 0
    · rw [e1, e2, if_pos z, bd_s, bd_s, show hdF 5 (lo (c.2 4 0)) = 0 from if_pos z]; exact ⟨by decide, rfl, rfl⟩
    · rw [e1, e2, if_neg z, bd_s, bd_s, show hdF 5 (lo (c.2 4 0)) = 1 from if_neg z]; exact ⟨by decide, rfl, rfl⟩
  | 6, _ =>
    have e1 : fX3_holds (nI 6) c = bd (if lo (c.2 4 0) &&& 128 = 0 then some (0 : Int32) else some 1) fun x => if x = 0 then some (1, c) else some (0, c) := rfl
    have e2 : fX9_holds (nI 6) (al c rf tr) = bd (if lo (c.2 4 0) &&& 128 = 0 then some (0 : Int32) else some 1) fun x => if x = 0 then some (1, al c rf tr) else some (0, al c rf tr) := rfl
    by_cases z : lo (c.2 4 0) &&& 128 = 0
    · rw [e1, e2, if_pos z, bd_s, bd_s, show hdF 6 (lo (c.2 4 0)) = 1 from if_pos z]; exact ⟨by decide, rfl, rfl⟩
    · rw [e1, e2, if_neg z, bd_s, bd_s, show hdF 6 (lo (c.2 4 0)) = 0 from if_neg z]; exact ⟨by decide, rfl, rfl⟩
  | 7, _ =>
    have e1 : fX3_holds (nI 7) c = bd (if lo (c.2 4 0) &&& 128 = 0 then some (0 : Int32) else some 1) fun x => if x = 1 then some (1, c) else some (0, c) := rfl
    have e2 : fX9_holds (nI 7) (al c rf tr) = bd (if lo (c.2 4 0) &&& 128 = 0 then some (0 : Int32) else some 1) fun x => if x = 1 then some (1, al c rf tr) else some (0, al c rf tr) := rfl
    by_cases z : lo (c.2 4 0) &&& 128 = 0
    · rw [e1, e2, if_pos z, bd_s, bd_s, show hdF 7 (lo (c.2 4 0)) = 0 from if_pos z]; exact ⟨by decide, rfl, rfl⟩
    · rw [e1, e2, if_neg z, bd_s, bd_s, show hdF 7 (lo (c.2 4 0)) = 1 from if_neg z]; exact ⟨by decide, rfl, rfl⟩
theorem exch_7 (m : zS) : fX9_exchange 7 7 m = some (st2 (st2 m 1 7 (m.2 2 7)) 2 7 (m.2 1 7)) := rfl
theorem exch_6 (m : zS) : fX9_exchange 6 6 m = some (st2 (st2 m 1 6 (m.2 2 6)) 2 6 (m.2 1 6)) := rfl
theorem al_exaf : st2 (st2 (st2 (st2 (al c rf tr) 1 7 (hi (c.2 4 4))) 2 7 (hi (c.2 4 0))) 1 6 (lo (c.2 4 4))) 2 6 (lo (c.2 4 0)) = al (st2 (st2 c 4 0 (c.2 4 4)) 4 4 (c.2 4 0)) rf tr := by
  refine z_ext (fun j => ?_) (fun k j => ?_)
  · match j with
    | 0 | 1 | 2 | 3 | 4 | 5 | 6 | 7 | 8 | 9 | 10 | 11 | 12 | 13 => rfl
    | j + 14 => rfl
  · match k with
    | 0 | 3 | 4 | 5 => rfl
    | 1 => match j with
      | 0 | 1 | 2 | 3 | 4 | 5 | 6 | 7 => rfl
      | j + 8 => simp [al, st1, st2, upd, rg]
    | 2 => match j with
      | 0 | 1 | 2 | 3 | 4 | 5 | 6 | 7 => rfl
      | j + 8 => simp [al, st1, st2, upd, rg]
    | k + 6 => simp [al, st1, st2]
theorem s_exaf (h : Iv t c) : SimS t 0 rf tr (fX6_exchange 0 4 c) (bd (fX9_exchange 7 7 (al c rf tr)) fun s32 => bd (fX9_exchange 6 6 s32) fun s34 => some s34) := by
  rw [exch_7, bd_s, exch_6, bd_s]
  refine ⟨t, st2 (st2 c 4 0 (c.2 4 4)) 4 4 (c.2 4 0), rfl, ?_, (h.p (h.b (by omega))).p (h.b (by omega)), Nat.le_refl _, Nat.le_refl _⟩
  rw [← al_exaf]; rfl
theorem exx_m (m : zS) : ∃ m', fX9_exchange 0 5 m = some m' ∧ m'.1 = m.1 ∧ (∀ k j, m'.2 k j = if k = 1 ∧ j < 6 then m.2 2 j else if k = 2 ∧ j < 6 then m.2 1 j else m.2 k j) := by
  refine ⟨st2 (st2 (st2 (st2 (st2 (st2 (st2 (st2 (st2 (st2 (st2 (st2 m 1 0 (m.2 2 0)) 2 0 (m.2 1 0)) 1 1 (m.2 2 1)) 2 1 (m.2 1 1)) 1 2 (m.2 2 2)) 2 2 (m.2 1 2)) 1 3 (m.2 2 3)) 2 3 (m.2 1 3)) 1 4 (m.2 2 4)) 2 4 (m.2 1 4)) 1 5 (m.2 2 5)) 2 5 (m.2 1 5), rfl, rfl, ?_⟩
  intro k j
  match k with
  | 0 => rfl
  | 1 => match j with
    | 0 | 1 | 2 | 3 | 4 | 5 => rfl
    | j + 6 => simp [st2, upd]; intro q; exact absurd q (by omega)
  | 2 => match j with
    | 0 | 1 | 2 | 3 | 4 | 5 => rfl
    | j + 6 => simp [st2, upd]; intro q; exact absurd q (by omega)
  | k + 3 => simp [st2]
def exxC (c : zS) : zS := st2 (st2 (st2 (st2 (st2 (st2 c 4 1 (c.2 4 5)) 4 5 (c.2 4 1)) 4 2 (c.2 4 6)) 4 6 (c.2 4 2)) 4 3 (c.2 4 7)) 4 7 (c.2 4 3)
theorem s_exx (h : Iv t c) : SimS t 0 rf tr (fX5_exchangeWithOthers c) (fX9_exchange 0 5 (al c rf tr)) := by
  obtain ⟨m', e1, e2, e3⟩ := exx_m (al c rf tr)
  refine ⟨t, exxC c, rfl, ?_, (((((h.p (h.b (by omega))).p (h.b (by omega))).p (h.b (by omega))).p (h.b (by omega))).p (h.b (by omega))).p (h.b (by omega)), Nat.le_refl _, Nat.le_refl _⟩
  rw [e1]
  refine congrArg some (z_ext (fun j => ?_) (fun k j => ?_))
  · rw [e2]
    match j with
    | 0 | 1 | 2 | 3 | 4 | 5 | 6 | 7 | 8 | 9 | 10 | 11 | 12 | 13 => rfl
    | j + 14 => rfl
  · rw [e3]
    match k with
    | 0 | 3 | 4 | 5 => rfl
    | 1 => match j with
      | 0 | 1 | 2 | 3 | 4 | 5 | 6 | 7 => rfl
      | j + 8 => simp [al, rg]
    | 2 => match j with
      | 0 | 1 | 2 | 3 | 4 | 5 | 6 | 7 => rfl
      | j + 8 => simp [al, rg]
    | k + 6 => simp [al]
theorem s_exdehl (h : Iv t c) : SimS t 0 rf tr (fX6_exchange 2 3 c) (bd2 (fX9_pair 1 (al c rf tr)) fun x s => bd2 (fX9_hl s) fun r s => bd (fX9_setPair 1 r s) fun s => bd (fX9_setPair 2 x s) fun s => some s) := by
  rw [show fX9_pair (1 : Int32) (al c rf tr) = some (c.2 4 2, al c rf tr) from pair_m h (n := 1) (by omega), bd2_s, hl_m h, bd2_s, show ∀ x, fX9_setPair (1 : Int32) x (al c rf tr) = some (al (st2 c 4 2 (x &&& 65535)) rf tr) from fun x => setPair_m h (q := 1) (by omega) x, bd_s, B16_id (h.b (k := 3) (by omega))]
  have h1 := h.p (k := 2) (h.b (k := 3) (by omega))
  rw [show ∀ x, fX9_setPair (2 : Int32) x (al (st2 c 4 2 (c.2 4 3)) rf tr) = some (al (st2 (st2 c 4 2 (c.2 4 3)) 4 3 (x &&& 65535)) rf tr) from fun x => setPair_m h1 (q := 2) (by omega) x, bd_s, B16_id (h.b (k := 2) (by omega))]
  exact ⟨t, st2 (st2 c 4 2 (c.2 4 3)) 4 3 (c.2 4 2), rfl, rfl, h1.p (h.b (by omega)), Nat.le_refl _, Nat.le_refl _⟩
theorem s_jumpBy (h : Iv t c) (d g : Int32) : SimS t 5 rf tr (fX5_jumpBy d g c) (if g = (0 : Int32) then (some (al c rf tr)) else (some (st1 (st1 (al c rf tr) 3 (((al c rf tr).1 3) + (5 : Int32))) 2 ((((st1 (al c rf tr) 3 (((al c rf tr).1 3) + (5 : Int32))).1 2) + (d.toInt8.toInt32)) &&& (65535 : Int32))))) := by
  unfold fX5_jumpBy
  by_cases z : g = 0
  · rw [if_pos z, if_pos z]
    exact (SimS.ret h).le (by omega)
  · rw [if_neg z, if_neg z, show fX1_pass (5 : Int32) c = some (st1 c 0 (nI (t + 5))) from pass_c h 5, bd_s, move_9, bd_s, al_3, h.1, show nI t + (5 : Int32) = nI (t + 5) from nI_add t 5]
    refine ⟨t + 5, _, rfl, ?_, (h.t (by omega)).p (B16_and _), by omega, by omega⟩
    rw [al_pc, al_s0]; rfl
theorem dec_B8 {x : Int32} : B8 ((x - 1) &&& 255) := B8_and _
/-- B written while the reference reads ahead of it: the class reads first -/
theorem s_djnz (h : Iv t c) (hl : t + 15 < 2 ^ 31) : SimS t 15 rf tr (bd (fX1_pass (1 : Int32) c) fun s7 => bd2 (fX3_next s7) fun r9 s10 => bd2 (fX5_countDown s10) fun r12 s13 => bd (fX5_jumpBy r9 r12 s13) fun s15 => some s15)
    (bd (if ((st2 (st1 (al c rf tr) 3 (((al c rf tr).1 3) + (1 : Int32))) 1 ((0 : Int32).toNatClampNeg) ((((st1 (al c rf tr) 3 (((al c rf tr).1 3) + (1 : Int32))).2 1 ((0 : Int32).toNatClampNeg)) - (1 : Int32)) &&& (255 : Int32))).2 1 ((0 : Int32).toNatClampNeg)) = (0 : Int32) then (some (0 : Int32)) else (some (1 : Int32))) fun x24 => bd2 (fX9_next (st2 (st1 (al c rf tr) 3 (((al c rf tr).1 3) + (1 : Int32))) 1 ((0 : Int32).toNatClampNeg) ((((st1 (al c rf tr) 3 (((al c rf tr).1 3) + (1 : Int32))).2 1 ((0 : Int32).toNatClampNeg)) - (1 : Int32)) &&& (255 : Int32)))) fun r27 s28 => nm (r27.toInt8.toInt32) fun x29 => if x24 = (0 : Int32) then (some s28) else (some (st1 (st1 s28 3 ((s28.1 3) + (5 : Int32))) 2 ((((st1 s28 3 ((s28.1 3) + (5 : Int32))).1 2) + x29) &&& (65535 : Int32))))) := by
  have h1 := h.t (t' := t + 1) (by omega)
  have l1 := tA_le (c.2 4 9) (t + 1)
  rw [show fX1_pass (1 : Int32) c = some (st1 c 0 (nI (t + 1))) from pass_c h 1, bd_s, al_3, h.1, show nI t + (1 : Int32) = nI (t + 1) from nI_add t 1, ← al_s0]
  simp only [tn_0]
  show SimS t 15 rf tr _ (bd (if (hi (c.2 4 1) - 1) &&& 255 = 0 then some (0 : Int32) else some 1) fun x24 => bd2 (fX9_next (st2 (al (st1 c 0 (nI (t + 1))) rf tr) 1 0 ((hi (c.2 4 1) - 1) &&& 255))) _)
  rw [next_c h1 (by omega), bd2_s, next_m (t := t + 1) rfl (by omega), bd_ite, bd2_s]
  generalize ex : (hi (c.2 4 1) - 1) &&& 255 = x
  have hx : B8 x := by rw [← ex]; exact B8_and _
  have h2 : Iv (tA (c.2 4 9) (t + 1) + 3) (st2 (st1 c 0 (nI (tA (c.2 4 9) (t + 1) + 3))) 4 9 ((c.2 4 9 + 1) &&& 65535)) := (h.t (by omega)).p (B16_and _)
  obtain ⟨c', q1, q2, q3, -⟩ := lsingle_c (rf := rf) (tr := tr) (j := 0) (by omega) (by omega) h2 hx
  have ecd : fX5_countDown (st2 (st1 (st1 c 0 (nI (t + 1))) 0 (nI (tA (c.2 4 9) (t + 1) + 3))) 4 9 ((c.2 4 9 + 1) &&& 65535)) = some (if x = 0 then 0 else 1, c') := by
    unfold fX5_countDown
    rw [single_0, bd2_s]
    simp only [nm]
    show bd (fX6_loadSingle (0 : Int32) ((hi (c.2 4 1) - 1) &&& 255) (st2 (st1 (st1 c 0 (nI (t + 1))) 0 (nI (tA (c.2 4 9) (t + 1) + 3))) 4 9 ((c.2 4 9 + 1) &&& 65535))) _ = _
    rw [ex, st1_same, show fX6_loadSingle (0 : Int32) x (st2 (st1 c 0 (nI (tA (c.2 4 9) (t + 1) + 3))) 4 9 ((c.2 4 9 + 1) &&& 65535)) = some c' from q1, bd_s]
    show (if (hi (c.2 4 1) - 1) &&& 255 = 0 then some ((0 : Int32), c') else some (1, c')) = _
    rw [ex]
    split <;> rfl
  have em : st1 (st1 (st2 (al (st1 c 0 (nI (t + 1))) rf tr) 1 0 x) 3 (nI (tA (c.2 4 9) (t + 1) + 3))) 2 ((c.2 4 9 + 1) &&& 65535) = al c' rf tr := by
    rw [q2, al_pc, al_s0, al_s0]
    show st1 (st1 (st1 (st2 (al c rf tr) 1 0 x) 3 (nI (t + 1))) 3 (nI (tA (c.2 4 9) (t + 1) + 3))) 2 ((c.2 4 9 + 1) &&& 65535) = st1 (st1 (st2 (al c rf tr) 1 0 x) 3 (nI (tA (c.2 4 9) (t + 1) + 3))) 2 ((c.2 4 9 + 1) &&& 65535)
    rw [st1_same]
  have e9 : (st1 c 0 (nI (t + 1))).2 4 9 = c.2 4 9 := rfl
  rw [e9, ecd, bd2_s]
  have em2 : st1 (st1 (st2 (al (st1 c 0 (nI (t + 1))) rf tr) 1 0 x) 3 (nI (tA ((st2 (al (st1 c 0 (nI (t + 1))) rf tr) 1 0 x).1 2) (t + 1) + 3))) 2 ((st2 (al (st1 c 0 (nI (t + 1))) rf tr) 1 0 x).1 2 + 1 &&& 65535) = al c' rf tr := em
  rw [em2]
  simp only [nm]
  obtain ⟨t3, c3, z1, z2, z3, z4, z5⟩ := s_jumpBy (rf := rf) (tr := tr) q3 (c.2 0 (ix (c.2 4 9))) (if x = 0 then 0 else 1)
  have z1' : fX5_jumpBy ((st1 c 0 (nI (t + 1))).2 0 (ix (c.2 4 9))) (if x = 0 then 0 else 1) c' = some c3 := z1
  rw [z1', bd_s]
  exact ⟨t3, c3, rfl, z2, z3, by omega, by omega⟩
end HO
