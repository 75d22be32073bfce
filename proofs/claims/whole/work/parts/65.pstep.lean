/-! one step of the class, one turn of the reference's loop -/
section STEP
variable {t : Nat} {rf : Int32 × (Int32 → Int32)} {tr : Int32} {c : zS}
abbrev rF (r : Int32) : Int32 × (Int32 → Int32) := (r, fun x => x)
abbrev rI (r : Int32) : Int32 × (Int32 → Int32) := (r, fun x => x - 1)
def opC (r : Int32) (s : zS) : Option zS := if (r >>> ((6 : Int32) &&& 31)) ∈ ([(0 : Int32)] : List Int32) then fX5_executeFirstQuarter ((r >>> ((3 : Int32) &&& 31)) &&& (7 : Int32)) (r &&& (7 : Int32)) s else if (r >>> ((6 : Int32) &&& 31)) ∈ ([(1 : Int32)] : List Int32) then fX5_loadOrHalt ((r >>> ((3 : Int32) &&& 31)) &&& (7 : Int32)) (r &&& (7 : Int32)) s else if (r >>> ((6 : Int32) &&& 31)) ∈ ([(2 : Int32)] : List Int32) then (bd2 (fX3_value (r &&& (7 : Int32)) s) fun v s => fX0_withA ((r >>> ((3 : Int32) &&& 31)) &&& (7 : Int32)) v s) else (bd (fX5_standsAlone ((r >>> ((3 : Int32) &&& 31)) &&& (7 : Int32)) (r &&& (7 : Int32))) fun g => if g = (0 : Int32) then fX5_executeLastQuarter ((r >>> ((3 : Int32) &&& 31)) &&& (7 : Int32)) (r &&& (7 : Int32)) s else fX5_executeAlone r s)
def exC (s : zS) : Option (Int32 × zS) := bd2 (fX3_fetchNext (st1 (st1 s 8 (s.1 8 + 1)) 6 0)) fun r s => bd (opC r s) fun s => some ((1 : Int32), s)
def goC (s : zS) : Option (Int32 × zS) := if (st1 s 8 (s.1 8 + 1)).1 4 = 0 then exC s else (bd (fX1_pass (4 : Int32) (st1 s 8 (s.1 8 + 1))) fun s => some ((1 : Int32), s))
def trC (s : zS) : Option (Int32 × zS) := if s.1 4 = 0 then (bd2 (fX5_isTrapNext s) fun r s => if r = 0 then goC s else some (0, s)) else goC s
theorem bd_bd {α β γ : Type} {x : Option α} {f : α → Option β} {g : β → Option γ} : bd (bd x f) g = bd x fun a => bd (f a) g := by
  cases x <;> rfl
theorem bd_bd2 {α σ β γ : Type} {x : Option (α × σ)} {f : α → σ → Option β} {g : β → Option γ} : bd (bd2 x f) g = bd2 x fun a s => bd (f a s) g := by
  cases x <;> rfl
theorem bd_if {α β : Type} {p : Prop} [Decidable p] {x y : Option α} {g : α → Option β} : bd (if p then x else y) g = if p then bd x g else bd y g := by
  split <;> rfl
theorem step_c (s : zS) : fX5_step s = if s.1 5 = 0 then trC s else if s.1 6 = 0 then (bd2 (fX1_asksForInterrupt s) fun r s => if r = 0 then trC s else bd (fX5_interrupt s) fun s => some (1, s)) else trC s := by
  unfold fX5_step trC goC exC opC
  simp only [bd_if, bd_bd, bd_bd2]
  rfl
def opM (r : Int32) (s : zS) : Option zS := if (r >>> ((6 : Int32) &&& 31)) ∈ ([(0 : Int32)] : List Int32) then fX9_one r s else if (r >>> ((6 : Int32) &&& 31)) ∈ ([(1 : Int32)] : List Int32) then (if r = (118 : Int32) then some (st1 s 4 1) else bd2 (fX9_operand (r &&& (7 : Int32)) s) fun v s => fX9_setOperand ((r >>> ((3 : Int32) &&& 31)) &&& (7 : Int32)) v s) else if (r >>> ((6 : Int32) &&& 31)) ∈ ([(2 : Int32)] : List Int32) then (bd2 (fX9_operand (r &&& (7 : Int32)) s) fun v s => fX9_reckon ((r >>> ((3 : Int32) &&& 31)) &&& (7 : Int32)) v s) else fX9_three r s
def tlM (a b d : Int32) (s : zS) : Option zS := if s.1 7 = 0 then some (st1 s 9 (s.1 9 + 1)) else (gd (d = 0 ∨ d = 1) <| some (st1 (st1 (st1 s 3 a) 2 b) 6 d))
theorem inst_m (s : zS) : fX9_instruction s = if s.1 4 = 0 then (bd2 (fX9_fetch (st1 (st1 s 7 0) 6 0)) fun r s' => bd (opM r s') (tlM (s.1 3) (s.1 2) (s.1 6))) else some (st1 (st1 (st1 (st1 s 7 (0 : Int32)) 3 (((st1 s 7 (0 : Int32)).1 3) + (4 : Int32))) 9 (((st1 (st1 s 7 (0 : Int32)) 3 (((st1 s 7 (0 : Int32)).1 3) + (4 : Int32))).1 9) + (1 : Int32))) 6 (0 : Int32)) := by
  unfold fX9_instruction opM
  simp only [bd_if, bd_bd, bd_bd2]
  rfl
theorem al_tr {v : Int32} : st1 (al c rf tr) 7 v = al c rf v := by
  refine z_ext (fun j => ?_) (fun _ _ => rfl)
  match j with
  | 0 | 1 | 2 | 3 | 4 | 5 | 6 | 7 | 8 | 9 | 10 | 11 | 12 | 13 => rfl
  | j + 14 => simp [al, st1, upd]
theorem al_rf {r v : Int32} : st1 (al c (rF r) tr) 0 v = al c (rF v) tr := by
  refine z_ext (fun j => ?_) (fun _ _ => rfl)
  match j with
  | 0 | 1 | 2 | 3 | 4 | 5 | 6 | 7 | 8 | 9 | 10 | 11 | 12 | 13 => rfl
  | j + 14 => simp [al, st1, upd]
theorem al_in {r : Int32} : al (st1 (st1 c 8 (c.1 8 + 1)) 6 0) (rI r) tr = st1 (al c (rF r) tr) 6 0 := by
  refine z_ext (fun j => ?_) (fun k j => ?_)
  · match j with
    | 0 | 1 | 2 | 3 | 4 | 5 | 6 | 7 | 8 | 10 | 11 | 12 | 13 => rfl
    | 9 => exact Int32.add_sub_cancel _ _
    | j + 14 => simp [al, st1, upd]
  · match k with
    | 0 | 1 | 2 | 3 | 4 | 5 => rfl
    | k + 6 => rfl
theorem al_out {r : Int32} : st1 (al c (rI r) tr) 9 ((al c (rI r) tr).1 9 + 1) = al c (rF r) tr := by
  refine z_ext (fun j => ?_) (fun k j => ?_)
  · match j with
    | 0 | 1 | 2 | 3 | 4 | 5 | 6 | 7 | 8 | 10 | 11 | 12 | 13 => rfl
    | 9 => exact Int32.sub_add_cancel _ _
    | j + 14 => simp [al, st1, upd]
  · match k with
    | 0 | 1 | 2 | 3 | 4 | 5 => rfl
    | k + 6 => rfl
/-- the operation of a code that is no TRAP -/
theorem s_op (h : Iv t c) (hl : t + 40 < 2 ^ 31) (hj : c.1 6 = 0) (hh : c.1 4 = 0) {n : Nat} (hn : n < 256) (d1 : n ≠ 221) (d2 : n ≠ 253) (hcb : n = 203 → ∀ q, q < 256 → c.2 0 (ix (c.2 4 9)) = nI q → q / 8 ≠ 6) (hed : n = 237 → ∀ q, q < 256 → c.2 0 (ix (c.2 4 9)) = nI q → (q &&& 199 = 66 ∨ q = 68 ∨ q = 160 ∨ q = 176)) : SimS t 40 rf tr (opC (nI n) c) (opM (nI n) (al c rf tr)) := by
  have hk : n / 8 % 8 < 8 := by omega
  have e3 : (nI n >>> ((3 : Int32) &&& 31)) &&& 7 = nI (n / 8 % 8) := by rw [cd_3 (by omega), nz_7]
  have e7 : nI n &&& 7 = nI (n % 8) := nz_7 n
  have e6 : nI n >>> ((6 : Int32) &&& 31) = nI (n / 64) := cd_6 hn
  unfold opC opM
  rw [e3, e7, e6]
  rcases (show n / 64 = 0 ∨ n / 64 = 1 ∨ n / 64 = 2 ∨ n / 64 = 3 by omega) with z | z | z | z
  · rw [z, if_pos (by decide), if_pos (by decide)]
    exact (s_one h (by omega) (by omega)).le (by omega)
  · rw [z, if_neg (by decide), if_pos (by decide), if_neg (by decide), if_pos (by decide)]
    by_cases h8 : n = 118
    · subst h8
      refine ⟨t, st1 c 4 1, rfl, ?_, h.i4 (Or.inr rfl) (Or.inr hj), by omega, by omega⟩
      rw [if_pos (by decide), al_s4]
    · have ej : ∀ n, n < 256 → nI n = (118 : Int32) → n = 118 := by decide +kernel
      rw [if_neg (fun q => h8 (ej n hn q))]
      have e : fX5_loadOrHalt (nI (n / 8 % 8)) (nI (n % 8)) c = bd2 (fX3_value (nI (n % 8)) c) fun r5 s6 => bd (fX3_store (nI (n / 8 % 8)) r5 s6) fun s8 => some s8 := by
        have : ∀ n, n < 256 → n / 64 = 1 → n ≠ 118 → fX3_isAtHl (nI (n / 8 % 8)) = some 0 ∨ fX3_isAtHl (nI (n / 8 % 8)) = some 1 ∧ fX3_isAtHl (nI (n % 8)) = some 0 := by decide +kernel
        unfold fX5_loadOrHalt
        rcases this n hn z h8 with q | ⟨q, q2⟩
        · rw [q, bd_s, if_pos rfl]
        · rw [q, bd_s, if_neg (by decide), q2, bd_s, if_pos rfl]
      rw [e]
      refine (SimV.bd (k := 9) (k2 := 9) (s_value h (by omega) (by omega)) (fun v t' c' hI l1 l2 hv => ?_)).le (by omega)
      obtain ⟨t2, c2, q1, q2, q3, q4, q5⟩ := s_store (rf := rf) (tr := tr) hI (by omega) hk hv
      rw [q1, q2, bd_s]
      exact ⟨t2, c2, rfl, rfl, q3, q4, q5⟩
  · rw [z, if_neg (by decide), if_neg (by decide), if_pos (by decide), if_neg (by decide), if_neg (by decide), if_pos (by decide)]
    have key := SimV.bd (k := 9) (k2 := 0) (f := fun v s => fX0_withA (nI (n / 8 % 8)) v s) (g := fun v s => fX9_reckon (nI (n / 8 % 8)) v s) (s_value (rf := rf) (tr := tr) h (by omega) (show n % 8 < 8 by omega)) (fun v t' c' hI l1 l2 hv => s_withA hI hk hv)
    exact key.le (by omega)
  · rw [z, if_neg (by decide), if_neg (by decide), if_neg (by decide), if_neg (by decide), if_neg (by decide), if_neg (by decide), alone_c n hn, bd_s]
    have key := s_three (rf := rf) (tr := tr) h hl hj hh (n := n) (by omega) hn d1 d2 hcb hed
    by_cases ha : alone n
    · rw [if_pos ha] at key
      rw [if_pos ha, if_neg (by decide)]
      exact key
    · rw [if_neg ha] at key
      rw [if_neg ha, if_pos (by decide)]
      exact key
end STEP
