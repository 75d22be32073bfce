/-! THE PURE PART: bytes, pairs, the class's state seen as the reference's -/
theorem nz_and (a b : Nat) : nI a &&& nI b = nI (a &&& b) := by
  apply Int32.toBitVec_inj.1
  show BitVec.ofNat 32 a &&& BitVec.ofNat 32 b = BitVec.ofNat 32 (a &&& b)
  apply BitVec.eq_of_getLsbD_eq
  intro i hi
  simp [hi]
theorem nz_or (a b : Nat) : nI a ||| nI b = nI (a ||| b) := by
  apply Int32.toBitVec_inj.1
  show BitVec.ofNat 32 a ||| BitVec.ofNat 32 b = BitVec.ofNat 32 (a ||| b)
  apply BitVec.eq_of_getLsbD_eq
  intro i hi
  simp [hi]
theorem nz_xor (a b : Nat) : nI a ^^^ nI b = nI (a ^^^ b) := by
  apply Int32.toBitVec_inj.1
  show BitVec.ofNat 32 a ^^^ BitVec.ofNat 32 b = BitVec.ofNat 32 (a ^^^ b)
  apply BitVec.eq_of_getLsbD_eq
  intro i hi
  simp [hi]
theorem nz_of (x : Int32) : ∃ n : Nat, n < 4294967296 ∧ x = nI n := by
  refine ⟨x.toBitVec.toNat, x.toBitVec.isLt, ?_⟩
  apply Int32.toBitVec_inj.1
  show x.toBitVec = BitVec.ofNat 32 x.toBitVec.toNat
  simp
theorem nz_255 (n : Nat) : nI n &&& 255 = nI (n % 256) := by
  show nI n &&& nI 255 = _
  rw [nz_and, show (255 : Nat) = 2 ^ 8 - 1 from rfl, Nat.and_two_pow_sub_one_eq_mod]
theorem nz_65535 (n : Nat) : nI n &&& 65535 = nI (n % 65536) := by
  show nI n &&& nI 65535 = _
  rw [nz_and, show (65535 : Nat) = 2 ^ 16 - 1 from rfl, Nat.and_two_pow_sub_one_eq_mod]
theorem nz_4095 (n : Nat) : nI n &&& 4095 = nI (n % 4096) := by
  show nI n &&& nI 4095 = _
  rw [nz_and, show (4095 : Nat) = 2 ^ 12 - 1 from rfl, Nat.and_two_pow_sub_one_eq_mod]
def B8 (x : Int32) : Prop := ∃ n : Nat, n < 256 ∧ x = nI n
def B16 (x : Int32) : Prop := ∃ n : Nat, n < 65536 ∧ x = nI n
theorem B8_and (x : Int32) : B8 (x &&& 255) := by
  obtain ⟨n, -, rfl⟩ := nz_of x
  exact ⟨n % 256, Nat.mod_lt _ (by omega), nz_255 n⟩
theorem B16_and (x : Int32) : B16 (x &&& 65535) := by
  obtain ⟨n, -, rfl⟩ := nz_of x
  exact ⟨n % 65536, Nat.mod_lt _ (by omega), nz_65535 n⟩
theorem B8_id {x : Int32} (h : B8 x) : x &&& 255 = x := by
  obtain ⟨n, hn, rfl⟩ := h
  rw [nz_255, Nat.mod_eq_of_lt hn]
theorem B16_id {x : Int32} (h : B16 x) : x &&& 65535 = x := by
  obtain ⟨n, hn, rfl⟩ := h
  rw [nz_65535, Nat.mod_eq_of_lt hn]
theorem B8_16 {x : Int32} (h : B8 x) : B16 x := by
  obtain ⟨n, hn, rfl⟩ := h
  exact ⟨n, by omega, rfl⟩
def hi (x : Int32) : Int32 := x >>> ((8 : Int32) &&& 31)
def lo (x : Int32) : Int32 := x &&& 255
def pr (h l : Int32) : Int32 := (h <<< ((8 : Int32) &&& 31)) ||| l
theorem hi_n {n : Nat} (h : n < 2 ^ 31) : hi (nI n) = nI (n / 256) := pk_shrN h _ 8 (by decide)
theorem lo_n (n : Nat) : lo (nI n) = nI (n % 256) := nz_255 n
theorem pr_n {a b : Nat} (ha : a < 256) (hb : b < 256) : pr (nI a) (nI b) = nI (a * 256 + b) := by
  unfold pr
  rw [pk_shlN _ 8 (by decide) (by omega), nz_or]
  have h := Nat.shiftLeft_add_eq_or_of_lt (b := b) (i := 8) (by omega : b < 2 ^ 8) a
  rw [Nat.shiftLeft_eq] at h
  rw [← h]
theorem hi_pr {h l : Int32} (hh : B8 h) (hl : B8 l) : hi (pr h l) = h := by
  obtain ⟨a, ha, rfl⟩ := hh
  obtain ⟨b, hb, rfl⟩ := hl
  rw [pr_n ha hb, hi_n (by omega)]
  congr 1
  omega
theorem lo_pr {h l : Int32} (hh : B8 h) (hl : B8 l) : lo (pr h l) = l := by
  obtain ⟨a, ha, rfl⟩ := hh
  obtain ⟨b, hb, rfl⟩ := hl
  rw [pr_n ha hb, lo_n]
  congr 1
  omega
theorem B16_pr {h l : Int32} (hh : B8 h) (hl : B8 l) : B16 (pr h l) := by
  obtain ⟨a, ha, rfl⟩ := hh
  obtain ⟨b, hb, rfl⟩ := hl
  exact ⟨a * 256 + b, by omega, pr_n ha hb⟩
theorem B8_hi {x : Int32} (h : B16 x) : B8 (hi x) := by
  obtain ⟨n, hn, rfl⟩ := h
  exact ⟨n / 256, by omega, hi_n (by omega)⟩
theorem B8_lo (x : Int32) : B8 (lo x) := B8_and x
theorem pr_hl {x : Int32} (h : B16 x) : pr (hi x) (lo x) = x := by
  obtain ⟨n, hn, rfl⟩ := h
  rw [hi_n (by omega), lo_n, pr_n (by omega) (by omega)]
  congr 1
  omega
/-- what loadSingle writes -/
theorem hi_wr {x v : Int32} (hv : B8 v) : hi ((v <<< ((8 : Int32) &&& 31)) ||| (x &&& 255)) = v := hi_pr hv (B8_and x)
theorem lo_wr {x v : Int32} (hv : B8 v) : lo ((v <<< ((8 : Int32) &&& 31)) ||| (x &&& 255)) = lo x := lo_pr hv (B8_and x)
theorem wl_n {n m : Nat} (hn : n < 65536) (hm : m < 256) : (nI n &&& 65280) ||| nI m = nI (n / 256 * 256 + m) := by
  show (nI n &&& nI 65280) ||| nI m = _
  rw [nz_and, nz_or]
  congr 1
  have h1 : n &&& 65280 = n / 256 * 256 := by
    apply Nat.eq_of_testBit_eq
    intro i
    rw [Nat.testBit_and, show n / 256 * 256 = (n / 256) <<< 8 by rw [Nat.shiftLeft_eq], Nat.testBit_shiftLeft, show (n / 256) = n >>> 8 by rw [Nat.shiftRight_eq_div_pow], Nat.testBit_shiftRight]
    by_cases h8 : 8 ≤ i
    · rw [show 8 + (i - 8) = i by omega]
      by_cases h16 : i < 16
      · have : (65280 : Nat).testBit i = true := by
          have : ∀ i, i < 16 → 8 ≤ i → (65280 : Nat).testBit i = true := by decide
          exact this i h16 h8
        simp [this, h8]
      · have hz : n.testBit i = false := Nat.testBit_lt_two_pow (Nat.lt_of_lt_of_le (show n < 2 ^ 16 from hn) (Nat.pow_le_pow_right (n := 2) (by decide) (by omega : 16 ≤ i)))
        simp [hz]
    · have : (65280 : Nat).testBit i = false := by
        have : ∀ i, i < 8 → (65280 : Nat).testBit i = false := by decide
        exact this i (by omega)
      simp [this, h8]
  rw [h1]
  have h := Nat.shiftLeft_add_eq_or_of_lt (b := m) (i := 8) (by omega : m < 2 ^ 8) (n / 256)
  rw [Nat.shiftLeft_eq] at h
  rw [← h]
theorem hi_wl {x v : Int32} (hx : B16 x) (hv : B8 v) : hi ((x &&& 65280) ||| v) = hi x := by
  obtain ⟨n, hn, rfl⟩ := hx
  obtain ⟨m, hm, rfl⟩ := hv
  rw [wl_n hn hm, hi_n (by omega), hi_n (by omega)]
  congr 1
  omega
theorem lo_wl {x v : Int32} (hx : B16 x) (hv : B8 v) : lo ((x &&& 65280) ||| v) = v := by
  obtain ⟨n, hn, rfl⟩ := hx
  obtain ⟨m, hm, rfl⟩ := hv
  rw [wl_n hn hm, lo_n]
  congr 1
  omega
theorem B16_wl {x v : Int32} (hx : B16 x) (hv : B8 v) : B16 ((x &&& 65280) ||| v) := by
  obtain ⟨n, hn, rfl⟩ := hx
  obtain ⟨m, hm, rfl⟩ := hv
  exact ⟨n / 256 * 256 + m, by omega, wl_n hn hm⟩
theorem B16_wr {x v : Int32} (hv : B8 v) : B16 ((v <<< ((8 : Int32) &&& 31)) ||| (x &&& 255)) := B16_pr hv (B8_and x)
/-- the eight single registers, out of the pairs from o on, as the reference numbers them -/
def rg (q : Nat → Int32) (o : Nat) (j : Nat) : Int32 := match j with
  | 0 => hi (q (o + 1))
  | 1 => lo (q (o + 1))
  | 2 => hi (q (o + 2))
  | 3 => lo (q (o + 2))
  | 4 => hi (q (o + 3))
  | 5 => lo (q (o + 3))
  | 6 => lo (q o)
  | 7 => hi (q o)
  | _ => 0
/-- the class's state as the reference's -/
def al (c : zS) (rf : Int32 × (Int32 → Int32)) (tr : Int32) : zS := (fun j => match j with
  | 0 => rf.1
  | 1 => c.2 4 8
  | 2 => c.2 4 9
  | 3 => c.1 0
  | 4 => c.1 4
  | 5 => c.1 5
  | 6 => c.1 6
  | 7 => tr
  | 8 => c.1 7
  | 9 => rf.2 (c.1 8)
  | 10 => c.1 9
  | 11 => c.1 1
  | 12 => c.1 2
  | 13 => c.1 3
  | _ => 0, fun a => match a with
  | 0 => c.2 0
  | 1 => rg (c.2 4) 0
  | 2 => rg (c.2 4) 4
  | 3 => c.2 1
  | 4 => c.2 3
  | 5 => c.2 2
  | _ => fun _ => 0)
theorem z_ext {a b : zS} (h1 : ∀ j, a.1 j = b.1 j) (h2 : ∀ k j, a.2 k j = b.2 k j) : a = b := Prod.ext (funext h1) (funext fun k => funext (h2 k))
section AL
variable {c : zS} {rf : Int32 × (Int32 → Int32)} {tr : Int32}
theorem al_s0 {v : Int32} : al (st1 c 0 v) rf tr = st1 (al c rf tr) 3 v := by
  refine z_ext (fun j => ?_) (fun k j => ?_)
  · match j with
    | 0 | 1 | 2 | 3 | 4 | 5 | 6 | 7 | 8 | 9 | 10 | 11 | 12 | 13 => rfl
    | j + 14 => simp [al, st1, st2, upd]
  · match k with
    | 0 | 1 | 2 | 3 | 4 | 5 => rfl
    | k + 6 => simp [al, st1, st2]
theorem al_s1 {v : Int32} : al (st1 c 1 v) rf tr = st1 (al c rf tr) 11 v := by
  refine z_ext (fun j => ?_) (fun k j => ?_)
  · match j with
    | 0 | 1 | 2 | 3 | 4 | 5 | 6 | 7 | 8 | 9 | 10 | 11 | 12 | 13 => rfl
    | j + 14 => simp [al, st1, st2, upd]
  · match k with
    | 0 | 1 | 2 | 3 | 4 | 5 => rfl
    | k + 6 => simp [al, st1, st2]
theorem al_s2 {v : Int32} : al (st1 c 2 v) rf tr = st1 (al c rf tr) 12 v := by
  refine z_ext (fun j => ?_) (fun k j => ?_)
  · match j with
    | 0 | 1 | 2 | 3 | 4 | 5 | 6 | 7 | 8 | 9 | 10 | 11 | 12 | 13 => rfl
    | j + 14 => simp [al, st1, st2, upd]
  · match k with
    | 0 | 1 | 2 | 3 | 4 | 5 => rfl
    | k + 6 => simp [al, st1, st2]
theorem al_s3 {v : Int32} : al (st1 c 3 v) rf tr = st1 (al c rf tr) 13 v := by
  refine z_ext (fun j => ?_) (fun k j => ?_)
  · match j with
    | 0 | 1 | 2 | 3 | 4 | 5 | 6 | 7 | 8 | 9 | 10 | 11 | 12 | 13 => rfl
    | j + 14 => simp [al, st1, st2, upd]
  · match k with
    | 0 | 1 | 2 | 3 | 4 | 5 => rfl
    | k + 6 => simp [al, st1, st2]
theorem al_s4 {v : Int32} : al (st1 c 4 v) rf tr = st1 (al c rf tr) 4 v := by
  refine z_ext (fun j => ?_) (fun k j => ?_)
  · match j with
    | 0 | 1 | 2 | 3 | 4 | 5 | 6 | 7 | 8 | 9 | 10 | 11 | 12 | 13 => rfl
    | j + 14 => simp [al, st1, st2, upd]
  · match k with
    | 0 | 1 | 2 | 3 | 4 | 5 => rfl
    | k + 6 => simp [al, st1, st2]
theorem al_s5 {v : Int32} : al (st1 c 5 v) rf tr = st1 (al c rf tr) 5 v := by
  refine z_ext (fun j => ?_) (fun k j => ?_)
  · match j with
    | 0 | 1 | 2 | 3 | 4 | 5 | 6 | 7 | 8 | 9 | 10 | 11 | 12 | 13 => rfl
    | j + 14 => simp [al, st1, st2, upd]
  · match k with
    | 0 | 1 | 2 | 3 | 4 | 5 => rfl
    | k + 6 => simp [al, st1, st2]
theorem al_s6 {v : Int32} : al (st1 c 6 v) rf tr = st1 (al c rf tr) 6 v := by
  refine z_ext (fun j => ?_) (fun k j => ?_)
  · match j with
    | 0 | 1 | 2 | 3 | 4 | 5 | 6 | 7 | 8 | 9 | 10 | 11 | 12 | 13 => rfl
    | j + 14 => simp [al, st1, st2, upd]
  · match k with
    | 0 | 1 | 2 | 3 | 4 | 5 => rfl
    | k + 6 => simp [al, st1, st2]
theorem al_s7 {v : Int32} : al (st1 c 7 v) rf tr = st1 (al c rf tr) 8 v := by
  refine z_ext (fun j => ?_) (fun k j => ?_)
  · match j with
    | 0 | 1 | 2 | 3 | 4 | 5 | 6 | 7 | 8 | 9 | 10 | 11 | 12 | 13 => rfl
    | j + 14 => simp [al, st1, st2, upd]
  · match k with
    | 0 | 1 | 2 | 3 | 4 | 5 => rfl
    | k + 6 => simp [al, st1, st2]
theorem al_s8 {v : Int32} : al (st1 c 8 v) rf tr = st1 (al c rf tr) 9 (rf.2 v) := by
  refine z_ext (fun j => ?_) (fun k j => ?_)
  · match j with
    | 0 | 1 | 2 | 3 | 4 | 5 | 6 | 7 | 8 | 9 | 10 | 11 | 12 | 13 => rfl
    | j + 14 => simp [al, st1, st2, upd]
  · match k with
    | 0 | 1 | 2 | 3 | 4 | 5 => rfl
    | k + 6 => simp [al, st1, st2]
theorem al_s9 {v : Int32} : al (st1 c 9 v) rf tr = st1 (al c rf tr) 10 v := by
  refine z_ext (fun j => ?_) (fun k j => ?_)
  · match j with
    | 0 | 1 | 2 | 3 | 4 | 5 | 6 | 7 | 8 | 9 | 10 | 11 | 12 | 13 => rfl
    | j + 14 => simp [al, st1, st2, upd]
  · match k with
    | 0 | 1 | 2 | 3 | 4 | 5 => rfl
    | k + 6 => simp [al, st1, st2]
theorem al_s10 {v : Int32} : al (st1 c 10 v) rf tr = al c rf tr := by
  refine z_ext (fun j => ?_) (fun k j => ?_)
  · match j with
    | 0 | 1 | 2 | 3 | 4 | 5 | 6 | 7 | 8 | 9 | 10 | 11 | 12 | 13 => rfl
    | j + 14 => simp [al, st1, st2, upd]
  · match k with
    | 0 | 1 | 2 | 3 | 4 | 5 => rfl
    | k + 6 => simp [al, st1, st2]
theorem al_r0 {i : Nat} {v : Int32} : al (st2 c 0 i v) rf tr = st2 (al c rf tr) 0 i v := by
  refine z_ext (fun j => ?_) (fun k j => ?_)
  · match j with
    | 0 | 1 | 2 | 3 | 4 | 5 | 6 | 7 | 8 | 9 | 10 | 11 | 12 | 13 => rfl
    | j + 14 => simp [al, st1, st2, upd]
  · match k with
    | 0 | 1 | 2 | 3 | 4 | 5 => rfl
    | k + 6 => simp [al, st1, st2]
theorem al_r1 {i : Nat} {v : Int32} : al (st2 c 1 i v) rf tr = st2 (al c rf tr) 3 i v := by
  refine z_ext (fun j => ?_) (fun k j => ?_)
  · match j with
    | 0 | 1 | 2 | 3 | 4 | 5 | 6 | 7 | 8 | 9 | 10 | 11 | 12 | 13 => rfl
    | j + 14 => simp [al, st1, st2, upd]
  · match k with
    | 0 | 1 | 2 | 3 | 4 | 5 => rfl
    | k + 6 => simp [al, st1, st2]
theorem al_r2 {i : Nat} {v : Int32} : al (st2 c 2 i v) rf tr = st2 (al c rf tr) 5 i v := by
  refine z_ext (fun j => ?_) (fun k j => ?_)
  · match j with
    | 0 | 1 | 2 | 3 | 4 | 5 | 6 | 7 | 8 | 9 | 10 | 11 | 12 | 13 => rfl
    | j + 14 => simp [al, st1, st2, upd]
  · match k with
    | 0 | 1 | 2 | 3 | 4 | 5 => rfl
    | k + 6 => simp [al, st1, st2]
theorem al_r3 {i : Nat} {v : Int32} : al (st2 c 3 i v) rf tr = st2 (al c rf tr) 4 i v := by
  refine z_ext (fun j => ?_) (fun k j => ?_)
  · match j with
    | 0 | 1 | 2 | 3 | 4 | 5 | 6 | 7 | 8 | 9 | 10 | 11 | 12 | 13 => rfl
    | j + 14 => simp [al, st1, st2, upd]
  · match k with
    | 0 | 1 | 2 | 3 | 4 | 5 => rfl
    | k + 6 => simp [al, st1, st2]
theorem al_pc {v : Int32} : al (st2 c 4 9 v) rf tr = st1 (al c rf tr) 2 v := by
  refine z_ext (fun j => ?_) (fun k j => ?_)
  · match j with
    | 0 | 1 | 2 | 3 | 4 | 5 | 6 | 7 | 8 | 9 | 10 | 11 | 12 | 13 => rfl
    | j + 14 => simp [al, st1, st2, upd]
  · match k with
    | 0 | 3 | 4 | 5 => rfl
    | 1 => match j with
      | 0 | 1 | 2 | 3 | 4 | 5 | 6 | 7 => first | rfl | simp [al, st1, st2, upd, rg, *]
      | j + 8 => simp [al, st1, st2, upd, rg]
    | 2 => match j with
      | 0 | 1 | 2 | 3 | 4 | 5 | 6 | 7 => first | rfl | simp [al, st1, st2, upd, rg, *]
      | j + 8 => simp [al, st1, st2, upd, rg]
    | k + 6 => simp [al, st1, st2]
theorem al_sp {v : Int32} : al (st2 c 4 8 v) rf tr = st1 (al c rf tr) 1 v := by
  refine z_ext (fun j => ?_) (fun k j => ?_)
  · match j with
    | 0 | 1 | 2 | 3 | 4 | 5 | 6 | 7 | 8 | 9 | 10 | 11 | 12 | 13 => rfl
    | j + 14 => simp [al, st1, st2, upd]
  · match k with
    | 0 | 3 | 4 | 5 => rfl
    | 1 => match j with
      | 0 | 1 | 2 | 3 | 4 | 5 | 6 | 7 => first | rfl | simp [al, st1, st2, upd, rg, *]
      | j + 8 => simp [al, st1, st2, upd, rg]
    | 2 => match j with
      | 0 | 1 | 2 | 3 | 4 | 5 | 6 | 7 => first | rfl | simp [al, st1, st2, upd, rg, *]
      | j + 8 => simp [al, st1, st2, upd, rg]
    | k + 6 => simp [al, st1, st2]
theorem al_p0 {v : Int32} : al (st2 c 4 0 v) rf tr = st2 (st2 (al c rf tr) 1 7 (hi v)) 1 6 (lo v) := by
  refine z_ext (fun j => ?_) (fun k j => ?_)
  · match j with
    | 0 | 1 | 2 | 3 | 4 | 5 | 6 | 7 | 8 | 9 | 10 | 11 | 12 | 13 => rfl
    | j + 14 => simp [al, st1, st2, upd]
  · match k with
    | 0 | 3 | 4 | 5 => rfl
    | 1 => match j with
      | 0 | 1 | 2 | 3 | 4 | 5 | 6 | 7 => first | rfl | simp [al, st1, st2, upd, rg, *]
      | j + 8 => simp [al, st1, st2, upd, rg]
    | 2 => match j with
      | 0 | 1 | 2 | 3 | 4 | 5 | 6 | 7 => first | rfl | simp [al, st1, st2, upd, rg, *]
      | j + 8 => simp [al, st1, st2, upd, rg]
    | k + 6 => simp [al, st1, st2]
theorem al_p4 {v : Int32} : al (st2 c 4 4 v) rf tr = st2 (st2 (al c rf tr) 2 7 (hi v)) 2 6 (lo v) := by
  refine z_ext (fun j => ?_) (fun k j => ?_)
  · match j with
    | 0 | 1 | 2 | 3 | 4 | 5 | 6 | 7 | 8 | 9 | 10 | 11 | 12 | 13 => rfl
    | j + 14 => simp [al, st1, st2, upd]
  · match k with
    | 0 | 3 | 4 | 5 => rfl
    | 1 => match j with
      | 0 | 1 | 2 | 3 | 4 | 5 | 6 | 7 => first | rfl | simp [al, st1, st2, upd, rg, *]
      | j + 8 => simp [al, st1, st2, upd, rg]
    | 2 => match j with
      | 0 | 1 | 2 | 3 | 4 | 5 | 6 | 7 => first | rfl | simp [al, st1, st2, upd, rg, *]
      | j + 8 => simp [al, st1, st2, upd, rg]
    | k + 6 => simp [al, st1, st2]
theorem al_h0 {v : Int32} (hv : B8 v) : al (st2 c 4 0 ((v <<< ((8 : Int32) &&& 31)) ||| ((c.2 4 0) &&& (255 : Int32)))) rf tr = st2 (al c rf tr) 1 7 v := by
  have e1 := hi_wr (x := c.2 4 0) hv; have e2 := lo_wr (x := c.2 4 0) hv
  refine z_ext (fun j => ?_) (fun k j => ?_)
  · match j with
    | 0 | 1 | 2 | 3 | 4 | 5 | 6 | 7 | 8 | 9 | 10 | 11 | 12 | 13 => rfl
    | j + 14 => simp [al, st1, st2, upd]
  · match k with
    | 0 | 3 | 4 | 5 => rfl
    | 1 => match j with
      | 0 | 1 | 2 | 3 | 4 | 5 | 6 | 7 => first | rfl | simp [al, st1, st2, upd, rg, *]
      | j + 8 => simp [al, st1, st2, upd, rg]
    | 2 => match j with
      | 0 | 1 | 2 | 3 | 4 | 5 | 6 | 7 => first | rfl | simp [al, st1, st2, upd, rg, *]
      | j + 8 => simp [al, st1, st2, upd, rg]
    | k + 6 => simp [al, st1, st2]
theorem al_l0 {v : Int32} (hx : B16 (c.2 4 0)) (hv : B8 v) : al (st2 c 4 0 (((c.2 4 0) &&& (65280 : Int32)) ||| v)) rf tr = st2 (al c rf tr) 1 6 v := by
  have e1 := hi_wl hx hv; have e2 := lo_wl hx hv
  refine z_ext (fun j => ?_) (fun k j => ?_)
  · match j with
    | 0 | 1 | 2 | 3 | 4 | 5 | 6 | 7 | 8 | 9 | 10 | 11 | 12 | 13 => rfl
    | j + 14 => simp [al, st1, st2, upd]
  · match k with
    | 0 | 3 | 4 | 5 => rfl
    | 1 => match j with
      | 0 | 1 | 2 | 3 | 4 | 5 | 6 | 7 => first | rfl | simp [al, st1, st2, upd, rg, *]
      | j + 8 => simp [al, st1, st2, upd, rg]
    | 2 => match j with
      | 0 | 1 | 2 | 3 | 4 | 5 | 6 | 7 => first | rfl | simp [al, st1, st2, upd, rg, *]
      | j + 8 => simp [al, st1, st2, upd, rg]
    | k + 6 => simp [al, st1, st2]
theorem al_p1 {v : Int32} : al (st2 c 4 1 v) rf tr = st2 (st2 (al c rf tr) 1 0 (hi v)) 1 1 (lo v) := by
  refine z_ext (fun j => ?_) (fun k j => ?_)
  · match j with
    | 0 | 1 | 2 | 3 | 4 | 5 | 6 | 7 | 8 | 9 | 10 | 11 | 12 | 13 => rfl
    | j + 14 => simp [al, st1, st2, upd]
  · match k with
    | 0 | 3 | 4 | 5 => rfl
    | 1 => match j with
      | 0 | 1 | 2 | 3 | 4 | 5 | 6 | 7 => first | rfl | simp [al, st1, st2, upd, rg, *]
      | j + 8 => simp [al, st1, st2, upd, rg]
    | 2 => match j with
      | 0 | 1 | 2 | 3 | 4 | 5 | 6 | 7 => first | rfl | simp [al, st1, st2, upd, rg, *]
      | j + 8 => simp [al, st1, st2, upd, rg]
    | k + 6 => simp [al, st1, st2]
theorem al_p5 {v : Int32} : al (st2 c 4 5 v) rf tr = st2 (st2 (al c rf tr) 2 0 (hi v)) 2 1 (lo v) := by
  refine z_ext (fun j => ?_) (fun k j => ?_)
  · match j with
    | 0 | 1 | 2 | 3 | 4 | 5 | 6 | 7 | 8 | 9 | 10 | 11 | 12 | 13 => rfl
    | j + 14 => simp [al, st1, st2, upd]
  · match k with
    | 0 | 3 | 4 | 5 => rfl
    | 1 => match j with
      | 0 | 1 | 2 | 3 | 4 | 5 | 6 | 7 => first | rfl | simp [al, st1, st2, upd, rg, *]
      | j + 8 => simp [al, st1, st2, upd, rg]
    | 2 => match j with
      | 0 | 1 | 2 | 3 | 4 | 5 | 6 | 7 => first | rfl | simp [al, st1, st2, upd, rg, *]
      | j + 8 => simp [al, st1, st2, upd, rg]
    | k + 6 => simp [al, st1, st2]
theorem al_h1 {v : Int32} (hv : B8 v) : al (st2 c 4 1 ((v <<< ((8 : Int32) &&& 31)) ||| ((c.2 4 1) &&& (255 : Int32)))) rf tr = st2 (al c rf tr) 1 0 v := by
  have e1 := hi_wr (x := c.2 4 1) hv; have e2 := lo_wr (x := c.2 4 1) hv
  refine z_ext (fun j => ?_) (fun k j => ?_)
  · match j with
    | 0 | 1 | 2 | 3 | 4 | 5 | 6 | 7 | 8 | 9 | 10 | 11 | 12 | 13 => rfl
    | j + 14 => simp [al, st1, st2, upd]
  · match k with
    | 0 | 3 | 4 | 5 => rfl
    | 1 => match j with
      | 0 | 1 | 2 | 3 | 4 | 5 | 6 | 7 => first | rfl | simp [al, st1, st2, upd, rg, *]
      | j + 8 => simp [al, st1, st2, upd, rg]
    | 2 => match j with
      | 0 | 1 | 2 | 3 | 4 | 5 | 6 | 7 => first | rfl | simp [al, st1, st2, upd, rg, *]
      | j + 8 => simp [al, st1, st2, upd, rg]
    | k + 6 => simp [al, st1, st2]
theorem al_l1 {v : Int32} (hx : B16 (c.2 4 1)) (hv : B8 v) : al (st2 c 4 1 (((c.2 4 1) &&& (65280 : Int32)) ||| v)) rf tr = st2 (al c rf tr) 1 1 v := by
  have e1 := hi_wl hx hv; have e2 := lo_wl hx hv
  refine z_ext (fun j => ?_) (fun k j => ?_)
  · match j with
    | 0 | 1 | 2 | 3 | 4 | 5 | 6 | 7 | 8 | 9 | 10 | 11 | 12 | 13 => rfl
    | j + 14 => simp [al, st1, st2, upd]
  · match k with
    | 0 | 3 | 4 | 5 => rfl
    | 1 => match j with
      | 0 | 1 | 2 | 3 | 4 | 5 | 6 | 7 => first | rfl | simp [al, st1, st2, upd, rg, *]
      | j + 8 => simp [al, st1, st2, upd, rg]
    | 2 => match j with
      | 0 | 1 | 2 | 3 | 4 | 5 | 6 | 7 => first | rfl | simp [al, st1, st2, upd, rg, *]
      | j + 8 => simp [al, st1, st2, upd, rg]
    | k + 6 => simp [al, st1, st2]
theorem al_p2 {v : Int32} : al (st2 c 4 2 v) rf tr = st2 (st2 (al c rf tr) 1 2 (hi v)) 1 3 (lo v) := by
  refine z_ext (fun j => ?_) (fun k j => ?_)
  · match j with
    | 0 | 1 | 2 | 3 | 4 | 5 | 6 | 7 | 8 | 9 | 10 | 11 | 12 | 13 => rfl
    | j + 14 => simp [al, st1, st2, upd]
  · match k with
    | 0 | 3 | 4 | 5 => rfl
    | 1 => match j with
      | 0 | 1 | 2 | 3 | 4 | 5 | 6 | 7 => first | rfl | simp [al, st1, st2, upd, rg, *]
      | j + 8 => simp [al, st1, st2, upd, rg]
    | 2 => match j with
      | 0 | 1 | 2 | 3 | 4 | 5 | 6 | 7 => first | rfl | simp [al, st1, st2, upd, rg, *]
      | j + 8 => simp [al, st1, st2, upd, rg]
    | k + 6 => simp [al, st1, st2]
theorem al_p6 {v : Int32} : al (st2 c 4 6 v) rf tr = st2 (st2 (al c rf tr) 2 2 (hi v)) 2 3 (lo v) := by
  refine z_ext (fun j => ?_) (fun k j => ?_)
  · match j with
    | 0 | 1 | 2 | 3 | 4 | 5 | 6 | 7 | 8 | 9 | 10 | 11 | 12 | 13 => rfl
    | j + 14 => simp [al, st1, st2, upd]
  · match k with
    | 0 | 3 | 4 | 5 => rfl
    | 1 => match j with
      | 0 | 1 | 2 | 3 | 4 | 5 | 6 | 7 => first | rfl | simp [al, st1, st2, upd, rg, *]
      | j + 8 => simp [al, st1, st2, upd, rg]
    | 2 => match j with
      | 0 | 1 | 2 | 3 | 4 | 5 | 6 | 7 => first | rfl | simp [al, st1, st2, upd, rg, *]
      | j + 8 => simp [al, st1, st2, upd, rg]
    | k + 6 => simp [al, st1, st2]
theorem al_h2 {v : Int32} (hv : B8 v) : al (st2 c 4 2 ((v <<< ((8 : Int32) &&& 31)) ||| ((c.2 4 2) &&& (255 : Int32)))) rf tr = st2 (al c rf tr) 1 2 v := by
  have e1 := hi_wr (x := c.2 4 2) hv; have e2 := lo_wr (x := c.2 4 2) hv
  refine z_ext (fun j => ?_) (fun k j => ?_)
  · match j with
    | 0 | 1 | 2 | 3 | 4 | 5 | 6 | 7 | 8 | 9 | 10 | 11 | 12 | 13 => rfl
    | j + 14 => simp [al, st1, st2, upd]
  · match k with
    | 0 | 3 | 4 | 5 => rfl
    | 1 => match j with
      | 0 | 1 | 2 | 3 | 4 | 5 | 6 | 7 => first | rfl | simp [al, st1, st2, upd, rg, *]
      | j + 8 => simp [al, st1, st2, upd, rg]
    | 2 => match j with
      | 0 | 1 | 2 | 3 | 4 | 5 | 6 | 7 => first | rfl | simp [al, st1, st2, upd, rg, *]
      | j + 8 => simp [al, st1, st2, upd, rg]
    | k + 6 => simp [al, st1, st2]
theorem al_l2 {v : Int32} (hx : B16 (c.2 4 2)) (hv : B8 v) : al (st2 c 4 2 (((c.2 4 2) &&& (65280 : Int32)) ||| v)) rf tr = st2 (al c rf tr) 1 3 v := by
  have e1 := hi_wl hx hv; have e2 := lo_wl hx hv
  refine z_ext (fun j => ?_) (fun k j => ?_)
  · match j with
    | 0 | 1 | 2 | 3 | 4 | 5 | 6 | 7 | 8 | 9 | 10 | 11 | 12 | 13 => rfl
    | j + 14 => simp [al, st1, st2, upd]
  · match k with
    | 0 | 3 | 4 | 5 => rfl
    | 1 => match j with
      | 0 | 1 | 2 | 3 | 4 | 5 | 6 | 7 => first | rfl | simp [al, st1, st2, upd, rg, *]
      | j + 8 => simp [al, st1, st2, upd, rg]
    | 2 => match j with
      | 0 | 1 | 2 | 3 | 4 | 5 | 6 | 7 => first | rfl | simp [al, st1, st2, upd, rg, *]
      | j + 8 => simp [al, st1, st2, upd, rg]
    | k + 6 => simp [al, st1, st2]
theorem al_p3 {v : Int32} : al (st2 c 4 3 v) rf tr = st2 (st2 (al c rf tr) 1 4 (hi v)) 1 5 (lo v) := by
  refine z_ext (fun j => ?_) (fun k j => ?_)
  · match j with
    | 0 | 1 | 2 | 3 | 4 | 5 | 6 | 7 | 8 | 9 | 10 | 11 | 12 | 13 => rfl
    | j + 14 => simp [al, st1, st2, upd]
  · match k with
    | 0 | 3 | 4 | 5 => rfl
    | 1 => match j with
      | 0 | 1 | 2 | 3 | 4 | 5 | 6 | 7 => first | rfl | simp [al, st1, st2, upd, rg, *]
      | j + 8 => simp [al, st1, st2, upd, rg]
    | 2 => match j with
      | 0 | 1 | 2 | 3 | 4 | 5 | 6 | 7 => first | rfl | simp [al, st1, st2, upd, rg, *]
      | j + 8 => simp [al, st1, st2, upd, rg]
    | k + 6 => simp [al, st1, st2]
theorem al_p7 {v : Int32} : al (st2 c 4 7 v) rf tr = st2 (st2 (al c rf tr) 2 4 (hi v)) 2 5 (lo v) := by
  refine z_ext (fun j => ?_) (fun k j => ?_)
  · match j with
    | 0 | 1 | 2 | 3 | 4 | 5 | 6 | 7 | 8 | 9 | 10 | 11 | 12 | 13 => rfl
    | j + 14 => simp [al, st1, st2, upd]
  · match k with
    | 0 | 3 | 4 | 5 => rfl
    | 1 => match j with
      | 0 | 1 | 2 | 3 | 4 | 5 | 6 | 7 => first | rfl | simp [al, st1, st2, upd, rg, *]
      | j + 8 => simp [al, st1, st2, upd, rg]
    | 2 => match j with
      | 0 | 1 | 2 | 3 | 4 | 5 | 6 | 7 => first | rfl | simp [al, st1, st2, upd, rg, *]
      | j + 8 => simp [al, st1, st2, upd, rg]
    | k + 6 => simp [al, st1, st2]
theorem al_h3 {v : Int32} (hv : B8 v) : al (st2 c 4 3 ((v <<< ((8 : Int32) &&& 31)) ||| ((c.2 4 3) &&& (255 : Int32)))) rf tr = st2 (al c rf tr) 1 4 v := by
  have e1 := hi_wr (x := c.2 4 3) hv; have e2 := lo_wr (x := c.2 4 3) hv
  refine z_ext (fun j => ?_) (fun k j => ?_)
  · match j with
    | 0 | 1 | 2 | 3 | 4 | 5 | 6 | 7 | 8 | 9 | 10 | 11 | 12 | 13 => rfl
    | j + 14 => simp [al, st1, st2, upd]
  · match k with
    | 0 | 3 | 4 | 5 => rfl
    | 1 => match j with
      | 0 | 1 | 2 | 3 | 4 | 5 | 6 | 7 => first | rfl | simp [al, st1, st2, upd, rg, *]
      | j + 8 => simp [al, st1, st2, upd, rg]
    | 2 => match j with
      | 0 | 1 | 2 | 3 | 4 | 5 | 6 | 7 => first | rfl | simp [al, st1, st2, upd, rg, *]
      | j + 8 => simp [al, st1, st2, upd, rg]
    | k + 6 => simp [al, st1, st2]
theorem al_l3 {v : Int32} (hx : B16 (c.2 4 3)) (hv : B8 v) : al (st2 c 4 3 (((c.2 4 3) &&& (65280 : Int32)) ||| v)) rf tr = st2 (al c rf tr) 1 5 v := by
  have e1 := hi_wl hx hv; have e2 := lo_wl hx hv
  refine z_ext (fun j => ?_) (fun k j => ?_)
  · match j with
    | 0 | 1 | 2 | 3 | 4 | 5 | 6 | 7 | 8 | 9 | 10 | 11 | 12 | 13 => rfl
    | j + 14 => simp [al, st1, st2, upd]
  · match k with
    | 0 | 3 | 4 | 5 => rfl
    | 1 => match j with
      | 0 | 1 | 2 | 3 | 4 | 5 | 6 | 7 => first | rfl | simp [al, st1, st2, upd, rg, *]
      | j + 8 => simp [al, st1, st2, upd, rg]
    | 2 => match j with
      | 0 | 1 | 2 | 3 | 4 | 5 | 6 | 7 => first | rfl | simp [al, st1, st2, upd, rg, *]
      | j + 8 => simp [al, st1, st2, upd, rg]
    | k + 6 => simp [al, st1, st2]
end AL
