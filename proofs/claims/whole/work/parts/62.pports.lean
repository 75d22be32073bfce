/-! the ports, side by side -/
def tP (n t : Nat) : Nat := if n % 2 = 0 then tk t else t
theorem tP_le (n t : Nat) : t ≤ tP n t ∧ tP n t ≤ t + 6 := by
  have := tk_le t
  unfold tP
  split <;> omega
theorem nz_1 (n : Nat) : nI n &&& 1 = nI (n % 2) := by
  show nI n &&& nI 1 = _
  rw [nz_and, show (1 : Nat) = 2 ^ 1 - 1 from rfl, Nat.and_two_pow_sub_one_eq_mod]
section PO
variable {t : Nat} {rf : Int32 × (Int32 → Int32)} {tr : Int32} {c : zS}
theorem port_c (h : Iv t c) (hl : t < 2 ^ 31) {n : Nat} (hn : n < 256) : fX4_isWaitedFor (nI n) = some (if n % 2 = 0 then 1 else 0) ∧ ∀ r, r = (if n % 2 = 0 then (1 : Int32) else 0) → fX1_waitForPictureIf r c = some (st1 c 0 (nI (tP n t))) := by
  constructor
  · unfold fX4_isWaitedFor
    rw [nz_1, some_ite, if_cg (show (nI (n % 2) = 0) ↔ n % 2 = 0 from nI_eq (b := 0) (by omega) (by decide))]
  · intro r hr
    rw [wait_c h.1 hl, hr]
    unfold tP
    by_cases z : n % 2 = 0
    · rw [if_pos z, if_pos z, if_neg (by decide)]
    · rw [if_neg z, if_neg z, if_pos rfl]
theorem port_m (h : Iv t c) (hl : t < 2 ^ 31) {n : Nat} (hn : n < 256) : fX9_openPort (nI n) (al c rf tr) = some (al (st1 c 0 (nI (tP n t))) rf tr) := by
  unfold fX9_openPort tP
  rw [rem2 (by omega), delay_m (t := t) h.1 hl]
  have e : (nI (n % 2) = 0) ↔ n % 2 = 0 := nI_eq (b := 0) (by omega) (by decide)
  by_cases z : n % 2 = 0
  · rw [if_pos (e.mpr z), if_pos z, bd_s, al_s0]
  · rw [if_neg (mt e.mp z), if_neg z, st1_eq h.1]
/-- the speaker: the class's state behind it, and the reference's -/
def spkC (c : zS) (x : Int32) : zS := if x = c.1 2 then c else if (100 : Int32) ≤ c.1 3 then st1 (st1 c 2 x) 3 (c.1 3 + 1) else st1 (st2 (st1 c 2 x) 2 (c.1 3).toNatClampNeg (c.1 0)) 3 (c.1 3 + 1)
def spkM (m : zS) (x : Int32) : zS := if x = m.1 12 then m else if (100 : Int32) ≤ m.1 13 then st1 (st1 m 13 (m.1 13 + 1)) 12 x else st1 (st1 (st2 m 5 (m.1 13).toNatClampNeg (m.1 3)) 13 (m.1 13 + 1)) 12 x
theorem al_spk (x : Int32) : al (spkC c x) rf tr = spkM (al c rf tr) x := by
  unfold spkC spkM
  show _ = if x = c.1 2 then al c rf tr else if (100 : Int32) ≤ c.1 3 then st1 (st1 (al c rf tr) 13 (c.1 3 + 1)) 12 x else st1 (st1 (st2 (al c rf tr) 5 (c.1 3).toNatClampNeg (c.1 0)) 13 (c.1 3 + 1)) 12 x
  by_cases z : x = c.1 2
  · rw [if_pos z, if_pos z]
  · rw [if_neg z, if_neg z]
    by_cases y : (100 : Int32) ≤ c.1 3
    · rw [if_pos y, if_pos y, al_s3, al_s2, st1_comm (by decide)]
    · rw [if_neg y, if_neg y, al_s3, al_r2, al_s2, st12, st1_comm (by decide)]
theorem spk_gd {g : Nat} (hg : c.1 3 = nI g) (hl : g < 2 ^ 31) (y : ¬ (100 : Int32) ≤ c.1 3) : (0 : Int32) ≤ c.1 3 ∧ c.1 3 < 100 := by
  rw [hg] at y ⊢
  have : ¬ 100 ≤ g := mt (nI_leI (a := 100) (by decide) hl).mpr y
  exact ⟨nI_pos' hl, (nI_ltI (b := 100) hl (by decide)).mpr (by omega)⟩
theorem kept_l {x : Int32} (h : x < 0) : fX4_isKept x = some 0 := by
  unfold fX4_isKept
  rw [if_pos h]
theorem kept_g {x : Int32} (h : (100 : Int32) ≤ x) : fX4_isKept x = some 0 := by
  unfold fX4_isKept
  rw [if_pos h, ite_self]
theorem kept_y {x : Int32} (h0 : ¬ x < 0) (h1 : ¬ (100 : Int32) ≤ x) : fX4_isKept x = some 1 := by
  unfold fX4_isKept
  rw [if_neg h0, if_neg h1]
theorem spk_c {g : Nat} (hg : c.1 3 = nI g) (hl : g < 2 ^ 31) (x : Int32) : fX4_moveSpeaker x c = some (spkC c x) := by
  unfold fX4_moveSpeaker spkC
  by_cases z : x = c.1 2
  · rw [if_pos z, if_pos z]
  · rw [if_neg z, if_neg z]
    show bd (fX4_isKept (c.1 3)) _ = _
    by_cases y : (100 : Int32) ≤ c.1 3
    · rw [kept_g y, bd_s, if_pos rfl, if_pos y]; rfl
    · have q := spk_gd hg hl y
      rw [kept_y (show ¬ c.1 3 < 0 from fun w => absurd (Int32.lt_iff_toInt_lt.mp w) (Int.not_lt.mpr (Int32.le_iff_toInt_le.mp q.1))) y, bd_s, if_neg (by decide), if_neg y]
      show gd ((0 : Int32) ≤ c.1 3 ∧ c.1 3 < 100) _ = _
      unfold gd
      rw [if_pos q]; rfl
theorem Iv_spk (h : Iv t c) (x : Int32) {t' : Nat} (ht : t + 1 ≤ t') : Iv t' (st1 (spkC c x) 0 (nI t')) := by
  obtain ⟨h1, h2, h3, h4, ⟨g, hg, eg⟩, h6⟩ := h
  unfold spkC
  split
  · exact ⟨rfl, h2, h3, h4, ⟨g, by omega, eg⟩, h6⟩
  · split
    · exact ⟨rfl, h2, h3, h4, ⟨g + 1, by omega, by show c.1 3 + 1 = nI (g + 1); rw [eg]; exact nI_add g 1⟩, h6⟩
    · exact ⟨rfl, h2, h3, h4, ⟨g + 1, by omega, by show c.1 3 + 1 = nI (g + 1); rw [eg]; exact nI_add g 1⟩, h6⟩
theorem spk_0 (x : Int32) : (spkC c x).1 0 = c.1 0 := by
  unfold spkC
  split
  · rfl
  · split <;> rfl
theorem spk_3 (m : zS) (x : Int32) : (spkM m x).1 3 = m.1 3 := by
  unfold spkM
  split
  · rfl
  · split <;> rfl
theorem Iv.bd (h : Iv t c) (v : Int32) : Iv t (st1 c 1 v) := h
theorem s_output (h : Iv t c) (hl : t + 10 < 2 ^ 31) {n : Nat} (hn : n < 256) : SimS t 10 rf tr (fX4_output (nI n) (hi (c.2 4 0)) c) (fX9_send (nI n) (al c rf tr)) := by
  have l1 := tP_le n t
  have hp := port_c h (by omega) hn
  have h1 : Iv (tP n t) (st1 c 0 (nI (tP n t))) := h.t (by omega)
  unfold fX4_output fX9_send
  rw [hp.1, bd_s, hp.2 _ rfl, bd_s, port_m h (by omega) hn, bd_s]
  have e0 : hi (c.2 4 0) = hi ((st1 c 0 (nI (tP n t))).2 4 0) := rfl
  rw [e0]
  generalize st1 c 0 (nI (tP n t)) = c1 at h1 ⊢
  generalize tP n t = t1 at h1 l1 ⊢
  by_cases z : nI n = 254
  · rw [if_pos z, if_pos z]
    obtain ⟨g, hg, eg⟩ := h1.2.2.2.2.1
    have h2 : Iv t1 (st1 c1 1 (hi (c1.2 4 0) &&& 7)) := h1.bd _
    have eg2 : (st1 c1 1 (hi (c1.2 4 0) &&& 7)).1 3 = nI g := eg
    rw [spk_c eg2 (by omega), bd_s]
    simp only [nm, tn_7, alr_7]
    rw [← al_s1]
    rw [show (al (st1 c1 1 (hi (c1.2 4 0) &&& 7)) rf tr).2 1 7 = hi (c1.2 4 0) from rfl]
    generalize (hi (c1.2 4 0) >>> ((4 : Int32) &&& 31)) &&& 1 = x
    generalize st1 c1 1 (hi (c1.2 4 0) &&& 7) = c2 at h2 eg2 ⊢
    have em : (if x = (al c2 rf tr).1 12 then some (st1 (al c2 rf tr) 3 ((al c2 rf tr).1 3 + 4)) else if (100 : Int32) ≤ (al c2 rf tr).1 13 then some (st1 (st1 (st1 (al c2 rf tr) 13 ((al c2 rf tr).1 13 + 1)) 12 x) 3 ((st1 (st1 (al c2 rf tr) 13 ((al c2 rf tr).1 13 + 1)) 12 x).1 3 + 4)) else gd ((0 : Int32) ≤ (al c2 rf tr).1 13 ∧ (al c2 rf tr).1 13 < 100) (some (st1 (st1 (st1 (st2 (al c2 rf tr) 5 ((al c2 rf tr).1 13).toNatClampNeg ((al c2 rf tr).1 3)) 13 ((st2 (al c2 rf tr) 5 ((al c2 rf tr).1 13).toNatClampNeg ((al c2 rf tr).1 3)).1 13 + 1)) 12 x) 3 ((st1 (st1 (st2 (al c2 rf tr) 5 ((al c2 rf tr).1 13).toNatClampNeg ((al c2 rf tr).1 3)) 13 ((st2 (al c2 rf tr) 5 ((al c2 rf tr).1 13).toNatClampNeg ((al c2 rf tr).1 3)).1 13 + 1)) 12 x).1 3 + 4)))) = some (st1 (spkM (al c2 rf tr) x) 3 ((al c2 rf tr).1 3 + 4)) := by
      unfold spkM
      by_cases z1 : x = (al c2 rf tr).1 12
      · rw [if_pos z1, if_pos z1]
      · rw [if_neg z1, if_neg z1]
        by_cases y : (100 : Int32) ≤ (al c2 rf tr).1 13
        · rw [if_pos y, if_pos y]; rfl
        · rw [if_neg y, if_neg y]
          unfold gd
          rw [if_pos (show (0 : Int32) ≤ (al c2 rf tr).1 13 ∧ (al c2 rf tr).1 13 < 100 from spk_gd eg2 (by omega) y)]; rfl
    rw [em, ← al_spk, al_3, h2.1, show nI t1 + (4 : Int32) = nI (t1 + 4) from nI_add t1 4]
    have ep : fX1_pass (4 : Int32) (spkC c2 x) = some (st1 (spkC c2 x) 0 (nI (t1 + 4))) := by
      unfold fX1_pass
      rw [spk_0, h2.1, show nI t1 + (4 : Int32) = nI (t1 + 4) from nI_add t1 4]
    rw [ep, bd_s]
    exact ⟨t1 + 4, _, rfl, by rw [al_s0], Iv_spk h2 x (by omega), by omega, by omega⟩
  · rw [if_neg z, if_neg z, show fX1_pass (4 : Int32) c1 = some (st1 c1 0 (nI (t1 + 4))) from pass_c h1 4, bd_s, al_3, h1.1, show nI t1 + (4 : Int32) = nI (t1 + 4) from nI_add t1 4, ← al_s0]
    exact ⟨t1 + 4, _, rfl, rfl, h1.t (by omega), by omega, by omega⟩
/-! keys -/
def kst (A : Int32) (rw9 : Nat → Int32) (k : Nat) (v : Int32) : Int32 := if (A >>> (nI k &&& 31)) &&& 1 = 0 then v &&& rw9 k else v
theorem keys_c1 (n k : Nat) (hk : k < 8) (A v : Int32) (c : zS) : fX4_keysOf_L5 (n + 1) A v (nI k) c = fX4_keysOf_L5 n A (kst A (c.2 1) k v) (nI (k + 1)) c := by
  rw [fX4_keysOf_L5]
  have e1 : ¬ (8 : Int32) ≤ nI k := mt (nI_leI (a := 8) (by decide) (by omega)).mp (by omega)
  have hg : (0 : Int32) ≤ nI k ∧ nI k < 8 := ⟨nI_pos' (by omega), (nI_ltI (b := 8) (by omega) (by decide)).mpr hk⟩
  rw [if_neg e1]
  unfold kst
  simp only [nm, show nI k + (1 : Int32) = nI (k + 1) from nI_add k 1]
  by_cases z : (A >>> (nI k &&& 31)) &&& 1 = 0
  · rw [if_pos z, if_pos z]
    unfold gd
    rw [if_pos hg, nI_clamp (by omega)]
  · rw [if_neg z, if_neg z]
theorem keys_m1 (n k : Nat) (hk : k < 8) (p v : Int32) (m : zS) : fX9_receive_L21 (n + 1) p v (nI k) m = fX9_receive_L21 n p (kst (m.2 1 7) (m.2 3) k v) (nI (k + 1)) m := by
  rw [fX9_receive_L21]
  have e1 : ¬ (8 : Int32) ≤ nI k := mt (nI_leI (a := 8) (by decide) (by omega)).mp (by omega)
  have hg : (0 : Int32) ≤ nI k ∧ nI k < 8 := ⟨nI_pos' (by omega), (nI_ltI (b := 8) (by omega) (by decide)).mpr hk⟩
  rw [if_neg e1, tn_7]
  unfold kst
  simp only [nm, show nI k + (1 : Int32) = nI (k + 1) from nI_add k 1]
  by_cases z : (m.2 1 7 >>> (nI k &&& 31)) &&& 1 = 0
  · rw [if_pos z, if_pos z]
    unfold gd
    rw [if_pos hg, nI_clamp (by omega), bd_s]
  · rw [if_neg z, if_neg z, bd_s]
def kys (A : Int32) (r : Nat → Int32) : Int32 := kst A r 7 (kst A r 6 (kst A r 5 (kst A r 4 (kst A r 3 (kst A r 2 (kst A r 1 (kst A r 0 31)))))))
theorem keys_c (A : Int32) (c : zS) : fX4_keysOf A c = some (kys A (c.2 1), c) := by
  unfold fX4_keysOf
  show fX4_keysOf_L5 (19993 + 1 + 1 + 1 + 1 + 1 + 1 + 1 + 1) A 31 (nI 0) c = _
  rw [keys_c1 _ 0 (by omega), keys_c1 _ 1 (by omega), keys_c1 _ 2 (by omega), keys_c1 _ 3 (by omega), keys_c1 _ 4 (by omega), keys_c1 _ 5 (by omega), keys_c1 _ 6 (by omega), keys_c1 _ 7 (by omega)]
  show fX4_keysOf_L5 (19992 + 1) A _ (nI 8) c = _
  rw [fX4_keysOf_L5, if_pos (by decide)]
  rfl
theorem keys_m (p : Int32) (m : zS) : fX9_receive_L21 20001 p 31 0 m = fX9_receive_L65 20001 p (kys (m.2 1 7) (m.2 3)) 0 0 m := by
  show fX9_receive_L21 (19993 + 1 + 1 + 1 + 1 + 1 + 1 + 1 + 1) p 31 (nI 0) m = _
  rw [keys_m1 _ 0 (by omega), keys_m1 _ 1 (by omega), keys_m1 _ 2 (by omega), keys_m1 _ 3 (by omega), keys_m1 _ 4 (by omega), keys_m1 _ 5 (by omega), keys_m1 _ 6 (by omega), keys_m1 _ 7 (by omega)]
  show fX9_receive_L21 (19992 + 1) p _ (nI 8) m = _
  rw [fX9_receive_L21, if_pos (by decide)]
  rfl
/-! the tape -/
theorem ear_c {e b T : Nat} {f : Nat → Nat} (he : e ≤ 64) (hT : T < 2 ^ 31) (e9 : c.1 9 = nI e) (hf : ∀ i, i < e → c.2 3 i = nI (f i) ∧ f i < 2 ^ 31) (hb : b ≤ e) (h1 : ∀ i, i < b → f i < T) (h2 : b < e → T ≤ f b) :
    ∀ (n k : Nat), k ≤ b → b < n + k → fX7_ear_L2 n (nI T) (nI k) c = some (nI b &&& 1, c) := by
  intro n
  induction n with
  | zero => intro k hk hn; omega
  | succ n ih =>
    intro k hk hn
    rw [fX7_ear_L2, e9]
    have g1 : (nI e ≤ nI k) ↔ e ≤ k := nI_leI (by omega) (by omega)
    by_cases z : e ≤ k
    · rw [if_pos (g1.mpr z)]
      have : k = b := by omega
      rw [this]
    · rw [if_neg (mt g1.mp z)]
      unfold gd
      rw [if_pos ⟨nI_pos' (by omega), (nI_ltI (b := 64) (by omega) (by decide)).mpr (by omega)⟩, nI_clamp (by omega), (hf k (by omega)).1]
      have g2 : (nI T ≤ nI (f k)) ↔ T ≤ f k := nI_leI hT (hf k (by omega)).2
      by_cases y : T ≤ f k
      · rw [if_pos (g2.mpr y)]
        have : k = b := by
          rcases Nat.lt_or_ge k b with q | q
          · have := h1 k q; omega
          · omega
        rw [this]
      · rw [if_neg (mt g2.mp y)]
        have hkb : k < b := by
          rcases Nat.lt_or_ge k b with q | q
          · exact q
          · have : k = b := by omega
            subst this
            exact absurd (h2 (by omega)) y
        simp only [nm, show nI k + (1 : Int32) = nI (k + 1) from nI_add k 1]
        exact ih (k + 1) (by omega) (by omega)
theorem ear_m {m : zS} {e b T : Nat} {f : Nat → Nat} (he : e ≤ 64) (hT : T < 2 ^ 31) (e9 : m.1 10 = nI e) (e3 : m.1 3 = nI T) (hf : ∀ i, i < e → m.2 4 i = nI (f i) ∧ f i < 2 ^ 31) (hb : b ≤ e) (h1 : ∀ i, i < b → f i < T) (h2 : ∀ i, b ≤ i → i < e → T ≤ f i) (p v : Int32) :
    ∀ (n k : Nat), k ≤ e → e < n + k → fX9_receive_L65 n p v (nI (if k ≤ b then k else b)) (nI k) m = some (st2 (st1 m 3 (nI T + 4)) 1 7 ((v ||| 160) ||| (if b % 2 = 1 then 64 else 0))) := by
  intro n
  induction n with
  | zero => intro k hk hn; omega
  | succ n ih =>
    intro k hk hn
    rw [fX9_receive_L65, e9, e3]
    have g1 : (nI e ≤ nI k) ↔ e ≤ k := nI_leI (by omega) (by omega)
    by_cases z : e ≤ k
    · rw [if_pos (g1.mpr z)]
      have ek : (if k ≤ b then k else b) = b := by split <;> omega
      rw [ek, rem2 (by omega), bd_ite]
      simp only [nm, tn_7]
      rw [if_cg (show (nI (b % 2) = (1 : Int32)) ↔ b % 2 = 1 from nI_eq (b := 1) (by omega) (by decide))]
    · rw [if_neg (mt g1.mp z)]
      unfold gd
      rw [if_pos ⟨nI_pos' (by omega), (nI_ltI (b := 64) (by omega) (by decide)).mpr (by omega)⟩, nI_clamp (by omega), (hf k (by omega)).1, bd_ite]
      simp only [nm, show nI k + (1 : Int32) = nI (k + 1) from nI_add k 1, show nI (if k ≤ b then k else b) + (1 : Int32) = nI ((if k ≤ b then k else b) + 1) from nI_add _ 1]
      have g2 : (nI T ≤ nI (f k)) ↔ T ≤ f k := nI_leI hT (hf k (by omega)).2
      have ex : (if nI T ≤ nI (f k) then nI (if k ≤ b then k else b) else nI ((if k ≤ b then k else b) + 1)) = nI (if k + 1 ≤ b then k + 1 else b) := by
        rcases Nat.lt_or_ge k b with q | q
        · have := h1 k q
          rw [if_neg (mt g2.mp (by omega)), if_pos (by omega), if_pos (by omega)]
        · have := h2 k q (by omega)
          rw [if_pos (g2.mpr this)]
          congr 1
          split <;> split <;> omega
      rw [ex]
      exact ih (k + 1) (by omega) (by omega)
theorem firstGe (f : Nat → Nat) (T : Nat) : ∀ e, ∃ b, b ≤ e ∧ (∀ i, i < b → f i < T) ∧ (b < e → T ≤ f b) := by
  intro e
  induction e with
  | zero => exact ⟨0, Nat.le_refl _, fun i h => absurd h (by omega), fun h => absurd h (by omega)⟩
  | succ e ih =>
    obtain ⟨b, h1, h2, h3⟩ := ih
    rcases Nat.lt_or_ge b e with q | q
    · exact ⟨b, by omega, h2, fun _ => h3 q⟩
    · have : b = e := by omega
      subst this
      rcases Nat.lt_or_ge (f b) T with y | y
      · exact ⟨b + 1, Nat.le_refl _, fun i hi => by rcases Nat.lt_or_ge i b with w | w; exact h2 i w; have : i = b := by omega
                                                    subst this; exact y, fun h => absurd h (by omega)⟩
      · exact ⟨b, by omega, h2, fun _ => y⟩
theorem B8_kst {A v : Int32} {r : Nat → Int32} {k : Nat} (hv : B8 v) : B8 (kst A r k v) := B8_if (B8_ae hv) hv
theorem B8_kys (A : Int32) (r : Nat → Int32) : B8 (kys A r) := B8_kst (B8_kst (B8_kst (B8_kst (B8_kst (B8_kst (B8_kst (B8_kst (B8_n 31 (by omega)))))))))
theorem s_input (h : Iv t c) (hl : t + 10 < 2 ^ 31) {n : Nat} (hn : n < 256) : SimS t 10 rf tr (bd2 (fX4_input (nI n) (hi (c.2 4 0)) c) fun r8 s9 => bd (fX6_loadSingle (7 : Int32) r8 s9) fun s11 => some s11) (fX9_receive (nI n) (al c rf tr)) := by
  have l1 := tP_le n t
  have hp := port_c h (by omega) hn
  have h1 : Iv (tP n t) (st1 c 0 (nI (tP n t))) := h.t (by omega)
  unfold fX4_input fX9_receive
  rw [hp.1, bd_s, hp.2 _ rfl, bd_s, port_m h (by omega) hn, bd_s]
  have e0 : hi (c.2 4 0) = hi ((st1 c 0 (nI (tP n t))).2 4 0) := rfl
  rw [e0]
  generalize st1 c 0 (nI (tP n t)) = c1 at h1 ⊢
  generalize tP n t = t1 at h1 l1 ⊢
  have h2 := h1.t (t' := t1 + 4) (by omega)
  by_cases z : nI n = 254
  · rw [if_pos z, if_pos z, keys_m]
    obtain ⟨e, f, he, e9, hf, hs, -⟩ := h1.2.2.2.2.2
    obtain ⟨b, hb, b1, b2⟩ := firstGe f t1 e
    have hf' : ∀ i, i < e → c1.2 3 i = nI (f i) ∧ f i < 2 ^ 31 := fun i hi => ⟨(hf i hi).1, by have := (hf i hi).2; omega⟩
    have b3 : ∀ i, b ≤ i → i < e → t1 ≤ f i := fun i q1 q2 => by
      rcases Nat.lt_or_ge b i with q | q
      · have := hs b i q q2
        have := b2 (by omega)
        omega
      · have : b = i := by omega
        subst this; exact b2 q2
    have ec : fX7_ear (c1.1 0) c1 = some (nI b &&& 1, c1) := by
      unfold fX7_ear
      rw [h1.1]
      exact ear_c he (by omega) e9 hf' hb b1 b2 20001 0 (by omega) (by omega)
    have em : fX9_receive_L65 20001 (nI n) (kys ((al c1 rf tr).2 1 7) ((al c1 rf tr).2 3)) 0 0 (al c1 rf tr) = _ := ear_m (m := al c1 rf tr) he (by omega) e9 h1.1 hf' hb b1 b3 (nI n) (kys ((al c1 rf tr).2 1 7) ((al c1 rf tr).2 3)) 20001 0 (by omega) (by omega)
    rw [ec, bd2_s, keys_c, bd2_s, em]
    simp only [nm]
    rw [show fX1_pass (4 : Int32) c1 = some (st1 c1 0 (nI (t1 + 4))) from pass_c h1 4, bd_s, bd2_s, show nI t1 + (4 : Int32) = nI (t1 + 4) from nI_add t1 4, ← al_s0]
    have ev : ((160 : Int32) ||| ((nI b &&& 1) <<< ((6 : Int32) &&& 31))) ||| kys (hi (c1.2 4 0)) (c1.2 1) = (kys ((al c1 rf tr).2 1 7) ((al c1 rf tr).2 3) ||| 160) ||| (if b % 2 = 1 then 64 else 0) := by
      have e6 : (nI b &&& 1) <<< ((6 : Int32) &&& 31) = if b % 2 = 1 then (64 : Int32) else 0 := by
        rw [nz_1]
        rcases (show b % 2 = 0 ∨ b % 2 = 1 by omega) with q | q <;> rw [q] <;> rfl
      rw [e6]
      show ((160 : Int32) ||| (if b % 2 = 1 then (64 : Int32) else 0)) ||| kys (hi (c1.2 4 0)) (c1.2 1) = (kys (hi (c1.2 4 0)) (c1.2 1) ||| 160) ||| (if b % 2 = 1 then (64 : Int32) else 0)
      ac_rfl
    rw [ev]
    have hv : B8 ((kys ((al c1 rf tr).2 1 7) ((al c1 rf tr).2 3) ||| 160) ||| (if b % 2 = 1 then (64 : Int32) else 0)) := B8_or (B8_or (B8_kys _ _) (B8_n 160 (by omega))) (B8_if (B8_n 64 (by omega)) B8_0)
    obtain ⟨c', q1, q2, q3, -⟩ := lA (rf := rf) (tr := tr) h2 hv
    rw [q1, bd_s]
    exact ⟨t1 + 4, c', rfl, by rw [q2], q3, by omega, by omega⟩
  · rw [if_neg z, if_neg z, show fX1_pass (4 : Int32) c1 = some (st1 c1 0 (nI (t1 + 4))) from pass_c h1 4, bd_s, bd2_s, al_3, h1.1, show nI t1 + (4 : Int32) = nI (t1 + 4) from nI_add t1 4, ← al_s0, tn_7]
    obtain ⟨c', q1, q2, q3, -⟩ := lA (rf := rf) (tr := tr) h2 (B8_n 255 (by omega))
    have q1' : fX6_loadSingle (7 : Int32) (255 : Int32) (st1 c1 0 (nI (t1 + 4))) = some c' := q1
    rw [q1', bd_s]
    exact ⟨t1 + 4, c', rfl, by rw [q2]; rfl, q3, by omega, by omega⟩
end PO
