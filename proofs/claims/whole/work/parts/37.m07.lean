theorem dX9_peek_0 : decode cX9_peek 0 = .ok (.aload_n 0, 1) := by decide +kernel
theorem dX9_peek_1 : decode cX9_peek 1 = .ok (.iload_n 1, 1) := by decide +kernel
theorem dX9_peek_2 : decode cX9_peek 2 = .ok (.iconst 0, 1) := by decide +kernel
theorem dX9_peek_3 : decode cX9_peek 3 = .ok (.sipush 4095, 3) := by decide +kernel
theorem dX9_peek_6 : decode cX9_peek 6 = .ok (.invokestatic 35, 3) := by decide +kernel
theorem dX9_peek_9 : decode cX9_peek 9 = .ok (.ifCond .eq 7, 3) := by decide +kernel
theorem dX9_peek_12 : decode cX9_peek 12 = .ok (.iconst 0, 1) := by decide +kernel
theorem dX9_peek_13 : decode cX9_peek 13 = .ok (.goto 4, 3) := by decide +kernel
theorem dX9_peek_16 : decode cX9_peek 16 = .ok (.iconst 1, 1) := by decide +kernel
theorem dX9_peek_17 : decode cX9_peek 17 = .ok (.invokevirtual 218, 3) := by decide +kernel
theorem dX9_peek_20 : decode cX9_peek 20 = .ok (.ifCond .eq 5, 3) := by decide +kernel
theorem dX9_peek_23 : decode cX9_peek 23 = .ok (.iconst 0, 1) := by decide +kernel
theorem dX9_peek_24 : decode cX9_peek 24 = .ok (.ireturn, 1) := by decide +kernel
theorem dX9_peek_25 : decode cX9_peek 25 = .ok (.aload_n 0, 1) := by decide +kernel
theorem dX9_peek_26 : decode cX9_peek 26 = .ok (.getfield 7, 3) := by decide +kernel
theorem dX9_peek_29 : decode cX9_peek 29 = .ok (.iload_n 1, 1) := by decide +kernel
theorem dX9_peek_30 : decode cX9_peek 30 = .ok (.iaload, 1) := by decide +kernel
theorem dX9_peek_31 : decode cX9_peek 31 = .ok (.ireturn, 1) := by decide +kernel
def fX9_peek (p1 : Int32) (s0 : zS) : Option (Int32 × zS) := bd (fX9_isIn p1 (0 : Int32) (4095 : Int32)) fun r2 => bd (if r2 = (0 : Int32) then (some (1 : Int32)) else (some (0 : Int32))) fun x5 => bd2 (fX9_refused x5 s0) fun r8 s9 => if r8 = (0 : Int32) then (gd (0 ≤ p1 ∧ p1 < 4096) <| some ((s9.2 0 (p1.toNatClampNeg)), s9)) else (some ((0 : Int32), s9))
set_option maxHeartbeats 4000000 in
set_option maxRecDepth 100000 in
theorem cX9_peek_m {l : Launch} {dC : Nat → ClassId} {dI : Nat → Nat → Nat} {ad : Nat → Nat} {cI : ClassId} {p1 : Int32} {s0 : zS} {zr : Int32} {zs : zS} (h : fX9_peek p1 s0 = some (zr, zs)) : sw_Mi l yX9_peek (sw_ws yX9_peek cX9_peek 2 (some .int)) (sw_rm 1 22) (dC, dI) vwCl [(cI, .int)] mF [.ref (ad 0), .int p1] (mW ad cI s0) (mW ad cI zs) zr := by
  intro sz
  refine sw_of (cc := cX9_peek) (maxL := 2) (ret := (some .int)) (by decide) rfl (Nat.le_of_ble_eq_true rfl) ?_
  intro p e s m args below meth c A ls hAe hsz X _ hP hD hS hl
  rw [hAe]
  have hx := X.1.1
  have hb := X.1.2.1
  have hown := X.1.2.2.2.1
  have hts := X.1.2.2.2.2
  replace hl : lv_has ls 2 [(0, .ref (ad 0)), (1, .int p1)] := hl
  unfold fX9_peek at h
  refine lv_aload_n hx hb dX9_peek_0 rfl (lv_at hl 0 rfl) ?_
  refine lv_iload_n hx hb dX9_peek_1 rfl (lv_at hl 1 rfl) ?_
  refine lv_iconst (v := (0 : Int32)) hx hb dX9_peek_2 (by decide) ?_
  refine lv_sipush (v := (4095 : Int32)) hx hb dX9_peek_3 (by decide) ?_
  have hq := bd_some h; clear h; obtain ⟨r2, h1, h⟩ := hq
  refine sw_si (rest := [.ref (ad 0)]) m_good X (cX9_isIn_m h1) calX9_isIn k_826 hP hD hS ⟨rfl, rfl⟩ rfl hl.1 rfl (Nat.le_of_ble_eq_true rfl) dX9_peek_6 (fun H locs hP hD hS => ?_)
  have hq := bd_some h; clear h; obtain ⟨x5, h6, h⟩ := hq
  have K3 : ∀ (H : Heap) (locs : List Loc), va_P (dC, dI) vwCl (mW ad cI s0) H → va_D A (mW ad cI s0) → va_S A s.heap H locs → W p l e (sw_rm 1 22) s m args below meth c H locs 0 0 (MQ below (sw_Qi (dC, dI) vwCl [(cI, .int)] A (mW ad cI zs) zr) args s 0 0 A) (F0 m 17 ls [.int x5, .ref (ad 0)]) := by
    intro H locs hP hD hS
    have hq := bd2_some h; clear h; obtain ⟨r8, s9, h7, h⟩ := hq
    refine sw_vi (rest := []) m_good X (cX9_refused_m h7) calX9_refused k_829 hP hD hS 0 9 rfl rfl rfl ⟨rfl, rfl⟩ rfl hl.1 rfl (Nat.le_of_ble_eq_true rfl) dX9_peek_17 (fun H locs hP hD hS => ?_)
    refine lv_if_eq (tgt := 25) hx hb dX9_peek_20 (by decide) (fun c10 => ?_) (fun c10 => ?_)
    · replace h := if_yes h c10
      refine lv_aload_n hx hb dX9_peek_25 rfl (lv_at hl 0 rfl) ?_
      refine mg_0_1 X hP k_758 dX9_peek_26 ?_
      refine lv_iload_n hx hb dX9_peek_29 rfl (lv_at hl 1 rfl) ?_
      have hq := gd_some h; clear h; obtain ⟨c11, h⟩ := hq
      refine ml_0 X hP (vin_in c11 (by decide)) dX9_peek_30 ?_
      obtain ⟨rfl, rfl⟩ := Prod.mk.inj (Option.some.inj h)
      exact sw_iret X hP hD hS dX9_peek_31
    · replace h := if_no h c10
      refine lv_iconst (v := (0 : Int32)) hx hb dX9_peek_23 (by decide) ?_
      obtain ⟨rfl, rfl⟩ := Prod.mk.inj (Option.some.inj h)
      exact sw_iret X hP hD hS dX9_peek_24
  replace h := h6
  clear h6
  refine lv_if_eq (tgt := 16) hx hb dX9_peek_9 (by decide) (fun c4 => ?_) (fun c4 => ?_)
  · replace h := if_yes h c4
    refine lv_iconst (v := (1 : Int32)) hx hb dX9_peek_16 (by decide) ?_
    obtain rfl := Option.some.inj h
    exact K3 _ _ hP hD hS
  · replace h := if_no h c4
    refine lv_iconst (v := (0 : Int32)) hx hb dX9_peek_12 (by decide) ?_
    refine lv_goto (tgt := 17) hx hb dX9_peek_13 (by decide) ?_
    obtain rfl := Option.some.inj h
    exact K3 _ _ hP hD hS
theorem dX9_set_0 : decode cX9_set 0 = .ok (.aload_n 0, 1) := by decide +kernel
theorem dX9_set_1 : decode cX9_set 1 = .ok (.iload_n 1, 1) := by decide +kernel
theorem dX9_set_2 : decode cX9_set 2 = .ok (.iconst 0, 1) := by decide +kernel
theorem dX9_set_3 : decode cX9_set 3 = .ok (.bipush 9, 2) := by decide +kernel
theorem dX9_set_5 : decode cX9_set 5 = .ok (.invokestatic 35, 3) := by decide +kernel
theorem dX9_set_8 : decode cX9_set 8 = .ok (.ifCond .eq 17, 3) := by decide +kernel
theorem dX9_set_11 : decode cX9_set 11 = .ok (.iload_n 2, 1) := by decide +kernel
theorem dX9_set_12 : decode cX9_set 12 = .ok (.iconst 0, 1) := by decide +kernel
theorem dX9_set_13 : decode cX9_set 13 = .ok (.ldc 49, 2) := by decide +kernel
theorem dX9_set_15 : decode cX9_set 15 = .ok (.invokestatic 35, 3) := by decide +kernel
theorem dX9_set_18 : decode cX9_set 18 = .ok (.ifCond .eq 7, 3) := by decide +kernel
theorem dX9_set_21 : decode cX9_set 21 = .ok (.iconst 0, 1) := by decide +kernel
theorem dX9_set_22 : decode cX9_set 22 = .ok (.goto 4, 3) := by decide +kernel
theorem dX9_set_25 : decode cX9_set 25 = .ok (.iconst 1, 1) := by decide +kernel
theorem dX9_set_26 : decode cX9_set 26 = .ok (.invokevirtual 218, 3) := by decide +kernel
theorem dX9_set_29 : decode cX9_set 29 = .ok (.ifCond .eq 4, 3) := by decide +kernel
theorem dX9_set_32 : decode cX9_set 32 = .ok (.return_, 1) := by decide +kernel
theorem dX9_set_33 : decode cX9_set 33 = .ok (.iload_n 2, 1) := by decide +kernel
theorem dX9_set_34 : decode cX9_set 34 = .ok (.bipush 8, 2) := by decide +kernel
theorem dX9_set_36 : decode cX9_set 36 = .ok (.ishr, 1) := by decide +kernel
theorem dX9_set_37 : decode cX9_set 37 = .ok (.istore_n 3, 1) := by decide +kernel
theorem dX9_set_38 : decode cX9_set 38 = .ok (.iload_n 2, 1) := by decide +kernel
theorem dX9_set_39 : decode cX9_set 39 = .ok (.sipush 255, 3) := by decide +kernel
theorem dX9_set_42 : decode cX9_set 42 = .ok (.iand, 1) := by decide +kernel
theorem dX9_set_43 : decode cX9_set 43 = .ok (.istore 4, 2) := by decide +kernel
theorem dX9_set_45 : decode cX9_set 45 = .ok (.iload_n 1, 1) := by decide +kernel
theorem dX9_set_46 : decode cX9_set 46 = .ok (.tableswitch 123 0 9 #[54, 123, 123, 123, 78, 123, 123, 123, 102, 110], 54) := by decide +kernel
theorem dX9_set_100 : decode cX9_set 100 = .ok (.aload_n 0, 1) := by decide +kernel
theorem dX9_set_101 : decode cX9_set 101 = .ok (.getfield 13, 3) := by decide +kernel
theorem dX9_set_104 : decode cX9_set 104 = .ok (.bipush 7, 2) := by decide +kernel
theorem dX9_set_106 : decode cX9_set 106 = .ok (.iload_n 3, 1) := by decide +kernel
theorem dX9_set_107 : decode cX9_set 107 = .ok (.iastore, 1) := by decide +kernel
theorem dX9_set_108 : decode cX9_set 108 = .ok (.aload_n 0, 1) := by decide +kernel
theorem dX9_set_109 : decode cX9_set 109 = .ok (.getfield 13, 3) := by decide +kernel
theorem dX9_set_112 : decode cX9_set 112 = .ok (.bipush 6, 2) := by decide +kernel
theorem dX9_set_114 : decode cX9_set 114 = .ok (.iload 4, 2) := by decide +kernel
theorem dX9_set_116 : decode cX9_set 116 = .ok (.sipush 215, 3) := by decide +kernel
theorem dX9_set_119 : decode cX9_set 119 = .ok (.iand, 1) := by decide +kernel
theorem dX9_set_120 : decode cX9_set 120 = .ok (.iastore, 1) := by decide +kernel
theorem dX9_set_121 : decode cX9_set 121 = .ok (.goto 103, 3) := by decide +kernel
theorem dX9_set_124 : decode cX9_set 124 = .ok (.aload_n 0, 1) := by decide +kernel
theorem dX9_set_125 : decode cX9_set 125 = .ok (.getfield 16, 3) := by decide +kernel
theorem dX9_set_128 : decode cX9_set 128 = .ok (.bipush 7, 2) := by decide +kernel
theorem dX9_set_130 : decode cX9_set 130 = .ok (.iload_n 3, 1) := by decide +kernel
theorem dX9_set_131 : decode cX9_set 131 = .ok (.iastore, 1) := by decide +kernel
theorem dX9_set_132 : decode cX9_set 132 = .ok (.aload_n 0, 1) := by decide +kernel
theorem dX9_set_133 : decode cX9_set 133 = .ok (.getfield 16, 3) := by decide +kernel
theorem dX9_set_136 : decode cX9_set 136 = .ok (.bipush 6, 2) := by decide +kernel
theorem dX9_set_138 : decode cX9_set 138 = .ok (.iload 4, 2) := by decide +kernel
theorem dX9_set_140 : decode cX9_set 140 = .ok (.sipush 215, 3) := by decide +kernel
theorem dX9_set_143 : decode cX9_set 143 = .ok (.iand, 1) := by decide +kernel
theorem dX9_set_144 : decode cX9_set 144 = .ok (.iastore, 1) := by decide +kernel
theorem dX9_set_145 : decode cX9_set 145 = .ok (.goto 79, 3) := by decide +kernel
theorem dX9_set_148 : decode cX9_set 148 = .ok (.aload_n 0, 1) := by decide +kernel
theorem dX9_set_149 : decode cX9_set 149 = .ok (.iload_n 2, 1) := by decide +kernel
theorem dX9_set_150 : decode cX9_set 150 = .ok (.putfield 58, 3) := by decide +kernel
theorem dX9_set_153 : decode cX9_set 153 = .ok (.goto 71, 3) := by decide +kernel
theorem dX9_set_156 : decode cX9_set 156 = .ok (.aload_n 0, 1) := by decide +kernel
theorem dX9_set_157 : decode cX9_set 157 = .ok (.iload_n 2, 1) := by decide +kernel
theorem dX9_set_158 : decode cX9_set 158 = .ok (.putfield 46, 3) := by decide +kernel
theorem dX9_set_161 : decode cX9_set 161 = .ok (.aload_n 0, 1) := by decide +kernel
theorem dX9_set_162 : decode cX9_set 162 = .ok (.iconst 0, 1) := by decide +kernel
theorem dX9_set_163 : decode cX9_set 163 = .ok (.putfield 203, 3) := by decide +kernel
theorem dX9_set_166 : decode cX9_set 166 = .ok (.goto 58, 3) := by decide +kernel
theorem dX9_set_169 : decode cX9_set 169 = .ok (.iconst 2, 1) := by decide +kernel
theorem dX9_set_170 : decode cX9_set 170 = .ok (.iload_n 1, 1) := by decide +kernel
theorem dX9_set_171 : decode cX9_set 171 = .ok (.iconst 4, 1) := by decide +kernel
theorem dX9_set_172 : decode cX9_set 172 = .ok (.irem, 1) := by decide +kernel
theorem dX9_set_173 : decode cX9_set 173 = .ok (.iconst 1, 1) := by decide +kernel
theorem dX9_set_174 : decode cX9_set 174 = .ok (.isub, 1) := by decide +kernel
theorem dX9_set_175 : decode cX9_set 175 = .ok (.imul, 1) := by decide +kernel
theorem dX9_set_176 : decode cX9_set 176 = .ok (.istore 5, 2) := by decide +kernel
theorem dX9_set_178 : decode cX9_set 178 = .ok (.iload_n 1, 1) := by decide +kernel
theorem dX9_set_179 : decode cX9_set 179 = .ok (.iconst 4, 1) := by decide +kernel
theorem dX9_set_180 : decode cX9_set 180 = .ok (.if_icmp .ge 25, 3) := by decide +kernel
theorem dX9_set_183 : decode cX9_set 183 = .ok (.aload_n 0, 1) := by decide +kernel
theorem dX9_set_184 : decode cX9_set 184 = .ok (.getfield 13, 3) := by decide +kernel
theorem dX9_set_187 : decode cX9_set 187 = .ok (.iload 5, 2) := by decide +kernel
theorem dX9_set_189 : decode cX9_set 189 = .ok (.iload_n 3, 1) := by decide +kernel
theorem dX9_set_190 : decode cX9_set 190 = .ok (.iastore, 1) := by decide +kernel
theorem dX9_set_191 : decode cX9_set 191 = .ok (.aload_n 0, 1) := by decide +kernel
theorem dX9_set_192 : decode cX9_set 192 = .ok (.getfield 13, 3) := by decide +kernel
theorem dX9_set_195 : decode cX9_set 195 = .ok (.iload 5, 2) := by decide +kernel
theorem dX9_set_197 : decode cX9_set 197 = .ok (.iconst 1, 1) := by decide +kernel
theorem dX9_set_198 : decode cX9_set 198 = .ok (.iadd, 1) := by decide +kernel
theorem dX9_set_199 : decode cX9_set 199 = .ok (.iload 4, 2) := by decide +kernel
theorem dX9_set_201 : decode cX9_set 201 = .ok (.iastore, 1) := by decide +kernel
theorem dX9_set_202 : decode cX9_set 202 = .ok (.goto 22, 3) := by decide +kernel
theorem dX9_set_205 : decode cX9_set 205 = .ok (.aload_n 0, 1) := by decide +kernel
theorem dX9_set_206 : decode cX9_set 206 = .ok (.getfield 16, 3) := by decide +kernel
theorem dX9_set_209 : decode cX9_set 209 = .ok (.iload 5, 2) := by decide +kernel
theorem dX9_set_211 : decode cX9_set 211 = .ok (.iload_n 3, 1) := by decide +kernel
theorem dX9_set_212 : decode cX9_set 212 = .ok (.iastore, 1) := by decide +kernel
theorem dX9_set_213 : decode cX9_set 213 = .ok (.aload_n 0, 1) := by decide +kernel
theorem dX9_set_214 : decode cX9_set 214 = .ok (.getfield 16, 3) := by decide +kernel
theorem dX9_set_217 : decode cX9_set 217 = .ok (.iload 5, 2) := by decide +kernel
theorem dX9_set_219 : decode cX9_set 219 = .ok (.iconst 1, 1) := by decide +kernel
theorem dX9_set_220 : decode cX9_set 220 = .ok (.iadd, 1) := by decide +kernel
theorem dX9_set_221 : decode cX9_set 221 = .ok (.iload 4, 2) := by decide +kernel
theorem dX9_set_223 : decode cX9_set 223 = .ok (.iastore, 1) := by decide +kernel
theorem dX9_set_224 : decode cX9_set 224 = .ok (.return_, 1) := by decide +kernel
def fX9_set (p1 p2 : Int32) (s0 : zS) : Option (zS) := bd (fX9_isIn p1 (0 : Int32) (9 : Int32)) fun r2 => bd (if r2 = (0 : Int32) then (some (1 : Int32)) else (bd (fX9_isIn p2 (0 : Int32) (65535 : Int32)) fun r6 => bd (if r6 = (0 : Int32) then (some (1 : Int32)) else (some (0 : Int32))) fun x9 => some x9)) fun x11 => bd2 (fX9_refused x11 s0) fun r14 s15 => if r14 = (0 : Int32) then (nm (p2 >>> ((8 : Int32) &&& 31)) fun x17 => nm (p2 &&& (255 : Int32)) fun x18 => if p1 ∈ ([(0 : Int32)] : List Int32) then (some (st2 (st2 s15 1 ((7 : Int32).toNatClampNeg) x17) 1 ((6 : Int32).toNatClampNeg) (x18 &&& (215 : Int32)))) else if p1 ∈ ([(4 : Int32)] : List Int32) then (some (st2 (st2 s15 2 ((7 : Int32).toNatClampNeg) x17) 2 ((6 : Int32).toNatClampNeg) (x18 &&& (215 : Int32)))) else if p1 ∈ ([(8 : Int32)] : List Int32) then (some (st1 s15 1 p2)) else if p1 ∈ ([(9 : Int32)] : List Int32) then (some (st1 (st1 s15 2 p2) 4 (0 : Int32))) else (nm ((2 : Int32) * ((p1 - p1 / (4 : Int32) * (4 : Int32)) - (1 : Int32))) fun x23 => if (4 : Int32) ≤ p1 then (gd (0 ≤ x23 ∧ x23 < 8) <| gd (0 ≤ (x23 + (1 : Int32)) ∧ (x23 + (1 : Int32)) < 8) <| some (st2 (st2 s15 2 (x23.toNatClampNeg) x17) 2 ((x23 + (1 : Int32)).toNatClampNeg) x18)) else (gd (0 ≤ x23 ∧ x23 < 8) <| gd (0 ≤ (x23 + (1 : Int32)) ∧ (x23 + (1 : Int32)) < 8) <| some (st2 (st2 s15 1 (x23.toNatClampNeg) x17) 1 ((x23 + (1 : Int32)).toNatClampNeg) x18)))) else (some s15)
set_option maxHeartbeats 4000000 in
set_option maxRecDepth 100000 in
theorem cX9_set_m {l : Launch} {dC : Nat → ClassId} {dI : Nat → Nat → Nat} {ad : Nat → Nat} {cI : ClassId} {p1 p2 : Int32} {s0 : zS} {zs : zS} (h : fX9_set p1 p2 s0 = some zs) : sw_Mv l yX9_set (sw_ws yX9_set cX9_set 6 none) (sw_rm 1 22) (dC, dI) vwCl [(cI, .int)] mF [.ref (ad 0), .int p1, .int p2] (mW ad cI s0) (mW ad cI zs) := by
  intro sz
  refine sw_of (cc := cX9_set) (maxL := 6) (ret := none) (by decide) rfl (Nat.le_of_ble_eq_true rfl) ?_
  intro p e s m args below meth c A ls hAe hsz X _ hP hD hS hl
  rw [hAe]
  have hx := X.1.1
  have hb := X.1.2.1
  have hown := X.1.2.2.2.1
  have hts := X.1.2.2.2.2
  replace hl : lv_has ls 6 [(0, .ref (ad 0)), (1, .int p1), (2, .int p2)] := hl
  unfold fX9_set at h
  refine lv_aload_n hx hb dX9_set_0 rfl (lv_at hl 0 rfl) ?_
  refine lv_iload_n hx hb dX9_set_1 rfl (lv_at hl 1 rfl) ?_
  refine lv_iconst (v := (0 : Int32)) hx hb dX9_set_2 (by decide) ?_
  refine lv_bipush (v := (9 : Int32)) hx hb dX9_set_3 (by decide) ?_
  have hq := bd_some h; clear h; obtain ⟨r2, h1, h⟩ := hq
  refine sw_si (rest := [.ref (ad 0)]) m_good X (cX9_isIn_m h1) calX9_isIn k_826 hP hD hS ⟨rfl, rfl⟩ rfl hl.1 rfl (Nat.le_of_ble_eq_true rfl) dX9_set_5 (fun H locs hP hD hS => ?_)
  have hq := bd_some h; clear h; obtain ⟨x11, h12, h⟩ := hq
  have K3 : ∀ (H : Heap) (locs : List Loc), va_P (dC, dI) vwCl (mW ad cI s0) H → va_D A (mW ad cI s0) → va_S A s.heap H locs → W p l e (sw_rm 1 22) s m args below meth c H locs 0 0 (MQ below (sw_Qv (dC, dI) vwCl [(cI, .int)] A (mW ad cI zs)) args s 0 0 A) (F0 m 26 ls [.int x11, .ref (ad 0)]) := by
    intro H locs hP hD hS
    have hq := bd2_some h; clear h; obtain ⟨r14, s15, h13, h⟩ := hq
    refine sw_vi (rest := []) m_good X (cX9_refused_m h13) calX9_refused k_829 hP hD hS 0 9 rfl rfl rfl ⟨rfl, rfl⟩ rfl hl.1 rfl (Nat.le_of_ble_eq_true rfl) dX9_set_26 (fun H locs hP hD hS => ?_)
    refine lv_if_eq (tgt := 33) hx hb dX9_set_29 (by decide) (fun c16 => ?_) (fun c16 => ?_)
    · replace h := if_yes h c16
      refine lv_iload_n hx hb dX9_set_33 rfl (lv_at hl 2 rfl) ?_
      refine lv_bipush (v := (8 : Int32)) hx hb dX9_set_34 (by decide) ?_
      refine lv_ishr hx hb dX9_set_36 ?_
      refine lv_topi (fun x17 ex17 => ?_)
      replace h := nm_use ex17 h
      refine lv_istore_n (lv' := [(3, .int x17), (0, .ref (ad 0)), (1, .int p1), (2, .int p2)]) hx hb dX9_set_37 rfl hl (by decide) rfl (fun ls hl => ?_)
      refine lv_iload_n hx hb dX9_set_38 rfl (lv_at hl 3 rfl) ?_
      refine lv_sipush (v := (255 : Int32)) hx hb dX9_set_39 (by decide) ?_
      refine lv_iand hx hb dX9_set_42 ?_
      refine lv_topi (fun x18 ex18 => ?_)
      replace h := nm_use ex18 h
      refine lv_istore (lv' := [(4, .int x18), (3, .int x17), (0, .ref (ad 0)), (1, .int p1), (2, .int p2)]) hx hb dX9_set_43 hl (by decide) rfl (fun ls hl => ?_)
      refine lv_iload_n hx hb dX9_set_45 rfl (lv_at hl 3 rfl) ?_
      by_cases c19 : p1 ∈ ([(0 : Int32)] : List Int32)
      · replace h := if_yes h c19
        refine sw_tabK (tgt := 100) (off := 54) hx hb dX9_set_46 _ c19 (by decide +kernel) (by decide) ?_
        refine lv_aload_n hx hb dX9_set_100 rfl (lv_at hl 2 rfl) ?_
        refine mg_0_2 X hP k_759 dX9_set_101 ?_
        refine lv_bipush (v := (7 : Int32)) hx hb dX9_set_104 (by decide) ?_
        refine lv_iload_n hx hb dX9_set_106 rfl (lv_at hl 1 rfl) ?_
        refine mb_1 X hP hD hS (vin_in (i := (7 : Int32)) (n := 8) (by decide) (by decide)) dX9_set_107 (fun H locs hP hD hS => ?_)
        refine lv_aload_n hx hb dX9_set_108 rfl (lv_at hl 2 rfl) ?_
        refine mg_0_2 X hP k_759 dX9_set_109 ?_
        refine lv_bipush (v := (6 : Int32)) hx hb dX9_set_112 (by decide) ?_
        refine lv_iload hx hb dX9_set_114 (lv_at hl 0 rfl) ?_
        refine lv_sipush (v := (215 : Int32)) hx hb dX9_set_116 (by decide) ?_
        refine lv_iand hx hb dX9_set_119 ?_
        refine mb_1 X hP hD hS (vin_in (i := (6 : Int32)) (n := 8) (by decide) (by decide)) dX9_set_120 (fun H locs hP hD hS => ?_)
        refine lv_goto (tgt := 224) hx hb dX9_set_121 (by decide) ?_
        obtain rfl := Option.some.inj h
        exact sw_vret X hP hD hS dX9_set_224
      · replace h := if_no h c19
        by_cases c20 : p1 ∈ ([(4 : Int32)] : List Int32)
        · replace h := if_yes h c20
          refine sw_tabK (tgt := 124) (off := 78) hx hb dX9_set_46 _ c20 (by decide +kernel) (by decide) ?_
          refine lv_aload_n hx hb dX9_set_124 rfl (lv_at hl 2 rfl) ?_
          refine mg_0_3 X hP k_760 dX9_set_125 ?_
          refine lv_bipush (v := (7 : Int32)) hx hb dX9_set_128 (by decide) ?_
          refine lv_iload_n hx hb dX9_set_130 rfl (lv_at hl 1 rfl) ?_
          refine mb_2 X hP hD hS (vin_in (i := (7 : Int32)) (n := 8) (by decide) (by decide)) dX9_set_131 (fun H locs hP hD hS => ?_)
          refine lv_aload_n hx hb dX9_set_132 rfl (lv_at hl 2 rfl) ?_
          refine mg_0_3 X hP k_760 dX9_set_133 ?_
          refine lv_bipush (v := (6 : Int32)) hx hb dX9_set_136 (by decide) ?_
          refine lv_iload hx hb dX9_set_138 (lv_at hl 0 rfl) ?_
          refine lv_sipush (v := (215 : Int32)) hx hb dX9_set_140 (by decide) ?_
          refine lv_iand hx hb dX9_set_143 ?_
          refine mb_2 X hP hD hS (vin_in (i := (6 : Int32)) (n := 8) (by decide) (by decide)) dX9_set_144 (fun H locs hP hD hS => ?_)
          refine lv_goto (tgt := 224) hx hb dX9_set_145 (by decide) ?_
          obtain rfl := Option.some.inj h
          exact sw_vret X hP hD hS dX9_set_224
        · replace h := if_no h c20
          by_cases c21 : p1 ∈ ([(8 : Int32)] : List Int32)
          · replace h := if_yes h c21
            refine sw_tabK (tgt := 148) (off := 102) hx hb dX9_set_46 _ c21 (by decide +kernel) (by decide) ?_
            refine lv_aload_n hx hb dX9_set_148 rfl (lv_at hl 2 rfl) ?_
            refine lv_iload_n hx hb dX9_set_149 rfl (lv_at hl 4 rfl) ?_
            refine mp_0_4 X hP hD hS k_761 dX9_set_150 (fun H locs hP hD hS => ?_)
            refine lv_goto (tgt := 224) hx hb dX9_set_153 (by decide) ?_
            obtain rfl := Option.some.inj h
            exact sw_vret X hP hD hS dX9_set_224
          · replace h := if_no h c21
            by_cases c22 : p1 ∈ ([(9 : Int32)] : List Int32)
            · replace h := if_yes h c22
              refine sw_tabK (tgt := 156) (off := 110) hx hb dX9_set_46 _ c22 (by decide +kernel) (by decide) ?_
              refine lv_aload_n hx hb dX9_set_156 rfl (lv_at hl 2 rfl) ?_
              refine lv_iload_n hx hb dX9_set_157 rfl (lv_at hl 4 rfl) ?_
              refine mp_0_5 X hP hD hS k_762 dX9_set_158 (fun H locs hP hD hS => ?_)
              refine lv_aload_n hx hb dX9_set_161 rfl (lv_at hl 2 rfl) ?_
              refine lv_iconst (v := (0 : Int32)) hx hb dX9_set_162 (by decide) ?_
              refine mp_0_7 X hP hD hS k_764 (by decide) dX9_set_163 (fun H locs hP hD hS => ?_)
              refine lv_goto (tgt := 224) hx hb dX9_set_166 (by decide) ?_
              obtain rfl := Option.some.inj h
              exact sw_vret X hP hD hS dX9_set_224
            · replace h := if_no h c22
              refine sw_tabD (tgt := 169) hx hb dX9_set_46 (([(0 : Int32)] : List Int32) ++ (([(4 : Int32)] : List Int32) ++ (([(8 : Int32)] : List Int32) ++ ([(9 : Int32)] : List Int32)))) (fun hm => (List.mem_append.mp hm).elim c19 (fun hm => (List.mem_append.mp hm).elim c20 (fun hm => (List.mem_append.mp hm).elim c21 c22))) (by decide +kernel) (by decide) ?_
              refine lv_iconst (v := (2 : Int32)) hx hb dX9_set_169 (by decide) ?_
              refine lv_iload_n hx hb dX9_set_170 rfl (lv_at hl 3 rfl) ?_
              refine lv_iconst (v := (4 : Int32)) hx hb dX9_set_171 (by decide) ?_
              refine lv_irem hx hb dX9_set_172 (by decide) ?_
              refine lv_iconst (v := (1 : Int32)) hx hb dX9_set_173 (by decide) ?_
              refine lv_isub hx hb dX9_set_174 ?_
              refine lv_imul hx hb dX9_set_175 ?_
              refine lv_topi (fun x23 ex23 => ?_)
              replace h := nm_use ex23 h
              refine lv_istore (lv' := [(5, .int x23), (4, .int x18), (3, .int x17), (0, .ref (ad 0)), (1, .int p1), (2, .int p2)]) hx hb dX9_set_176 hl (by decide) rfl (fun ls hl => ?_)
              refine lv_iload_n hx hb dX9_set_178 rfl (lv_at hl 4 rfl) ?_
              refine lv_iconst (v := (4 : Int32)) hx hb dX9_set_179 (by decide) ?_
              refine lv_icmp_ge (tgt := 205) hx hb dX9_set_180 (by decide) (fun c24 => ?_) (fun c24 => ?_)
              · replace h := if_yes h c24
                refine lv_aload_n hx hb dX9_set_205 rfl (lv_at hl 3 rfl) ?_
                refine mg_0_3 X hP k_760 dX9_set_206 ?_
                refine lv_iload hx hb dX9_set_209 (lv_at hl 0 rfl) ?_
                refine lv_iload_n hx hb dX9_set_211 rfl (lv_at hl 2 rfl) ?_
                have hq := gd_some h; clear h; obtain ⟨c25, h⟩ := hq
                refine mb_2 X hP hD hS (vin_in c25 (by decide)) dX9_set_212 (fun H locs hP hD hS => ?_)
                refine lv_aload_n hx hb dX9_set_213 rfl (lv_at hl 3 rfl) ?_
                refine mg_0_3 X hP k_760 dX9_set_214 ?_
                refine lv_iload hx hb dX9_set_217 (lv_at hl 0 rfl) ?_
                refine lv_iconst (v := (1 : Int32)) hx hb dX9_set_219 (by decide) ?_
                refine lv_iadd hx hb dX9_set_220 ?_
                refine lv_iload hx hb dX9_set_221 (lv_at hl 1 rfl) ?_
                have hq := gd_some h; clear h; obtain ⟨c26, h⟩ := hq
                refine mb_2 X hP hD hS (vin_in c26 (by decide)) dX9_set_223 (fun H locs hP hD hS => ?_)
                obtain rfl := Option.some.inj h
                exact sw_vret X hP hD hS dX9_set_224
              · replace h := if_no h c24
                refine lv_aload_n hx hb dX9_set_183 rfl (lv_at hl 3 rfl) ?_
                refine mg_0_2 X hP k_759 dX9_set_184 ?_
                refine lv_iload hx hb dX9_set_187 (lv_at hl 0 rfl) ?_
                refine lv_iload_n hx hb dX9_set_189 rfl (lv_at hl 2 rfl) ?_
                have hq := gd_some h; clear h; obtain ⟨c27, h⟩ := hq
                refine mb_1 X hP hD hS (vin_in c27 (by decide)) dX9_set_190 (fun H locs hP hD hS => ?_)
                refine lv_aload_n hx hb dX9_set_191 rfl (lv_at hl 3 rfl) ?_
                refine mg_0_2 X hP k_759 dX9_set_192 ?_
                refine lv_iload hx hb dX9_set_195 (lv_at hl 0 rfl) ?_
                refine lv_iconst (v := (1 : Int32)) hx hb dX9_set_197 (by decide) ?_
                refine lv_iadd hx hb dX9_set_198 ?_
                refine lv_iload hx hb dX9_set_199 (lv_at hl 1 rfl) ?_
                have hq := gd_some h; clear h; obtain ⟨c28, h⟩ := hq
                refine mb_1 X hP hD hS (vin_in c28 (by decide)) dX9_set_201 (fun H locs hP hD hS => ?_)
                refine lv_goto (tgt := 224) hx hb dX9_set_202 (by decide) ?_
                obtain rfl := Option.some.inj h
                exact sw_vret X hP hD hS dX9_set_224
    · replace h := if_no h c16
      obtain rfl := Option.some.inj h
      exact sw_vret X hP hD hS dX9_set_32
  replace h := h12
  clear h12
  refine lv_if_eq (tgt := 25) hx hb dX9_set_8 (by decide) (fun c4 => ?_) (fun c4 => ?_)
  · replace h := if_yes h c4
    refine lv_iconst (v := (1 : Int32)) hx hb dX9_set_25 (by decide) ?_
    obtain rfl := Option.some.inj h
    exact K3 _ _ hP hD hS
  · replace h := if_no h c4
    refine lv_iload_n hx hb dX9_set_11 rfl (lv_at hl 2 rfl) ?_
    refine lv_iconst (v := (0 : Int32)) hx hb dX9_set_12 (by decide) ?_
    refine lv_ldc (v := 65535) hx hb hown (hts _ (List.mem_cons_of_mem _ k_841)) dX9_set_13 ?_
    have hq := bd_some h; clear h; obtain ⟨r6, h5, h⟩ := hq
    refine sw_si (rest := [.ref (ad 0)]) m_good X (cX9_isIn_m h5) calX9_isIn k_826 hP hD hS ⟨rfl, rfl⟩ rfl hl.1 rfl (Nat.le_of_ble_eq_true rfl) dX9_set_15 (fun H locs hP hD hS => ?_)
    have hq := bd_some h; clear h; obtain ⟨x9, h10, h⟩ := hq
    have K7 : ∀ (H : Heap) (locs : List Loc), va_P (dC, dI) vwCl (mW ad cI s0) H → va_D A (mW ad cI s0) → va_S A s.heap H locs → W p l e (sw_rm 1 22) s m args below meth c H locs 0 0 (MQ below (sw_Qv (dC, dI) vwCl [(cI, .int)] A (mW ad cI zs)) args s 0 0 A) (F0 m 26 ls [.int x9, .ref (ad 0)]) := by
      intro H locs hP hD hS
      obtain rfl := Option.some.inj h
      exact K3 _ _ hP hD hS
    replace h := h10
    clear h10
    refine lv_if_eq (tgt := 25) hx hb dX9_set_18 (by decide) (fun c8 => ?_) (fun c8 => ?_)
    · replace h := if_yes h c8
      refine lv_iconst (v := (1 : Int32)) hx hb dX9_set_25 (by decide) ?_
      obtain rfl := Option.some.inj h
      exact K7 _ _ hP hD hS
    · replace h := if_no h c8
      refine lv_iconst (v := (0 : Int32)) hx hb dX9_set_21 (by decide) ?_
      refine lv_goto (tgt := 26) hx hb dX9_set_22 (by decide) ?_
      obtain rfl := Option.some.inj h
      exact K7 _ _ hP hD hS
theorem dX9_get_0 : decode cX9_get 0 = .ok (.aload_n 0, 1) := by decide +kernel
theorem dX9_get_1 : decode cX9_get 1 = .ok (.iload_n 1, 1) := by decide +kernel
theorem dX9_get_2 : decode cX9_get 2 = .ok (.iconst 0, 1) := by decide +kernel
theorem dX9_get_3 : decode cX9_get 3 = .ok (.bipush 9, 2) := by decide +kernel
theorem dX9_get_5 : decode cX9_get 5 = .ok (.invokestatic 35, 3) := by decide +kernel
theorem dX9_get_8 : decode cX9_get 8 = .ok (.ifCond .eq 7, 3) := by decide +kernel
theorem dX9_get_11 : decode cX9_get 11 = .ok (.iconst 0, 1) := by decide +kernel
theorem dX9_get_12 : decode cX9_get 12 = .ok (.goto 4, 3) := by decide +kernel
theorem dX9_get_15 : decode cX9_get 15 = .ok (.iconst 1, 1) := by decide +kernel
theorem dX9_get_16 : decode cX9_get 16 = .ok (.invokevirtual 218, 3) := by decide +kernel
theorem dX9_get_19 : decode cX9_get 19 = .ok (.ifCond .eq 5, 3) := by decide +kernel
theorem dX9_get_22 : decode cX9_get 22 = .ok (.iconst 0, 1) := by decide +kernel
theorem dX9_get_23 : decode cX9_get 23 = .ok (.ireturn, 1) := by decide +kernel
theorem dX9_get_24 : decode cX9_get 24 = .ok (.iload_n 1, 1) := by decide +kernel
theorem dX9_get_25 : decode cX9_get 25 = .ok (.bipush 7, 2) := by decide +kernel
theorem dX9_get_27 : decode cX9_get 27 = .ok (.if_icmp .le 21, 3) := by decide +kernel
theorem dX9_get_30 : decode cX9_get 30 = .ok (.iload_n 1, 1) := by decide +kernel
theorem dX9_get_31 : decode cX9_get 31 = .ok (.bipush 8, 2) := by decide +kernel
theorem dX9_get_33 : decode cX9_get 33 = .ok (.if_icmp .ne 10, 3) := by decide +kernel
theorem dX9_get_36 : decode cX9_get 36 = .ok (.aload_n 0, 1) := by decide +kernel
theorem dX9_get_37 : decode cX9_get 37 = .ok (.getfield 58, 3) := by decide +kernel
theorem dX9_get_40 : decode cX9_get 40 = .ok (.goto 7, 3) := by decide +kernel
theorem dX9_get_43 : decode cX9_get 43 = .ok (.aload_n 0, 1) := by decide +kernel
theorem dX9_get_44 : decode cX9_get 44 = .ok (.getfield 46, 3) := by decide +kernel
theorem dX9_get_47 : decode cX9_get 47 = .ok (.ireturn, 1) := by decide +kernel
theorem dX9_get_48 : decode cX9_get 48 = .ok (.iload_n 1, 1) := by decide +kernel
theorem dX9_get_49 : decode cX9_get 49 = .ok (.iconst 4, 1) := by decide +kernel
theorem dX9_get_50 : decode cX9_get 50 = .ok (.irem, 1) := by decide +kernel
theorem dX9_get_51 : decode cX9_get 51 = .ok (.ifCond .ne 8, 3) := by decide +kernel
theorem dX9_get_54 : decode cX9_get 54 = .ok (.bipush 7, 2) := by decide +kernel
theorem dX9_get_56 : decode cX9_get 56 = .ok (.goto 10, 3) := by decide +kernel
theorem dX9_get_59 : decode cX9_get 59 = .ok (.iconst 2, 1) := by decide +kernel
theorem dX9_get_60 : decode cX9_get 60 = .ok (.iload_n 1, 1) := by decide +kernel
theorem dX9_get_61 : decode cX9_get 61 = .ok (.iconst 4, 1) := by decide +kernel
theorem dX9_get_62 : decode cX9_get 62 = .ok (.irem, 1) := by decide +kernel
theorem dX9_get_63 : decode cX9_get 63 = .ok (.iconst 1, 1) := by decide +kernel
theorem dX9_get_64 : decode cX9_get 64 = .ok (.isub, 1) := by decide +kernel
theorem dX9_get_65 : decode cX9_get 65 = .ok (.imul, 1) := by decide +kernel
theorem dX9_get_66 : decode cX9_get 66 = .ok (.istore_n 2, 1) := by decide +kernel
theorem dX9_get_67 : decode cX9_get 67 = .ok (.iload_n 1, 1) := by decide +kernel
theorem dX9_get_68 : decode cX9_get 68 = .ok (.iconst 4, 1) := by decide +kernel
theorem dX9_get_69 : decode cX9_get 69 = .ok (.irem, 1) := by decide +kernel
theorem dX9_get_70 : decode cX9_get 70 = .ok (.ifCond .ne 8, 3) := by decide +kernel
theorem dX9_get_73 : decode cX9_get 73 = .ok (.bipush 6, 2) := by decide +kernel
theorem dX9_get_75 : decode cX9_get 75 = .ok (.goto 6, 3) := by decide +kernel
theorem dX9_get_78 : decode cX9_get 78 = .ok (.iload_n 2, 1) := by decide +kernel
theorem dX9_get_79 : decode cX9_get 79 = .ok (.iconst 1, 1) := by decide +kernel
theorem dX9_get_80 : decode cX9_get 80 = .ok (.iadd, 1) := by decide +kernel
theorem dX9_get_81 : decode cX9_get 81 = .ok (.istore_n 3, 1) := by decide +kernel
theorem dX9_get_82 : decode cX9_get 82 = .ok (.iload_n 1, 1) := by decide +kernel
theorem dX9_get_83 : decode cX9_get 83 = .ok (.iconst 4, 1) := by decide +kernel
theorem dX9_get_84 : decode cX9_get 84 = .ok (.if_icmp .ge 22, 3) := by decide +kernel
theorem dX9_get_87 : decode cX9_get 87 = .ok (.aload_n 0, 1) := by decide +kernel
theorem dX9_get_88 : decode cX9_get 88 = .ok (.getfield 13, 3) := by decide +kernel
theorem dX9_get_91 : decode cX9_get 91 = .ok (.iload_n 2, 1) := by decide +kernel
theorem dX9_get_92 : decode cX9_get 92 = .ok (.iaload, 1) := by decide +kernel
theorem dX9_get_93 : decode cX9_get 93 = .ok (.bipush 8, 2) := by decide +kernel
theorem dX9_get_95 : decode cX9_get 95 = .ok (.ishl, 1) := by decide +kernel
theorem dX9_get_96 : decode cX9_get 96 = .ok (.aload_n 0, 1) := by decide +kernel
theorem dX9_get_97 : decode cX9_get 97 = .ok (.getfield 13, 3) := by decide +kernel
theorem dX9_get_100 : decode cX9_get 100 = .ok (.iload_n 3, 1) := by decide +kernel
theorem dX9_get_101 : decode cX9_get 101 = .ok (.iaload, 1) := by decide +kernel
theorem dX9_get_102 : decode cX9_get 102 = .ok (.ior, 1) := by decide +kernel
theorem dX9_get_103 : decode cX9_get 103 = .ok (.goto 19, 3) := by decide +kernel
theorem dX9_get_106 : decode cX9_get 106 = .ok (.aload_n 0, 1) := by decide +kernel
theorem dX9_get_107 : decode cX9_get 107 = .ok (.getfield 16, 3) := by decide +kernel
theorem dX9_get_110 : decode cX9_get 110 = .ok (.iload_n 2, 1) := by decide +kernel
theorem dX9_get_111 : decode cX9_get 111 = .ok (.iaload, 1) := by decide +kernel
theorem dX9_get_112 : decode cX9_get 112 = .ok (.bipush 8, 2) := by decide +kernel
theorem dX9_get_114 : decode cX9_get 114 = .ok (.ishl, 1) := by decide +kernel
theorem dX9_get_115 : decode cX9_get 115 = .ok (.aload_n 0, 1) := by decide +kernel
theorem dX9_get_116 : decode cX9_get 116 = .ok (.getfield 16, 3) := by decide +kernel
theorem dX9_get_119 : decode cX9_get 119 = .ok (.iload_n 3, 1) := by decide +kernel
theorem dX9_get_120 : decode cX9_get 120 = .ok (.iaload, 1) := by decide +kernel
theorem dX9_get_121 : decode cX9_get 121 = .ok (.ior, 1) := by decide +kernel
theorem dX9_get_122 : decode cX9_get 122 = .ok (.ireturn, 1) := by decide +kernel
def fX9_get (p1 : Int32) (s0 : zS) : Option (Int32 × zS) := bd (fX9_isIn p1 (0 : Int32) (9 : Int32)) fun r2 => bd (if r2 = (0 : Int32) then (some (1 : Int32)) else (some (0 : Int32))) fun x5 => bd2 (fX9_refused x5 s0) fun r8 s9 => if r8 = (0 : Int32) then (if p1 ≤ (7 : Int32) then (bd (if (p1 - p1 / (4 : Int32) * (4 : Int32)) = (0 : Int32) then (some (7 : Int32)) else (some ((2 : Int32) * ((p1 - p1 / (4 : Int32) * (4 : Int32)) - (1 : Int32))))) fun x14 => bd (if (p1 - p1 / (4 : Int32) * (4 : Int32)) = (0 : Int32) then (some (6 : Int32)) else (some (x14 + (1 : Int32)))) fun x18 => if (4 : Int32) ≤ p1 then (gd (0 ≤ x14 ∧ x14 < 8) <| gd (0 ≤ x18 ∧ x18 < 8) <| some ((((s9.2 2 (x14.toNatClampNeg)) <<< ((8 : Int32) &&& 31)) ||| (s9.2 2 (x18.toNatClampNeg))), s9)) else (gd (0 ≤ x14 ∧ x14 < 8) <| gd (0 ≤ x18 ∧ x18 < 8) <| some ((((s9.2 1 (x14.toNatClampNeg)) <<< ((8 : Int32) &&& 31)) ||| (s9.2 1 (x18.toNatClampNeg))), s9))) else (if p1 = (8 : Int32) then (some ((s9.1 1), s9)) else (some ((s9.1 2), s9)))) else (some ((0 : Int32), s9))
set_option maxHeartbeats 4000000 in
set_option maxRecDepth 100000 in
theorem cX9_get_m {l : Launch} {dC : Nat → ClassId} {dI : Nat → Nat → Nat} {ad : Nat → Nat} {cI : ClassId} {p1 : Int32} {s0 : zS} {zr : Int32} {zs : zS} (h : fX9_get p1 s0 = some (zr, zs)) : sw_Mi l yX9_get (sw_ws yX9_get cX9_get 4 (some .int)) (sw_rm 1 22) (dC, dI) vwCl [(cI, .int)] mF [.ref (ad 0), .int p1] (mW ad cI s0) (mW ad cI zs) zr := by
  intro sz
  refine sw_of (cc := cX9_get) (maxL := 4) (ret := (some .int)) (by decide) rfl (Nat.le_of_ble_eq_true rfl) ?_
  intro p e s m args below meth c A ls hAe hsz X _ hP hD hS hl
  rw [hAe]
  have hx := X.1.1
  have hb := X.1.2.1
  have hown := X.1.2.2.2.1
  have hts := X.1.2.2.2.2
  replace hl : lv_has ls 4 [(0, .ref (ad 0)), (1, .int p1)] := hl
  unfold fX9_get at h
  refine lv_aload_n hx hb dX9_get_0 rfl (lv_at hl 0 rfl) ?_
  refine lv_iload_n hx hb dX9_get_1 rfl (lv_at hl 1 rfl) ?_
  refine lv_iconst (v := (0 : Int32)) hx hb dX9_get_2 (by decide) ?_
  refine lv_bipush (v := (9 : Int32)) hx hb dX9_get_3 (by decide) ?_
  have hq := bd_some h; clear h; obtain ⟨r2, h1, h⟩ := hq
  refine sw_si (rest := [.ref (ad 0)]) m_good X (cX9_isIn_m h1) calX9_isIn k_826 hP hD hS ⟨rfl, rfl⟩ rfl hl.1 rfl (Nat.le_of_ble_eq_true rfl) dX9_get_5 (fun H locs hP hD hS => ?_)
  have hq := bd_some h; clear h; obtain ⟨x5, h6, h⟩ := hq
  have K3 : ∀ (H : Heap) (locs : List Loc), va_P (dC, dI) vwCl (mW ad cI s0) H → va_D A (mW ad cI s0) → va_S A s.heap H locs → W p l e (sw_rm 1 22) s m args below meth c H locs 0 0 (MQ below (sw_Qi (dC, dI) vwCl [(cI, .int)] A (mW ad cI zs) zr) args s 0 0 A) (F0 m 16 ls [.int x5, .ref (ad 0)]) := by
    intro H locs hP hD hS
    have hq := bd2_some h; clear h; obtain ⟨r8, s9, h7, h⟩ := hq
    refine sw_vi (rest := []) m_good X (cX9_refused_m h7) calX9_refused k_829 hP hD hS 0 9 rfl rfl rfl ⟨rfl, rfl⟩ rfl hl.1 rfl (Nat.le_of_ble_eq_true rfl) dX9_get_16 (fun H locs hP hD hS => ?_)
    refine lv_if_eq (tgt := 24) hx hb dX9_get_19 (by decide) (fun c10 => ?_) (fun c10 => ?_)
    · replace h := if_yes h c10
      refine lv_iload_n hx hb dX9_get_24 rfl (lv_at hl 1 rfl) ?_
      refine lv_bipush (v := (7 : Int32)) hx hb dX9_get_25 (by decide) ?_
      refine lv_icmp_le (tgt := 48) hx hb dX9_get_27 (by decide) (fun c11 => ?_) (fun c11 => ?_)
      · replace h := if_yes h c11
        refine lv_iload_n hx hb dX9_get_48 rfl (lv_at hl 1 rfl) ?_
        refine lv_iconst (v := (4 : Int32)) hx hb dX9_get_49 (by decide) ?_
        refine lv_irem hx hb dX9_get_50 (by decide) ?_
        have hq := bd_some h; clear h; obtain ⟨x14, h15, h⟩ := hq
        have K12 : ∀ (H : Heap) (locs : List Loc), va_P (dC, dI) vwCl (mW ad cI s9) H → va_D A (mW ad cI s9) → va_S A s.heap H locs → W p l e (sw_rm 1 22) s m args below meth c H locs 0 0 (MQ below (sw_Qi (dC, dI) vwCl [(cI, .int)] A (mW ad cI zs) zr) args s 0 0 A) (F0 m 66 ls [.int x14]) := by
          intro H locs hP hD hS
          refine lv_istore_n (lv' := [(2, .int x14), (0, .ref (ad 0)), (1, .int p1)]) hx hb dX9_get_66 rfl hl (by decide) rfl (fun ls hl => ?_)
          refine lv_iload_n hx hb dX9_get_67 rfl (lv_at hl 2 rfl) ?_
          refine lv_iconst (v := (4 : Int32)) hx hb dX9_get_68 (by decide) ?_
          refine lv_irem hx hb dX9_get_69 (by decide) ?_
          have hq := bd_some h; clear h; obtain ⟨x18, h19, h⟩ := hq
          have K16 : ∀ (H : Heap) (locs : List Loc), va_P (dC, dI) vwCl (mW ad cI s9) H → va_D A (mW ad cI s9) → va_S A s.heap H locs → W p l e (sw_rm 1 22) s m args below meth c H locs 0 0 (MQ below (sw_Qi (dC, dI) vwCl [(cI, .int)] A (mW ad cI zs) zr) args s 0 0 A) (F0 m 81 ls [.int x18]) := by
            intro H locs hP hD hS
            refine lv_istore_n (lv' := [(3, .int x18), (2, .int x14), (0, .ref (ad 0)), (1, .int p1)]) hx hb dX9_get_81 rfl hl (by decide) rfl (fun ls hl => ?_)
            refine lv_iload_n hx hb dX9_get_82 rfl (lv_at hl 3 rfl) ?_
            refine lv_iconst (v := (4 : Int32)) hx hb dX9_get_83 (by decide) ?_
            refine lv_icmp_ge (tgt := 106) hx hb dX9_get_84 (by decide) (fun c20 => ?_) (fun c20 => ?_)
            · replace h := if_yes h c20
              refine lv_aload_n hx hb dX9_get_106 rfl (lv_at hl 2 rfl) ?_
              refine mg_0_3 X hP k_760 dX9_get_107 ?_
              refine lv_iload_n hx hb dX9_get_110 rfl (lv_at hl 1 rfl) ?_
              have hq := gd_some h; clear h; obtain ⟨c21, h⟩ := hq
              refine ml_2 X hP (vin_in c21 (by decide)) dX9_get_111 ?_
              refine lv_bipush (v := (8 : Int32)) hx hb dX9_get_112 (by decide) ?_
              refine lv_ishl hx hb dX9_get_114 ?_
              refine lv_aload_n hx hb dX9_get_115 rfl (lv_at hl 2 rfl) ?_
              refine mg_0_3 X hP k_760 dX9_get_116 ?_
              refine lv_iload_n hx hb dX9_get_119 rfl (lv_at hl 0 rfl) ?_
              have hq := gd_some h; clear h; obtain ⟨c22, h⟩ := hq
              refine ml_2 X hP (vin_in c22 (by decide)) dX9_get_120 ?_
              refine lv_ior hx hb dX9_get_121 ?_
              obtain ⟨rfl, rfl⟩ := Prod.mk.inj (Option.some.inj h)
              exact sw_iret X hP hD hS dX9_get_122
            · replace h := if_no h c20
              refine lv_aload_n hx hb dX9_get_87 rfl (lv_at hl 2 rfl) ?_
              refine mg_0_2 X hP k_759 dX9_get_88 ?_
              refine lv_iload_n hx hb dX9_get_91 rfl (lv_at hl 1 rfl) ?_
              have hq := gd_some h; clear h; obtain ⟨c23, h⟩ := hq
              refine ml_1 X hP (vin_in c23 (by decide)) dX9_get_92 ?_
              refine lv_bipush (v := (8 : Int32)) hx hb dX9_get_93 (by decide) ?_
              refine lv_ishl hx hb dX9_get_95 ?_
              refine lv_aload_n hx hb dX9_get_96 rfl (lv_at hl 2 rfl) ?_
              refine mg_0_2 X hP k_759 dX9_get_97 ?_
              refine lv_iload_n hx hb dX9_get_100 rfl (lv_at hl 0 rfl) ?_
              have hq := gd_some h; clear h; obtain ⟨c24, h⟩ := hq
              refine ml_1 X hP (vin_in c24 (by decide)) dX9_get_101 ?_
              refine lv_ior hx hb dX9_get_102 ?_
              refine lv_goto (tgt := 122) hx hb dX9_get_103 (by decide) ?_
              obtain ⟨rfl, rfl⟩ := Prod.mk.inj (Option.some.inj h)
              exact sw_iret X hP hD hS dX9_get_122
          replace h := h19
          clear h19
          refine lv_if_ne (tgt := 78) hx hb dX9_get_70 (by decide) (fun c17 => ?_) (fun c17 => ?_)
          · replace h := if_no h c17
            refine lv_iload_n hx hb dX9_get_78 rfl (lv_at hl 0 rfl) ?_
            refine lv_iconst (v := (1 : Int32)) hx hb dX9_get_79 (by decide) ?_
            refine lv_iadd hx hb dX9_get_80 ?_
            obtain rfl := Option.some.inj h
            exact K16 _ _ hP hD hS
          · replace h := if_yes h c17
            refine lv_bipush (v := (6 : Int32)) hx hb dX9_get_73 (by decide) ?_
            refine lv_goto (tgt := 81) hx hb dX9_get_75 (by decide) ?_
            obtain rfl := Option.some.inj h
            exact K16 _ _ hP hD hS
        replace h := h15
        clear h15
        refine lv_if_ne (tgt := 59) hx hb dX9_get_51 (by decide) (fun c13 => ?_) (fun c13 => ?_)
        · replace h := if_no h c13
          refine lv_iconst (v := (2 : Int32)) hx hb dX9_get_59 (by decide) ?_
          refine lv_iload_n hx hb dX9_get_60 rfl (lv_at hl 1 rfl) ?_
          refine lv_iconst (v := (4 : Int32)) hx hb dX9_get_61 (by decide) ?_
          refine lv_irem hx hb dX9_get_62 (by decide) ?_
          refine lv_iconst (v := (1 : Int32)) hx hb dX9_get_63 (by decide) ?_
          refine lv_isub hx hb dX9_get_64 ?_
          refine lv_imul hx hb dX9_get_65 ?_
          obtain rfl := Option.some.inj h
          exact K12 _ _ hP hD hS
        · replace h := if_yes h c13
          refine lv_bipush (v := (7 : Int32)) hx hb dX9_get_54 (by decide) ?_
          refine lv_goto (tgt := 66) hx hb dX9_get_56 (by decide) ?_
          obtain rfl := Option.some.inj h
          exact K12 _ _ hP hD hS
      · replace h := if_no h c11
        refine lv_iload_n hx hb dX9_get_30 rfl (lv_at hl 1 rfl) ?_
        refine lv_bipush (v := (8 : Int32)) hx hb dX9_get_31 (by decide) ?_
        refine lv_icmp_ne (tgt := 43) hx hb dX9_get_33 (by decide) (fun c25 => ?_) (fun c25 => ?_)
        · replace h := if_no h c25
          refine lv_aload_n hx hb dX9_get_43 rfl (lv_at hl 0 rfl) ?_
          refine mg_0_5 X hP k_762 dX9_get_44 ?_
          obtain ⟨rfl, rfl⟩ := Prod.mk.inj (Option.some.inj h)
          exact sw_iret X hP hD hS dX9_get_47
        · replace h := if_yes h c25
          refine lv_aload_n hx hb dX9_get_36 rfl (lv_at hl 0 rfl) ?_
          refine mg_0_4 X hP k_761 dX9_get_37 ?_
          refine lv_goto (tgt := 47) hx hb dX9_get_40 (by decide) ?_
          obtain ⟨rfl, rfl⟩ := Prod.mk.inj (Option.some.inj h)
          exact sw_iret X hP hD hS dX9_get_47
    · replace h := if_no h c10
      refine lv_iconst (v := (0 : Int32)) hx hb dX9_get_22 (by decide) ?_
      obtain ⟨rfl, rfl⟩ := Prod.mk.inj (Option.some.inj h)
      exact sw_iret X hP hD hS dX9_get_23
  replace h := h6
  clear h6
  refine lv_if_eq (tgt := 15) hx hb dX9_get_8 (by decide) (fun c4 => ?_) (fun c4 => ?_)
  · replace h := if_yes h c4
    refine lv_iconst (v := (1 : Int32)) hx hb dX9_get_15 (by decide) ?_
    obtain rfl := Option.some.inj h
    exact K3 _ _ hP hD hS
  · replace h := if_no h c4
    refine lv_iconst (v := (0 : Int32)) hx hb dX9_get_11 (by decide) ?_
    refine lv_goto (tgt := 16) hx hb dX9_get_12 (by decide) ?_
    obtain rfl := Option.some.inj h
    exact K3 _ _ hP hD hS
theorem dX9_key_0 : decode cX9_key 0 = .ok (.aload_n 0, 1) := by decide +kernel
theorem dX9_key_1 : decode cX9_key 1 = .ok (.iload_n 1, 1) := by decide +kernel
theorem dX9_key_2 : decode cX9_key 2 = .ok (.iconst 0, 1) := by decide +kernel
theorem dX9_key_3 : decode cX9_key 3 = .ok (.bipush 7, 2) := by decide +kernel
theorem dX9_key_5 : decode cX9_key 5 = .ok (.invokestatic 35, 3) := by decide +kernel
theorem dX9_key_8 : decode cX9_key 8 = .ok (.ifCond .eq 17, 3) := by decide +kernel
theorem dX9_key_11 : decode cX9_key 11 = .ok (.iload_n 2, 1) := by decide +kernel
theorem dX9_key_12 : decode cX9_key 12 = .ok (.iconst 0, 1) := by decide +kernel
theorem dX9_key_13 : decode cX9_key 13 = .ok (.bipush 31, 2) := by decide +kernel
theorem dX9_key_15 : decode cX9_key 15 = .ok (.invokestatic 35, 3) := by decide +kernel
theorem dX9_key_18 : decode cX9_key 18 = .ok (.ifCond .eq 7, 3) := by decide +kernel
theorem dX9_key_21 : decode cX9_key 21 = .ok (.iconst 0, 1) := by decide +kernel
theorem dX9_key_22 : decode cX9_key 22 = .ok (.goto 4, 3) := by decide +kernel
theorem dX9_key_25 : decode cX9_key 25 = .ok (.iconst 1, 1) := by decide +kernel
theorem dX9_key_26 : decode cX9_key 26 = .ok (.invokevirtual 218, 3) := by decide +kernel
theorem dX9_key_29 : decode cX9_key 29 = .ok (.ifCond .eq 4, 3) := by decide +kernel
theorem dX9_key_32 : decode cX9_key 32 = .ok (.return_, 1) := by decide +kernel
theorem dX9_key_33 : decode cX9_key 33 = .ok (.aload_n 0, 1) := by decide +kernel
theorem dX9_key_34 : decode cX9_key 34 = .ok (.getfield 19, 3) := by decide +kernel
theorem dX9_key_37 : decode cX9_key 37 = .ok (.iload_n 1, 1) := by decide +kernel
theorem dX9_key_38 : decode cX9_key 38 = .ok (.iload_n 2, 1) := by decide +kernel
theorem dX9_key_39 : decode cX9_key 39 = .ok (.iastore, 1) := by decide +kernel
theorem dX9_key_40 : decode cX9_key 40 = .ok (.return_, 1) := by decide +kernel
def fX9_key (p1 p2 : Int32) (s0 : zS) : Option (zS) := bd (fX9_isIn p1 (0 : Int32) (7 : Int32)) fun r2 => bd (if r2 = (0 : Int32) then (some (1 : Int32)) else (bd (fX9_isIn p2 (0 : Int32) (31 : Int32)) fun r6 => bd (if r6 = (0 : Int32) then (some (1 : Int32)) else (some (0 : Int32))) fun x9 => some x9)) fun x11 => bd2 (fX9_refused x11 s0) fun r14 s15 => if r14 = (0 : Int32) then (gd (0 ≤ p1 ∧ p1 < 8) <| some (st2 s15 3 (p1.toNatClampNeg) p2)) else (some s15)
set_option maxHeartbeats 4000000 in
set_option maxRecDepth 100000 in
theorem cX9_key_m {l : Launch} {dC : Nat → ClassId} {dI : Nat → Nat → Nat} {ad : Nat → Nat} {cI : ClassId} {p1 p2 : Int32} {s0 : zS} {zs : zS} (h : fX9_key p1 p2 s0 = some zs) : sw_Mv l yX9_key (sw_ws yX9_key cX9_key 3 none) (sw_rm 1 22) (dC, dI) vwCl [(cI, .int)] mF [.ref (ad 0), .int p1, .int p2] (mW ad cI s0) (mW ad cI zs) := by
  intro sz
  refine sw_of (cc := cX9_key) (maxL := 3) (ret := none) (by decide) rfl (Nat.le_of_ble_eq_true rfl) ?_
  intro p e s m args below meth c A ls hAe hsz X _ hP hD hS hl
  rw [hAe]
  have hx := X.1.1
  have hb := X.1.2.1
  have hown := X.1.2.2.2.1
  have hts := X.1.2.2.2.2
  replace hl : lv_has ls 3 [(0, .ref (ad 0)), (1, .int p1), (2, .int p2)] := hl
  unfold fX9_key at h
  refine lv_aload_n hx hb dX9_key_0 rfl (lv_at hl 0 rfl) ?_
  refine lv_iload_n hx hb dX9_key_1 rfl (lv_at hl 1 rfl) ?_
  refine lv_iconst (v := (0 : Int32)) hx hb dX9_key_2 (by decide) ?_
  refine lv_bipush (v := (7 : Int32)) hx hb dX9_key_3 (by decide) ?_
  have hq := bd_some h; clear h; obtain ⟨r2, h1, h⟩ := hq
  refine sw_si (rest := [.ref (ad 0)]) m_good X (cX9_isIn_m h1) calX9_isIn k_826 hP hD hS ⟨rfl, rfl⟩ rfl hl.1 rfl (Nat.le_of_ble_eq_true rfl) dX9_key_5 (fun H locs hP hD hS => ?_)
  have hq := bd_some h; clear h; obtain ⟨x11, h12, h⟩ := hq
  have K3 : ∀ (H : Heap) (locs : List Loc), va_P (dC, dI) vwCl (mW ad cI s0) H → va_D A (mW ad cI s0) → va_S A s.heap H locs → W p l e (sw_rm 1 22) s m args below meth c H locs 0 0 (MQ below (sw_Qv (dC, dI) vwCl [(cI, .int)] A (mW ad cI zs)) args s 0 0 A) (F0 m 26 ls [.int x11, .ref (ad 0)]) := by
    intro H locs hP hD hS
    have hq := bd2_some h; clear h; obtain ⟨r14, s15, h13, h⟩ := hq
    refine sw_vi (rest := []) m_good X (cX9_refused_m h13) calX9_refused k_829 hP hD hS 0 9 rfl rfl rfl ⟨rfl, rfl⟩ rfl hl.1 rfl (Nat.le_of_ble_eq_true rfl) dX9_key_26 (fun H locs hP hD hS => ?_)
    refine lv_if_eq (tgt := 33) hx hb dX9_key_29 (by decide) (fun c16 => ?_) (fun c16 => ?_)
    · replace h := if_yes h c16
      refine lv_aload_n hx hb dX9_key_33 rfl (lv_at hl 0 rfl) ?_
      refine mg_0_13 X hP k_770 dX9_key_34 ?_
      refine lv_iload_n hx hb dX9_key_37 rfl (lv_at hl 1 rfl) ?_
      refine lv_iload_n hx hb dX9_key_38 rfl (lv_at hl 2 rfl) ?_
      have hq := gd_some h; clear h; obtain ⟨c17, h⟩ := hq
      refine mb_3 X hP hD hS (vin_in c17 (by decide)) dX9_key_39 (fun H locs hP hD hS => ?_)
      obtain rfl := Option.some.inj h
      exact sw_vret X hP hD hS dX9_key_40
    · replace h := if_no h c16
      obtain rfl := Option.some.inj h
      exact sw_vret X hP hD hS dX9_key_32
  replace h := h12
  clear h12
  refine lv_if_eq (tgt := 25) hx hb dX9_key_8 (by decide) (fun c4 => ?_) (fun c4 => ?_)
  · replace h := if_yes h c4
    refine lv_iconst (v := (1 : Int32)) hx hb dX9_key_25 (by decide) ?_
    obtain rfl := Option.some.inj h
    exact K3 _ _ hP hD hS
  · replace h := if_no h c4
    refine lv_iload_n hx hb dX9_key_11 rfl (lv_at hl 2 rfl) ?_
    refine lv_iconst (v := (0 : Int32)) hx hb dX9_key_12 (by decide) ?_
    refine lv_bipush (v := (31 : Int32)) hx hb dX9_key_13 (by decide) ?_
    have hq := bd_some h; clear h; obtain ⟨r6, h5, h⟩ := hq
    refine sw_si (rest := [.ref (ad 0)]) m_good X (cX9_isIn_m h5) calX9_isIn k_826 hP hD hS ⟨rfl, rfl⟩ rfl hl.1 rfl (Nat.le_of_ble_eq_true rfl) dX9_key_15 (fun H locs hP hD hS => ?_)
    have hq := bd_some h; clear h; obtain ⟨x9, h10, h⟩ := hq
    have K7 : ∀ (H : Heap) (locs : List Loc), va_P (dC, dI) vwCl (mW ad cI s0) H → va_D A (mW ad cI s0) → va_S A s.heap H locs → W p l e (sw_rm 1 22) s m args below meth c H locs 0 0 (MQ below (sw_Qv (dC, dI) vwCl [(cI, .int)] A (mW ad cI zs)) args s 0 0 A) (F0 m 26 ls [.int x9, .ref (ad 0)]) := by
      intro H locs hP hD hS
      obtain rfl := Option.some.inj h
      exact K3 _ _ hP hD hS
    replace h := h10
    clear h10
    refine lv_if_eq (tgt := 25) hx hb dX9_key_18 (by decide) (fun c8 => ?_) (fun c8 => ?_)
    · replace h := if_yes h c8
      refine lv_iconst (v := (1 : Int32)) hx hb dX9_key_25 (by decide) ?_
      obtain rfl := Option.some.inj h
      exact K7 _ _ hP hD hS
    · replace h := if_no h c8
      refine lv_iconst (v := (0 : Int32)) hx hb dX9_key_21 (by decide) ?_
      refine lv_goto (tgt := 26) hx hb dX9_key_22 (by decide) ?_
      obtain rfl := Option.some.inj h
      exact K7 _ _ hP hD hS
theorem dX9_edge_0 : decode cX9_edge 0 = .ok (.aload_n 0, 1) := by decide +kernel
theorem dX9_edge_1 : decode cX9_edge 1 = .ok (.iload_n 1, 1) := by decide +kernel
theorem dX9_edge_2 : decode cX9_edge 2 = .ok (.iconst 1, 1) := by decide +kernel
theorem dX9_edge_3 : decode cX9_edge 3 = .ok (.ldc 227, 2) := by decide +kernel
theorem dX9_edge_5 : decode cX9_edge 5 = .ok (.invokestatic 35, 3) := by decide +kernel
theorem dX9_edge_8 : decode cX9_edge 8 = .ok (.ifCond .ne 7, 3) := by decide +kernel
theorem dX9_edge_11 : decode cX9_edge 11 = .ok (.iconst 1, 1) := by decide +kernel
theorem dX9_edge_12 : decode cX9_edge 12 = .ok (.goto 17, 3) := by decide +kernel
theorem dX9_edge_15 : decode cX9_edge 15 = .ok (.aload_n 0, 1) := by decide +kernel
theorem dX9_edge_16 : decode cX9_edge 16 = .ok (.getfield 200, 3) := by decide +kernel
theorem dX9_edge_19 : decode cX9_edge 19 = .ok (.bipush 64, 2) := by decide +kernel
theorem dX9_edge_21 : decode cX9_edge 21 = .ok (.if_icmp .ne 7, 3) := by decide +kernel
theorem dX9_edge_24 : decode cX9_edge 24 = .ok (.iconst 2, 1) := by decide +kernel
theorem dX9_edge_25 : decode cX9_edge 25 = .ok (.goto 4, 3) := by decide +kernel
theorem dX9_edge_28 : decode cX9_edge 28 = .ok (.iconst 0, 1) := by decide +kernel
theorem dX9_edge_29 : decode cX9_edge 29 = .ok (.invokevirtual 218, 3) := by decide +kernel
theorem dX9_edge_32 : decode cX9_edge 32 = .ok (.ifCond .eq 5, 3) := by decide +kernel
theorem dX9_edge_35 : decode cX9_edge 35 = .ok (.iconst 0, 1) := by decide +kernel
theorem dX9_edge_36 : decode cX9_edge 36 = .ok (.ireturn, 1) := by decide +kernel
theorem dX9_edge_37 : decode cX9_edge 37 = .ok (.aload_n 0, 1) := by decide +kernel
theorem dX9_edge_38 : decode cX9_edge 38 = .ok (.getfield 22, 3) := by decide +kernel
theorem dX9_edge_41 : decode cX9_edge 41 = .ok (.aload_n 0, 1) := by decide +kernel
theorem dX9_edge_42 : decode cX9_edge 42 = .ok (.getfield 200, 3) := by decide +kernel
theorem dX9_edge_45 : decode cX9_edge 45 = .ok (.aload_n 0, 1) := by decide +kernel
theorem dX9_edge_46 : decode cX9_edge 46 = .ok (.getfield 200, 3) := by decide +kernel
theorem dX9_edge_49 : decode cX9_edge 49 = .ok (.ifCond .le 17, 3) := by decide +kernel
theorem dX9_edge_52 : decode cX9_edge 52 = .ok (.aload_n 0, 1) := by decide +kernel
theorem dX9_edge_53 : decode cX9_edge 53 = .ok (.getfield 22, 3) := by decide +kernel
theorem dX9_edge_56 : decode cX9_edge 56 = .ok (.aload_n 0, 1) := by decide +kernel
theorem dX9_edge_57 : decode cX9_edge 57 = .ok (.getfield 200, 3) := by decide +kernel
theorem dX9_edge_60 : decode cX9_edge 60 = .ok (.iconst 1, 1) := by decide +kernel
theorem dX9_edge_61 : decode cX9_edge 61 = .ok (.isub, 1) := by decide +kernel
theorem dX9_edge_62 : decode cX9_edge 62 = .ok (.iaload, 1) := by decide +kernel
theorem dX9_edge_63 : decode cX9_edge 63 = .ok (.goto 4, 3) := by decide +kernel
theorem dX9_edge_66 : decode cX9_edge 66 = .ok (.iconst 0, 1) := by decide +kernel
theorem dX9_edge_67 : decode cX9_edge 67 = .ok (.iload_n 1, 1) := by decide +kernel
theorem dX9_edge_68 : decode cX9_edge 68 = .ok (.iadd, 1) := by decide +kernel
theorem dX9_edge_69 : decode cX9_edge 69 = .ok (.iastore, 1) := by decide +kernel
theorem dX9_edge_70 : decode cX9_edge 70 = .ok (.aload_n 0, 1) := by decide +kernel
theorem dX9_edge_71 : decode cX9_edge 71 = .ok (.dup, 1) := by decide +kernel
theorem dX9_edge_72 : decode cX9_edge 72 = .ok (.getfield 200, 3) := by decide +kernel
theorem dX9_edge_75 : decode cX9_edge 75 = .ok (.iconst 1, 1) := by decide +kernel
theorem dX9_edge_76 : decode cX9_edge 76 = .ok (.iadd, 1) := by decide +kernel
theorem dX9_edge_77 : decode cX9_edge 77 = .ok (.putfield 200, 3) := by decide +kernel
theorem dX9_edge_80 : decode cX9_edge 80 = .ok (.aload_n 0, 1) := by decide +kernel
theorem dX9_edge_81 : decode cX9_edge 81 = .ok (.getfield 200, 3) := by decide +kernel
theorem dX9_edge_84 : decode cX9_edge 84 = .ok (.ireturn, 1) := by decide +kernel
def fX9_edge (p1 : Int32) (s0 : zS) : Option (Int32 × zS) := bd (fX9_isIn p1 (1 : Int32) (100000 : Int32)) fun r2 => bd (if r2 = (0 : Int32) then (some (1 : Int32)) else (bd (if (s0.1 10) = (64 : Int32) then (some (2 : Int32)) else (some (0 : Int32))) fun x7 => some x7)) fun x9 => bd2 (fX9_refused x9 s0) fun r12 s13 => if r12 = (0 : Int32) then (bd (if (s13.1 10) ≤ (0 : Int32) then (some (0 : Int32)) else (gd (0 ≤ ((s13.1 10) - (1 : Int32)) ∧ ((s13.1 10) - (1 : Int32)) < 64) <| some (s13.2 4 (((s13.1 10) - (1 : Int32)).toNatClampNeg)))) fun x18 => gd (0 ≤ (s13.1 10) ∧ (s13.1 10) < 64) <| some (((st1 (st2 s13 4 ((s13.1 10).toNatClampNeg) (x18 + p1)) 10 (((st2 s13 4 ((s13.1 10).toNatClampNeg) (x18 + p1)).1 10) + (1 : Int32))).1 10), (st1 (st2 s13 4 ((s13.1 10).toNatClampNeg) (x18 + p1)) 10 (((st2 s13 4 ((s13.1 10).toNatClampNeg) (x18 + p1)).1 10) + (1 : Int32))))) else (some ((0 : Int32), s13))
set_option maxHeartbeats 4000000 in
set_option maxRecDepth 100000 in
theorem cX9_edge_m {l : Launch} {dC : Nat → ClassId} {dI : Nat → Nat → Nat} {ad : Nat → Nat} {cI : ClassId} {p1 : Int32} {s0 : zS} {zr : Int32} {zs : zS} (h : fX9_edge p1 s0 = some (zr, zs)) : sw_Mi l yX9_edge (sw_ws yX9_edge cX9_edge 2 (some .int)) (sw_rm 1 22) (dC, dI) vwCl [(cI, .int)] mF [.ref (ad 0), .int p1] (mW ad cI s0) (mW ad cI zs) zr := by
  intro sz
  refine sw_of (cc := cX9_edge) (maxL := 2) (ret := (some .int)) (by decide) rfl (Nat.le_of_ble_eq_true rfl) ?_
  intro p e s m args below meth c A ls hAe hsz X _ hP hD hS hl
  rw [hAe]
  have hx := X.1.1
  have hb := X.1.2.1
  have hown := X.1.2.2.2.1
  have hts := X.1.2.2.2.2
  replace hl : lv_has ls 2 [(0, .ref (ad 0)), (1, .int p1)] := hl
  unfold fX9_edge at h
  refine lv_aload_n hx hb dX9_edge_0 rfl (lv_at hl 0 rfl) ?_
  refine lv_iload_n hx hb dX9_edge_1 rfl (lv_at hl 1 rfl) ?_
  refine lv_iconst (v := (1 : Int32)) hx hb dX9_edge_2 (by decide) ?_
  refine lv_ldc (v := 100000) hx hb hown (hts _ (List.mem_cons_of_mem _ k_1040)) dX9_edge_3 ?_
  have hq := bd_some h; clear h; obtain ⟨r2, h1, h⟩ := hq
  refine sw_si (rest := [.ref (ad 0)]) m_good X (cX9_isIn_m h1) calX9_isIn k_826 hP hD hS ⟨rfl, rfl⟩ rfl hl.1 rfl (Nat.le_of_ble_eq_true rfl) dX9_edge_5 (fun H locs hP hD hS => ?_)
  have hq := bd_some h; clear h; obtain ⟨x9, h10, h⟩ := hq
  have K3 : ∀ (H : Heap) (locs : List Loc), va_P (dC, dI) vwCl (mW ad cI s0) H → va_D A (mW ad cI s0) → va_S A s.heap H locs → W p l e (sw_rm 1 22) s m args below meth c H locs 0 0 (MQ below (sw_Qi (dC, dI) vwCl [(cI, .int)] A (mW ad cI zs) zr) args s 0 0 A) (F0 m 29 ls [.int x9, .ref (ad 0)]) := by
    intro H locs hP hD hS
    have hq := bd2_some h; clear h; obtain ⟨r12, s13, h11, h⟩ := hq
    refine sw_vi (rest := []) m_good X (cX9_refused_m h11) calX9_refused k_829 hP hD hS 0 9 rfl rfl rfl ⟨rfl, rfl⟩ rfl hl.1 rfl (Nat.le_of_ble_eq_true rfl) dX9_edge_29 (fun H locs hP hD hS => ?_)
    refine lv_if_eq (tgt := 37) hx hb dX9_edge_32 (by decide) (fun c14 => ?_) (fun c14 => ?_)
    · replace h := if_yes h c14
      refine lv_aload_n hx hb dX9_edge_37 rfl (lv_at hl 0 rfl) ?_
      refine mg_0_15 X hP k_772 dX9_edge_38 ?_
      refine lv_aload_n hx hb dX9_edge_41 rfl (lv_at hl 0 rfl) ?_
      refine mg_0_14 X hP k_771 dX9_edge_42 ?_
      refine lv_aload_n hx hb dX9_edge_45 rfl (lv_at hl 0 rfl) ?_
      refine mg_0_14 X hP k_771 dX9_edge_46 ?_
      have hq := bd_some h; clear h; obtain ⟨x18, h19, h⟩ := hq
      have K15 : ∀ (H : Heap) (locs : List Loc), va_P (dC, dI) vwCl (mW ad cI s13) H → va_D A (mW ad cI s13) → va_S A s.heap H locs → W p l e (sw_rm 1 22) s m args below meth c H locs 0 0 (MQ below (sw_Qi (dC, dI) vwCl [(cI, .int)] A (mW ad cI zs) zr) args s 0 0 A) (F0 m 67 ls [.int x18, .int (s13.1 10), .ref (ad 5)]) := by
        intro H locs hP hD hS
        refine lv_iload_n hx hb dX9_edge_67 rfl (lv_at hl 1 rfl) ?_
        refine lv_iadd hx hb dX9_edge_68 ?_
        have hq := gd_some h; clear h; obtain ⟨c20, h⟩ := hq
        refine mb_4 X hP hD hS (vin_in c20 (by decide)) dX9_edge_69 (fun H locs hP hD hS => ?_)
        refine lv_aload_n hx hb dX9_edge_70 rfl (lv_at hl 0 rfl) ?_
        refine lv_dup hx hb dX9_edge_71 rfl ?_
        refine mg_0_14 X hP k_771 dX9_edge_72 ?_
        refine lv_iconst (v := (1 : Int32)) hx hb dX9_edge_75 (by decide) ?_
        refine lv_iadd hx hb dX9_edge_76 ?_
        refine mp_0_14 X hP hD hS k_771 dX9_edge_77 (fun H locs hP hD hS => ?_)
        refine lv_aload_n hx hb dX9_edge_80 rfl (lv_at hl 0 rfl) ?_
        refine mg_0_14 X hP k_771 dX9_edge_81 ?_
        obtain ⟨rfl, rfl⟩ := Prod.mk.inj (Option.some.inj h)
        exact sw_iret X hP hD hS dX9_edge_84
      replace h := h19
      clear h19
      refine lv_if_le (tgt := 66) hx hb dX9_edge_49 (by decide) (fun c16 => ?_) (fun c16 => ?_)
      · replace h := if_yes h c16
        refine lv_iconst (v := (0 : Int32)) hx hb dX9_edge_66 (by decide) ?_
        obtain rfl := Option.some.inj h
        exact K15 _ _ hP hD hS
      · replace h := if_no h c16
        refine lv_aload_n hx hb dX9_edge_52 rfl (lv_at hl 0 rfl) ?_
        refine mg_0_15 X hP k_772 dX9_edge_53 ?_
        refine lv_aload_n hx hb dX9_edge_56 rfl (lv_at hl 0 rfl) ?_
        refine mg_0_14 X hP k_771 dX9_edge_57 ?_
        refine lv_iconst (v := (1 : Int32)) hx hb dX9_edge_60 (by decide) ?_
        refine lv_isub hx hb dX9_edge_61 ?_
        have hq := gd_some h; clear h; obtain ⟨c17, h⟩ := hq
        refine ml_4 X hP (vin_in c17 (by decide)) dX9_edge_62 ?_
        refine lv_goto (tgt := 67) hx hb dX9_edge_63 (by decide) ?_
        obtain rfl := Option.some.inj h
        exact K15 _ _ hP hD hS
    · replace h := if_no h c14
      refine lv_iconst (v := (0 : Int32)) hx hb dX9_edge_35 (by decide) ?_
      obtain ⟨rfl, rfl⟩ := Prod.mk.inj (Option.some.inj h)
      exact sw_iret X hP hD hS dX9_edge_36
  replace h := h10
  clear h10
  refine lv_if_ne (tgt := 15) hx hb dX9_edge_8 (by decide) (fun c4 => ?_) (fun c4 => ?_)
  · replace h := if_no h c4
    refine lv_aload_n hx hb dX9_edge_15 rfl (lv_at hl 0 rfl) ?_
    refine mg_0_14 X hP k_771 dX9_edge_16 ?_
    refine lv_bipush (v := (64 : Int32)) hx hb dX9_edge_19 (by decide) ?_
    have hq := bd_some h; clear h; obtain ⟨x7, h8, h⟩ := hq
    have K5 : ∀ (H : Heap) (locs : List Loc), va_P (dC, dI) vwCl (mW ad cI s0) H → va_D A (mW ad cI s0) → va_S A s.heap H locs → W p l e (sw_rm 1 22) s m args below meth c H locs 0 0 (MQ below (sw_Qi (dC, dI) vwCl [(cI, .int)] A (mW ad cI zs) zr) args s 0 0 A) (F0 m 29 ls [.int x7, .ref (ad 0)]) := by
      intro H locs hP hD hS
      obtain rfl := Option.some.inj h
      exact K3 _ _ hP hD hS
    replace h := h8
    clear h8
    refine lv_icmp_ne (tgt := 28) hx hb dX9_edge_21 (by decide) (fun c6 => ?_) (fun c6 => ?_)
    · replace h := if_no h c6
      refine lv_iconst (v := (0 : Int32)) hx hb dX9_edge_28 (by decide) ?_
      obtain rfl := Option.some.inj h
      exact K5 _ _ hP hD hS
    · replace h := if_yes h c6
      refine lv_iconst (v := (2 : Int32)) hx hb dX9_edge_24 (by decide) ?_
      refine lv_goto (tgt := 29) hx hb dX9_edge_25 (by decide) ?_
      obtain rfl := Option.some.inj h
      exact K5 _ _ hP hD hS
  · replace h := if_yes h c4
    refine lv_iconst (v := (1 : Int32)) hx hb dX9_edge_11 (by decide) ?_
    refine lv_goto (tgt := 29) hx hb dX9_edge_12 (by decide) ?_
    obtain rfl := Option.some.inj h
    exact K3 _ _ hP hD hS
theorem dX9_count_0 : decode cX9_count 0 = .ok (.aload_n 0, 1) := by decide +kernel
theorem dX9_count_1 : decode cX9_count 1 = .ok (.iload_n 1, 1) := by decide +kernel
theorem dX9_count_2 : decode cX9_count 2 = .ok (.iconst 0, 1) := by decide +kernel
theorem dX9_count_3 : decode cX9_count 3 = .ok (.bipush 7, 2) := by decide +kernel
theorem dX9_count_5 : decode cX9_count 5 = .ok (.invokestatic 35, 3) := by decide +kernel
theorem dX9_count_8 : decode cX9_count 8 = .ok (.ifCond .eq 7, 3) := by decide +kernel
theorem dX9_count_11 : decode cX9_count 11 = .ok (.iconst 0, 1) := by decide +kernel
theorem dX9_count_12 : decode cX9_count 12 = .ok (.goto 4, 3) := by decide +kernel
theorem dX9_count_15 : decode cX9_count 15 = .ok (.iconst 1, 1) := by decide +kernel
theorem dX9_count_16 : decode cX9_count 16 = .ok (.invokevirtual 218, 3) := by decide +kernel
theorem dX9_count_19 : decode cX9_count 19 = .ok (.ifCond .eq 5, 3) := by decide +kernel
theorem dX9_count_22 : decode cX9_count 22 = .ok (.iconst 0, 1) := by decide +kernel
theorem dX9_count_23 : decode cX9_count 23 = .ok (.ireturn, 1) := by decide +kernel
theorem dX9_count_24 : decode cX9_count 24 = .ok (.iload_n 1, 1) := by decide +kernel
theorem dX9_count_25 : decode cX9_count 25 = .ok (.tableswitch 94 0 6 #[43, 48, 53, 58, 63, 76, 89], 43) := by decide +kernel
theorem dX9_count_68 : decode cX9_count 68 = .ok (.aload_n 0, 1) := by decide +kernel
theorem dX9_count_69 : decode cX9_count 69 = .ok (.getfield 32, 3) := by decide +kernel
theorem dX9_count_72 : decode cX9_count 72 = .ok (.ireturn, 1) := by decide +kernel
theorem dX9_count_73 : decode cX9_count 73 = .ok (.aload_n 0, 1) := by decide +kernel
theorem dX9_count_74 : decode cX9_count 74 = .ok (.getfield 191, 3) := by decide +kernel
theorem dX9_count_77 : decode cX9_count 77 = .ok (.ireturn, 1) := by decide +kernel
theorem dX9_count_78 : decode cX9_count 78 = .ok (.aload_n 0, 1) := by decide +kernel
theorem dX9_count_79 : decode cX9_count 79 = .ok (.getfield 194, 3) := by decide +kernel
theorem dX9_count_82 : decode cX9_count 82 = .ok (.ireturn, 1) := by decide +kernel
theorem dX9_count_83 : decode cX9_count 83 = .ok (.aload_n 0, 1) := by decide +kernel
theorem dX9_count_84 : decode cX9_count 84 = .ok (.getfield 197, 3) := by decide +kernel
theorem dX9_count_87 : decode cX9_count 87 = .ok (.ireturn, 1) := by decide +kernel
theorem dX9_count_88 : decode cX9_count 88 = .ok (.aload_n 0, 1) := by decide +kernel
theorem dX9_count_89 : decode cX9_count 89 = .ok (.getfield 203, 3) := by decide +kernel
theorem dX9_count_92 : decode cX9_count 92 = .ok (.ifCond .eq 7, 3) := by decide +kernel
theorem dX9_count_95 : decode cX9_count 95 = .ok (.iconst 1, 1) := by decide +kernel
theorem dX9_count_96 : decode cX9_count 96 = .ok (.goto 4, 3) := by decide +kernel
theorem dX9_count_99 : decode cX9_count 99 = .ok (.iconst 0, 1) := by decide +kernel
theorem dX9_count_100 : decode cX9_count 100 = .ok (.ireturn, 1) := by decide +kernel
theorem dX9_count_101 : decode cX9_count 101 = .ok (.aload_n 0, 1) := by decide +kernel
theorem dX9_count_102 : decode cX9_count 102 = .ok (.getfield 176, 3) := by decide +kernel
theorem dX9_count_105 : decode cX9_count 105 = .ok (.ifCond .eq 7, 3) := by decide +kernel
theorem dX9_count_108 : decode cX9_count 108 = .ok (.iconst 1, 1) := by decide +kernel
theorem dX9_count_109 : decode cX9_count 109 = .ok (.goto 4, 3) := by decide +kernel
theorem dX9_count_112 : decode cX9_count 112 = .ok (.iconst 0, 1) := by decide +kernel
theorem dX9_count_113 : decode cX9_count 113 = .ok (.ireturn, 1) := by decide +kernel
theorem dX9_count_114 : decode cX9_count 114 = .ok (.aload_n 0, 1) := by decide +kernel
theorem dX9_count_115 : decode cX9_count 115 = .ok (.getfield 215, 3) := by decide +kernel
theorem dX9_count_118 : decode cX9_count 118 = .ok (.ireturn, 1) := by decide +kernel
theorem dX9_count_119 : decode cX9_count 119 = .ok (.aload_n 0, 1) := by decide +kernel
theorem dX9_count_120 : decode cX9_count 120 = .ok (.getfield 206, 3) := by decide +kernel
theorem dX9_count_123 : decode cX9_count 123 = .ok (.ireturn, 1) := by decide +kernel
def fX9_count (p1 : Int32) (s0 : zS) : Option (Int32 × zS) := bd (fX9_isIn p1 (0 : Int32) (7 : Int32)) fun r2 => bd (if r2 = (0 : Int32) then (some (1 : Int32)) else (some (0 : Int32))) fun x5 => bd2 (fX9_refused x5 s0) fun r8 s9 => if r8 = (0 : Int32) then (if p1 ∈ ([(0 : Int32)] : List Int32) then (some ((s9.1 3), s9)) else if p1 ∈ ([(1 : Int32)] : List Int32) then (some ((s9.1 11), s9)) else if p1 ∈ ([(2 : Int32)] : List Int32) then (some ((s9.1 12), s9)) else if p1 ∈ ([(3 : Int32)] : List Int32) then (some ((s9.1 13), s9)) else if p1 ∈ ([(4 : Int32)] : List Int32) then (if (s9.1 4) = (0 : Int32) then (some ((0 : Int32), s9)) else (some ((1 : Int32), s9))) else if p1 ∈ ([(5 : Int32)] : List Int32) then (if (s9.1 5) = (0 : Int32) then (some ((0 : Int32), s9)) else (some ((1 : Int32), s9))) else if p1 ∈ ([(6 : Int32)] : List Int32) then (some ((s9.1 8), s9)) else (some ((s9.1 9), s9))) else (some ((0 : Int32), s9))
set_option maxHeartbeats 4000000 in
set_option maxRecDepth 100000 in
theorem cX9_count_m {l : Launch} {dC : Nat → ClassId} {dI : Nat → Nat → Nat} {ad : Nat → Nat} {cI : ClassId} {p1 : Int32} {s0 : zS} {zr : Int32} {zs : zS} (h : fX9_count p1 s0 = some (zr, zs)) : sw_Mi l yX9_count (sw_ws yX9_count cX9_count 2 (some .int)) (sw_rm 1 22) (dC, dI) vwCl [(cI, .int)] mF [.ref (ad 0), .int p1] (mW ad cI s0) (mW ad cI zs) zr := by
  intro sz
  refine sw_of (cc := cX9_count) (maxL := 2) (ret := (some .int)) (by decide) rfl (Nat.le_of_ble_eq_true rfl) ?_
  intro p e s m args below meth c A ls hAe hsz X _ hP hD hS hl
  rw [hAe]
  have hx := X.1.1
  have hb := X.1.2.1
  have hown := X.1.2.2.2.1
  have hts := X.1.2.2.2.2
  replace hl : lv_has ls 2 [(0, .ref (ad 0)), (1, .int p1)] := hl
  unfold fX9_count at h
  refine lv_aload_n hx hb dX9_count_0 rfl (lv_at hl 0 rfl) ?_
  refine lv_iload_n hx hb dX9_count_1 rfl (lv_at hl 1 rfl) ?_
  refine lv_iconst (v := (0 : Int32)) hx hb dX9_count_2 (by decide) ?_
  refine lv_bipush (v := (7 : Int32)) hx hb dX9_count_3 (by decide) ?_
  have hq := bd_some h; clear h; obtain ⟨r2, h1, h⟩ := hq
  refine sw_si (rest := [.ref (ad 0)]) m_good X (cX9_isIn_m h1) calX9_isIn k_826 hP hD hS ⟨rfl, rfl⟩ rfl hl.1 rfl (Nat.le_of_ble_eq_true rfl) dX9_count_5 (fun H locs hP hD hS => ?_)
  have hq := bd_some h; clear h; obtain ⟨x5, h6, h⟩ := hq
  have K3 : ∀ (H : Heap) (locs : List Loc), va_P (dC, dI) vwCl (mW ad cI s0) H → va_D A (mW ad cI s0) → va_S A s.heap H locs → W p l e (sw_rm 1 22) s m args below meth c H locs 0 0 (MQ below (sw_Qi (dC, dI) vwCl [(cI, .int)] A (mW ad cI zs) zr) args s 0 0 A) (F0 m 16 ls [.int x5, .ref (ad 0)]) := by
    intro H locs hP hD hS
    have hq := bd2_some h; clear h; obtain ⟨r8, s9, h7, h⟩ := hq
    refine sw_vi (rest := []) m_good X (cX9_refused_m h7) calX9_refused k_829 hP hD hS 0 9 rfl rfl rfl ⟨rfl, rfl⟩ rfl hl.1 rfl (Nat.le_of_ble_eq_true rfl) dX9_count_16 (fun H locs hP hD hS => ?_)
    refine lv_if_eq (tgt := 24) hx hb dX9_count_19 (by decide) (fun c10 => ?_) (fun c10 => ?_)
    · replace h := if_yes h c10
      refine lv_iload_n hx hb dX9_count_24 rfl (lv_at hl 1 rfl) ?_
      by_cases c11 : p1 ∈ ([(0 : Int32)] : List Int32)
      · replace h := if_yes h c11
        refine sw_tabK (tgt := 68) (off := 43) hx hb dX9_count_25 _ c11 (by decide +kernel) (by decide) ?_
        refine lv_aload_n hx hb dX9_count_68 rfl (lv_at hl 0 rfl) ?_
        refine mg_0_6 X hP k_763 dX9_count_69 ?_
        obtain ⟨rfl, rfl⟩ := Prod.mk.inj (Option.some.inj h)
        exact sw_iret X hP hD hS dX9_count_72
      · replace h := if_no h c11
        by_cases c12 : p1 ∈ ([(1 : Int32)] : List Int32)
        · replace h := if_yes h c12
          refine sw_tabK (tgt := 73) (off := 48) hx hb dX9_count_25 _ c12 (by decide +kernel) (by decide) ?_
          refine lv_aload_n hx hb dX9_count_73 rfl (lv_at hl 0 rfl) ?_
          refine mg_0_16 X hP k_773 dX9_count_74 ?_
          obtain ⟨rfl, rfl⟩ := Prod.mk.inj (Option.some.inj h)
          exact sw_iret X hP hD hS dX9_count_77
        · replace h := if_no h c12
          by_cases c13 : p1 ∈ ([(2 : Int32)] : List Int32)
          · replace h := if_yes h c13
            refine sw_tabK (tgt := 78) (off := 53) hx hb dX9_count_25 _ c13 (by decide +kernel) (by decide) ?_
            refine lv_aload_n hx hb dX9_count_78 rfl (lv_at hl 0 rfl) ?_
            refine mg_0_17 X hP k_774 dX9_count_79 ?_
            obtain ⟨rfl, rfl⟩ := Prod.mk.inj (Option.some.inj h)
            exact sw_iret X hP hD hS dX9_count_82
          · replace h := if_no h c13
            by_cases c14 : p1 ∈ ([(3 : Int32)] : List Int32)
            · replace h := if_yes h c14
              refine sw_tabK (tgt := 83) (off := 58) hx hb dX9_count_25 _ c14 (by decide +kernel) (by decide) ?_
              refine lv_aload_n hx hb dX9_count_83 rfl (lv_at hl 0 rfl) ?_
              refine mg_0_18 X hP k_775 dX9_count_84 ?_
              obtain ⟨rfl, rfl⟩ := Prod.mk.inj (Option.some.inj h)
              exact sw_iret X hP hD hS dX9_count_87
            · replace h := if_no h c14
              by_cases c15 : p1 ∈ ([(4 : Int32)] : List Int32)
              · replace h := if_yes h c15
                refine sw_tabK (tgt := 88) (off := 63) hx hb dX9_count_25 _ c15 (by decide +kernel) (by decide) ?_
                refine lv_aload_n hx hb dX9_count_88 rfl (lv_at hl 0 rfl) ?_
                refine mg_0_7 X hP k_764 dX9_count_89 ?_
                refine lv_if_eq (tgt := 99) hx hb dX9_count_92 (by decide) (fun c16 => ?_) (fun c16 => ?_)
                · replace h := if_yes h c16
                  refine lv_iconst (v := (0 : Int32)) hx hb dX9_count_99 (by decide) ?_
                  obtain ⟨rfl, rfl⟩ := Prod.mk.inj (Option.some.inj h)
                  exact sw_iret X hP hD hS dX9_count_100
                · replace h := if_no h c16
                  refine lv_iconst (v := (1 : Int32)) hx hb dX9_count_95 (by decide) ?_
                  refine lv_goto (tgt := 100) hx hb dX9_count_96 (by decide) ?_
                  obtain ⟨rfl, rfl⟩ := Prod.mk.inj (Option.some.inj h)
                  exact sw_iret X hP hD hS dX9_count_100
              · replace h := if_no h c15
                by_cases c17 : p1 ∈ ([(5 : Int32)] : List Int32)
                · replace h := if_yes h c17
                  refine sw_tabK (tgt := 101) (off := 76) hx hb dX9_count_25 _ c17 (by decide +kernel) (by decide) ?_
                  refine lv_aload_n hx hb dX9_count_101 rfl (lv_at hl 0 rfl) ?_
                  refine mg_0_8 X hP k_765 dX9_count_102 ?_
                  refine lv_if_eq (tgt := 112) hx hb dX9_count_105 (by decide) (fun c18 => ?_) (fun c18 => ?_)
                  · replace h := if_yes h c18
                    refine lv_iconst (v := (0 : Int32)) hx hb dX9_count_112 (by decide) ?_
                    obtain ⟨rfl, rfl⟩ := Prod.mk.inj (Option.some.inj h)
                    exact sw_iret X hP hD hS dX9_count_113
                  · replace h := if_no h c18
                    refine lv_iconst (v := (1 : Int32)) hx hb dX9_count_108 (by decide) ?_
                    refine lv_goto (tgt := 113) hx hb dX9_count_109 (by decide) ?_
                    obtain ⟨rfl, rfl⟩ := Prod.mk.inj (Option.some.inj h)
                    exact sw_iret X hP hD hS dX9_count_113
                · replace h := if_no h c17
                  by_cases c19 : p1 ∈ ([(6 : Int32)] : List Int32)
                  · replace h := if_yes h c19
                    refine sw_tabK (tgt := 114) (off := 89) hx hb dX9_count_25 _ c19 (by decide +kernel) (by decide) ?_
                    refine lv_aload_n hx hb dX9_count_114 rfl (lv_at hl 0 rfl) ?_
                    refine mg_0_11 X hP k_768 dX9_count_115 ?_
                    obtain ⟨rfl, rfl⟩ := Prod.mk.inj (Option.some.inj h)
                    exact sw_iret X hP hD hS dX9_count_118
                  · replace h := if_no h c19
                    refine sw_tabD (tgt := 119) hx hb dX9_count_25 (([(0 : Int32)] : List Int32) ++ (([(1 : Int32)] : List Int32) ++ (([(2 : Int32)] : List Int32) ++ (([(3 : Int32)] : List Int32) ++ (([(4 : Int32)] : List Int32) ++ (([(5 : Int32)] : List Int32) ++ ([(6 : Int32)] : List Int32))))))) (fun hm => (List.mem_append.mp hm).elim c11 (fun hm => (List.mem_append.mp hm).elim c12 (fun hm => (List.mem_append.mp hm).elim c13 (fun hm => (List.mem_append.mp hm).elim c14 (fun hm => (List.mem_append.mp hm).elim c15 (fun hm => (List.mem_append.mp hm).elim c17 c19)))))) (by decide +kernel) (by decide) ?_
                    refine lv_aload_n hx hb dX9_count_119 rfl (lv_at hl 0 rfl) ?_
                    refine mg_0_12 X hP k_769 dX9_count_120 ?_
                    obtain ⟨rfl, rfl⟩ := Prod.mk.inj (Option.some.inj h)
                    exact sw_iret X hP hD hS dX9_count_123
    · replace h := if_no h c10
      refine lv_iconst (v := (0 : Int32)) hx hb dX9_count_22 (by decide) ?_
      obtain ⟨rfl, rfl⟩ := Prod.mk.inj (Option.some.inj h)
      exact sw_iret X hP hD hS dX9_count_23
  replace h := h6
  clear h6
  refine lv_if_eq (tgt := 15) hx hb dX9_count_8 (by decide) (fun c4 => ?_) (fun c4 => ?_)
  · replace h := if_yes h c4
    refine lv_iconst (v := (1 : Int32)) hx hb dX9_count_15 (by decide) ?_
    obtain rfl := Option.some.inj h
    exact K3 _ _ hP hD hS
  · replace h := if_no h c4
    refine lv_iconst (v := (0 : Int32)) hx hb dX9_count_11 (by decide) ?_
    refine lv_goto (tgt := 16) hx hb dX9_count_12 (by decide) ?_
    obtain rfl := Option.some.inj h
    exact K3 _ _ hP hD hS
theorem dX9_change_0 : decode cX9_change 0 = .ok (.aload_n 0, 1) := by decide +kernel
theorem dX9_change_1 : decode cX9_change 1 = .ok (.iconst 0, 1) := by decide +kernel
theorem dX9_change_2 : decode cX9_change 2 = .ok (.putfield 28, 3) := by decide +kernel
theorem dX9_change_5 : decode cX9_change 5 = .ok (.iload_n 1, 1) := by decide +kernel
theorem dX9_change_6 : decode cX9_change 6 = .ok (.iconst 0, 1) := by decide +kernel
theorem dX9_change_7 : decode cX9_change 7 = .ok (.aload_n 0, 1) := by decide +kernel
theorem dX9_change_8 : decode cX9_change 8 = .ok (.getfield 197, 3) := by decide +kernel
theorem dX9_change_11 : decode cX9_change 11 = .ok (.iconst 1, 1) := by decide +kernel
theorem dX9_change_12 : decode cX9_change 12 = .ok (.isub, 1) := by decide +kernel
theorem dX9_change_13 : decode cX9_change 13 = .ok (.invokestatic 35, 3) := by decide +kernel
theorem dX9_change_16 : decode cX9_change 16 = .ok (.ifCond .eq 18, 3) := by decide +kernel
theorem dX9_change_19 : decode cX9_change 19 = .ok (.iload_n 1, 1) := by decide +kernel
theorem dX9_change_20 : decode cX9_change 20 = .ok (.bipush 100, 2) := by decide +kernel
theorem dX9_change_22 : decode cX9_change 22 = .ok (.if_icmp .ge 12, 3) := by decide +kernel
theorem dX9_change_25 : decode cX9_change 25 = .ok (.aload_n 0, 1) := by decide +kernel
theorem dX9_change_26 : decode cX9_change 26 = .ok (.getfield 25, 3) := by decide +kernel
theorem dX9_change_29 : decode cX9_change 29 = .ok (.iload_n 1, 1) := by decide +kernel
theorem dX9_change_30 : decode cX9_change 30 = .ok (.iaload, 1) := by decide +kernel
theorem dX9_change_31 : decode cX9_change 31 = .ok (.goto 4, 3) := by decide +kernel
theorem dX9_change_34 : decode cX9_change 34 = .ok (.iconst (-1), 1) := by decide +kernel
theorem dX9_change_35 : decode cX9_change 35 = .ok (.ireturn, 1) := by decide +kernel
def fX9_change (p1 : Int32) (s0 : zS) : Option (Int32 × zS) := bd (fX9_isIn p1 (0 : Int32) (((st1 s0 0 (0 : Int32)).1 13) - (1 : Int32))) fun r2 => if r2 = (0 : Int32) then (some ((-1 : Int32), (st1 s0 0 (0 : Int32)))) else (if (100 : Int32) ≤ p1 then (some ((-1 : Int32), (st1 s0 0 (0 : Int32)))) else (gd (0 ≤ p1 ∧ p1 < 100) <| some (((st1 s0 0 (0 : Int32)).2 5 (p1.toNatClampNeg)), (st1 s0 0 (0 : Int32)))))
set_option maxHeartbeats 4000000 in
set_option maxRecDepth 100000 in
theorem cX9_change_m {l : Launch} {dC : Nat → ClassId} {dI : Nat → Nat → Nat} {ad : Nat → Nat} {cI : ClassId} {p1 : Int32} {s0 : zS} {zr : Int32} {zs : zS} (h : fX9_change p1 s0 = some (zr, zs)) : sw_Mi l yX9_change (sw_ws yX9_change cX9_change 2 (some .int)) (sw_rm 1 22) (dC, dI) vwCl [(cI, .int)] mF [.ref (ad 0), .int p1] (mW ad cI s0) (mW ad cI zs) zr := by
  intro sz
  refine sw_of (cc := cX9_change) (maxL := 2) (ret := (some .int)) (by decide) rfl (Nat.le_of_ble_eq_true rfl) ?_
  intro p e s m args below meth c A ls hAe hsz X _ hP hD hS hl
  rw [hAe]
  have hx := X.1.1
  have hb := X.1.2.1
  have hown := X.1.2.2.2.1
  have hts := X.1.2.2.2.2
  replace hl : lv_has ls 2 [(0, .ref (ad 0)), (1, .int p1)] := hl
  unfold fX9_change at h
  refine lv_aload_n hx hb dX9_change_0 rfl (lv_at hl 0 rfl) ?_
  refine lv_iconst (v := (0 : Int32)) hx hb dX9_change_1 (by decide) ?_
  refine mp_0_0 X hP hD hS k_757 dX9_change_2 (fun H locs hP hD hS => ?_)
  refine lv_iload_n hx hb dX9_change_5 rfl (lv_at hl 1 rfl) ?_
  refine lv_iconst (v := (0 : Int32)) hx hb dX9_change_6 (by decide) ?_
  refine lv_aload_n hx hb dX9_change_7 rfl (lv_at hl 0 rfl) ?_
  refine mg_0_18 X hP k_775 dX9_change_8 ?_
  refine lv_iconst (v := (1 : Int32)) hx hb dX9_change_11 (by decide) ?_
  refine lv_isub hx hb dX9_change_12 ?_
  have hq := bd_some h; clear h; obtain ⟨r2, h1, h⟩ := hq
  refine sw_si (rest := []) m_good X (cX9_isIn_m h1) calX9_isIn k_826 hP hD hS ⟨rfl, rfl⟩ rfl hl.1 rfl (Nat.le_of_ble_eq_true rfl) dX9_change_13 (fun H locs hP hD hS => ?_)
  refine lv_if_eq (tgt := 34) hx hb dX9_change_16 (by decide) (fun c3 => ?_) (fun c3 => ?_)
  · replace h := if_yes h c3
    refine lv_iconst (v := (-1 : Int32)) hx hb dX9_change_34 (by decide) ?_
    obtain ⟨rfl, rfl⟩ := Prod.mk.inj (Option.some.inj h)
    exact sw_iret X hP hD hS dX9_change_35
  · replace h := if_no h c3
    refine lv_iload_n hx hb dX9_change_19 rfl (lv_at hl 1 rfl) ?_
    refine lv_bipush (v := (100 : Int32)) hx hb dX9_change_20 (by decide) ?_
    refine lv_icmp_ge (tgt := 34) hx hb dX9_change_22 (by decide) (fun c4 => ?_) (fun c4 => ?_)
    · replace h := if_yes h c4
      refine lv_iconst (v := (-1 : Int32)) hx hb dX9_change_34 (by decide) ?_
      obtain ⟨rfl, rfl⟩ := Prod.mk.inj (Option.some.inj h)
      exact sw_iret X hP hD hS dX9_change_35
    · replace h := if_no h c4
      refine lv_aload_n hx hb dX9_change_25 rfl (lv_at hl 0 rfl) ?_
      refine mg_0_19 X hP k_776 dX9_change_26 ?_
      refine lv_iload_n hx hb dX9_change_29 rfl (lv_at hl 1 rfl) ?_
      have hq := gd_some h; clear h; obtain ⟨c5, h⟩ := hq
      refine ml_5 X hP (vin_in c5 (by decide)) dX9_change_30 ?_
      refine lv_goto (tgt := 35) hx hb dX9_change_31 (by decide) ?_
      obtain ⟨rfl, rfl⟩ := Prod.mk.inj (Option.some.inj h)
      exact sw_iret X hP hD hS dX9_change_35
