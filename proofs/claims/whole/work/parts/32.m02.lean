theorem dX9_addPairWithCarry_0 : decode cX9_addPairWithCarry 0 = .ok (.aload_n 0, 1) := by decide +kernel
theorem dX9_addPairWithCarry_1 : decode cX9_addPairWithCarry 1 = .ok (.aload_n 0, 1) := by decide +kernel
theorem dX9_addPairWithCarry_2 : decode cX9_addPairWithCarry 2 = .ok (.getfield 32, 3) := by decide +kernel
theorem dX9_addPairWithCarry_5 : decode cX9_addPairWithCarry 5 = .ok (.bipush 7, 2) := by decide +kernel
theorem dX9_addPairWithCarry_7 : decode cX9_addPairWithCarry 7 = .ok (.iadd, 1) := by decide +kernel
theorem dX9_addPairWithCarry_8 : decode cX9_addPairWithCarry 8 = .ok (.putfield 32, 3) := by decide +kernel
theorem dX9_addPairWithCarry_11 : decode cX9_addPairWithCarry 11 = .ok (.aload_n 0, 1) := by decide +kernel
theorem dX9_addPairWithCarry_12 : decode cX9_addPairWithCarry 12 = .ok (.invokevirtual 71, 3) := by decide +kernel
theorem dX9_addPairWithCarry_15 : decode cX9_addPairWithCarry 15 = .ok (.istore_n 3, 1) := by decide +kernel
theorem dX9_addPairWithCarry_16 : decode cX9_addPairWithCarry 16 = .ok (.aload_n 0, 1) := by decide +kernel
theorem dX9_addPairWithCarry_17 : decode cX9_addPairWithCarry 17 = .ok (.iload_n 1, 1) := by decide +kernel
theorem dX9_addPairWithCarry_18 : decode cX9_addPairWithCarry 18 = .ok (.invokevirtual 68, 3) := by decide +kernel
theorem dX9_addPairWithCarry_21 : decode cX9_addPairWithCarry 21 = .ok (.istore 4, 2) := by decide +kernel
theorem dX9_addPairWithCarry_23 : decode cX9_addPairWithCarry 23 = .ok (.aload_n 0, 1) := by decide +kernel
theorem dX9_addPairWithCarry_24 : decode cX9_addPairWithCarry 24 = .ok (.invokevirtual 77, 3) := by decide +kernel
theorem dX9_addPairWithCarry_27 : decode cX9_addPairWithCarry 27 = .ok (.istore 5, 2) := by decide +kernel
theorem dX9_addPairWithCarry_29 : decode cX9_addPairWithCarry 29 = .ok (.iload_n 2, 1) := by decide +kernel
theorem dX9_addPairWithCarry_30 : decode cX9_addPairWithCarry 30 = .ok (.ifCond .eq 13, 3) := by decide +kernel
theorem dX9_addPairWithCarry_33 : decode cX9_addPairWithCarry 33 = .ok (.iload_n 3, 1) := by decide +kernel
theorem dX9_addPairWithCarry_34 : decode cX9_addPairWithCarry 34 = .ok (.iload 4, 2) := by decide +kernel
theorem dX9_addPairWithCarry_36 : decode cX9_addPairWithCarry 36 = .ok (.isub, 1) := by decide +kernel
theorem dX9_addPairWithCarry_37 : decode cX9_addPairWithCarry 37 = .ok (.iload 5, 2) := by decide +kernel
theorem dX9_addPairWithCarry_39 : decode cX9_addPairWithCarry 39 = .ok (.isub, 1) := by decide +kernel
theorem dX9_addPairWithCarry_40 : decode cX9_addPairWithCarry 40 = .ok (.goto 10, 3) := by decide +kernel
theorem dX9_addPairWithCarry_43 : decode cX9_addPairWithCarry 43 = .ok (.iload_n 3, 1) := by decide +kernel
theorem dX9_addPairWithCarry_44 : decode cX9_addPairWithCarry 44 = .ok (.iload 4, 2) := by decide +kernel
theorem dX9_addPairWithCarry_46 : decode cX9_addPairWithCarry 46 = .ok (.iadd, 1) := by decide +kernel
theorem dX9_addPairWithCarry_47 : decode cX9_addPairWithCarry 47 = .ok (.iload 5, 2) := by decide +kernel
theorem dX9_addPairWithCarry_49 : decode cX9_addPairWithCarry 49 = .ok (.iadd, 1) := by decide +kernel
theorem dX9_addPairWithCarry_50 : decode cX9_addPairWithCarry 50 = .ok (.istore 6, 2) := by decide +kernel
theorem dX9_addPairWithCarry_52 : decode cX9_addPairWithCarry 52 = .ok (.iload_n 2, 1) := by decide +kernel
theorem dX9_addPairWithCarry_53 : decode cX9_addPairWithCarry 53 = .ok (.ifCond .eq 21, 3) := by decide +kernel
theorem dX9_addPairWithCarry_56 : decode cX9_addPairWithCarry 56 = .ok (.iload_n 3, 1) := by decide +kernel
theorem dX9_addPairWithCarry_57 : decode cX9_addPairWithCarry 57 = .ok (.sipush 4095, 3) := by decide +kernel
theorem dX9_addPairWithCarry_60 : decode cX9_addPairWithCarry 60 = .ok (.iand, 1) := by decide +kernel
theorem dX9_addPairWithCarry_61 : decode cX9_addPairWithCarry 61 = .ok (.iload 4, 2) := by decide +kernel
theorem dX9_addPairWithCarry_63 : decode cX9_addPairWithCarry 63 = .ok (.sipush 4095, 3) := by decide +kernel
theorem dX9_addPairWithCarry_66 : decode cX9_addPairWithCarry 66 = .ok (.iand, 1) := by decide +kernel
theorem dX9_addPairWithCarry_67 : decode cX9_addPairWithCarry 67 = .ok (.isub, 1) := by decide +kernel
theorem dX9_addPairWithCarry_68 : decode cX9_addPairWithCarry 68 = .ok (.iload 5, 2) := by decide +kernel
theorem dX9_addPairWithCarry_70 : decode cX9_addPairWithCarry 70 = .ok (.isub, 1) := by decide +kernel
theorem dX9_addPairWithCarry_71 : decode cX9_addPairWithCarry 71 = .ok (.goto 18, 3) := by decide +kernel
theorem dX9_addPairWithCarry_74 : decode cX9_addPairWithCarry 74 = .ok (.iload_n 3, 1) := by decide +kernel
theorem dX9_addPairWithCarry_75 : decode cX9_addPairWithCarry 75 = .ok (.sipush 4095, 3) := by decide +kernel
theorem dX9_addPairWithCarry_78 : decode cX9_addPairWithCarry 78 = .ok (.iand, 1) := by decide +kernel
theorem dX9_addPairWithCarry_79 : decode cX9_addPairWithCarry 79 = .ok (.iload 4, 2) := by decide +kernel
theorem dX9_addPairWithCarry_81 : decode cX9_addPairWithCarry 81 = .ok (.sipush 4095, 3) := by decide +kernel
theorem dX9_addPairWithCarry_84 : decode cX9_addPairWithCarry 84 = .ok (.iand, 1) := by decide +kernel
theorem dX9_addPairWithCarry_85 : decode cX9_addPairWithCarry 85 = .ok (.iadd, 1) := by decide +kernel
theorem dX9_addPairWithCarry_86 : decode cX9_addPairWithCarry 86 = .ok (.iload 5, 2) := by decide +kernel
theorem dX9_addPairWithCarry_88 : decode cX9_addPairWithCarry 88 = .ok (.iadd, 1) := by decide +kernel
theorem dX9_addPairWithCarry_89 : decode cX9_addPairWithCarry 89 = .ok (.istore 7, 2) := by decide +kernel
theorem dX9_addPairWithCarry_91 : decode cX9_addPairWithCarry 91 = .ok (.iload_n 2, 1) := by decide +kernel
theorem dX9_addPairWithCarry_92 : decode cX9_addPairWithCarry 92 = .ok (.ifCond .eq 15, 3) := by decide +kernel
theorem dX9_addPairWithCarry_95 : decode cX9_addPairWithCarry 95 = .ok (.iload_n 3, 1) := by decide +kernel
theorem dX9_addPairWithCarry_96 : decode cX9_addPairWithCarry 96 = .ok (.i2s, 1) := by decide +kernel
theorem dX9_addPairWithCarry_97 : decode cX9_addPairWithCarry 97 = .ok (.iload 4, 2) := by decide +kernel
theorem dX9_addPairWithCarry_99 : decode cX9_addPairWithCarry 99 = .ok (.i2s, 1) := by decide +kernel
theorem dX9_addPairWithCarry_100 : decode cX9_addPairWithCarry 100 = .ok (.isub, 1) := by decide +kernel
theorem dX9_addPairWithCarry_101 : decode cX9_addPairWithCarry 101 = .ok (.iload 5, 2) := by decide +kernel
theorem dX9_addPairWithCarry_103 : decode cX9_addPairWithCarry 103 = .ok (.isub, 1) := by decide +kernel
theorem dX9_addPairWithCarry_104 : decode cX9_addPairWithCarry 104 = .ok (.goto 12, 3) := by decide +kernel
theorem dX9_addPairWithCarry_107 : decode cX9_addPairWithCarry 107 = .ok (.iload_n 3, 1) := by decide +kernel
theorem dX9_addPairWithCarry_108 : decode cX9_addPairWithCarry 108 = .ok (.i2s, 1) := by decide +kernel
theorem dX9_addPairWithCarry_109 : decode cX9_addPairWithCarry 109 = .ok (.iload 4, 2) := by decide +kernel
theorem dX9_addPairWithCarry_111 : decode cX9_addPairWithCarry 111 = .ok (.i2s, 1) := by decide +kernel
theorem dX9_addPairWithCarry_112 : decode cX9_addPairWithCarry 112 = .ok (.iadd, 1) := by decide +kernel
theorem dX9_addPairWithCarry_113 : decode cX9_addPairWithCarry 113 = .ok (.iload 5, 2) := by decide +kernel
theorem dX9_addPairWithCarry_115 : decode cX9_addPairWithCarry 115 = .ok (.iadd, 1) := by decide +kernel
theorem dX9_addPairWithCarry_116 : decode cX9_addPairWithCarry 116 = .ok (.istore 8, 2) := by decide +kernel
theorem dX9_addPairWithCarry_118 : decode cX9_addPairWithCarry 118 = .ok (.iload 6, 2) := by decide +kernel
theorem dX9_addPairWithCarry_120 : decode cX9_addPairWithCarry 120 = .ok (.ldc 49, 2) := by decide +kernel
theorem dX9_addPairWithCarry_122 : decode cX9_addPairWithCarry 122 = .ok (.iand, 1) := by decide +kernel
theorem dX9_addPairWithCarry_123 : decode cX9_addPairWithCarry 123 = .ok (.ifCond .ne 8, 3) := by decide +kernel
theorem dX9_addPairWithCarry_126 : decode cX9_addPairWithCarry 126 = .ok (.bipush 64, 2) := by decide +kernel
theorem dX9_addPairWithCarry_128 : decode cX9_addPairWithCarry 128 = .ok (.goto 4, 3) := by decide +kernel
theorem dX9_addPairWithCarry_131 : decode cX9_addPairWithCarry 131 = .ok (.iconst 0, 1) := by decide +kernel
theorem dX9_addPairWithCarry_132 : decode cX9_addPairWithCarry 132 = .ok (.istore 9, 2) := by decide +kernel
theorem dX9_addPairWithCarry_134 : decode cX9_addPairWithCarry 134 = .ok (.iload 9, 2) := by decide +kernel
theorem dX9_addPairWithCarry_136 : decode cX9_addPairWithCarry 136 = .ok (.iload 6, 2) := by decide +kernel
theorem dX9_addPairWithCarry_138 : decode cX9_addPairWithCarry 138 = .ok (.bipush 8, 2) := by decide +kernel
theorem dX9_addPairWithCarry_140 : decode cX9_addPairWithCarry 140 = .ok (.ishr, 1) := by decide +kernel
theorem dX9_addPairWithCarry_141 : decode cX9_addPairWithCarry 141 = .ok (.sipush 128, 3) := by decide +kernel
theorem dX9_addPairWithCarry_144 : decode cX9_addPairWithCarry 144 = .ok (.iand, 1) := by decide +kernel
theorem dX9_addPairWithCarry_145 : decode cX9_addPairWithCarry 145 = .ok (.ior, 1) := by decide +kernel
theorem dX9_addPairWithCarry_146 : decode cX9_addPairWithCarry 146 = .ok (.iload 7, 2) := by decide +kernel
theorem dX9_addPairWithCarry_148 : decode cX9_addPairWithCarry 148 = .ok (.ifCond .lt 11, 3) := by decide +kernel
theorem dX9_addPairWithCarry_151 : decode cX9_addPairWithCarry 151 = .ok (.iload 7, 2) := by decide +kernel
theorem dX9_addPairWithCarry_153 : decode cX9_addPairWithCarry 153 = .ok (.sipush 4095, 3) := by decide +kernel
theorem dX9_addPairWithCarry_156 : decode cX9_addPairWithCarry 156 = .ok (.if_icmp .le 8, 3) := by decide +kernel
theorem dX9_addPairWithCarry_159 : decode cX9_addPairWithCarry 159 = .ok (.bipush 16, 2) := by decide +kernel
theorem dX9_addPairWithCarry_161 : decode cX9_addPairWithCarry 161 = .ok (.goto 4, 3) := by decide +kernel
theorem dX9_addPairWithCarry_164 : decode cX9_addPairWithCarry 164 = .ok (.iconst 0, 1) := by decide +kernel
theorem dX9_addPairWithCarry_165 : decode cX9_addPairWithCarry 165 = .ok (.ior, 1) := by decide +kernel
theorem dX9_addPairWithCarry_166 : decode cX9_addPairWithCarry 166 = .ok (.iload 8, 2) := by decide +kernel
theorem dX9_addPairWithCarry_168 : decode cX9_addPairWithCarry 168 = .ok (.sipush (-32768), 3) := by decide +kernel
theorem dX9_addPairWithCarry_171 : decode cX9_addPairWithCarry 171 = .ok (.sipush 32767, 3) := by decide +kernel
theorem dX9_addPairWithCarry_174 : decode cX9_addPairWithCarry 174 = .ok (.invokestatic 35, 3) := by decide +kernel
theorem dX9_addPairWithCarry_177 : decode cX9_addPairWithCarry 177 = .ok (.ifCond .eq 7, 3) := by decide +kernel
theorem dX9_addPairWithCarry_180 : decode cX9_addPairWithCarry 180 = .ok (.iconst 0, 1) := by decide +kernel
theorem dX9_addPairWithCarry_181 : decode cX9_addPairWithCarry 181 = .ok (.goto 4, 3) := by decide +kernel
theorem dX9_addPairWithCarry_184 : decode cX9_addPairWithCarry 184 = .ok (.iconst 4, 1) := by decide +kernel
theorem dX9_addPairWithCarry_185 : decode cX9_addPairWithCarry 185 = .ok (.ior, 1) := by decide +kernel
theorem dX9_addPairWithCarry_186 : decode cX9_addPairWithCarry 186 = .ok (.istore 9, 2) := by decide +kernel
theorem dX9_addPairWithCarry_188 : decode cX9_addPairWithCarry 188 = .ok (.aload_n 0, 1) := by decide +kernel
theorem dX9_addPairWithCarry_189 : decode cX9_addPairWithCarry 189 = .ok (.getfield 13, 3) := by decide +kernel
theorem dX9_addPairWithCarry_192 : decode cX9_addPairWithCarry 192 = .ok (.bipush 6, 2) := by decide +kernel
theorem dX9_addPairWithCarry_194 : decode cX9_addPairWithCarry 194 = .ok (.iload 9, 2) := by decide +kernel
theorem dX9_addPairWithCarry_196 : decode cX9_addPairWithCarry 196 = .ok (.iload_n 2, 1) := by decide +kernel
theorem dX9_addPairWithCarry_197 : decode cX9_addPairWithCarry 197 = .ok (.ifCond .eq 7, 3) := by decide +kernel
theorem dX9_addPairWithCarry_200 : decode cX9_addPairWithCarry 200 = .ok (.iconst 2, 1) := by decide +kernel
theorem dX9_addPairWithCarry_201 : decode cX9_addPairWithCarry 201 = .ok (.goto 4, 3) := by decide +kernel
theorem dX9_addPairWithCarry_204 : decode cX9_addPairWithCarry 204 = .ok (.iconst 0, 1) := by decide +kernel
theorem dX9_addPairWithCarry_205 : decode cX9_addPairWithCarry 205 = .ok (.ior, 1) := by decide +kernel
theorem dX9_addPairWithCarry_206 : decode cX9_addPairWithCarry 206 = .ok (.iload 6, 2) := by decide +kernel
theorem dX9_addPairWithCarry_208 : decode cX9_addPairWithCarry 208 = .ok (.ifCond .lt 10, 3) := by decide +kernel
theorem dX9_addPairWithCarry_211 : decode cX9_addPairWithCarry 211 = .ok (.iload 6, 2) := by decide +kernel
theorem dX9_addPairWithCarry_213 : decode cX9_addPairWithCarry 213 = .ok (.ldc 49, 2) := by decide +kernel
theorem dX9_addPairWithCarry_215 : decode cX9_addPairWithCarry 215 = .ok (.if_icmp .le 7, 3) := by decide +kernel
theorem dX9_addPairWithCarry_218 : decode cX9_addPairWithCarry 218 = .ok (.iconst 1, 1) := by decide +kernel
theorem dX9_addPairWithCarry_219 : decode cX9_addPairWithCarry 219 = .ok (.goto 4, 3) := by decide +kernel
theorem dX9_addPairWithCarry_222 : decode cX9_addPairWithCarry 222 = .ok (.iconst 0, 1) := by decide +kernel
theorem dX9_addPairWithCarry_223 : decode cX9_addPairWithCarry 223 = .ok (.ior, 1) := by decide +kernel
theorem dX9_addPairWithCarry_224 : decode cX9_addPairWithCarry 224 = .ok (.iastore, 1) := by decide +kernel
theorem dX9_addPairWithCarry_225 : decode cX9_addPairWithCarry 225 = .ok (.aload_n 0, 1) := by decide +kernel
theorem dX9_addPairWithCarry_226 : decode cX9_addPairWithCarry 226 = .ok (.iconst 2, 1) := by decide +kernel
theorem dX9_addPairWithCarry_227 : decode cX9_addPairWithCarry 227 = .ok (.iload 6, 2) := by decide +kernel
theorem dX9_addPairWithCarry_229 : decode cX9_addPairWithCarry 229 = .ok (.ldc 49, 2) := by decide +kernel
theorem dX9_addPairWithCarry_231 : decode cX9_addPairWithCarry 231 = .ok (.iand, 1) := by decide +kernel
theorem dX9_addPairWithCarry_232 : decode cX9_addPairWithCarry 232 = .ok (.invokevirtual 90, 3) := by decide +kernel
theorem dX9_addPairWithCarry_235 : decode cX9_addPairWithCarry 235 = .ok (.return_, 1) := by decide +kernel
def fX9_addPairWithCarry (p1 p2 : Int32) (s0 : zS) : Option (zS) := bd2 (fX9_hl  (st1 s0 3 ((s0.1 3) + (7 : Int32)))) fun r2 s3 => bd2 (fX9_pair p1 s3) fun r5 s6 => bd2 (fX9_carry  s6) fun r8 s9 => bd (if p2 = (0 : Int32) then (some ((r2 + r5) + r8)) else (some ((r2 - r5) - r8))) fun x12 => bd (if p2 = (0 : Int32) then (some (((r2 &&& (4095 : Int32)) + (r5 &&& (4095 : Int32))) + r8)) else (some (((r2 &&& (4095 : Int32)) - (r5 &&& (4095 : Int32))) - r8))) fun x16 => bd (if p2 = (0 : Int32) then (some (((r2.toInt16.toInt32) + (r5.toInt16.toInt32)) + r8)) else (some (((r2.toInt16.toInt32) - (r5.toInt16.toInt32)) - r8))) fun x20 => bd (if (x12 &&& (65535 : Int32)) = (0 : Int32) then (some (64 : Int32)) else (some (0 : Int32))) fun x24 => bd (if x16 < (0 : Int32) then (some (16 : Int32)) else (bd (if x16 ≤ (4095 : Int32) then (some (0 : Int32)) else (some (16 : Int32))) fun x30 => some x30)) fun x32 => bd (fX9_isIn x20 (-32768 : Int32) (32767 : Int32)) fun r35 => bd (if r35 = (0 : Int32) then (some (4 : Int32)) else (some (0 : Int32))) fun x38 => nm (((x24 ||| ((x12 >>> ((8 : Int32) &&& 31)) &&& (128 : Int32))) ||| x32) ||| x38) fun x40 => bd (if p2 = (0 : Int32) then (some (0 : Int32)) else (some (2 : Int32))) fun x43 => bd (if x12 < (0 : Int32) then (some (1 : Int32)) else (bd (if x12 ≤ (65535 : Int32) then (some (0 : Int32)) else (some (1 : Int32))) fun x49 => some x49)) fun x51 => bd (fX9_setPair (2 : Int32) (x12 &&& (65535 : Int32)) (st2 s9 1 ((6 : Int32).toNatClampNeg) ((x40 ||| x43) ||| x51))) fun s54 => some s54
set_option maxHeartbeats 4000000 in
set_option maxRecDepth 100000 in
theorem cX9_addPairWithCarry_m {l : Launch} {dC : Nat → ClassId} {dI : Nat → Nat → Nat} {ad : Nat → Nat} {cI : ClassId} {p1 p2 : Int32} {s0 : zS} {zs : zS} (h : fX9_addPairWithCarry p1 p2 s0 = some zs) : sw_Mv l yX9_addPairWithCarry (sw_ws yX9_addPairWithCarry cX9_addPairWithCarry 10 none) (sw_rm 2 41) (dC, dI) vwCl [(cI, .int)] mF [.ref (ad 0), .int p1, .int p2] (mW ad cI s0) (mW ad cI zs) := by
  intro sz
  refine sw_of (cc := cX9_addPairWithCarry) (maxL := 10) (ret := none) (by decide) rfl (Nat.le_of_ble_eq_true rfl) ?_
  intro p e s m args below meth c A ls hAe hsz X _ hP hD hS hl
  rw [hAe]
  have hx := X.1.1
  have hb := X.1.2.1
  have hown := X.1.2.2.2.1
  have hts := X.1.2.2.2.2
  replace hl : lv_has ls 10 [(0, .ref (ad 0)), (1, .int p1), (2, .int p2)] := hl
  unfold fX9_addPairWithCarry at h
  refine lv_aload_n hx hb dX9_addPairWithCarry_0 rfl (lv_at hl 0 rfl) ?_
  refine lv_aload_n hx hb dX9_addPairWithCarry_1 rfl (lv_at hl 0 rfl) ?_
  refine mg_0_6 X hP k_763 dX9_addPairWithCarry_2 ?_
  refine lv_bipush (v := (7 : Int32)) hx hb dX9_addPairWithCarry_5 (by decide) ?_
  refine lv_iadd hx hb dX9_addPairWithCarry_7 ?_
  refine mp_0_6 X hP hD hS k_763 dX9_addPairWithCarry_8 (fun H locs hP hD hS => ?_)
  refine lv_aload_n hx hb dX9_addPairWithCarry_11 rfl (lv_at hl 0 rfl) ?_
  have hq := bd2_some h; clear h; obtain ⟨r2, s3, h1, h⟩ := hq
  refine sw_vi (rest := []) m_good X (cX9_hl_m h1) calX9_hl k_898 hP hD hS 0 9 rfl rfl rfl ⟨rfl, rfl⟩ rfl hl.1 rfl (Nat.le_of_ble_eq_true rfl) dX9_addPairWithCarry_12 (fun H locs hP hD hS => ?_)
  refine lv_istore_n (lv' := [(3, .int r2), (0, .ref (ad 0)), (1, .int p1), (2, .int p2)]) hx hb dX9_addPairWithCarry_15 rfl hl (by decide) rfl (fun ls hl => ?_)
  refine lv_aload_n hx hb dX9_addPairWithCarry_16 rfl (lv_at hl 1 rfl) ?_
  refine lv_iload_n hx hb dX9_addPairWithCarry_17 rfl (lv_at hl 2 rfl) ?_
  have hq := bd2_some h; clear h; obtain ⟨r5, s6, h4, h⟩ := hq
  refine sw_vi (rest := []) m_good X (cX9_pair_m h4) calX9_pair k_902 hP hD hS 0 9 rfl rfl rfl ⟨rfl, rfl⟩ rfl hl.1 rfl (Nat.le_of_ble_eq_true rfl) dX9_addPairWithCarry_18 (fun H locs hP hD hS => ?_)
  refine lv_istore (lv' := [(4, .int r5), (3, .int r2), (0, .ref (ad 0)), (1, .int p1), (2, .int p2)]) hx hb dX9_addPairWithCarry_21 hl (by decide) rfl (fun ls hl => ?_)
  refine lv_aload_n hx hb dX9_addPairWithCarry_23 rfl (lv_at hl 2 rfl) ?_
  have hq := bd2_some h; clear h; obtain ⟨r8, s9, h7, h⟩ := hq
  refine sw_vi (rest := []) m_good X (cX9_carry_m h7) calX9_carry k_914 hP hD hS 0 9 rfl rfl rfl ⟨rfl, rfl⟩ rfl hl.1 rfl (Nat.le_of_ble_eq_true rfl) dX9_addPairWithCarry_24 (fun H locs hP hD hS => ?_)
  refine lv_istore (lv' := [(5, .int r8), (4, .int r5), (3, .int r2), (0, .ref (ad 0)), (1, .int p1), (2, .int p2)]) hx hb dX9_addPairWithCarry_27 hl (by decide) rfl (fun ls hl => ?_)
  refine lv_iload_n hx hb dX9_addPairWithCarry_29 rfl (lv_at hl 5 rfl) ?_
  have hq := bd_some h; clear h; obtain ⟨x12, h13, h⟩ := hq
  have K10 : ∀ (H : Heap) (locs : List Loc), va_P (dC, dI) vwCl (mW ad cI s9) H → va_D A (mW ad cI s9) → va_S A s.heap H locs → W p l e (sw_rm 2 41) s m args below meth c H locs 0 0 (MQ below (sw_Qv (dC, dI) vwCl [(cI, .int)] A (mW ad cI zs)) args s 0 0 A) (F0 m 50 ls [.int x12]) := by
    intro H locs hP hD hS
    refine lv_istore (lv' := [(6, .int x12), (5, .int r8), (4, .int r5), (3, .int r2), (0, .ref (ad 0)), (1, .int p1), (2, .int p2)]) hx hb dX9_addPairWithCarry_50 hl (by decide) rfl (fun ls hl => ?_)
    refine lv_iload_n hx hb dX9_addPairWithCarry_52 rfl (lv_at hl 6 rfl) ?_
    have hq := bd_some h; clear h; obtain ⟨x16, h17, h⟩ := hq
    have K14 : ∀ (H : Heap) (locs : List Loc), va_P (dC, dI) vwCl (mW ad cI s9) H → va_D A (mW ad cI s9) → va_S A s.heap H locs → W p l e (sw_rm 2 41) s m args below meth c H locs 0 0 (MQ below (sw_Qv (dC, dI) vwCl [(cI, .int)] A (mW ad cI zs)) args s 0 0 A) (F0 m 89 ls [.int x16]) := by
      intro H locs hP hD hS
      refine lv_istore (lv' := [(7, .int x16), (6, .int x12), (5, .int r8), (4, .int r5), (3, .int r2), (0, .ref (ad 0)), (1, .int p1), (2, .int p2)]) hx hb dX9_addPairWithCarry_89 hl (by decide) rfl (fun ls hl => ?_)
      refine lv_iload_n hx hb dX9_addPairWithCarry_91 rfl (lv_at hl 7 rfl) ?_
      have hq := bd_some h; clear h; obtain ⟨x20, h21, h⟩ := hq
      have K18 : ∀ (H : Heap) (locs : List Loc), va_P (dC, dI) vwCl (mW ad cI s9) H → va_D A (mW ad cI s9) → va_S A s.heap H locs → W p l e (sw_rm 2 41) s m args below meth c H locs 0 0 (MQ below (sw_Qv (dC, dI) vwCl [(cI, .int)] A (mW ad cI zs)) args s 0 0 A) (F0 m 116 ls [.int x20]) := by
        intro H locs hP hD hS
        refine lv_istore (lv' := [(8, .int x20), (7, .int x16), (6, .int x12), (5, .int r8), (4, .int r5), (3, .int r2), (0, .ref (ad 0)), (1, .int p1), (2, .int p2)]) hx hb dX9_addPairWithCarry_116 hl (by decide) rfl (fun ls hl => ?_)
        refine lv_iload hx hb dX9_addPairWithCarry_118 (lv_at hl 2 rfl) ?_
        refine lv_ldc (v := 65535) hx hb hown (hts _ (List.mem_cons_of_mem _ k_841)) dX9_addPairWithCarry_120 ?_
        refine lv_iand hx hb dX9_addPairWithCarry_122 ?_
        have hq := bd_some h; clear h; obtain ⟨x24, h25, h⟩ := hq
        have K22 : ∀ (H : Heap) (locs : List Loc), va_P (dC, dI) vwCl (mW ad cI s9) H → va_D A (mW ad cI s9) → va_S A s.heap H locs → W p l e (sw_rm 2 41) s m args below meth c H locs 0 0 (MQ below (sw_Qv (dC, dI) vwCl [(cI, .int)] A (mW ad cI zs)) args s 0 0 A) (F0 m 132 ls [.int x24]) := by
          intro H locs hP hD hS
          refine lv_istore (lv' := [(9, .int x24), (8, .int x20), (7, .int x16), (6, .int x12), (5, .int r8), (4, .int r5), (3, .int r2), (0, .ref (ad 0)), (1, .int p1), (2, .int p2)]) hx hb dX9_addPairWithCarry_132 hl (by decide) rfl (fun ls hl => ?_)
          refine lv_iload hx hb dX9_addPairWithCarry_134 (lv_at hl 0 rfl) ?_
          refine lv_iload hx hb dX9_addPairWithCarry_136 (lv_at hl 3 rfl) ?_
          refine lv_bipush (v := (8 : Int32)) hx hb dX9_addPairWithCarry_138 (by decide) ?_
          refine lv_ishr hx hb dX9_addPairWithCarry_140 ?_
          refine lv_sipush (v := (128 : Int32)) hx hb dX9_addPairWithCarry_141 (by decide) ?_
          refine lv_iand hx hb dX9_addPairWithCarry_144 ?_
          refine lv_ior hx hb dX9_addPairWithCarry_145 ?_
          refine lv_iload hx hb dX9_addPairWithCarry_146 (lv_at hl 2 rfl) ?_
          have hq := bd_some h; clear h; obtain ⟨x32, h33, h⟩ := hq
          have K26 : ∀ (H : Heap) (locs : List Loc), va_P (dC, dI) vwCl (mW ad cI s9) H → va_D A (mW ad cI s9) → va_S A s.heap H locs → W p l e (sw_rm 2 41) s m args below meth c H locs 0 0 (MQ below (sw_Qv (dC, dI) vwCl [(cI, .int)] A (mW ad cI zs)) args s 0 0 A) (F0 m 165 ls [.int x32, .int (x24 ||| ((x12 >>> ((8 : Int32) &&& 31)) &&& (128 : Int32)))]) := by
            intro H locs hP hD hS
            refine lv_ior hx hb dX9_addPairWithCarry_165 ?_
            refine lv_iload hx hb dX9_addPairWithCarry_166 (lv_at hl 1 rfl) ?_
            refine lv_sipush (v := (-32768 : Int32)) hx hb dX9_addPairWithCarry_168 (by decide) ?_
            refine lv_sipush (v := (32767 : Int32)) hx hb dX9_addPairWithCarry_171 (by decide) ?_
            have hq := bd_some h; clear h; obtain ⟨r35, h34, h⟩ := hq
            refine sw_si (rest := [.int ((x24 ||| ((x12 >>> ((8 : Int32) &&& 31)) &&& (128 : Int32))) ||| x32)]) m_good X (cX9_isIn_m h34) calX9_isIn k_826 hP hD hS ⟨rfl, rfl⟩ rfl hl.1 rfl (Nat.le_of_ble_eq_true rfl) dX9_addPairWithCarry_174 (fun H locs hP hD hS => ?_)
            have hq := bd_some h; clear h; obtain ⟨x38, h39, h⟩ := hq
            have K36 : ∀ (H : Heap) (locs : List Loc), va_P (dC, dI) vwCl (mW ad cI s9) H → va_D A (mW ad cI s9) → va_S A s.heap H locs → W p l e (sw_rm 2 41) s m args below meth c H locs 0 0 (MQ below (sw_Qv (dC, dI) vwCl [(cI, .int)] A (mW ad cI zs)) args s 0 0 A) (F0 m 185 ls [.int x38, .int ((x24 ||| ((x12 >>> ((8 : Int32) &&& 31)) &&& (128 : Int32))) ||| x32)]) := by
              intro H locs hP hD hS
              refine lv_ior hx hb dX9_addPairWithCarry_185 ?_
              refine lv_topi (fun x40 ex40 => ?_)
              replace h := nm_use ex40 h
              refine lv_istore (lv' := [(9, .int x40), (8, .int x20), (7, .int x16), (6, .int x12), (5, .int r8), (4, .int r5), (3, .int r2), (0, .ref (ad 0)), (1, .int p1), (2, .int p2)]) hx hb dX9_addPairWithCarry_186 hl (by decide) rfl (fun ls hl => ?_)
              refine lv_aload_n hx hb dX9_addPairWithCarry_188 rfl (lv_at hl 7 rfl) ?_
              refine mg_0_2 X hP k_759 dX9_addPairWithCarry_189 ?_
              refine lv_bipush (v := (6 : Int32)) hx hb dX9_addPairWithCarry_192 (by decide) ?_
              refine lv_iload hx hb dX9_addPairWithCarry_194 (lv_at hl 0 rfl) ?_
              refine lv_iload_n hx hb dX9_addPairWithCarry_196 rfl (lv_at hl 9 rfl) ?_
              have hq := bd_some h; clear h; obtain ⟨x43, h44, h⟩ := hq
              have K41 : ∀ (H : Heap) (locs : List Loc), va_P (dC, dI) vwCl (mW ad cI s9) H → va_D A (mW ad cI s9) → va_S A s.heap H locs → W p l e (sw_rm 2 41) s m args below meth c H locs 0 0 (MQ below (sw_Qv (dC, dI) vwCl [(cI, .int)] A (mW ad cI zs)) args s 0 0 A) (F0 m 205 ls [.int x43, .int x40, .int (6 : Int32), .ref (ad 2)]) := by
                intro H locs hP hD hS
                refine lv_ior hx hb dX9_addPairWithCarry_205 ?_
                refine lv_iload hx hb dX9_addPairWithCarry_206 (lv_at hl 3 rfl) ?_
                have hq := bd_some h; clear h; obtain ⟨x51, h52, h⟩ := hq
                have K45 : ∀ (H : Heap) (locs : List Loc), va_P (dC, dI) vwCl (mW ad cI s9) H → va_D A (mW ad cI s9) → va_S A s.heap H locs → W p l e (sw_rm 2 41) s m args below meth c H locs 0 0 (MQ below (sw_Qv (dC, dI) vwCl [(cI, .int)] A (mW ad cI zs)) args s 0 0 A) (F0 m 223 ls [.int x51, .int (x40 ||| x43), .int (6 : Int32), .ref (ad 2)]) := by
                  intro H locs hP hD hS
                  refine lv_ior hx hb dX9_addPairWithCarry_223 ?_
                  refine mb_1 X hP hD hS (vin_in (i := (6 : Int32)) (n := 8) (by decide) (by decide)) dX9_addPairWithCarry_224 (fun H locs hP hD hS => ?_)
                  refine lv_aload_n hx hb dX9_addPairWithCarry_225 rfl (lv_at hl 7 rfl) ?_
                  refine lv_iconst (v := (2 : Int32)) hx hb dX9_addPairWithCarry_226 (by decide) ?_
                  refine lv_iload hx hb dX9_addPairWithCarry_227 (lv_at hl 3 rfl) ?_
                  refine lv_ldc (v := 65535) hx hb hown (hts _ (List.mem_cons_of_mem _ k_841)) dX9_addPairWithCarry_229 ?_
                  refine lv_iand hx hb dX9_addPairWithCarry_231 ?_
                  have hq := bd_some h; clear h; obtain ⟨s54, h53, h⟩ := hq
                  refine sw_vv (rest := []) m_good X (cX9_setPair_m h53) calX9_setPair k_890 hP hD hS 0 9 rfl rfl rfl ⟨rfl, rfl⟩ rfl hl.1 rfl (Nat.le_of_ble_eq_true rfl) dX9_addPairWithCarry_232 (fun H locs hP hD hS => ?_)
                  obtain rfl := Option.some.inj h
                  exact sw_vret X hP hD hS dX9_addPairWithCarry_235
                replace h := h52
                clear h52
                refine lv_if_lt (tgt := 218) hx hb dX9_addPairWithCarry_208 (by decide) (fun c46 => ?_) (fun c46 => ?_)
                · replace h := if_yes h c46
                  refine lv_iconst (v := (1 : Int32)) hx hb dX9_addPairWithCarry_218 (by decide) ?_
                  refine lv_goto (tgt := 223) hx hb dX9_addPairWithCarry_219 (by decide) ?_
                  obtain rfl := Option.some.inj h
                  exact K45 _ _ hP hD hS
                · replace h := if_no h c46
                  refine lv_iload hx hb dX9_addPairWithCarry_211 (lv_at hl 3 rfl) ?_
                  refine lv_ldc (v := 65535) hx hb hown (hts _ (List.mem_cons_of_mem _ k_841)) dX9_addPairWithCarry_213 ?_
                  have hq := bd_some h; clear h; obtain ⟨x49, h50, h⟩ := hq
                  have K47 : ∀ (H : Heap) (locs : List Loc), va_P (dC, dI) vwCl (mW ad cI s9) H → va_D A (mW ad cI s9) → va_S A s.heap H locs → W p l e (sw_rm 2 41) s m args below meth c H locs 0 0 (MQ below (sw_Qv (dC, dI) vwCl [(cI, .int)] A (mW ad cI zs)) args s 0 0 A) (F0 m 223 ls [.int x49, .int (x40 ||| x43), .int (6 : Int32), .ref (ad 2)]) := by
                    intro H locs hP hD hS
                    obtain rfl := Option.some.inj h
                    exact K45 _ _ hP hD hS
                  replace h := h50
                  clear h50
                  refine lv_icmp_le (tgt := 222) hx hb dX9_addPairWithCarry_215 (by decide) (fun c48 => ?_) (fun c48 => ?_)
                  · replace h := if_yes h c48
                    refine lv_iconst (v := (0 : Int32)) hx hb dX9_addPairWithCarry_222 (by decide) ?_
                    obtain rfl := Option.some.inj h
                    exact K47 _ _ hP hD hS
                  · replace h := if_no h c48
                    refine lv_iconst (v := (1 : Int32)) hx hb dX9_addPairWithCarry_218 (by decide) ?_
                    refine lv_goto (tgt := 223) hx hb dX9_addPairWithCarry_219 (by decide) ?_
                    obtain rfl := Option.some.inj h
                    exact K47 _ _ hP hD hS
              replace h := h44
              clear h44
              refine lv_if_eq (tgt := 204) hx hb dX9_addPairWithCarry_197 (by decide) (fun c42 => ?_) (fun c42 => ?_)
              · replace h := if_yes h c42
                refine lv_iconst (v := (0 : Int32)) hx hb dX9_addPairWithCarry_204 (by decide) ?_
                obtain rfl := Option.some.inj h
                exact K41 _ _ hP hD hS
              · replace h := if_no h c42
                refine lv_iconst (v := (2 : Int32)) hx hb dX9_addPairWithCarry_200 (by decide) ?_
                refine lv_goto (tgt := 205) hx hb dX9_addPairWithCarry_201 (by decide) ?_
                obtain rfl := Option.some.inj h
                exact K41 _ _ hP hD hS
            replace h := h39
            clear h39
            refine lv_if_eq (tgt := 184) hx hb dX9_addPairWithCarry_177 (by decide) (fun c37 => ?_) (fun c37 => ?_)
            · replace h := if_yes h c37
              refine lv_iconst (v := (4 : Int32)) hx hb dX9_addPairWithCarry_184 (by decide) ?_
              obtain rfl := Option.some.inj h
              exact K36 _ _ hP hD hS
            · replace h := if_no h c37
              refine lv_iconst (v := (0 : Int32)) hx hb dX9_addPairWithCarry_180 (by decide) ?_
              refine lv_goto (tgt := 185) hx hb dX9_addPairWithCarry_181 (by decide) ?_
              obtain rfl := Option.some.inj h
              exact K36 _ _ hP hD hS
          replace h := h33
          clear h33
          refine lv_if_lt (tgt := 159) hx hb dX9_addPairWithCarry_148 (by decide) (fun c27 => ?_) (fun c27 => ?_)
          · replace h := if_yes h c27
            refine lv_bipush (v := (16 : Int32)) hx hb dX9_addPairWithCarry_159 (by decide) ?_
            refine lv_goto (tgt := 165) hx hb dX9_addPairWithCarry_161 (by decide) ?_
            obtain rfl := Option.some.inj h
            exact K26 _ _ hP hD hS
          · replace h := if_no h c27
            refine lv_iload hx hb dX9_addPairWithCarry_151 (lv_at hl 2 rfl) ?_
            refine lv_sipush (v := (4095 : Int32)) hx hb dX9_addPairWithCarry_153 (by decide) ?_
            have hq := bd_some h; clear h; obtain ⟨x30, h31, h⟩ := hq
            have K28 : ∀ (H : Heap) (locs : List Loc), va_P (dC, dI) vwCl (mW ad cI s9) H → va_D A (mW ad cI s9) → va_S A s.heap H locs → W p l e (sw_rm 2 41) s m args below meth c H locs 0 0 (MQ below (sw_Qv (dC, dI) vwCl [(cI, .int)] A (mW ad cI zs)) args s 0 0 A) (F0 m 165 ls [.int x30, .int (x24 ||| ((x12 >>> ((8 : Int32) &&& 31)) &&& (128 : Int32)))]) := by
              intro H locs hP hD hS
              obtain rfl := Option.some.inj h
              exact K26 _ _ hP hD hS
            replace h := h31
            clear h31
            refine lv_icmp_le (tgt := 164) hx hb dX9_addPairWithCarry_156 (by decide) (fun c29 => ?_) (fun c29 => ?_)
            · replace h := if_yes h c29
              refine lv_iconst (v := (0 : Int32)) hx hb dX9_addPairWithCarry_164 (by decide) ?_
              obtain rfl := Option.some.inj h
              exact K28 _ _ hP hD hS
            · replace h := if_no h c29
              refine lv_bipush (v := (16 : Int32)) hx hb dX9_addPairWithCarry_159 (by decide) ?_
              refine lv_goto (tgt := 165) hx hb dX9_addPairWithCarry_161 (by decide) ?_
              obtain rfl := Option.some.inj h
              exact K28 _ _ hP hD hS
        replace h := h25
        clear h25
        refine lv_if_ne (tgt := 131) hx hb dX9_addPairWithCarry_123 (by decide) (fun c23 => ?_) (fun c23 => ?_)
        · replace h := if_no h c23
          refine lv_iconst (v := (0 : Int32)) hx hb dX9_addPairWithCarry_131 (by decide) ?_
          obtain rfl := Option.some.inj h
          exact K22 _ _ hP hD hS
        · replace h := if_yes h c23
          refine lv_bipush (v := (64 : Int32)) hx hb dX9_addPairWithCarry_126 (by decide) ?_
          refine lv_goto (tgt := 132) hx hb dX9_addPairWithCarry_128 (by decide) ?_
          obtain rfl := Option.some.inj h
          exact K22 _ _ hP hD hS
      replace h := h21
      clear h21
      refine lv_if_eq (tgt := 107) hx hb dX9_addPairWithCarry_92 (by decide) (fun c19 => ?_) (fun c19 => ?_)
      · replace h := if_yes h c19
        refine lv_iload_n hx hb dX9_addPairWithCarry_107 rfl (lv_at hl 4 rfl) ?_
        refine lv_i2s (v := r2.toInt16.toInt32) hx hb dX9_addPairWithCarry_108 rfl ?_
        refine lv_iload hx hb dX9_addPairWithCarry_109 (lv_at hl 3 rfl) ?_
        refine lv_i2s (v := r5.toInt16.toInt32) hx hb dX9_addPairWithCarry_111 rfl ?_
        refine lv_iadd hx hb dX9_addPairWithCarry_112 ?_
        refine lv_iload hx hb dX9_addPairWithCarry_113 (lv_at hl 2 rfl) ?_
        refine lv_iadd hx hb dX9_addPairWithCarry_115 ?_
        obtain rfl := Option.some.inj h
        exact K18 _ _ hP hD hS
      · replace h := if_no h c19
        refine lv_iload_n hx hb dX9_addPairWithCarry_95 rfl (lv_at hl 4 rfl) ?_
        refine lv_i2s (v := r2.toInt16.toInt32) hx hb dX9_addPairWithCarry_96 rfl ?_
        refine lv_iload hx hb dX9_addPairWithCarry_97 (lv_at hl 3 rfl) ?_
        refine lv_i2s (v := r5.toInt16.toInt32) hx hb dX9_addPairWithCarry_99 rfl ?_
        refine lv_isub hx hb dX9_addPairWithCarry_100 ?_
        refine lv_iload hx hb dX9_addPairWithCarry_101 (lv_at hl 2 rfl) ?_
        refine lv_isub hx hb dX9_addPairWithCarry_103 ?_
        refine lv_goto (tgt := 116) hx hb dX9_addPairWithCarry_104 (by decide) ?_
        obtain rfl := Option.some.inj h
        exact K18 _ _ hP hD hS
    replace h := h17
    clear h17
    refine lv_if_eq (tgt := 74) hx hb dX9_addPairWithCarry_53 (by decide) (fun c15 => ?_) (fun c15 => ?_)
    · replace h := if_yes h c15
      refine lv_iload_n hx hb dX9_addPairWithCarry_74 rfl (lv_at hl 3 rfl) ?_
      refine lv_sipush (v := (4095 : Int32)) hx hb dX9_addPairWithCarry_75 (by decide) ?_
      refine lv_iand hx hb dX9_addPairWithCarry_78 ?_
      refine lv_iload hx hb dX9_addPairWithCarry_79 (lv_at hl 2 rfl) ?_
      refine lv_sipush (v := (4095 : Int32)) hx hb dX9_addPairWithCarry_81 (by decide) ?_
      refine lv_iand hx hb dX9_addPairWithCarry_84 ?_
      refine lv_iadd hx hb dX9_addPairWithCarry_85 ?_
      refine lv_iload hx hb dX9_addPairWithCarry_86 (lv_at hl 1 rfl) ?_
      refine lv_iadd hx hb dX9_addPairWithCarry_88 ?_
      obtain rfl := Option.some.inj h
      exact K14 _ _ hP hD hS
    · replace h := if_no h c15
      refine lv_iload_n hx hb dX9_addPairWithCarry_56 rfl (lv_at hl 3 rfl) ?_
      refine lv_sipush (v := (4095 : Int32)) hx hb dX9_addPairWithCarry_57 (by decide) ?_
      refine lv_iand hx hb dX9_addPairWithCarry_60 ?_
      refine lv_iload hx hb dX9_addPairWithCarry_61 (lv_at hl 2 rfl) ?_
      refine lv_sipush (v := (4095 : Int32)) hx hb dX9_addPairWithCarry_63 (by decide) ?_
      refine lv_iand hx hb dX9_addPairWithCarry_66 ?_
      refine lv_isub hx hb dX9_addPairWithCarry_67 ?_
      refine lv_iload hx hb dX9_addPairWithCarry_68 (lv_at hl 1 rfl) ?_
      refine lv_isub hx hb dX9_addPairWithCarry_70 ?_
      refine lv_goto (tgt := 89) hx hb dX9_addPairWithCarry_71 (by decide) ?_
      obtain rfl := Option.some.inj h
      exact K14 _ _ hP hD hS
  replace h := h13
  clear h13
  refine lv_if_eq (tgt := 43) hx hb dX9_addPairWithCarry_30 (by decide) (fun c11 => ?_) (fun c11 => ?_)
  · replace h := if_yes h c11
    refine lv_iload_n hx hb dX9_addPairWithCarry_43 rfl (lv_at hl 2 rfl) ?_
    refine lv_iload hx hb dX9_addPairWithCarry_44 (lv_at hl 1 rfl) ?_
    refine lv_iadd hx hb dX9_addPairWithCarry_46 ?_
    refine lv_iload hx hb dX9_addPairWithCarry_47 (lv_at hl 0 rfl) ?_
    refine lv_iadd hx hb dX9_addPairWithCarry_49 ?_
    obtain rfl := Option.some.inj h
    exact K10 _ _ hP hD hS
  · replace h := if_no h c11
    refine lv_iload_n hx hb dX9_addPairWithCarry_33 rfl (lv_at hl 2 rfl) ?_
    refine lv_iload hx hb dX9_addPairWithCarry_34 (lv_at hl 1 rfl) ?_
    refine lv_isub hx hb dX9_addPairWithCarry_36 ?_
    refine lv_iload hx hb dX9_addPairWithCarry_37 (lv_at hl 0 rfl) ?_
    refine lv_isub hx hb dX9_addPairWithCarry_39 ?_
    refine lv_goto (tgt := 50) hx hb dX9_addPairWithCarry_40 (by decide) ?_
    obtain rfl := Option.some.inj h
    exact K10 _ _ hP hD hS
theorem dX9_correct_0 : decode cX9_correct 0 = .ok (.aload_n 0, 1) := by decide +kernel
theorem dX9_correct_1 : decode cX9_correct 1 = .ok (.getfield 13, 3) := by decide +kernel
theorem dX9_correct_4 : decode cX9_correct 4 = .ok (.bipush 7, 2) := by decide +kernel
theorem dX9_correct_6 : decode cX9_correct 6 = .ok (.iaload, 1) := by decide +kernel
theorem dX9_correct_7 : decode cX9_correct 7 = .ok (.istore_n 1, 1) := by decide +kernel
theorem dX9_correct_8 : decode cX9_correct 8 = .ok (.aload_n 0, 1) := by decide +kernel
theorem dX9_correct_9 : decode cX9_correct 9 = .ok (.getfield 13, 3) := by decide +kernel
theorem dX9_correct_12 : decode cX9_correct 12 = .ok (.bipush 6, 2) := by decide +kernel
theorem dX9_correct_14 : decode cX9_correct 14 = .ok (.iaload, 1) := by decide +kernel
theorem dX9_correct_15 : decode cX9_correct 15 = .ok (.istore_n 2, 1) := by decide +kernel
theorem dX9_correct_16 : decode cX9_correct 16 = .ok (.iload_n 2, 1) := by decide +kernel
theorem dX9_correct_17 : decode cX9_correct 17 = .ok (.bipush 16, 2) := by decide +kernel
theorem dX9_correct_19 : decode cX9_correct 19 = .ok (.iand, 1) := by decide +kernel
theorem dX9_correct_20 : decode cX9_correct 20 = .ok (.ifCond .ne 12, 3) := by decide +kernel
theorem dX9_correct_23 : decode cX9_correct 23 = .ok (.iload_n 1, 1) := by decide +kernel
theorem dX9_correct_24 : decode cX9_correct 24 = .ok (.bipush 15, 2) := by decide +kernel
theorem dX9_correct_26 : decode cX9_correct 26 = .ok (.iand, 1) := by decide +kernel
theorem dX9_correct_27 : decode cX9_correct 27 = .ok (.bipush 9, 2) := by decide +kernel
theorem dX9_correct_29 : decode cX9_correct 29 = .ok (.if_icmp .le 8, 3) := by decide +kernel
theorem dX9_correct_32 : decode cX9_correct 32 = .ok (.bipush 6, 2) := by decide +kernel
theorem dX9_correct_34 : decode cX9_correct 34 = .ok (.goto 4, 3) := by decide +kernel
theorem dX9_correct_37 : decode cX9_correct 37 = .ok (.iconst 0, 1) := by decide +kernel
theorem dX9_correct_38 : decode cX9_correct 38 = .ok (.istore_n 3, 1) := by decide +kernel
theorem dX9_correct_39 : decode cX9_correct 39 = .ok (.iload_n 2, 1) := by decide +kernel
theorem dX9_correct_40 : decode cX9_correct 40 = .ok (.iconst 1, 1) := by decide +kernel
theorem dX9_correct_41 : decode cX9_correct 41 = .ok (.iand, 1) := by decide +kernel
theorem dX9_correct_42 : decode cX9_correct 42 = .ok (.ifCond .ne 10, 3) := by decide +kernel
theorem dX9_correct_45 : decode cX9_correct 45 = .ok (.iload_n 1, 1) := by decide +kernel
theorem dX9_correct_46 : decode cX9_correct 46 = .ok (.sipush 153, 3) := by decide +kernel
theorem dX9_correct_49 : decode cX9_correct 49 = .ok (.if_icmp .le 7, 3) := by decide +kernel
theorem dX9_correct_52 : decode cX9_correct 52 = .ok (.iconst 1, 1) := by decide +kernel
theorem dX9_correct_53 : decode cX9_correct 53 = .ok (.goto 4, 3) := by decide +kernel
theorem dX9_correct_56 : decode cX9_correct 56 = .ok (.iconst 0, 1) := by decide +kernel
theorem dX9_correct_57 : decode cX9_correct 57 = .ok (.istore 4, 2) := by decide +kernel
theorem dX9_correct_59 : decode cX9_correct 59 = .ok (.iload 4, 2) := by decide +kernel
theorem dX9_correct_61 : decode cX9_correct 61 = .ok (.ifCond .eq 10, 3) := by decide +kernel
theorem dX9_correct_64 : decode cX9_correct 64 = .ok (.iload_n 3, 1) := by decide +kernel
theorem dX9_correct_65 : decode cX9_correct 65 = .ok (.bipush 96, 2) := by decide +kernel
theorem dX9_correct_67 : decode cX9_correct 67 = .ok (.iadd, 1) := by decide +kernel
theorem dX9_correct_68 : decode cX9_correct 68 = .ok (.goto 4, 3) := by decide +kernel
theorem dX9_correct_71 : decode cX9_correct 71 = .ok (.iload_n 3, 1) := by decide +kernel
theorem dX9_correct_72 : decode cX9_correct 72 = .ok (.istore_n 3, 1) := by decide +kernel
theorem dX9_correct_73 : decode cX9_correct 73 = .ok (.iload_n 2, 1) := by decide +kernel
theorem dX9_correct_74 : decode cX9_correct 74 = .ok (.iconst 2, 1) := by decide +kernel
theorem dX9_correct_75 : decode cX9_correct 75 = .ok (.iand, 1) := by decide +kernel
theorem dX9_correct_76 : decode cX9_correct 76 = .ok (.ifCond .eq 9, 3) := by decide +kernel
theorem dX9_correct_79 : decode cX9_correct 79 = .ok (.iload_n 1, 1) := by decide +kernel
theorem dX9_correct_80 : decode cX9_correct 80 = .ok (.iload_n 3, 1) := by decide +kernel
theorem dX9_correct_81 : decode cX9_correct 81 = .ok (.isub, 1) := by decide +kernel
theorem dX9_correct_82 : decode cX9_correct 82 = .ok (.goto 6, 3) := by decide +kernel
theorem dX9_correct_85 : decode cX9_correct 85 = .ok (.iload_n 1, 1) := by decide +kernel
theorem dX9_correct_86 : decode cX9_correct 86 = .ok (.iload_n 3, 1) := by decide +kernel
theorem dX9_correct_87 : decode cX9_correct 87 = .ok (.iadd, 1) := by decide +kernel
theorem dX9_correct_88 : decode cX9_correct 88 = .ok (.sipush 255, 3) := by decide +kernel
theorem dX9_correct_91 : decode cX9_correct 91 = .ok (.iand, 1) := by decide +kernel
theorem dX9_correct_92 : decode cX9_correct 92 = .ok (.istore 5, 2) := by decide +kernel
theorem dX9_correct_94 : decode cX9_correct 94 = .ok (.aload_n 0, 1) := by decide +kernel
theorem dX9_correct_95 : decode cX9_correct 95 = .ok (.getfield 13, 3) := by decide +kernel
theorem dX9_correct_98 : decode cX9_correct 98 = .ok (.bipush 7, 2) := by decide +kernel
theorem dX9_correct_100 : decode cX9_correct 100 = .ok (.iload 5, 2) := by decide +kernel
theorem dX9_correct_102 : decode cX9_correct 102 = .ok (.iastore, 1) := by decide +kernel
theorem dX9_correct_103 : decode cX9_correct 103 = .ok (.aload_n 0, 1) := by decide +kernel
theorem dX9_correct_104 : decode cX9_correct 104 = .ok (.getfield 13, 3) := by decide +kernel
theorem dX9_correct_107 : decode cX9_correct 107 = .ok (.bipush 6, 2) := by decide +kernel
theorem dX9_correct_109 : decode cX9_correct 109 = .ok (.iload 5, 2) := by decide +kernel
theorem dX9_correct_111 : decode cX9_correct 111 = .ok (.invokestatic 74, 3) := by decide +kernel
theorem dX9_correct_114 : decode cX9_correct 114 = .ok (.iload 5, 2) := by decide +kernel
theorem dX9_correct_116 : decode cX9_correct 116 = .ok (.invokestatic 87, 3) := by decide +kernel
theorem dX9_correct_119 : decode cX9_correct 119 = .ok (.ior, 1) := by decide +kernel
theorem dX9_correct_120 : decode cX9_correct 120 = .ok (.iload 5, 2) := by decide +kernel
theorem dX9_correct_122 : decode cX9_correct 122 = .ok (.iload_n 1, 1) := by decide +kernel
theorem dX9_correct_123 : decode cX9_correct 123 = .ok (.ixor, 1) := by decide +kernel
theorem dX9_correct_124 : decode cX9_correct 124 = .ok (.bipush 16, 2) := by decide +kernel
theorem dX9_correct_126 : decode cX9_correct 126 = .ok (.iand, 1) := by decide +kernel
theorem dX9_correct_127 : decode cX9_correct 127 = .ok (.ior, 1) := by decide +kernel
theorem dX9_correct_128 : decode cX9_correct 128 = .ok (.iload_n 2, 1) := by decide +kernel
theorem dX9_correct_129 : decode cX9_correct 129 = .ok (.iconst 2, 1) := by decide +kernel
theorem dX9_correct_130 : decode cX9_correct 130 = .ok (.iand, 1) := by decide +kernel
theorem dX9_correct_131 : decode cX9_correct 131 = .ok (.ior, 1) := by decide +kernel
theorem dX9_correct_132 : decode cX9_correct 132 = .ok (.iload 4, 2) := by decide +kernel
theorem dX9_correct_134 : decode cX9_correct 134 = .ok (.ifCond .eq 7, 3) := by decide +kernel
theorem dX9_correct_137 : decode cX9_correct 137 = .ok (.iconst 1, 1) := by decide +kernel
theorem dX9_correct_138 : decode cX9_correct 138 = .ok (.goto 4, 3) := by decide +kernel
theorem dX9_correct_141 : decode cX9_correct 141 = .ok (.iconst 0, 1) := by decide +kernel
theorem dX9_correct_142 : decode cX9_correct 142 = .ok (.ior, 1) := by decide +kernel
theorem dX9_correct_143 : decode cX9_correct 143 = .ok (.iastore, 1) := by decide +kernel
theorem dX9_correct_144 : decode cX9_correct 144 = .ok (.return_, 1) := by decide +kernel
def fX9_correct (s0 : zS) : Option (zS) := nm (s0.2 1 ((7 : Int32).toNatClampNeg)) fun x1 => nm (s0.2 1 ((6 : Int32).toNatClampNeg)) fun x2 => bd (if (x2 &&& (16 : Int32)) = (0 : Int32) then (bd (if (x1 &&& (15 : Int32)) ≤ (9 : Int32) then (some (0 : Int32)) else (some (6 : Int32))) fun x7 => some x7) else (some (6 : Int32))) fun x9 => bd (if (x2 &&& (1 : Int32)) = (0 : Int32) then (bd (if x1 ≤ (153 : Int32) then (some (0 : Int32)) else (some (1 : Int32))) fun x15 => some x15) else (some (1 : Int32))) fun x17 => bd (if x17 = (0 : Int32) then (some x9) else (some (x9 + (96 : Int32)))) fun x21 => bd (if (x2 &&& (2 : Int32)) = (0 : Int32) then (some (x1 + x21)) else (some (x1 - x21))) fun x25 => nm (x25 &&& (255 : Int32)) fun x27 => bd (fX9_signs x27) fun r29 => bd (fX9_even x27) fun r31 => bd (if x17 = (0 : Int32) then (some (0 : Int32)) else (some (1 : Int32))) fun x34 => some (st2 (st2 s0 1 ((7 : Int32).toNatClampNeg) x27) 1 ((6 : Int32).toNatClampNeg) ((((r29 ||| r31) ||| ((x27 ^^^ x1) &&& (16 : Int32))) ||| (x2 &&& (2 : Int32))) ||| x34))
set_option maxHeartbeats 4000000 in
set_option maxRecDepth 100000 in
theorem cX9_correct_m {l : Launch} {dC : Nat → ClassId} {dI : Nat → Nat → Nat} {ad : Nat → Nat} {cI : ClassId} {s0 : zS} {zs : zS} (h : fX9_correct  s0 = some zs) : sw_Mv l yX9_correct (sw_ws yX9_correct cX9_correct 6 none) (sw_rm 1 22) (dC, dI) vwCl [(cI, .int)] mF [.ref (ad 0)] (mW ad cI s0) (mW ad cI zs) := by
  intro sz
  refine sw_of (cc := cX9_correct) (maxL := 6) (ret := none) (by decide) rfl (Nat.le_of_ble_eq_true rfl) ?_
  intro p e s m args below meth c A ls hAe hsz X _ hP hD hS hl
  rw [hAe]
  have hx := X.1.1
  have hb := X.1.2.1
  have hown := X.1.2.2.2.1
  have hts := X.1.2.2.2.2
  replace hl : lv_has ls 6 [(0, .ref (ad 0))] := hl
  unfold fX9_correct at h
  refine lv_aload_n hx hb dX9_correct_0 rfl (lv_at hl 0 rfl) ?_
  refine mg_0_2 X hP k_759 dX9_correct_1 ?_
  refine lv_bipush (v := (7 : Int32)) hx hb dX9_correct_4 (by decide) ?_
  refine ml_1 X hP (vin_in (i := (7 : Int32)) (n := 8) (by decide) (by decide)) dX9_correct_6 ?_
  refine lv_topi (fun x1 ex1 => ?_)
  replace h := nm_use ex1 h
  refine lv_istore_n (lv' := [(1, .int x1), (0, .ref (ad 0))]) hx hb dX9_correct_7 rfl hl (by decide) rfl (fun ls hl => ?_)
  refine lv_aload_n hx hb dX9_correct_8 rfl (lv_at hl 1 rfl) ?_
  refine mg_0_2 X hP k_759 dX9_correct_9 ?_
  refine lv_bipush (v := (6 : Int32)) hx hb dX9_correct_12 (by decide) ?_
  refine ml_1 X hP (vin_in (i := (6 : Int32)) (n := 8) (by decide) (by decide)) dX9_correct_14 ?_
  refine lv_topi (fun x2 ex2 => ?_)
  replace h := nm_use ex2 h
  refine lv_istore_n (lv' := [(2, .int x2), (1, .int x1), (0, .ref (ad 0))]) hx hb dX9_correct_15 rfl hl (by decide) rfl (fun ls hl => ?_)
  refine lv_iload_n hx hb dX9_correct_16 rfl (lv_at hl 0 rfl) ?_
  refine lv_bipush (v := (16 : Int32)) hx hb dX9_correct_17 (by decide) ?_
  refine lv_iand hx hb dX9_correct_19 ?_
  have hq := bd_some h; clear h; obtain ⟨x9, h10, h⟩ := hq
  have K3 : ∀ (H : Heap) (locs : List Loc), va_P (dC, dI) vwCl (mW ad cI s0) H → va_D A (mW ad cI s0) → va_S A s.heap H locs → W p l e (sw_rm 1 22) s m args below meth c H locs 0 0 (MQ below (sw_Qv (dC, dI) vwCl [(cI, .int)] A (mW ad cI zs)) args s 0 0 A) (F0 m 38 ls [.int x9]) := by
    intro H locs hP hD hS
    refine lv_istore_n (lv' := [(3, .int x9), (2, .int x2), (1, .int x1), (0, .ref (ad 0))]) hx hb dX9_correct_38 rfl hl (by decide) rfl (fun ls hl => ?_)
    refine lv_iload_n hx hb dX9_correct_39 rfl (lv_at hl 1 rfl) ?_
    refine lv_iconst (v := (1 : Int32)) hx hb dX9_correct_40 (by decide) ?_
    refine lv_iand hx hb dX9_correct_41 ?_
    have hq := bd_some h; clear h; obtain ⟨x17, h18, h⟩ := hq
    have K11 : ∀ (H : Heap) (locs : List Loc), va_P (dC, dI) vwCl (mW ad cI s0) H → va_D A (mW ad cI s0) → va_S A s.heap H locs → W p l e (sw_rm 1 22) s m args below meth c H locs 0 0 (MQ below (sw_Qv (dC, dI) vwCl [(cI, .int)] A (mW ad cI zs)) args s 0 0 A) (F0 m 57 ls [.int x17]) := by
      intro H locs hP hD hS
      refine lv_istore (lv' := [(4, .int x17), (3, .int x9), (2, .int x2), (1, .int x1), (0, .ref (ad 0))]) hx hb dX9_correct_57 hl (by decide) rfl (fun ls hl => ?_)
      refine lv_iload hx hb dX9_correct_59 (lv_at hl 0 rfl) ?_
      have hq := bd_some h; clear h; obtain ⟨x21, h22, h⟩ := hq
      have K19 : ∀ (H : Heap) (locs : List Loc), va_P (dC, dI) vwCl (mW ad cI s0) H → va_D A (mW ad cI s0) → va_S A s.heap H locs → W p l e (sw_rm 1 22) s m args below meth c H locs 0 0 (MQ below (sw_Qv (dC, dI) vwCl [(cI, .int)] A (mW ad cI zs)) args s 0 0 A) (F0 m 72 ls [.int x21]) := by
        intro H locs hP hD hS
        refine lv_istore_n (lv' := [(3, .int x21), (4, .int x17), (2, .int x2), (1, .int x1), (0, .ref (ad 0))]) hx hb dX9_correct_72 rfl hl (by decide) rfl (fun ls hl => ?_)
        refine lv_iload_n hx hb dX9_correct_73 rfl (lv_at hl 2 rfl) ?_
        refine lv_iconst (v := (2 : Int32)) hx hb dX9_correct_74 (by decide) ?_
        refine lv_iand hx hb dX9_correct_75 ?_
        have hq := bd_some h; clear h; obtain ⟨x25, h26, h⟩ := hq
        have K23 : ∀ (H : Heap) (locs : List Loc), va_P (dC, dI) vwCl (mW ad cI s0) H → va_D A (mW ad cI s0) → va_S A s.heap H locs → W p l e (sw_rm 1 22) s m args below meth c H locs 0 0 (MQ below (sw_Qv (dC, dI) vwCl [(cI, .int)] A (mW ad cI zs)) args s 0 0 A) (F0 m 88 ls [.int x25]) := by
          intro H locs hP hD hS
          refine lv_sipush (v := (255 : Int32)) hx hb dX9_correct_88 (by decide) ?_
          refine lv_iand hx hb dX9_correct_91 ?_
          refine lv_topi (fun x27 ex27 => ?_)
          replace h := nm_use ex27 h
          refine lv_istore (lv' := [(5, .int x27), (3, .int x21), (4, .int x17), (2, .int x2), (1, .int x1), (0, .ref (ad 0))]) hx hb dX9_correct_92 hl (by decide) rfl (fun ls hl => ?_)
          refine lv_aload_n hx hb dX9_correct_94 rfl (lv_at hl 5 rfl) ?_
          refine mg_0_2 X hP k_759 dX9_correct_95 ?_
          refine lv_bipush (v := (7 : Int32)) hx hb dX9_correct_98 (by decide) ?_
          refine lv_iload hx hb dX9_correct_100 (lv_at hl 0 rfl) ?_
          refine mb_1 X hP hD hS (vin_in (i := (7 : Int32)) (n := 8) (by decide) (by decide)) dX9_correct_102 (fun H locs hP hD hS => ?_)
          refine lv_aload_n hx hb dX9_correct_103 rfl (lv_at hl 5 rfl) ?_
          refine mg_0_2 X hP k_759 dX9_correct_104 ?_
          refine lv_bipush (v := (6 : Int32)) hx hb dX9_correct_107 (by decide) ?_
          refine lv_iload hx hb dX9_correct_109 (lv_at hl 0 rfl) ?_
          have hq := bd_some h; clear h; obtain ⟨r29, h28, h⟩ := hq
          refine sw_si (rest := [.int (6 : Int32), .ref (ad 2)]) m_good X (cX9_signs_m h28) calX9_signs k_926 hP hD hS ⟨rfl, rfl⟩ rfl hl.1 rfl (Nat.le_of_ble_eq_true rfl) dX9_correct_111 (fun H locs hP hD hS => ?_)
          refine lv_iload hx hb dX9_correct_114 (lv_at hl 0 rfl) ?_
          have hq := bd_some h; clear h; obtain ⟨r31, h30, h⟩ := hq
          refine sw_si (rest := [.int r29, .int (6 : Int32), .ref (ad 2)]) m_good X (cX9_even_m h30) calX9_even k_953 hP hD hS ⟨rfl, rfl⟩ rfl hl.1 rfl (Nat.le_of_ble_eq_true rfl) dX9_correct_116 (fun H locs hP hD hS => ?_)
          refine lv_ior hx hb dX9_correct_119 ?_
          refine lv_iload hx hb dX9_correct_120 (lv_at hl 0 rfl) ?_
          refine lv_iload_n hx hb dX9_correct_122 rfl (lv_at hl 4 rfl) ?_
          refine lv_ixor hx hb dX9_correct_123 ?_
          refine lv_bipush (v := (16 : Int32)) hx hb dX9_correct_124 (by decide) ?_
          refine lv_iand hx hb dX9_correct_126 ?_
          refine lv_ior hx hb dX9_correct_127 ?_
          refine lv_iload_n hx hb dX9_correct_128 rfl (lv_at hl 3 rfl) ?_
          refine lv_iconst (v := (2 : Int32)) hx hb dX9_correct_129 (by decide) ?_
          refine lv_iand hx hb dX9_correct_130 ?_
          refine lv_ior hx hb dX9_correct_131 ?_
          refine lv_iload hx hb dX9_correct_132 (lv_at hl 2 rfl) ?_
          have hq := bd_some h; clear h; obtain ⟨x34, h35, h⟩ := hq
          have K32 : ∀ (H : Heap) (locs : List Loc), va_P (dC, dI) vwCl (mW ad cI (st2 s0 1 ((7 : Int32).toNatClampNeg) x27)) H → va_D A (mW ad cI (st2 s0 1 ((7 : Int32).toNatClampNeg) x27)) → va_S A s.heap H locs → W p l e (sw_rm 1 22) s m args below meth c H locs 0 0 (MQ below (sw_Qv (dC, dI) vwCl [(cI, .int)] A (mW ad cI zs)) args s 0 0 A) (F0 m 142 ls [.int x34, .int (((r29 ||| r31) ||| ((x27 ^^^ x1) &&& (16 : Int32))) ||| (x2 &&& (2 : Int32))), .int (6 : Int32), .ref (ad 2)]) := by
            intro H locs hP hD hS
            refine lv_ior hx hb dX9_correct_142 ?_
            refine mb_1 X hP hD hS (vin_in (i := (6 : Int32)) (n := 8) (by decide) (by decide)) dX9_correct_143 (fun H locs hP hD hS => ?_)
            obtain rfl := Option.some.inj h
            exact sw_vret X hP hD hS dX9_correct_144
          replace h := h35
          clear h35
          refine lv_if_eq (tgt := 141) hx hb dX9_correct_134 (by decide) (fun c33 => ?_) (fun c33 => ?_)
          · replace h := if_yes h c33
            refine lv_iconst (v := (0 : Int32)) hx hb dX9_correct_141 (by decide) ?_
            obtain rfl := Option.some.inj h
            exact K32 _ _ hP hD hS
          · replace h := if_no h c33
            refine lv_iconst (v := (1 : Int32)) hx hb dX9_correct_137 (by decide) ?_
            refine lv_goto (tgt := 142) hx hb dX9_correct_138 (by decide) ?_
            obtain rfl := Option.some.inj h
            exact K32 _ _ hP hD hS
        replace h := h26
        clear h26
        refine lv_if_eq (tgt := 85) hx hb dX9_correct_76 (by decide) (fun c24 => ?_) (fun c24 => ?_)
        · replace h := if_yes h c24
          refine lv_iload_n hx hb dX9_correct_85 rfl (lv_at hl 3 rfl) ?_
          refine lv_iload_n hx hb dX9_correct_86 rfl (lv_at hl 0 rfl) ?_
          refine lv_iadd hx hb dX9_correct_87 ?_
          obtain rfl := Option.some.inj h
          exact K23 _ _ hP hD hS
        · replace h := if_no h c24
          refine lv_iload_n hx hb dX9_correct_79 rfl (lv_at hl 3 rfl) ?_
          refine lv_iload_n hx hb dX9_correct_80 rfl (lv_at hl 0 rfl) ?_
          refine lv_isub hx hb dX9_correct_81 ?_
          refine lv_goto (tgt := 88) hx hb dX9_correct_82 (by decide) ?_
          obtain rfl := Option.some.inj h
          exact K23 _ _ hP hD hS
      replace h := h22
      clear h22
      refine lv_if_eq (tgt := 71) hx hb dX9_correct_61 (by decide) (fun c20 => ?_) (fun c20 => ?_)
      · replace h := if_yes h c20
        refine lv_iload_n hx hb dX9_correct_71 rfl (lv_at hl 1 rfl) ?_
        obtain rfl := Option.some.inj h
        exact K19 _ _ hP hD hS
      · replace h := if_no h c20
        refine lv_iload_n hx hb dX9_correct_64 rfl (lv_at hl 1 rfl) ?_
        refine lv_bipush (v := (96 : Int32)) hx hb dX9_correct_65 (by decide) ?_
        refine lv_iadd hx hb dX9_correct_67 ?_
        refine lv_goto (tgt := 72) hx hb dX9_correct_68 (by decide) ?_
        obtain rfl := Option.some.inj h
        exact K19 _ _ hP hD hS
    replace h := h18
    clear h18
    refine lv_if_ne (tgt := 52) hx hb dX9_correct_42 (by decide) (fun c12 => ?_) (fun c12 => ?_)
    · replace h := if_no h c12
      refine lv_iconst (v := (1 : Int32)) hx hb dX9_correct_52 (by decide) ?_
      refine lv_goto (tgt := 57) hx hb dX9_correct_53 (by decide) ?_
      obtain rfl := Option.some.inj h
      exact K11 _ _ hP hD hS
    · replace h := if_yes h c12
      refine lv_iload_n hx hb dX9_correct_45 rfl (lv_at hl 2 rfl) ?_
      refine lv_sipush (v := (153 : Int32)) hx hb dX9_correct_46 (by decide) ?_
      have hq := bd_some h; clear h; obtain ⟨x15, h16, h⟩ := hq
      have K13 : ∀ (H : Heap) (locs : List Loc), va_P (dC, dI) vwCl (mW ad cI s0) H → va_D A (mW ad cI s0) → va_S A s.heap H locs → W p l e (sw_rm 1 22) s m args below meth c H locs 0 0 (MQ below (sw_Qv (dC, dI) vwCl [(cI, .int)] A (mW ad cI zs)) args s 0 0 A) (F0 m 57 ls [.int x15]) := by
        intro H locs hP hD hS
        obtain rfl := Option.some.inj h
        exact K11 _ _ hP hD hS
      replace h := h16
      clear h16
      refine lv_icmp_le (tgt := 56) hx hb dX9_correct_49 (by decide) (fun c14 => ?_) (fun c14 => ?_)
      · replace h := if_yes h c14
        refine lv_iconst (v := (0 : Int32)) hx hb dX9_correct_56 (by decide) ?_
        obtain rfl := Option.some.inj h
        exact K13 _ _ hP hD hS
      · replace h := if_no h c14
        refine lv_iconst (v := (1 : Int32)) hx hb dX9_correct_52 (by decide) ?_
        refine lv_goto (tgt := 57) hx hb dX9_correct_53 (by decide) ?_
        obtain rfl := Option.some.inj h
        exact K13 _ _ hP hD hS
  replace h := h10
  clear h10
  refine lv_if_ne (tgt := 32) hx hb dX9_correct_20 (by decide) (fun c4 => ?_) (fun c4 => ?_)
  · replace h := if_no h c4
    refine lv_bipush (v := (6 : Int32)) hx hb dX9_correct_32 (by decide) ?_
    refine lv_goto (tgt := 38) hx hb dX9_correct_34 (by decide) ?_
    obtain rfl := Option.some.inj h
    exact K3 _ _ hP hD hS
  · replace h := if_yes h c4
    refine lv_iload_n hx hb dX9_correct_23 rfl (lv_at hl 1 rfl) ?_
    refine lv_bipush (v := (15 : Int32)) hx hb dX9_correct_24 (by decide) ?_
    refine lv_iand hx hb dX9_correct_26 ?_
    refine lv_bipush (v := (9 : Int32)) hx hb dX9_correct_27 (by decide) ?_
    have hq := bd_some h; clear h; obtain ⟨x7, h8, h⟩ := hq
    have K5 : ∀ (H : Heap) (locs : List Loc), va_P (dC, dI) vwCl (mW ad cI s0) H → va_D A (mW ad cI s0) → va_S A s.heap H locs → W p l e (sw_rm 1 22) s m args below meth c H locs 0 0 (MQ below (sw_Qv (dC, dI) vwCl [(cI, .int)] A (mW ad cI zs)) args s 0 0 A) (F0 m 38 ls [.int x7]) := by
      intro H locs hP hD hS
      obtain rfl := Option.some.inj h
      exact K3 _ _ hP hD hS
    replace h := h8
    clear h8
    refine lv_icmp_le (tgt := 37) hx hb dX9_correct_29 (by decide) (fun c6 => ?_) (fun c6 => ?_)
    · replace h := if_yes h c6
      refine lv_iconst (v := (0 : Int32)) hx hb dX9_correct_37 (by decide) ?_
      obtain rfl := Option.some.inj h
      exact K5 _ _ hP hD hS
    · replace h := if_no h c6
      refine lv_bipush (v := (6 : Int32)) hx hb dX9_correct_32 (by decide) ?_
      refine lv_goto (tgt := 38) hx hb dX9_correct_34 (by decide) ?_
      obtain rfl := Option.some.inj h
      exact K5 _ _ hP hD hS
theorem dX9_turned_0 : decode cX9_turned 0 = .ok (.iload_n 1, 1) := by decide +kernel
theorem dX9_turned_1 : decode cX9_turned 1 = .ok (.tableswitch 143 0 5 #[39, 60, 82, 95, 116, 124], 39) := by decide +kernel
theorem dX9_turned_40 : decode cX9_turned 40 = .ok (.iload_n 2, 1) := by decide +kernel
theorem dX9_turned_41 : decode cX9_turned 41 = .ok (.iconst 1, 1) := by decide +kernel
theorem dX9_turned_42 : decode cX9_turned 42 = .ok (.ishl, 1) := by decide +kernel
theorem dX9_turned_43 : decode cX9_turned 43 = .ok (.iload_n 2, 1) := by decide +kernel
theorem dX9_turned_44 : decode cX9_turned 44 = .ok (.bipush 7, 2) := by decide +kernel
theorem dX9_turned_46 : decode cX9_turned 46 = .ok (.ishr, 1) := by decide +kernel
theorem dX9_turned_47 : decode cX9_turned 47 = .ok (.ior, 1) := by decide +kernel
theorem dX9_turned_48 : decode cX9_turned 48 = .ok (.sipush 255, 3) := by decide +kernel
theorem dX9_turned_51 : decode cX9_turned 51 = .ok (.iand, 1) := by decide +kernel
theorem dX9_turned_52 : decode cX9_turned 52 = .ok (.iload_n 2, 1) := by decide +kernel
theorem dX9_turned_53 : decode cX9_turned 53 = .ok (.iconst 1, 1) := by decide +kernel
theorem dX9_turned_54 : decode cX9_turned 54 = .ok (.ishl, 1) := by decide +kernel
theorem dX9_turned_55 : decode cX9_turned 55 = .ok (.sipush 256, 3) := by decide +kernel
theorem dX9_turned_58 : decode cX9_turned 58 = .ok (.iand, 1) := by decide +kernel
theorem dX9_turned_59 : decode cX9_turned 59 = .ok (.ior, 1) := by decide +kernel
theorem dX9_turned_60 : decode cX9_turned 60 = .ok (.ireturn, 1) := by decide +kernel
theorem dX9_turned_61 : decode cX9_turned 61 = .ok (.iload_n 2, 1) := by decide +kernel
theorem dX9_turned_62 : decode cX9_turned 62 = .ok (.iconst 1, 1) := by decide +kernel
theorem dX9_turned_63 : decode cX9_turned 63 = .ok (.ishr, 1) := by decide +kernel
theorem dX9_turned_64 : decode cX9_turned 64 = .ok (.iload_n 2, 1) := by decide +kernel
theorem dX9_turned_65 : decode cX9_turned 65 = .ok (.bipush 7, 2) := by decide +kernel
theorem dX9_turned_67 : decode cX9_turned 67 = .ok (.ishl, 1) := by decide +kernel
theorem dX9_turned_68 : decode cX9_turned 68 = .ok (.sipush 128, 3) := by decide +kernel
theorem dX9_turned_71 : decode cX9_turned 71 = .ok (.iand, 1) := by decide +kernel
theorem dX9_turned_72 : decode cX9_turned 72 = .ok (.ior, 1) := by decide +kernel
theorem dX9_turned_73 : decode cX9_turned 73 = .ok (.iload_n 2, 1) := by decide +kernel
theorem dX9_turned_74 : decode cX9_turned 74 = .ok (.bipush 8, 2) := by decide +kernel
theorem dX9_turned_76 : decode cX9_turned 76 = .ok (.ishl, 1) := by decide +kernel
theorem dX9_turned_77 : decode cX9_turned 77 = .ok (.sipush 256, 3) := by decide +kernel
theorem dX9_turned_80 : decode cX9_turned 80 = .ok (.iand, 1) := by decide +kernel
theorem dX9_turned_81 : decode cX9_turned 81 = .ok (.ior, 1) := by decide +kernel
theorem dX9_turned_82 : decode cX9_turned 82 = .ok (.ireturn, 1) := by decide +kernel
theorem dX9_turned_83 : decode cX9_turned 83 = .ok (.iload_n 2, 1) := by decide +kernel
theorem dX9_turned_84 : decode cX9_turned 84 = .ok (.iconst 1, 1) := by decide +kernel
theorem dX9_turned_85 : decode cX9_turned 85 = .ok (.ishl, 1) := by decide +kernel
theorem dX9_turned_86 : decode cX9_turned 86 = .ok (.sipush 511, 3) := by decide +kernel
theorem dX9_turned_89 : decode cX9_turned 89 = .ok (.iand, 1) := by decide +kernel
theorem dX9_turned_90 : decode cX9_turned 90 = .ok (.aload_n 0, 1) := by decide +kernel
theorem dX9_turned_91 : decode cX9_turned 91 = .ok (.invokevirtual 77, 3) := by decide +kernel
theorem dX9_turned_94 : decode cX9_turned 94 = .ok (.ior, 1) := by decide +kernel
theorem dX9_turned_95 : decode cX9_turned 95 = .ok (.ireturn, 1) := by decide +kernel
theorem dX9_turned_96 : decode cX9_turned 96 = .ok (.iload_n 2, 1) := by decide +kernel
theorem dX9_turned_97 : decode cX9_turned 97 = .ok (.iconst 1, 1) := by decide +kernel
theorem dX9_turned_98 : decode cX9_turned 98 = .ok (.ishr, 1) := by decide +kernel
theorem dX9_turned_99 : decode cX9_turned 99 = .ok (.aload_n 0, 1) := by decide +kernel
theorem dX9_turned_100 : decode cX9_turned 100 = .ok (.invokevirtual 77, 3) := by decide +kernel
theorem dX9_turned_103 : decode cX9_turned 103 = .ok (.bipush 7, 2) := by decide +kernel
theorem dX9_turned_105 : decode cX9_turned 105 = .ok (.ishl, 1) := by decide +kernel
theorem dX9_turned_106 : decode cX9_turned 106 = .ok (.ior, 1) := by decide +kernel
theorem dX9_turned_107 : decode cX9_turned 107 = .ok (.iload_n 2, 1) := by decide +kernel
theorem dX9_turned_108 : decode cX9_turned 108 = .ok (.bipush 8, 2) := by decide +kernel
theorem dX9_turned_110 : decode cX9_turned 110 = .ok (.ishl, 1) := by decide +kernel
theorem dX9_turned_111 : decode cX9_turned 111 = .ok (.sipush 256, 3) := by decide +kernel
theorem dX9_turned_114 : decode cX9_turned 114 = .ok (.iand, 1) := by decide +kernel
theorem dX9_turned_115 : decode cX9_turned 115 = .ok (.ior, 1) := by decide +kernel
theorem dX9_turned_116 : decode cX9_turned 116 = .ok (.ireturn, 1) := by decide +kernel
theorem dX9_turned_117 : decode cX9_turned 117 = .ok (.iload_n 2, 1) := by decide +kernel
theorem dX9_turned_118 : decode cX9_turned 118 = .ok (.iconst 1, 1) := by decide +kernel
theorem dX9_turned_119 : decode cX9_turned 119 = .ok (.ishl, 1) := by decide +kernel
theorem dX9_turned_120 : decode cX9_turned 120 = .ok (.sipush 511, 3) := by decide +kernel
theorem dX9_turned_123 : decode cX9_turned 123 = .ok (.iand, 1) := by decide +kernel
theorem dX9_turned_124 : decode cX9_turned 124 = .ok (.ireturn, 1) := by decide +kernel
theorem dX9_turned_125 : decode cX9_turned 125 = .ok (.iload_n 2, 1) := by decide +kernel
theorem dX9_turned_126 : decode cX9_turned 126 = .ok (.iconst 1, 1) := by decide +kernel
theorem dX9_turned_127 : decode cX9_turned 127 = .ok (.ishr, 1) := by decide +kernel
theorem dX9_turned_128 : decode cX9_turned 128 = .ok (.iload_n 2, 1) := by decide +kernel
theorem dX9_turned_129 : decode cX9_turned 129 = .ok (.sipush 128, 3) := by decide +kernel
theorem dX9_turned_132 : decode cX9_turned 132 = .ok (.iand, 1) := by decide +kernel
theorem dX9_turned_133 : decode cX9_turned 133 = .ok (.ior, 1) := by decide +kernel
theorem dX9_turned_134 : decode cX9_turned 134 = .ok (.iload_n 2, 1) := by decide +kernel
theorem dX9_turned_135 : decode cX9_turned 135 = .ok (.bipush 8, 2) := by decide +kernel
theorem dX9_turned_137 : decode cX9_turned 137 = .ok (.ishl, 1) := by decide +kernel
theorem dX9_turned_138 : decode cX9_turned 138 = .ok (.sipush 256, 3) := by decide +kernel
theorem dX9_turned_141 : decode cX9_turned 141 = .ok (.iand, 1) := by decide +kernel
theorem dX9_turned_142 : decode cX9_turned 142 = .ok (.ior, 1) := by decide +kernel
theorem dX9_turned_143 : decode cX9_turned 143 = .ok (.ireturn, 1) := by decide +kernel
theorem dX9_turned_144 : decode cX9_turned 144 = .ok (.iload_n 2, 1) := by decide +kernel
theorem dX9_turned_145 : decode cX9_turned 145 = .ok (.iconst 1, 1) := by decide +kernel
theorem dX9_turned_146 : decode cX9_turned 146 = .ok (.ishr, 1) := by decide +kernel
theorem dX9_turned_147 : decode cX9_turned 147 = .ok (.iload_n 2, 1) := by decide +kernel
theorem dX9_turned_148 : decode cX9_turned 148 = .ok (.bipush 8, 2) := by decide +kernel
theorem dX9_turned_150 : decode cX9_turned 150 = .ok (.ishl, 1) := by decide +kernel
theorem dX9_turned_151 : decode cX9_turned 151 = .ok (.sipush 256, 3) := by decide +kernel
theorem dX9_turned_154 : decode cX9_turned 154 = .ok (.iand, 1) := by decide +kernel
theorem dX9_turned_155 : decode cX9_turned 155 = .ok (.ior, 1) := by decide +kernel
theorem dX9_turned_156 : decode cX9_turned 156 = .ok (.ireturn, 1) := by decide +kernel
def fX9_turned (p1 p2 : Int32) (s0 : zS) : Option (Int32 × zS) := if p1 ∈ ([(0 : Int32)] : List Int32) then (some (((((p2 <<< ((1 : Int32) &&& 31)) ||| (p2 >>> ((7 : Int32) &&& 31))) &&& (255 : Int32)) ||| ((p2 <<< ((1 : Int32) &&& 31)) &&& (256 : Int32))), s0)) else if p1 ∈ ([(1 : Int32)] : List Int32) then (some ((((p2 >>> ((1 : Int32) &&& 31)) ||| ((p2 <<< ((7 : Int32) &&& 31)) &&& (128 : Int32))) ||| ((p2 <<< ((8 : Int32) &&& 31)) &&& (256 : Int32))), s0)) else if p1 ∈ ([(2 : Int32)] : List Int32) then (bd2 (fX9_carry  s0) fun r5 s6 => some ((((p2 <<< ((1 : Int32) &&& 31)) &&& (511 : Int32)) ||| r5), s6)) else if p1 ∈ ([(3 : Int32)] : List Int32) then (bd2 (fX9_carry  s0) fun r9 s10 => some ((((p2 >>> ((1 : Int32) &&& 31)) ||| (r9 <<< ((7 : Int32) &&& 31))) ||| ((p2 <<< ((8 : Int32) &&& 31)) &&& (256 : Int32))), s10)) else if p1 ∈ ([(4 : Int32)] : List Int32) then (some (((p2 <<< ((1 : Int32) &&& 31)) &&& (511 : Int32)), s0)) else if p1 ∈ ([(5 : Int32)] : List Int32) then (some ((((p2 >>> ((1 : Int32) &&& 31)) ||| (p2 &&& (128 : Int32))) ||| ((p2 <<< ((8 : Int32) &&& 31)) &&& (256 : Int32))), s0)) else (some (((p2 >>> ((1 : Int32) &&& 31)) ||| ((p2 <<< ((8 : Int32) &&& 31)) &&& (256 : Int32))), s0))
set_option maxHeartbeats 4000000 in
set_option maxRecDepth 100000 in
theorem cX9_turned_m {l : Launch} {dC : Nat → ClassId} {dI : Nat → Nat → Nat} {ad : Nat → Nat} {cI : ClassId} {p1 p2 : Int32} {s0 : zS} {zr : Int32} {zs : zS} (h : fX9_turned p1 p2 s0 = some (zr, zs)) : sw_Mi l yX9_turned (sw_ws yX9_turned cX9_turned 3 (some .int)) (sw_rm 1 20) (dC, dI) vwCl [(cI, .int)] mF [.ref (ad 0), .int p1, .int p2] (mW ad cI s0) (mW ad cI zs) zr := by
  intro sz
  refine sw_of (cc := cX9_turned) (maxL := 3) (ret := (some .int)) (by decide) rfl (Nat.le_of_ble_eq_true rfl) ?_
  intro p e s m args below meth c A ls hAe hsz X _ hP hD hS hl
  rw [hAe]
  have hx := X.1.1
  have hb := X.1.2.1
  have hown := X.1.2.2.2.1
  have hts := X.1.2.2.2.2
  replace hl : lv_has ls 3 [(0, .ref (ad 0)), (1, .int p1), (2, .int p2)] := hl
  unfold fX9_turned at h
  refine lv_iload_n hx hb dX9_turned_0 rfl (lv_at hl 1 rfl) ?_
  by_cases c1 : p1 ∈ ([(0 : Int32)] : List Int32)
  · replace h := if_yes h c1
    refine sw_tabK (tgt := 40) (off := 39) hx hb dX9_turned_1 _ c1 (by decide +kernel) (by decide) ?_
    refine lv_iload_n hx hb dX9_turned_40 rfl (lv_at hl 2 rfl) ?_
    refine lv_iconst (v := (1 : Int32)) hx hb dX9_turned_41 (by decide) ?_
    refine lv_ishl hx hb dX9_turned_42 ?_
    refine lv_iload_n hx hb dX9_turned_43 rfl (lv_at hl 2 rfl) ?_
    refine lv_bipush (v := (7 : Int32)) hx hb dX9_turned_44 (by decide) ?_
    refine lv_ishr hx hb dX9_turned_46 ?_
    refine lv_ior hx hb dX9_turned_47 ?_
    refine lv_sipush (v := (255 : Int32)) hx hb dX9_turned_48 (by decide) ?_
    refine lv_iand hx hb dX9_turned_51 ?_
    refine lv_iload_n hx hb dX9_turned_52 rfl (lv_at hl 2 rfl) ?_
    refine lv_iconst (v := (1 : Int32)) hx hb dX9_turned_53 (by decide) ?_
    refine lv_ishl hx hb dX9_turned_54 ?_
    refine lv_sipush (v := (256 : Int32)) hx hb dX9_turned_55 (by decide) ?_
    refine lv_iand hx hb dX9_turned_58 ?_
    refine lv_ior hx hb dX9_turned_59 ?_
    obtain ⟨rfl, rfl⟩ := Prod.mk.inj (Option.some.inj h)
    exact sw_iret X hP hD hS dX9_turned_60
  · replace h := if_no h c1
    by_cases c2 : p1 ∈ ([(1 : Int32)] : List Int32)
    · replace h := if_yes h c2
      refine sw_tabK (tgt := 61) (off := 60) hx hb dX9_turned_1 _ c2 (by decide +kernel) (by decide) ?_
      refine lv_iload_n hx hb dX9_turned_61 rfl (lv_at hl 2 rfl) ?_
      refine lv_iconst (v := (1 : Int32)) hx hb dX9_turned_62 (by decide) ?_
      refine lv_ishr hx hb dX9_turned_63 ?_
      refine lv_iload_n hx hb dX9_turned_64 rfl (lv_at hl 2 rfl) ?_
      refine lv_bipush (v := (7 : Int32)) hx hb dX9_turned_65 (by decide) ?_
      refine lv_ishl hx hb dX9_turned_67 ?_
      refine lv_sipush (v := (128 : Int32)) hx hb dX9_turned_68 (by decide) ?_
      refine lv_iand hx hb dX9_turned_71 ?_
      refine lv_ior hx hb dX9_turned_72 ?_
      refine lv_iload_n hx hb dX9_turned_73 rfl (lv_at hl 2 rfl) ?_
      refine lv_bipush (v := (8 : Int32)) hx hb dX9_turned_74 (by decide) ?_
      refine lv_ishl hx hb dX9_turned_76 ?_
      refine lv_sipush (v := (256 : Int32)) hx hb dX9_turned_77 (by decide) ?_
      refine lv_iand hx hb dX9_turned_80 ?_
      refine lv_ior hx hb dX9_turned_81 ?_
      obtain ⟨rfl, rfl⟩ := Prod.mk.inj (Option.some.inj h)
      exact sw_iret X hP hD hS dX9_turned_82
    · replace h := if_no h c2
      by_cases c3 : p1 ∈ ([(2 : Int32)] : List Int32)
      · replace h := if_yes h c3
        refine sw_tabK (tgt := 83) (off := 82) hx hb dX9_turned_1 _ c3 (by decide +kernel) (by decide) ?_
        refine lv_iload_n hx hb dX9_turned_83 rfl (lv_at hl 2 rfl) ?_
        refine lv_iconst (v := (1 : Int32)) hx hb dX9_turned_84 (by decide) ?_
        refine lv_ishl hx hb dX9_turned_85 ?_
        refine lv_sipush (v := (511 : Int32)) hx hb dX9_turned_86 (by decide) ?_
        refine lv_iand hx hb dX9_turned_89 ?_
        refine lv_aload_n hx hb dX9_turned_90 rfl (lv_at hl 0 rfl) ?_
        have hq := bd2_some h; clear h; obtain ⟨r5, s6, h4, h⟩ := hq
        refine sw_vi (rest := [.int ((p2 <<< ((1 : Int32) &&& 31)) &&& (511 : Int32))]) m_good X (cX9_carry_m h4) calX9_carry k_914 hP hD hS 0 9 rfl rfl rfl ⟨rfl, rfl⟩ rfl hl.1 rfl (Nat.le_of_ble_eq_true rfl) dX9_turned_91 (fun H locs hP hD hS => ?_)
        refine lv_ior hx hb dX9_turned_94 ?_
        obtain ⟨rfl, rfl⟩ := Prod.mk.inj (Option.some.inj h)
        exact sw_iret X hP hD hS dX9_turned_95
      · replace h := if_no h c3
        by_cases c7 : p1 ∈ ([(3 : Int32)] : List Int32)
        · replace h := if_yes h c7
          refine sw_tabK (tgt := 96) (off := 95) hx hb dX9_turned_1 _ c7 (by decide +kernel) (by decide) ?_
          refine lv_iload_n hx hb dX9_turned_96 rfl (lv_at hl 2 rfl) ?_
          refine lv_iconst (v := (1 : Int32)) hx hb dX9_turned_97 (by decide) ?_
          refine lv_ishr hx hb dX9_turned_98 ?_
          refine lv_aload_n hx hb dX9_turned_99 rfl (lv_at hl 0 rfl) ?_
          have hq := bd2_some h; clear h; obtain ⟨r9, s10, h8, h⟩ := hq
          refine sw_vi (rest := [.int (p2 >>> ((1 : Int32) &&& 31))]) m_good X (cX9_carry_m h8) calX9_carry k_914 hP hD hS 0 9 rfl rfl rfl ⟨rfl, rfl⟩ rfl hl.1 rfl (Nat.le_of_ble_eq_true rfl) dX9_turned_100 (fun H locs hP hD hS => ?_)
          refine lv_bipush (v := (7 : Int32)) hx hb dX9_turned_103 (by decide) ?_
          refine lv_ishl hx hb dX9_turned_105 ?_
          refine lv_ior hx hb dX9_turned_106 ?_
          refine lv_iload_n hx hb dX9_turned_107 rfl (lv_at hl 2 rfl) ?_
          refine lv_bipush (v := (8 : Int32)) hx hb dX9_turned_108 (by decide) ?_
          refine lv_ishl hx hb dX9_turned_110 ?_
          refine lv_sipush (v := (256 : Int32)) hx hb dX9_turned_111 (by decide) ?_
          refine lv_iand hx hb dX9_turned_114 ?_
          refine lv_ior hx hb dX9_turned_115 ?_
          obtain ⟨rfl, rfl⟩ := Prod.mk.inj (Option.some.inj h)
          exact sw_iret X hP hD hS dX9_turned_116
        · replace h := if_no h c7
          by_cases c11 : p1 ∈ ([(4 : Int32)] : List Int32)
          · replace h := if_yes h c11
            refine sw_tabK (tgt := 117) (off := 116) hx hb dX9_turned_1 _ c11 (by decide +kernel) (by decide) ?_
            refine lv_iload_n hx hb dX9_turned_117 rfl (lv_at hl 2 rfl) ?_
            refine lv_iconst (v := (1 : Int32)) hx hb dX9_turned_118 (by decide) ?_
            refine lv_ishl hx hb dX9_turned_119 ?_
            refine lv_sipush (v := (511 : Int32)) hx hb dX9_turned_120 (by decide) ?_
            refine lv_iand hx hb dX9_turned_123 ?_
            obtain ⟨rfl, rfl⟩ := Prod.mk.inj (Option.some.inj h)
            exact sw_iret X hP hD hS dX9_turned_124
          · replace h := if_no h c11
            by_cases c12 : p1 ∈ ([(5 : Int32)] : List Int32)
            · replace h := if_yes h c12
              refine sw_tabK (tgt := 125) (off := 124) hx hb dX9_turned_1 _ c12 (by decide +kernel) (by decide) ?_
              refine lv_iload_n hx hb dX9_turned_125 rfl (lv_at hl 2 rfl) ?_
              refine lv_iconst (v := (1 : Int32)) hx hb dX9_turned_126 (by decide) ?_
              refine lv_ishr hx hb dX9_turned_127 ?_
              refine lv_iload_n hx hb dX9_turned_128 rfl (lv_at hl 2 rfl) ?_
              refine lv_sipush (v := (128 : Int32)) hx hb dX9_turned_129 (by decide) ?_
              refine lv_iand hx hb dX9_turned_132 ?_
              refine lv_ior hx hb dX9_turned_133 ?_
              refine lv_iload_n hx hb dX9_turned_134 rfl (lv_at hl 2 rfl) ?_
              refine lv_bipush (v := (8 : Int32)) hx hb dX9_turned_135 (by decide) ?_
              refine lv_ishl hx hb dX9_turned_137 ?_
              refine lv_sipush (v := (256 : Int32)) hx hb dX9_turned_138 (by decide) ?_
              refine lv_iand hx hb dX9_turned_141 ?_
              refine lv_ior hx hb dX9_turned_142 ?_
              obtain ⟨rfl, rfl⟩ := Prod.mk.inj (Option.some.inj h)
              exact sw_iret X hP hD hS dX9_turned_143
            · replace h := if_no h c12
              refine sw_tabD (tgt := 144) hx hb dX9_turned_1 (([(0 : Int32)] : List Int32) ++ (([(1 : Int32)] : List Int32) ++ (([(2 : Int32)] : List Int32) ++ (([(3 : Int32)] : List Int32) ++ (([(4 : Int32)] : List Int32) ++ ([(5 : Int32)] : List Int32)))))) (fun hm => (List.mem_append.mp hm).elim c1 (fun hm => (List.mem_append.mp hm).elim c2 (fun hm => (List.mem_append.mp hm).elim c3 (fun hm => (List.mem_append.mp hm).elim c7 (fun hm => (List.mem_append.mp hm).elim c11 c12))))) (by decide +kernel) (by decide) ?_
              refine lv_iload_n hx hb dX9_turned_144 rfl (lv_at hl 2 rfl) ?_
              refine lv_iconst (v := (1 : Int32)) hx hb dX9_turned_145 (by decide) ?_
              refine lv_ishr hx hb dX9_turned_146 ?_
              refine lv_iload_n hx hb dX9_turned_147 rfl (lv_at hl 2 rfl) ?_
              refine lv_bipush (v := (8 : Int32)) hx hb dX9_turned_148 (by decide) ?_
              refine lv_ishl hx hb dX9_turned_150 ?_
              refine lv_sipush (v := (256 : Int32)) hx hb dX9_turned_151 (by decide) ?_
              refine lv_iand hx hb dX9_turned_154 ?_
              refine lv_ior hx hb dX9_turned_155 ?_
              obtain ⟨rfl, rfl⟩ := Prod.mk.inj (Option.some.inj h)
              exact sw_iret X hP hD hS dX9_turned_156
theorem dX9_turnA_0 : decode cX9_turnA 0 = .ok (.aload_n 0, 1) := by decide +kernel
theorem dX9_turnA_1 : decode cX9_turnA 1 = .ok (.iload_n 1, 1) := by decide +kernel
theorem dX9_turnA_2 : decode cX9_turnA 2 = .ok (.aload_n 0, 1) := by decide +kernel
theorem dX9_turnA_3 : decode cX9_turnA 3 = .ok (.getfield 13, 3) := by decide +kernel
theorem dX9_turnA_6 : decode cX9_turnA 6 = .ok (.bipush 7, 2) := by decide +kernel
theorem dX9_turnA_8 : decode cX9_turnA 8 = .ok (.iaload, 1) := by decide +kernel
theorem dX9_turnA_9 : decode cX9_turnA 9 = .ok (.invokevirtual 93, 3) := by decide +kernel
theorem dX9_turnA_12 : decode cX9_turnA 12 = .ok (.istore_n 2, 1) := by decide +kernel
theorem dX9_turnA_13 : decode cX9_turnA 13 = .ok (.aload_n 0, 1) := by decide +kernel
theorem dX9_turnA_14 : decode cX9_turnA 14 = .ok (.getfield 13, 3) := by decide +kernel
theorem dX9_turnA_17 : decode cX9_turnA 17 = .ok (.bipush 7, 2) := by decide +kernel
theorem dX9_turnA_19 : decode cX9_turnA 19 = .ok (.iload_n 2, 1) := by decide +kernel
theorem dX9_turnA_20 : decode cX9_turnA 20 = .ok (.sipush 255, 3) := by decide +kernel
theorem dX9_turnA_23 : decode cX9_turnA 23 = .ok (.iand, 1) := by decide +kernel
theorem dX9_turnA_24 : decode cX9_turnA 24 = .ok (.iastore, 1) := by decide +kernel
theorem dX9_turnA_25 : decode cX9_turnA 25 = .ok (.aload_n 0, 1) := by decide +kernel
theorem dX9_turnA_26 : decode cX9_turnA 26 = .ok (.getfield 13, 3) := by decide +kernel
theorem dX9_turnA_29 : decode cX9_turnA 29 = .ok (.bipush 6, 2) := by decide +kernel
theorem dX9_turnA_31 : decode cX9_turnA 31 = .ok (.aload_n 0, 1) := by decide +kernel
theorem dX9_turnA_32 : decode cX9_turnA 32 = .ok (.getfield 13, 3) := by decide +kernel
theorem dX9_turnA_35 : decode cX9_turnA 35 = .ok (.bipush 6, 2) := by decide +kernel
theorem dX9_turnA_37 : decode cX9_turnA 37 = .ok (.iaload, 1) := by decide +kernel
theorem dX9_turnA_38 : decode cX9_turnA 38 = .ok (.sipush 196, 3) := by decide +kernel
theorem dX9_turnA_41 : decode cX9_turnA 41 = .ok (.iand, 1) := by decide +kernel
theorem dX9_turnA_42 : decode cX9_turnA 42 = .ok (.iload_n 2, 1) := by decide +kernel
theorem dX9_turnA_43 : decode cX9_turnA 43 = .ok (.bipush 8, 2) := by decide +kernel
theorem dX9_turnA_45 : decode cX9_turnA 45 = .ok (.ishr, 1) := by decide +kernel
theorem dX9_turnA_46 : decode cX9_turnA 46 = .ok (.ior, 1) := by decide +kernel
theorem dX9_turnA_47 : decode cX9_turnA 47 = .ok (.iastore, 1) := by decide +kernel
theorem dX9_turnA_48 : decode cX9_turnA 48 = .ok (.return_, 1) := by decide +kernel
def fX9_turnA (p1 : Int32) (s0 : zS) : Option (zS) := bd2 (fX9_turned p1 (s0.2 1 ((7 : Int32).toNatClampNeg)) s0) fun r2 s3 => some (st2 (st2 s3 1 ((7 : Int32).toNatClampNeg) (r2 &&& (255 : Int32))) 1 ((6 : Int32).toNatClampNeg) ((((st2 s3 1 ((7 : Int32).toNatClampNeg) (r2 &&& (255 : Int32))).2 1 ((6 : Int32).toNatClampNeg)) &&& (196 : Int32)) ||| (r2 >>> ((8 : Int32) &&& 31))))
set_option maxHeartbeats 4000000 in
set_option maxRecDepth 100000 in
theorem cX9_turnA_m {l : Launch} {dC : Nat → ClassId} {dI : Nat → Nat → Nat} {ad : Nat → Nat} {cI : ClassId} {p1 : Int32} {s0 : zS} {zs : zS} (h : fX9_turnA p1 s0 = some zs) : sw_Mv l yX9_turnA (sw_ws yX9_turnA cX9_turnA 3 none) (sw_rm 2 42) (dC, dI) vwCl [(cI, .int)] mF [.ref (ad 0), .int p1] (mW ad cI s0) (mW ad cI zs) := by
  intro sz
  refine sw_of (cc := cX9_turnA) (maxL := 3) (ret := none) (by decide) rfl (Nat.le_of_ble_eq_true rfl) ?_
  intro p e s m args below meth c A ls hAe hsz X _ hP hD hS hl
  rw [hAe]
  have hx := X.1.1
  have hb := X.1.2.1
  have hown := X.1.2.2.2.1
  have hts := X.1.2.2.2.2
  replace hl : lv_has ls 3 [(0, .ref (ad 0)), (1, .int p1)] := hl
  unfold fX9_turnA at h
  refine lv_aload_n hx hb dX9_turnA_0 rfl (lv_at hl 0 rfl) ?_
  refine lv_iload_n hx hb dX9_turnA_1 rfl (lv_at hl 1 rfl) ?_
  refine lv_aload_n hx hb dX9_turnA_2 rfl (lv_at hl 0 rfl) ?_
  refine mg_0_2 X hP k_759 dX9_turnA_3 ?_
  refine lv_bipush (v := (7 : Int32)) hx hb dX9_turnA_6 (by decide) ?_
  refine ml_1 X hP (vin_in (i := (7 : Int32)) (n := 8) (by decide) (by decide)) dX9_turnA_8 ?_
  have hq := bd2_some h; clear h; obtain ⟨r2, s3, h1, h⟩ := hq
  refine sw_vi (rest := []) m_good X (cX9_turned_m h1) calX9_turned k_945 hP hD hS 0 9 rfl rfl rfl ⟨rfl, rfl⟩ rfl hl.1 rfl (Nat.le_of_ble_eq_true rfl) dX9_turnA_9 (fun H locs hP hD hS => ?_)
  refine lv_istore_n (lv' := [(2, .int r2), (0, .ref (ad 0)), (1, .int p1)]) hx hb dX9_turnA_12 rfl hl (by decide) rfl (fun ls hl => ?_)
  refine lv_aload_n hx hb dX9_turnA_13 rfl (lv_at hl 1 rfl) ?_
  refine mg_0_2 X hP k_759 dX9_turnA_14 ?_
  refine lv_bipush (v := (7 : Int32)) hx hb dX9_turnA_17 (by decide) ?_
  refine lv_iload_n hx hb dX9_turnA_19 rfl (lv_at hl 0 rfl) ?_
  refine lv_sipush (v := (255 : Int32)) hx hb dX9_turnA_20 (by decide) ?_
  refine lv_iand hx hb dX9_turnA_23 ?_
  refine mb_1 X hP hD hS (vin_in (i := (7 : Int32)) (n := 8) (by decide) (by decide)) dX9_turnA_24 (fun H locs hP hD hS => ?_)
  refine lv_aload_n hx hb dX9_turnA_25 rfl (lv_at hl 1 rfl) ?_
  refine mg_0_2 X hP k_759 dX9_turnA_26 ?_
  refine lv_bipush (v := (6 : Int32)) hx hb dX9_turnA_29 (by decide) ?_
  refine lv_aload_n hx hb dX9_turnA_31 rfl (lv_at hl 1 rfl) ?_
  refine mg_0_2 X hP k_759 dX9_turnA_32 ?_
  refine lv_bipush (v := (6 : Int32)) hx hb dX9_turnA_35 (by decide) ?_
  refine ml_1 X hP (vin_in (i := (6 : Int32)) (n := 8) (by decide) (by decide)) dX9_turnA_37 ?_
  refine lv_sipush (v := (196 : Int32)) hx hb dX9_turnA_38 (by decide) ?_
  refine lv_iand hx hb dX9_turnA_41 ?_
  refine lv_iload_n hx hb dX9_turnA_42 rfl (lv_at hl 0 rfl) ?_
  refine lv_bipush (v := (8 : Int32)) hx hb dX9_turnA_43 (by decide) ?_
  refine lv_ishr hx hb dX9_turnA_45 ?_
  refine lv_ior hx hb dX9_turnA_46 ?_
  refine mb_1 X hP hD hS (vin_in (i := (6 : Int32)) (n := 8) (by decide) (by decide)) dX9_turnA_47 (fun H locs hP hD hS => ?_)
  obtain rfl := Option.some.inj h
  exact sw_vret X hP hD hS dX9_turnA_48
