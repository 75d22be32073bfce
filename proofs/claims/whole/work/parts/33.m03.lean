theorem dX9_bits_0 : decode cX9_bits 0 = .ok (.iload_n 1, 1) := by decide +kernel
theorem dX9_bits_1 : decode cX9_bits 1 = .ok (.bipush 7, 2) := by decide +kernel
theorem dX9_bits_3 : decode cX9_bits 3 = .ok (.iand, 1) := by decide +kernel
theorem dX9_bits_4 : decode cX9_bits 4 = .ok (.istore_n 2, 1) := by decide +kernel
theorem dX9_bits_5 : decode cX9_bits 5 = .ok (.iload_n 1, 1) := by decide +kernel
theorem dX9_bits_6 : decode cX9_bits 6 = .ok (.iconst 3, 1) := by decide +kernel
theorem dX9_bits_7 : decode cX9_bits 7 = .ok (.ishr, 1) := by decide +kernel
theorem dX9_bits_8 : decode cX9_bits 8 = .ok (.bipush 7, 2) := by decide +kernel
theorem dX9_bits_10 : decode cX9_bits 10 = .ok (.iand, 1) := by decide +kernel
theorem dX9_bits_11 : decode cX9_bits 11 = .ok (.istore_n 3, 1) := by decide +kernel
theorem dX9_bits_12 : decode cX9_bits 12 = .ok (.iload_n 1, 1) := by decide +kernel
theorem dX9_bits_13 : decode cX9_bits 13 = .ok (.iconst 3, 1) := by decide +kernel
theorem dX9_bits_14 : decode cX9_bits 14 = .ok (.ishr, 1) := by decide +kernel
theorem dX9_bits_15 : decode cX9_bits 15 = .ok (.bipush 6, 2) := by decide +kernel
theorem dX9_bits_17 : decode cX9_bits 17 = .ok (.if_icmp .ne 9, 3) := by decide +kernel
theorem dX9_bits_20 : decode cX9_bits 20 = .ok (.aload_n 0, 1) := by decide +kernel
theorem dX9_bits_21 : decode cX9_bits 21 = .ok (.iconst 1, 1) := by decide +kernel
theorem dX9_bits_22 : decode cX9_bits 22 = .ok (.putfield 97, 3) := by decide +kernel
theorem dX9_bits_25 : decode cX9_bits 25 = .ok (.return_, 1) := by decide +kernel
theorem dX9_bits_26 : decode cX9_bits 26 = .ok (.aload_n 0, 1) := by decide +kernel
theorem dX9_bits_27 : decode cX9_bits 27 = .ok (.iload_n 2, 1) := by decide +kernel
theorem dX9_bits_28 : decode cX9_bits 28 = .ok (.invokevirtual 101, 3) := by decide +kernel
theorem dX9_bits_31 : decode cX9_bits 31 = .ok (.istore 4, 2) := by decide +kernel
theorem dX9_bits_33 : decode cX9_bits 33 = .ok (.aload_n 0, 1) := by decide +kernel
theorem dX9_bits_34 : decode cX9_bits 34 = .ok (.iload_n 2, 1) := by decide +kernel
theorem dX9_bits_35 : decode cX9_bits 35 = .ok (.bipush 6, 2) := by decide +kernel
theorem dX9_bits_37 : decode cX9_bits 37 = .ok (.if_icmp .ne 12, 3) := by decide +kernel
theorem dX9_bits_40 : decode cX9_bits 40 = .ok (.aload_n 0, 1) := by decide +kernel
theorem dX9_bits_41 : decode cX9_bits 41 = .ok (.getfield 32, 3) := by decide +kernel
theorem dX9_bits_44 : decode cX9_bits 44 = .ok (.iconst 1, 1) := by decide +kernel
theorem dX9_bits_45 : decode cX9_bits 45 = .ok (.iadd, 1) := by decide +kernel
theorem dX9_bits_46 : decode cX9_bits 46 = .ok (.goto 7, 3) := by decide +kernel
theorem dX9_bits_49 : decode cX9_bits 49 = .ok (.aload_n 0, 1) := by decide +kernel
theorem dX9_bits_50 : decode cX9_bits 50 = .ok (.getfield 32, 3) := by decide +kernel
theorem dX9_bits_53 : decode cX9_bits 53 = .ok (.putfield 32, 3) := by decide +kernel
theorem dX9_bits_56 : decode cX9_bits 56 = .ok (.iload_n 1, 1) := by decide +kernel
theorem dX9_bits_57 : decode cX9_bits 57 = .ok (.bipush 6, 2) := by decide +kernel
theorem dX9_bits_59 : decode cX9_bits 59 = .ok (.ishr, 1) := by decide +kernel
theorem dX9_bits_60 : decode cX9_bits 60 = .ok (.tableswitch 124 0 2 #[28, 75, 108], 28) := by decide +kernel
theorem dX9_bits_88 : decode cX9_bits 88 = .ok (.aload_n 0, 1) := by decide +kernel
theorem dX9_bits_89 : decode cX9_bits 89 = .ok (.iload_n 3, 1) := by decide +kernel
theorem dX9_bits_90 : decode cX9_bits 90 = .ok (.iload 4, 2) := by decide +kernel
theorem dX9_bits_92 : decode cX9_bits 92 = .ok (.invokevirtual 93, 3) := by decide +kernel
theorem dX9_bits_95 : decode cX9_bits 95 = .ok (.istore 5, 2) := by decide +kernel
theorem dX9_bits_97 : decode cX9_bits 97 = .ok (.aload_n 0, 1) := by decide +kernel
theorem dX9_bits_98 : decode cX9_bits 98 = .ok (.getfield 13, 3) := by decide +kernel
theorem dX9_bits_101 : decode cX9_bits 101 = .ok (.bipush 6, 2) := by decide +kernel
theorem dX9_bits_103 : decode cX9_bits 103 = .ok (.iload 5, 2) := by decide +kernel
theorem dX9_bits_105 : decode cX9_bits 105 = .ok (.invokestatic 74, 3) := by decide +kernel
theorem dX9_bits_108 : decode cX9_bits 108 = .ok (.iload 5, 2) := by decide +kernel
theorem dX9_bits_110 : decode cX9_bits 110 = .ok (.invokestatic 87, 3) := by decide +kernel
theorem dX9_bits_113 : decode cX9_bits 113 = .ok (.ior, 1) := by decide +kernel
theorem dX9_bits_114 : decode cX9_bits 114 = .ok (.iload 5, 2) := by decide +kernel
theorem dX9_bits_116 : decode cX9_bits 116 = .ok (.bipush 8, 2) := by decide +kernel
theorem dX9_bits_118 : decode cX9_bits 118 = .ok (.ishr, 1) := by decide +kernel
theorem dX9_bits_119 : decode cX9_bits 119 = .ok (.ior, 1) := by decide +kernel
theorem dX9_bits_120 : decode cX9_bits 120 = .ok (.iastore, 1) := by decide +kernel
theorem dX9_bits_121 : decode cX9_bits 121 = .ok (.aload_n 0, 1) := by decide +kernel
theorem dX9_bits_122 : decode cX9_bits 122 = .ok (.iload_n 2, 1) := by decide +kernel
theorem dX9_bits_123 : decode cX9_bits 123 = .ok (.iload 5, 2) := by decide +kernel
theorem dX9_bits_125 : decode cX9_bits 125 = .ok (.sipush 255, 3) := by decide +kernel
theorem dX9_bits_128 : decode cX9_bits 128 = .ok (.iand, 1) := by decide +kernel
theorem dX9_bits_129 : decode cX9_bits 129 = .ok (.invokevirtual 104, 3) := by decide +kernel
theorem dX9_bits_132 : decode cX9_bits 132 = .ok (.goto 63, 3) := by decide +kernel
theorem dX9_bits_135 : decode cX9_bits 135 = .ok (.aload_n 0, 1) := by decide +kernel
theorem dX9_bits_136 : decode cX9_bits 136 = .ok (.getfield 13, 3) := by decide +kernel
theorem dX9_bits_139 : decode cX9_bits 139 = .ok (.bipush 6, 2) := by decide +kernel
theorem dX9_bits_141 : decode cX9_bits 141 = .ok (.aload_n 0, 1) := by decide +kernel
theorem dX9_bits_142 : decode cX9_bits 142 = .ok (.invokevirtual 77, 3) := by decide +kernel
theorem dX9_bits_145 : decode cX9_bits 145 = .ok (.bipush 16, 2) := by decide +kernel
theorem dX9_bits_147 : decode cX9_bits 147 = .ok (.ior, 1) := by decide +kernel
theorem dX9_bits_148 : decode cX9_bits 148 = .ok (.iload 4, 2) := by decide +kernel
theorem dX9_bits_150 : decode cX9_bits 150 = .ok (.iload_n 3, 1) := by decide +kernel
theorem dX9_bits_151 : decode cX9_bits 151 = .ok (.ishr, 1) := by decide +kernel
theorem dX9_bits_152 : decode cX9_bits 152 = .ok (.iconst 1, 1) := by decide +kernel
theorem dX9_bits_153 : decode cX9_bits 153 = .ok (.iand, 1) := by decide +kernel
theorem dX9_bits_154 : decode cX9_bits 154 = .ok (.ifCond .ne 8, 3) := by decide +kernel
theorem dX9_bits_157 : decode cX9_bits 157 = .ok (.bipush 64, 2) := by decide +kernel
theorem dX9_bits_159 : decode cX9_bits 159 = .ok (.goto 4, 3) := by decide +kernel
theorem dX9_bits_162 : decode cX9_bits 162 = .ok (.iconst 0, 1) := by decide +kernel
theorem dX9_bits_163 : decode cX9_bits 163 = .ok (.ior, 1) := by decide +kernel
theorem dX9_bits_164 : decode cX9_bits 164 = .ok (.iastore, 1) := by decide +kernel
theorem dX9_bits_165 : decode cX9_bits 165 = .ok (.goto 30, 3) := by decide +kernel
theorem dX9_bits_168 : decode cX9_bits 168 = .ok (.aload_n 0, 1) := by decide +kernel
theorem dX9_bits_169 : decode cX9_bits 169 = .ok (.iload_n 2, 1) := by decide +kernel
theorem dX9_bits_170 : decode cX9_bits 170 = .ok (.iload 4, 2) := by decide +kernel
theorem dX9_bits_172 : decode cX9_bits 172 = .ok (.iconst 1, 1) := by decide +kernel
theorem dX9_bits_173 : decode cX9_bits 173 = .ok (.iload_n 3, 1) := by decide +kernel
theorem dX9_bits_174 : decode cX9_bits 174 = .ok (.ishl, 1) := by decide +kernel
theorem dX9_bits_175 : decode cX9_bits 175 = .ok (.iconst (-1), 1) := by decide +kernel
theorem dX9_bits_176 : decode cX9_bits 176 = .ok (.ixor, 1) := by decide +kernel
theorem dX9_bits_177 : decode cX9_bits 177 = .ok (.iand, 1) := by decide +kernel
theorem dX9_bits_178 : decode cX9_bits 178 = .ok (.invokevirtual 104, 3) := by decide +kernel
theorem dX9_bits_181 : decode cX9_bits 181 = .ok (.goto 14, 3) := by decide +kernel
theorem dX9_bits_184 : decode cX9_bits 184 = .ok (.aload_n 0, 1) := by decide +kernel
theorem dX9_bits_185 : decode cX9_bits 185 = .ok (.iload_n 2, 1) := by decide +kernel
theorem dX9_bits_186 : decode cX9_bits 186 = .ok (.iload 4, 2) := by decide +kernel
theorem dX9_bits_188 : decode cX9_bits 188 = .ok (.iconst 1, 1) := by decide +kernel
theorem dX9_bits_189 : decode cX9_bits 189 = .ok (.iload_n 3, 1) := by decide +kernel
theorem dX9_bits_190 : decode cX9_bits 190 = .ok (.ishl, 1) := by decide +kernel
theorem dX9_bits_191 : decode cX9_bits 191 = .ok (.ior, 1) := by decide +kernel
theorem dX9_bits_192 : decode cX9_bits 192 = .ok (.invokevirtual 104, 3) := by decide +kernel
theorem dX9_bits_195 : decode cX9_bits 195 = .ok (.return_, 1) := by decide +kernel
def fX9_bits (p1 : Int32) (s0 : zS) : Option (zS) := nm (p1 &&& (7 : Int32)) fun x1 => nm ((p1 >>> ((3 : Int32) &&& 31)) &&& (7 : Int32)) fun x2 => if (p1 >>> ((3 : Int32) &&& 31)) = (6 : Int32) then (some (st1 s0 7 (1 : Int32))) else (bd2 (fX9_operand x1 s0) fun r5 s6 => bd (if x1 = (6 : Int32) then (some ((s6.1 3) + (1 : Int32))) else (some (s6.1 3))) fun x9 => if (p1 >>> ((6 : Int32) &&& 31)) ∈ ([(0 : Int32)] : List Int32) then (bd2 (fX9_turned x2 r5 (st1 s6 3 x9)) fun r13 s14 => bd (fX9_signs r13) fun r16 => bd (fX9_even r13) fun r18 => bd (fX9_setOperand x1 (r13 &&& (255 : Int32)) (st2 s14 1 ((6 : Int32).toNatClampNeg) ((r16 ||| r18) ||| (r13 >>> ((8 : Int32) &&& 31))))) fun s20 => some s20) else if (p1 >>> ((6 : Int32) &&& 31)) ∈ ([(1 : Int32)] : List Int32) then (bd2 (fX9_carry  (st1 s6 3 x9)) fun r23 s24 => bd (if ((r5 >>> (x2 &&& 31)) &&& (1 : Int32)) = (0 : Int32) then (some (64 : Int32)) else (some (0 : Int32))) fun x27 => some (st2 s24 1 ((6 : Int32).toNatClampNeg) ((r23 ||| (16 : Int32)) ||| x27))) else if (p1 >>> ((6 : Int32) &&& 31)) ∈ ([(2 : Int32)] : List Int32) then (bd (fX9_setOperand x1 (r5 &&& (((1 : Int32) <<< (x2 &&& 31)) ^^^ (-1 : Int32))) (st1 s6 3 x9)) fun s31 => some s31) else (bd (fX9_setOperand x1 (r5 ||| ((1 : Int32) <<< (x2 &&& 31))) (st1 s6 3 x9)) fun s33 => some s33))
set_option maxHeartbeats 4000000 in
set_option maxRecDepth 100000 in
theorem cX9_bits_m {l : Launch} {dC : Nat → ClassId} {dI : Nat → Nat → Nat} {ad : Nat → Nat} {cI : ClassId} {p1 : Int32} {s0 : zS} {zs : zS} (h : fX9_bits p1 s0 = some zs) : sw_Mv l yX9_bits (sw_ws yX9_bits cX9_bits 6 none) (sw_rm 4 87) (dC, dI) vwCl [(cI, .int)] mF [.ref (ad 0), .int p1] (mW ad cI s0) (mW ad cI zs) := by
  intro sz
  refine sw_of (cc := cX9_bits) (maxL := 6) (ret := none) (by decide) rfl (Nat.le_of_ble_eq_true rfl) ?_
  intro p e s m args below meth c A ls hAe hsz X _ hP hD hS hl
  rw [hAe]
  have hx := X.1.1
  have hb := X.1.2.1
  have hown := X.1.2.2.2.1
  have hts := X.1.2.2.2.2
  replace hl : lv_has ls 6 [(0, .ref (ad 0)), (1, .int p1)] := hl
  unfold fX9_bits at h
  refine lv_iload_n hx hb dX9_bits_0 rfl (lv_at hl 1 rfl) ?_
  refine lv_bipush (v := (7 : Int32)) hx hb dX9_bits_1 (by decide) ?_
  refine lv_iand hx hb dX9_bits_3 ?_
  refine lv_topi (fun x1 ex1 => ?_)
  replace h := nm_use ex1 h
  refine lv_istore_n (lv' := [(2, .int x1), (0, .ref (ad 0)), (1, .int p1)]) hx hb dX9_bits_4 rfl hl (by decide) rfl (fun ls hl => ?_)
  refine lv_iload_n hx hb dX9_bits_5 rfl (lv_at hl 2 rfl) ?_
  refine lv_iconst (v := (3 : Int32)) hx hb dX9_bits_6 (by decide) ?_
  refine lv_ishr hx hb dX9_bits_7 ?_
  refine lv_bipush (v := (7 : Int32)) hx hb dX9_bits_8 (by decide) ?_
  refine lv_iand hx hb dX9_bits_10 ?_
  refine lv_topi (fun x2 ex2 => ?_)
  replace h := nm_use ex2 h
  refine lv_istore_n (lv' := [(3, .int x2), (2, .int x1), (0, .ref (ad 0)), (1, .int p1)]) hx hb dX9_bits_11 rfl hl (by decide) rfl (fun ls hl => ?_)
  refine lv_iload_n hx hb dX9_bits_12 rfl (lv_at hl 3 rfl) ?_
  refine lv_iconst (v := (3 : Int32)) hx hb dX9_bits_13 (by decide) ?_
  refine lv_ishr hx hb dX9_bits_14 ?_
  refine lv_bipush (v := (6 : Int32)) hx hb dX9_bits_15 (by decide) ?_
  refine lv_icmp_ne (tgt := 26) hx hb dX9_bits_17 (by decide) (fun c3 => ?_) (fun c3 => ?_)
  · replace h := if_no h c3
    refine lv_aload_n hx hb dX9_bits_26 rfl (lv_at hl 2 rfl) ?_
    refine lv_iload_n hx hb dX9_bits_27 rfl (lv_at hl 1 rfl) ?_
    have hq := bd2_some h; clear h; obtain ⟨r5, s6, h4, h⟩ := hq
    refine sw_vi (rest := []) m_good X (cX9_operand_m h4) calX9_operand k_918 hP hD hS 0 9 rfl rfl rfl ⟨rfl, rfl⟩ rfl hl.1 rfl (Nat.le_of_ble_eq_true rfl) dX9_bits_28 (fun H locs hP hD hS => ?_)
    refine lv_istore (lv' := [(4, .int r5), (3, .int x2), (2, .int x1), (0, .ref (ad 0)), (1, .int p1)]) hx hb dX9_bits_31 hl (by decide) rfl (fun ls hl => ?_)
    refine lv_aload_n hx hb dX9_bits_33 rfl (lv_at hl 3 rfl) ?_
    refine lv_iload_n hx hb dX9_bits_34 rfl (lv_at hl 2 rfl) ?_
    refine lv_bipush (v := (6 : Int32)) hx hb dX9_bits_35 (by decide) ?_
    have hq := bd_some h; clear h; obtain ⟨x9, h10, h⟩ := hq
    have K7 : ∀ (H : Heap) (locs : List Loc), va_P (dC, dI) vwCl (mW ad cI s6) H → va_D A (mW ad cI s6) → va_S A s.heap H locs → W p l e (sw_rm 4 87) s m args below meth c H locs 0 0 (MQ below (sw_Qv (dC, dI) vwCl [(cI, .int)] A (mW ad cI zs)) args s 0 0 A) (F0 m 53 ls [.int x9, .ref (ad 0)]) := by
      intro H locs hP hD hS
      refine mp_0_6 X hP hD hS k_763 dX9_bits_53 (fun H locs hP hD hS => ?_)
      refine lv_iload_n hx hb dX9_bits_56 rfl (lv_at hl 4 rfl) ?_
      refine lv_bipush (v := (6 : Int32)) hx hb dX9_bits_57 (by decide) ?_
      refine lv_ishr hx hb dX9_bits_59 ?_
      by_cases c11 : (p1 >>> ((6 : Int32) &&& 31)) ∈ ([(0 : Int32)] : List Int32)
      · replace h := if_yes h c11
        refine sw_tabK (tgt := 88) (off := 28) hx hb dX9_bits_60 _ c11 (by decide +kernel) (by decide) ?_
        refine lv_aload_n hx hb dX9_bits_88 rfl (lv_at hl 3 rfl) ?_
        refine lv_iload_n hx hb dX9_bits_89 rfl (lv_at hl 1 rfl) ?_
        refine lv_iload hx hb dX9_bits_90 (lv_at hl 0 rfl) ?_
        have hq := bd2_some h; clear h; obtain ⟨r13, s14, h12, h⟩ := hq
        refine sw_vi (rest := []) m_good X (cX9_turned_m h12) calX9_turned k_945 hP hD hS 0 9 rfl rfl rfl ⟨rfl, rfl⟩ rfl hl.1 rfl (Nat.le_of_ble_eq_true rfl) dX9_bits_92 (fun H locs hP hD hS => ?_)
        refine lv_istore (lv' := [(5, .int r13), (4, .int r5), (3, .int x2), (2, .int x1), (0, .ref (ad 0)), (1, .int p1)]) hx hb dX9_bits_95 hl (by decide) rfl (fun ls hl => ?_)
        refine lv_aload_n hx hb dX9_bits_97 rfl (lv_at hl 4 rfl) ?_
        refine mg_0_2 X hP k_759 dX9_bits_98 ?_
        refine lv_bipush (v := (6 : Int32)) hx hb dX9_bits_101 (by decide) ?_
        refine lv_iload hx hb dX9_bits_103 (lv_at hl 0 rfl) ?_
        have hq := bd_some h; clear h; obtain ⟨r16, h15, h⟩ := hq
        refine sw_si (rest := [.int (6 : Int32), .ref (ad 2)]) m_good X (cX9_signs_m h15) calX9_signs k_926 hP hD hS ⟨rfl, rfl⟩ rfl hl.1 rfl (Nat.le_of_ble_eq_true rfl) dX9_bits_105 (fun H locs hP hD hS => ?_)
        refine lv_iload hx hb dX9_bits_108 (lv_at hl 0 rfl) ?_
        have hq := bd_some h; clear h; obtain ⟨r18, h17, h⟩ := hq
        refine sw_si (rest := [.int r16, .int (6 : Int32), .ref (ad 2)]) m_good X (cX9_even_m h17) calX9_even k_953 hP hD hS ⟨rfl, rfl⟩ rfl hl.1 rfl (Nat.le_of_ble_eq_true rfl) dX9_bits_110 (fun H locs hP hD hS => ?_)
        refine lv_ior hx hb dX9_bits_113 ?_
        refine lv_iload hx hb dX9_bits_114 (lv_at hl 0 rfl) ?_
        refine lv_bipush (v := (8 : Int32)) hx hb dX9_bits_116 (by decide) ?_
        refine lv_ishr hx hb dX9_bits_118 ?_
        refine lv_ior hx hb dX9_bits_119 ?_
        refine mb_1 X hP hD hS (vin_in (i := (6 : Int32)) (n := 8) (by decide) (by decide)) dX9_bits_120 (fun H locs hP hD hS => ?_)
        refine lv_aload_n hx hb dX9_bits_121 rfl (lv_at hl 4 rfl) ?_
        refine lv_iload_n hx hb dX9_bits_122 rfl (lv_at hl 3 rfl) ?_
        refine lv_iload hx hb dX9_bits_123 (lv_at hl 0 rfl) ?_
        refine lv_sipush (v := (255 : Int32)) hx hb dX9_bits_125 (by decide) ?_
        refine lv_iand hx hb dX9_bits_128 ?_
        have hq := bd_some h; clear h; obtain ⟨s20, h19, h⟩ := hq
        refine sw_vv (rest := []) m_good X (cX9_setOperand_m h19) calX9_setOperand k_933 hP hD hS 0 9 rfl rfl rfl ⟨rfl, rfl⟩ rfl hl.1 rfl (Nat.le_of_ble_eq_true rfl) dX9_bits_129 (fun H locs hP hD hS => ?_)
        refine lv_goto (tgt := 195) hx hb dX9_bits_132 (by decide) ?_
        obtain rfl := Option.some.inj h
        exact sw_vret X hP hD hS dX9_bits_195
      · replace h := if_no h c11
        by_cases c21 : (p1 >>> ((6 : Int32) &&& 31)) ∈ ([(1 : Int32)] : List Int32)
        · replace h := if_yes h c21
          refine sw_tabK (tgt := 135) (off := 75) hx hb dX9_bits_60 _ c21 (by decide +kernel) (by decide) ?_
          refine lv_aload_n hx hb dX9_bits_135 rfl (lv_at hl 3 rfl) ?_
          refine mg_0_2 X hP k_759 dX9_bits_136 ?_
          refine lv_bipush (v := (6 : Int32)) hx hb dX9_bits_139 (by decide) ?_
          refine lv_aload_n hx hb dX9_bits_141 rfl (lv_at hl 3 rfl) ?_
          have hq := bd2_some h; clear h; obtain ⟨r23, s24, h22, h⟩ := hq
          refine sw_vi (rest := [.int (6 : Int32), .ref (ad 2)]) m_good X (cX9_carry_m h22) calX9_carry k_914 hP hD hS 0 9 rfl rfl rfl ⟨rfl, rfl⟩ rfl hl.1 rfl (Nat.le_of_ble_eq_true rfl) dX9_bits_142 (fun H locs hP hD hS => ?_)
          refine lv_bipush (v := (16 : Int32)) hx hb dX9_bits_145 (by decide) ?_
          refine lv_ior hx hb dX9_bits_147 ?_
          refine lv_iload hx hb dX9_bits_148 (lv_at hl 0 rfl) ?_
          refine lv_iload_n hx hb dX9_bits_150 rfl (lv_at hl 1 rfl) ?_
          refine lv_ishr hx hb dX9_bits_151 ?_
          refine lv_iconst (v := (1 : Int32)) hx hb dX9_bits_152 (by decide) ?_
          refine lv_iand hx hb dX9_bits_153 ?_
          have hq := bd_some h; clear h; obtain ⟨x27, h28, h⟩ := hq
          have K25 : ∀ (H : Heap) (locs : List Loc), va_P (dC, dI) vwCl (mW ad cI s24) H → va_D A (mW ad cI s24) → va_S A s.heap H locs → W p l e (sw_rm 4 87) s m args below meth c H locs 0 0 (MQ below (sw_Qv (dC, dI) vwCl [(cI, .int)] A (mW ad cI zs)) args s 0 0 A) (F0 m 163 ls [.int x27, .int (r23 ||| (16 : Int32)), .int (6 : Int32), .ref (ad 2)]) := by
            intro H locs hP hD hS
            refine lv_ior hx hb dX9_bits_163 ?_
            refine mb_1 X hP hD hS (vin_in (i := (6 : Int32)) (n := 8) (by decide) (by decide)) dX9_bits_164 (fun H locs hP hD hS => ?_)
            refine lv_goto (tgt := 195) hx hb dX9_bits_165 (by decide) ?_
            obtain rfl := Option.some.inj h
            exact sw_vret X hP hD hS dX9_bits_195
          replace h := h28
          clear h28
          refine lv_if_ne (tgt := 162) hx hb dX9_bits_154 (by decide) (fun c26 => ?_) (fun c26 => ?_)
          · replace h := if_no h c26
            refine lv_iconst (v := (0 : Int32)) hx hb dX9_bits_162 (by decide) ?_
            obtain rfl := Option.some.inj h
            exact K25 _ _ hP hD hS
          · replace h := if_yes h c26
            refine lv_bipush (v := (64 : Int32)) hx hb dX9_bits_157 (by decide) ?_
            refine lv_goto (tgt := 163) hx hb dX9_bits_159 (by decide) ?_
            obtain rfl := Option.some.inj h
            exact K25 _ _ hP hD hS
        · replace h := if_no h c21
          by_cases c29 : (p1 >>> ((6 : Int32) &&& 31)) ∈ ([(2 : Int32)] : List Int32)
          · replace h := if_yes h c29
            refine sw_tabK (tgt := 168) (off := 108) hx hb dX9_bits_60 _ c29 (by decide +kernel) (by decide) ?_
            refine lv_aload_n hx hb dX9_bits_168 rfl (lv_at hl 3 rfl) ?_
            refine lv_iload_n hx hb dX9_bits_169 rfl (lv_at hl 2 rfl) ?_
            refine lv_iload hx hb dX9_bits_170 (lv_at hl 0 rfl) ?_
            refine lv_iconst (v := (1 : Int32)) hx hb dX9_bits_172 (by decide) ?_
            refine lv_iload_n hx hb dX9_bits_173 rfl (lv_at hl 1 rfl) ?_
            refine lv_ishl hx hb dX9_bits_174 ?_
            refine lv_iconst (v := (-1 : Int32)) hx hb dX9_bits_175 (by decide) ?_
            refine lv_ixor hx hb dX9_bits_176 ?_
            refine lv_iand hx hb dX9_bits_177 ?_
            have hq := bd_some h; clear h; obtain ⟨s31, h30, h⟩ := hq
            refine sw_vv (rest := []) m_good X (cX9_setOperand_m h30) calX9_setOperand k_933 hP hD hS 0 9 rfl rfl rfl ⟨rfl, rfl⟩ rfl hl.1 rfl (Nat.le_of_ble_eq_true rfl) dX9_bits_178 (fun H locs hP hD hS => ?_)
            refine lv_goto (tgt := 195) hx hb dX9_bits_181 (by decide) ?_
            obtain rfl := Option.some.inj h
            exact sw_vret X hP hD hS dX9_bits_195
          · replace h := if_no h c29
            refine sw_tabD (tgt := 184) hx hb dX9_bits_60 (([(0 : Int32)] : List Int32) ++ (([(1 : Int32)] : List Int32) ++ ([(2 : Int32)] : List Int32))) (fun hm => (List.mem_append.mp hm).elim c11 (fun hm => (List.mem_append.mp hm).elim c21 c29)) (by decide +kernel) (by decide) ?_
            refine lv_aload_n hx hb dX9_bits_184 rfl (lv_at hl 3 rfl) ?_
            refine lv_iload_n hx hb dX9_bits_185 rfl (lv_at hl 2 rfl) ?_
            refine lv_iload hx hb dX9_bits_186 (lv_at hl 0 rfl) ?_
            refine lv_iconst (v := (1 : Int32)) hx hb dX9_bits_188 (by decide) ?_
            refine lv_iload_n hx hb dX9_bits_189 rfl (lv_at hl 1 rfl) ?_
            refine lv_ishl hx hb dX9_bits_190 ?_
            refine lv_ior hx hb dX9_bits_191 ?_
            have hq := bd_some h; clear h; obtain ⟨s33, h32, h⟩ := hq
            refine sw_vv (rest := []) m_good X (cX9_setOperand_m h32) calX9_setOperand k_933 hP hD hS 0 9 rfl rfl rfl ⟨rfl, rfl⟩ rfl hl.1 rfl (Nat.le_of_ble_eq_true rfl) dX9_bits_192 (fun H locs hP hD hS => ?_)
            obtain rfl := Option.some.inj h
            exact sw_vret X hP hD hS dX9_bits_195
    replace h := h10
    clear h10
    refine lv_icmp_ne (tgt := 49) hx hb dX9_bits_37 (by decide) (fun c8 => ?_) (fun c8 => ?_)
    · replace h := if_no h c8
      refine lv_aload_n hx hb dX9_bits_49 rfl (lv_at hl 3 rfl) ?_
      refine mg_0_6 X hP k_763 dX9_bits_50 ?_
      obtain rfl := Option.some.inj h
      exact K7 _ _ hP hD hS
    · replace h := if_yes h c8
      refine lv_aload_n hx hb dX9_bits_40 rfl (lv_at hl 3 rfl) ?_
      refine mg_0_6 X hP k_763 dX9_bits_41 ?_
      refine lv_iconst (v := (1 : Int32)) hx hb dX9_bits_44 (by decide) ?_
      refine lv_iadd hx hb dX9_bits_45 ?_
      refine lv_goto (tgt := 53) hx hb dX9_bits_46 (by decide) ?_
      obtain rfl := Option.some.inj h
      exact K7 _ _ hP hD hS
  · replace h := if_yes h c3
    refine lv_aload_n hx hb dX9_bits_20 rfl (lv_at hl 2 rfl) ?_
    refine lv_iconst (v := (1 : Int32)) hx hb dX9_bits_21 (by decide) ?_
    refine mp_0_10 X hP hD hS k_767 (by decide) dX9_bits_22 (fun H locs hP hD hS => ?_)
    obtain rfl := Option.some.inj h
    exact sw_vret X hP hD hS dX9_bits_25
theorem dX9_exchange_0 : decode cX9_exchange 0 = .ok (.iload_n 1, 1) := by decide +kernel
theorem dX9_exchange_1 : decode cX9_exchange 1 = .ok (.istore_n 3, 1) := by decide +kernel
theorem dX9_exchange_2 : decode cX9_exchange 2 = .ok (.iload_n 3, 1) := by decide +kernel
theorem dX9_exchange_3 : decode cX9_exchange 3 = .ok (.iload_n 2, 1) := by decide +kernel
theorem dX9_exchange_4 : decode cX9_exchange 4 = .ok (.if_icmp .gt 37, 3) := by decide +kernel
theorem dX9_exchange_7 : decode cX9_exchange 7 = .ok (.aload_n 0, 1) := by decide +kernel
theorem dX9_exchange_8 : decode cX9_exchange 8 = .ok (.getfield 13, 3) := by decide +kernel
theorem dX9_exchange_11 : decode cX9_exchange 11 = .ok (.iload_n 3, 1) := by decide +kernel
theorem dX9_exchange_12 : decode cX9_exchange 12 = .ok (.iaload, 1) := by decide +kernel
theorem dX9_exchange_13 : decode cX9_exchange 13 = .ok (.istore 4, 2) := by decide +kernel
theorem dX9_exchange_15 : decode cX9_exchange 15 = .ok (.aload_n 0, 1) := by decide +kernel
theorem dX9_exchange_16 : decode cX9_exchange 16 = .ok (.getfield 13, 3) := by decide +kernel
theorem dX9_exchange_19 : decode cX9_exchange 19 = .ok (.iload_n 3, 1) := by decide +kernel
theorem dX9_exchange_20 : decode cX9_exchange 20 = .ok (.aload_n 0, 1) := by decide +kernel
theorem dX9_exchange_21 : decode cX9_exchange 21 = .ok (.getfield 16, 3) := by decide +kernel
theorem dX9_exchange_24 : decode cX9_exchange 24 = .ok (.iload_n 3, 1) := by decide +kernel
theorem dX9_exchange_25 : decode cX9_exchange 25 = .ok (.iaload, 1) := by decide +kernel
theorem dX9_exchange_26 : decode cX9_exchange 26 = .ok (.iastore, 1) := by decide +kernel
theorem dX9_exchange_27 : decode cX9_exchange 27 = .ok (.aload_n 0, 1) := by decide +kernel
theorem dX9_exchange_28 : decode cX9_exchange 28 = .ok (.getfield 16, 3) := by decide +kernel
theorem dX9_exchange_31 : decode cX9_exchange 31 = .ok (.iload_n 3, 1) := by decide +kernel
theorem dX9_exchange_32 : decode cX9_exchange 32 = .ok (.iload 4, 2) := by decide +kernel
theorem dX9_exchange_34 : decode cX9_exchange 34 = .ok (.iastore, 1) := by decide +kernel
theorem dX9_exchange_35 : decode cX9_exchange 35 = .ok (.iinc 3 1, 3) := by decide +kernel
theorem dX9_exchange_38 : decode cX9_exchange 38 = .ok (.goto (-36), 3) := by decide +kernel
theorem dX9_exchange_41 : decode cX9_exchange 41 = .ok (.return_, 1) := by decide +kernel
def fX9_exchange_L2 : Nat → Int32 → Int32 → Int32 → zS → Option (zS)
  | 0, _, _, _, _ => none
  | n + 1, v1, v2, v3, s0 => if v2 < v3 then (some s0) else (gd (0 ≤ v3 ∧ v3 < 8) <| nm (s0.2 1 (v3.toNatClampNeg)) fun x3 => gd (0 ≤ v3 ∧ v3 < 8) <| gd (0 ≤ v3 ∧ v3 < 8) <| gd (0 ≤ v3 ∧ v3 < 8) <| nm (v3 + (1 : Int32)) fun x7 => fX9_exchange_L2 n v1 v2 x7 (st2 (st2 s0 1 (v3.toNatClampNeg) (s0.2 2 (v3.toNatClampNeg))) 2 (v3.toNatClampNeg) x3))
set_option maxHeartbeats 4000000 in
set_option maxRecDepth 100000 in
theorem cX9_exchange_lp2 {l : Launch} {dC : Nat → ClassId} {dI : Nat → Nat → Nat} {ad : Nat → Nat} {cI : ClassId} {zs : zS} {p : Program} {e : Env} {s : State} {m : MethodId} {args : Array Value} {below : List Frame} {meth : Method} {c : Code} {A : Nat → Prop} (X : sw_X p s m args meth c cX9_exchange 5 RX9 none (sw_ws yX9_exchange cX9_exchange 5 none) (dC, dI) vwCl [(cI, .int)] mF A) : ∀ (n : Nat) {v1 v2 v3 : Int32} {s0 : zS} {H : Heap} {locs : List Loc} {ls : Array Slot}, fX9_exchange_L2 n v1 v2 v3 s0 = some zs → va_P (dC, dI) vwCl (mW ad cI s0) H → va_D A (mW ad cI s0) → va_S A s.heap H locs → lv_has ls 5 [(0, .ref (ad 0)), (1, .int v1), (2, .int v2), (3, .int v3)] → W p l e (sw_rm 0 0) s m args below meth c H locs 0 0 (MQ below (sw_Qv (dC, dI) vwCl [(cI, .int)] A (mW ad cI zs)) args s 0 0 A) (F0 m 2 ls []) := by
  have hx := X.1.1
  have hb := X.1.2.1
  have hown := X.1.2.2.2.1
  have hts := X.1.2.2.2.2
  intro n
  induction n with
  | zero =>
    intro v1 v2 v3 s0 H locs ls h
    rw [fX9_exchange_L2] at h
    exact absurd h (fun h9 => by cases h9)
  | succ n ih =>
    intro v1 v2 v3 s0 H locs ls h hP hD hS hl
    rw [fX9_exchange_L2] at h
    refine lv_iload_n hx hb dX9_exchange_2 rfl (lv_at hl 3 rfl) ?_
    refine lv_iload_n hx hb dX9_exchange_3 rfl (lv_at hl 2 rfl) ?_
    refine lv_icmp_gt (tgt := 41) hx hb dX9_exchange_4 (by decide) (fun c1 => ?_) (fun c1 => ?_)
    · replace h := if_yes h c1
      obtain rfl := Option.some.inj h
      exact sw_vret X hP hD hS dX9_exchange_41
    · replace h := if_no h c1
      refine lv_aload_n hx hb dX9_exchange_7 rfl (lv_at hl 0 rfl) ?_
      refine mg_0_2 X hP k_759 dX9_exchange_8 ?_
      refine lv_iload_n hx hb dX9_exchange_11 rfl (lv_at hl 3 rfl) ?_
      have hq := gd_some h; clear h; obtain ⟨c2, h⟩ := hq
      refine ml_1 X hP (vin_in c2 (by decide)) dX9_exchange_12 ?_
      refine lv_topi (fun x3 ex3 => ?_)
      replace h := nm_use ex3 h
      refine lv_istore (lv' := [(4, .int x3), (0, .ref (ad 0)), (1, .int v1), (2, .int v2), (3, .int v3)]) hx hb dX9_exchange_13 hl (by decide) rfl (fun ls hl => ?_)
      refine lv_aload_n hx hb dX9_exchange_15 rfl (lv_at hl 1 rfl) ?_
      refine mg_0_2 X hP k_759 dX9_exchange_16 ?_
      refine lv_iload_n hx hb dX9_exchange_19 rfl (lv_at hl 4 rfl) ?_
      refine lv_aload_n hx hb dX9_exchange_20 rfl (lv_at hl 1 rfl) ?_
      refine mg_0_3 X hP k_760 dX9_exchange_21 ?_
      refine lv_iload_n hx hb dX9_exchange_24 rfl (lv_at hl 4 rfl) ?_
      have hq := gd_some h; clear h; obtain ⟨c4, h⟩ := hq
      refine ml_2 X hP (vin_in c4 (by decide)) dX9_exchange_25 ?_
      have hq := gd_some h; clear h; obtain ⟨c5, h⟩ := hq
      refine mb_1 X hP hD hS (vin_in c5 (by decide)) dX9_exchange_26 (fun H locs hP hD hS => ?_)
      refine lv_aload_n hx hb dX9_exchange_27 rfl (lv_at hl 1 rfl) ?_
      refine mg_0_3 X hP k_760 dX9_exchange_28 ?_
      refine lv_iload_n hx hb dX9_exchange_31 rfl (lv_at hl 4 rfl) ?_
      refine lv_iload hx hb dX9_exchange_32 (lv_at hl 0 rfl) ?_
      have hq := gd_some h; clear h; obtain ⟨c6, h⟩ := hq
      refine mb_2 X hP hD hS (vin_in c6 (by decide)) dX9_exchange_34 (fun H locs hP hD hS => ?_)
      obtain ⟨x7, ex7⟩ : ∃ y : Int32, y = v3 + (1 : Int32) := ⟨_, rfl⟩
      replace h := nm_use ex7 h
      refine lv_iinc (v := x7) (lv' := [(3, .int x7), (4, .int x3), (0, .ref (ad 0)), (1, .int v1), (2, .int v2)]) hx hb dX9_exchange_35 hl (k := 4) rfl (by rw [ex7]; rfl) (by decide) rfl (fun ls hl => ?_)
      refine lv_goto (tgt := 2) hx hb dX9_exchange_38 (by decide) ?_
      exact ih  h hP hD hS (lv_sub hl [2, 3, 4, 0] rfl)
def fX9_exchange (p1 p2 : Int32) (s0 : zS) : Option (zS) := fX9_exchange_L2 20001 p1 p2 p1 s0
set_option maxHeartbeats 4000000 in
set_option maxRecDepth 100000 in
theorem cX9_exchange_m {l : Launch} {dC : Nat → ClassId} {dI : Nat → Nat → Nat} {ad : Nat → Nat} {cI : ClassId} {p1 p2 : Int32} {s0 : zS} {zs : zS} (h : fX9_exchange p1 p2 s0 = some zs) : sw_Mv l yX9_exchange (sw_ws yX9_exchange cX9_exchange 5 none) (sw_rm 0 0) (dC, dI) vwCl [(cI, .int)] mF [.ref (ad 0), .int p1, .int p2] (mW ad cI s0) (mW ad cI zs) := by
  intro sz
  refine sw_of (cc := cX9_exchange) (maxL := 5) (ret := none) (by decide) rfl (Nat.le_of_ble_eq_true rfl) ?_
  intro p e s m args below meth c A ls hAe hsz X _ hP hD hS hl
  rw [hAe]
  have hx := X.1.1
  have hb := X.1.2.1
  have hown := X.1.2.2.2.1
  have hts := X.1.2.2.2.2
  replace hl : lv_has ls 5 [(0, .ref (ad 0)), (1, .int p1), (2, .int p2)] := hl
  unfold fX9_exchange at h
  refine lv_iload_n hx hb dX9_exchange_0 rfl (lv_at hl 1 rfl) ?_
  refine lv_istore_n (lv' := [(3, .int p1), (0, .ref (ad 0)), (1, .int p1), (2, .int p2)]) hx hb dX9_exchange_1 rfl hl (by decide) rfl (fun ls hl => ?_)
  exact cX9_exchange_lp2 X 20001 h hP hD hS (lv_sub hl [1, 2, 3, 0] rfl)
theorem dX9_jumpRelative_0 : decode cX9_jumpRelative 0 = .ok (.iload_n 1, 1) := by decide +kernel
theorem dX9_jumpRelative_1 : decode cX9_jumpRelative 1 = .ok (.ifCond .ne 4, 3) := by decide +kernel
theorem dX9_jumpRelative_4 : decode cX9_jumpRelative 4 = .ok (.return_, 1) := by decide +kernel
theorem dX9_jumpRelative_5 : decode cX9_jumpRelative 5 = .ok (.iload_n 1, 1) := by decide +kernel
theorem dX9_jumpRelative_6 : decode cX9_jumpRelative 6 = .ok (.iconst 1, 1) := by decide +kernel
theorem dX9_jumpRelative_7 : decode cX9_jumpRelative 7 = .ok (.if_icmp .ne 20, 3) := by decide +kernel
theorem dX9_jumpRelative_10 : decode cX9_jumpRelative 10 = .ok (.aload_n 0, 1) := by decide +kernel
theorem dX9_jumpRelative_11 : decode cX9_jumpRelative 11 = .ok (.bipush 7, 2) := by decide +kernel
theorem dX9_jumpRelative_13 : decode cX9_jumpRelative 13 = .ok (.bipush 7, 2) := by decide +kernel
theorem dX9_jumpRelative_15 : decode cX9_jumpRelative 15 = .ok (.invokevirtual 126, 3) := by decide +kernel
theorem dX9_jumpRelative_18 : decode cX9_jumpRelative 18 = .ok (.aload_n 0, 1) := by decide +kernel
theorem dX9_jumpRelative_19 : decode cX9_jumpRelative 19 = .ok (.bipush 6, 2) := by decide +kernel
theorem dX9_jumpRelative_21 : decode cX9_jumpRelative 21 = .ok (.bipush 6, 2) := by decide +kernel
theorem dX9_jumpRelative_23 : decode cX9_jumpRelative 23 = .ok (.invokevirtual 126, 3) := by decide +kernel
theorem dX9_jumpRelative_26 : decode cX9_jumpRelative 26 = .ok (.return_, 1) := by decide +kernel
theorem dX9_jumpRelative_27 : decode cX9_jumpRelative 27 = .ok (.iload_n 1, 1) := by decide +kernel
theorem dX9_jumpRelative_28 : decode cX9_jumpRelative 28 = .ok (.iconst 3, 1) := by decide +kernel
theorem dX9_jumpRelative_29 : decode cX9_jumpRelative 29 = .ok (.if_icmp .ne 7, 3) := by decide +kernel
theorem dX9_jumpRelative_32 : decode cX9_jumpRelative 32 = .ok (.iconst 1, 1) := by decide +kernel
theorem dX9_jumpRelative_33 : decode cX9_jumpRelative 33 = .ok (.goto 4, 3) := by decide +kernel
theorem dX9_jumpRelative_36 : decode cX9_jumpRelative 36 = .ok (.iconst 0, 1) := by decide +kernel
theorem dX9_jumpRelative_37 : decode cX9_jumpRelative 37 = .ok (.istore_n 2, 1) := by decide +kernel
theorem dX9_jumpRelative_38 : decode cX9_jumpRelative 38 = .ok (.iload_n 1, 1) := by decide +kernel
theorem dX9_jumpRelative_39 : decode cX9_jumpRelative 39 = .ok (.iconst 2, 1) := by decide +kernel
theorem dX9_jumpRelative_40 : decode cX9_jumpRelative 40 = .ok (.if_icmp .ne 49, 3) := by decide +kernel
theorem dX9_jumpRelative_43 : decode cX9_jumpRelative 43 = .ok (.aload_n 0, 1) := by decide +kernel
theorem dX9_jumpRelative_44 : decode cX9_jumpRelative 44 = .ok (.aload_n 0, 1) := by decide +kernel
theorem dX9_jumpRelative_45 : decode cX9_jumpRelative 45 = .ok (.getfield 32, 3) := by decide +kernel
theorem dX9_jumpRelative_48 : decode cX9_jumpRelative 48 = .ok (.iconst 1, 1) := by decide +kernel
theorem dX9_jumpRelative_49 : decode cX9_jumpRelative 49 = .ok (.iadd, 1) := by decide +kernel
theorem dX9_jumpRelative_50 : decode cX9_jumpRelative 50 = .ok (.putfield 32, 3) := by decide +kernel
theorem dX9_jumpRelative_53 : decode cX9_jumpRelative 53 = .ok (.aload_n 0, 1) := by decide +kernel
theorem dX9_jumpRelative_54 : decode cX9_jumpRelative 54 = .ok (.getfield 13, 3) := by decide +kernel
theorem dX9_jumpRelative_57 : decode cX9_jumpRelative 57 = .ok (.iconst 0, 1) := by decide +kernel
theorem dX9_jumpRelative_58 : decode cX9_jumpRelative 58 = .ok (.aload_n 0, 1) := by decide +kernel
theorem dX9_jumpRelative_59 : decode cX9_jumpRelative 59 = .ok (.getfield 13, 3) := by decide +kernel
theorem dX9_jumpRelative_62 : decode cX9_jumpRelative 62 = .ok (.iconst 0, 1) := by decide +kernel
theorem dX9_jumpRelative_63 : decode cX9_jumpRelative 63 = .ok (.iaload, 1) := by decide +kernel
theorem dX9_jumpRelative_64 : decode cX9_jumpRelative 64 = .ok (.iconst 1, 1) := by decide +kernel
theorem dX9_jumpRelative_65 : decode cX9_jumpRelative 65 = .ok (.isub, 1) := by decide +kernel
theorem dX9_jumpRelative_66 : decode cX9_jumpRelative 66 = .ok (.sipush 255, 3) := by decide +kernel
theorem dX9_jumpRelative_69 : decode cX9_jumpRelative 69 = .ok (.iand, 1) := by decide +kernel
theorem dX9_jumpRelative_70 : decode cX9_jumpRelative 70 = .ok (.iastore, 1) := by decide +kernel
theorem dX9_jumpRelative_71 : decode cX9_jumpRelative 71 = .ok (.aload_n 0, 1) := by decide +kernel
theorem dX9_jumpRelative_72 : decode cX9_jumpRelative 72 = .ok (.getfield 13, 3) := by decide +kernel
theorem dX9_jumpRelative_75 : decode cX9_jumpRelative 75 = .ok (.iconst 0, 1) := by decide +kernel
theorem dX9_jumpRelative_76 : decode cX9_jumpRelative 76 = .ok (.iaload, 1) := by decide +kernel
theorem dX9_jumpRelative_77 : decode cX9_jumpRelative 77 = .ok (.ifCond .eq 7, 3) := by decide +kernel
theorem dX9_jumpRelative_80 : decode cX9_jumpRelative 80 = .ok (.iconst 1, 1) := by decide +kernel
theorem dX9_jumpRelative_81 : decode cX9_jumpRelative 81 = .ok (.goto 4, 3) := by decide +kernel
theorem dX9_jumpRelative_84 : decode cX9_jumpRelative 84 = .ok (.iconst 0, 1) := by decide +kernel
theorem dX9_jumpRelative_85 : decode cX9_jumpRelative 85 = .ok (.istore_n 2, 1) := by decide +kernel
theorem dX9_jumpRelative_86 : decode cX9_jumpRelative 86 = .ok (.goto 16, 3) := by decide +kernel
theorem dX9_jumpRelative_89 : decode cX9_jumpRelative 89 = .ok (.iload_n 1, 1) := by decide +kernel
theorem dX9_jumpRelative_90 : decode cX9_jumpRelative 90 = .ok (.iconst 3, 1) := by decide +kernel
theorem dX9_jumpRelative_91 : decode cX9_jumpRelative 91 = .ok (.if_icmp .le 11, 3) := by decide +kernel
theorem dX9_jumpRelative_94 : decode cX9_jumpRelative 94 = .ok (.aload_n 0, 1) := by decide +kernel
theorem dX9_jumpRelative_95 : decode cX9_jumpRelative 95 = .ok (.iload_n 1, 1) := by decide +kernel
theorem dX9_jumpRelative_96 : decode cX9_jumpRelative 96 = .ok (.iconst 4, 1) := by decide +kernel
theorem dX9_jumpRelative_97 : decode cX9_jumpRelative 97 = .ok (.isub, 1) := by decide +kernel
theorem dX9_jumpRelative_98 : decode cX9_jumpRelative 98 = .ok (.invokevirtual 129, 3) := by decide +kernel
theorem dX9_jumpRelative_101 : decode cX9_jumpRelative 101 = .ok (.istore_n 2, 1) := by decide +kernel
theorem dX9_jumpRelative_102 : decode cX9_jumpRelative 102 = .ok (.aload_n 0, 1) := by decide +kernel
theorem dX9_jumpRelative_103 : decode cX9_jumpRelative 103 = .ok (.invokevirtual 54, 3) := by decide +kernel
theorem dX9_jumpRelative_106 : decode cX9_jumpRelative 106 = .ok (.i2b, 1) := by decide +kernel
theorem dX9_jumpRelative_107 : decode cX9_jumpRelative 107 = .ok (.istore_n 3, 1) := by decide +kernel
theorem dX9_jumpRelative_108 : decode cX9_jumpRelative 108 = .ok (.iload_n 2, 1) := by decide +kernel
theorem dX9_jumpRelative_109 : decode cX9_jumpRelative 109 = .ok (.ifCond .eq 26, 3) := by decide +kernel
theorem dX9_jumpRelative_112 : decode cX9_jumpRelative 112 = .ok (.aload_n 0, 1) := by decide +kernel
theorem dX9_jumpRelative_113 : decode cX9_jumpRelative 113 = .ok (.aload_n 0, 1) := by decide +kernel
theorem dX9_jumpRelative_114 : decode cX9_jumpRelative 114 = .ok (.getfield 32, 3) := by decide +kernel
theorem dX9_jumpRelative_117 : decode cX9_jumpRelative 117 = .ok (.iconst 5, 1) := by decide +kernel
theorem dX9_jumpRelative_118 : decode cX9_jumpRelative 118 = .ok (.iadd, 1) := by decide +kernel
theorem dX9_jumpRelative_119 : decode cX9_jumpRelative 119 = .ok (.putfield 32, 3) := by decide +kernel
theorem dX9_jumpRelative_122 : decode cX9_jumpRelative 122 = .ok (.aload_n 0, 1) := by decide +kernel
theorem dX9_jumpRelative_123 : decode cX9_jumpRelative 123 = .ok (.aload_n 0, 1) := by decide +kernel
theorem dX9_jumpRelative_124 : decode cX9_jumpRelative 124 = .ok (.getfield 46, 3) := by decide +kernel
theorem dX9_jumpRelative_127 : decode cX9_jumpRelative 127 = .ok (.iload_n 3, 1) := by decide +kernel
theorem dX9_jumpRelative_128 : decode cX9_jumpRelative 128 = .ok (.iadd, 1) := by decide +kernel
theorem dX9_jumpRelative_129 : decode cX9_jumpRelative 129 = .ok (.ldc 49, 2) := by decide +kernel
theorem dX9_jumpRelative_131 : decode cX9_jumpRelative 131 = .ok (.iand, 1) := by decide +kernel
theorem dX9_jumpRelative_132 : decode cX9_jumpRelative 132 = .ok (.putfield 46, 3) := by decide +kernel
theorem dX9_jumpRelative_135 : decode cX9_jumpRelative 135 = .ok (.return_, 1) := by decide +kernel
def fX9_jumpRelative (p1 : Int32) (s0 : zS) : Option (zS) := if p1 = (0 : Int32) then (some s0) else (if p1 = (1 : Int32) then (bd (fX9_exchange (7 : Int32) (7 : Int32) s0) fun s32 => bd (fX9_exchange (6 : Int32) (6 : Int32) s32) fun s34 => some s34) else (bd (if p1 = (3 : Int32) then (some (1 : Int32)) else (some (0 : Int32))) fun x5 => if p1 = (2 : Int32) then (bd (if ((st2 (st1 s0 3 ((s0.1 3) + (1 : Int32))) 1 ((0 : Int32).toNatClampNeg) ((((st1 s0 3 ((s0.1 3) + (1 : Int32))).2 1 ((0 : Int32).toNatClampNeg)) - (1 : Int32)) &&& (255 : Int32))).2 1 ((0 : Int32).toNatClampNeg)) = (0 : Int32) then (some (0 : Int32)) else (some (1 : Int32))) fun x24 => bd2 (fX9_next  (st2 (st1 s0 3 ((s0.1 3) + (1 : Int32))) 1 ((0 : Int32).toNatClampNeg) ((((st1 s0 3 ((s0.1 3) + (1 : Int32))).2 1 ((0 : Int32).toNatClampNeg)) - (1 : Int32)) &&& (255 : Int32)))) fun r27 s28 => nm (r27.toInt8.toInt32) fun x29 => if x24 = (0 : Int32) then (some s28) else (some (st1 (st1 s28 3 ((s28.1 3) + (5 : Int32))) 2 ((((st1 s28 3 ((s28.1 3) + (5 : Int32))).1 2) + x29) &&& (65535 : Int32))))) else (if p1 ≤ (3 : Int32) then (bd2 (fX9_next  s0) fun r10 s11 => nm (r10.toInt8.toInt32) fun x12 => if x5 = (0 : Int32) then (some s11) else (some (st1 (st1 s11 3 ((s11.1 3) + (5 : Int32))) 2 ((((st1 s11 3 ((s11.1 3) + (5 : Int32))).1 2) + x12) &&& (65535 : Int32))))) else (bd2 (fX9_holds (p1 - (4 : Int32)) s0) fun r15 s16 => bd2 (fX9_next  s16) fun r18 s19 => nm (r18.toInt8.toInt32) fun x20 => if r15 = (0 : Int32) then (some s19) else (some (st1 (st1 s19 3 ((s19.1 3) + (5 : Int32))) 2 ((((st1 s19 3 ((s19.1 3) + (5 : Int32))).1 2) + x20) &&& (65535 : Int32))))))))
set_option maxHeartbeats 4000000 in
set_option maxRecDepth 100000 in
theorem cX9_jumpRelative_m {l : Launch} {dC : Nat → ClassId} {dI : Nat → Nat → Nat} {ad : Nat → Nat} {cI : ClassId} {p1 : Int32} {s0 : zS} {zs : zS} (h : fX9_jumpRelative p1 s0 = some zs) : sw_Mv l yX9_jumpRelative (sw_ws yX9_jumpRelative cX9_jumpRelative 4 none) (sw_rm 4 85) (dC, dI) vwCl [(cI, .int)] mF [.ref (ad 0), .int p1] (mW ad cI s0) (mW ad cI zs) := by
  intro sz
  refine sw_of (cc := cX9_jumpRelative) (maxL := 4) (ret := none) (by decide) rfl (Nat.le_of_ble_eq_true rfl) ?_
  intro p e s m args below meth c A ls hAe hsz X _ hP hD hS hl
  rw [hAe]
  have hx := X.1.1
  have hb := X.1.2.1
  have hown := X.1.2.2.2.1
  have hts := X.1.2.2.2.2
  replace hl : lv_has ls 4 [(0, .ref (ad 0)), (1, .int p1)] := hl
  unfold fX9_jumpRelative at h
  refine lv_iload_n hx hb dX9_jumpRelative_0 rfl (lv_at hl 1 rfl) ?_
  refine lv_if_ne (tgt := 5) hx hb dX9_jumpRelative_1 (by decide) (fun c1 => ?_) (fun c1 => ?_)
  · replace h := if_no h c1
    refine lv_iload_n hx hb dX9_jumpRelative_5 rfl (lv_at hl 1 rfl) ?_
    refine lv_iconst (v := (1 : Int32)) hx hb dX9_jumpRelative_6 (by decide) ?_
    refine lv_icmp_ne (tgt := 27) hx hb dX9_jumpRelative_7 (by decide) (fun c2 => ?_) (fun c2 => ?_)
    · replace h := if_no h c2
      refine lv_iload_n hx hb dX9_jumpRelative_27 rfl (lv_at hl 1 rfl) ?_
      refine lv_iconst (v := (3 : Int32)) hx hb dX9_jumpRelative_28 (by decide) ?_
      have hq := bd_some h; clear h; obtain ⟨x5, h6, h⟩ := hq
      have K3 : ∀ (H : Heap) (locs : List Loc), va_P (dC, dI) vwCl (mW ad cI s0) H → va_D A (mW ad cI s0) → va_S A s.heap H locs → W p l e (sw_rm 4 85) s m args below meth c H locs 0 0 (MQ below (sw_Qv (dC, dI) vwCl [(cI, .int)] A (mW ad cI zs)) args s 0 0 A) (F0 m 37 ls [.int x5]) := by
        intro H locs hP hD hS
        refine lv_istore_n (lv' := [(2, .int x5), (0, .ref (ad 0)), (1, .int p1)]) hx hb dX9_jumpRelative_37 rfl hl (by decide) rfl (fun ls hl => ?_)
        refine lv_iload_n hx hb dX9_jumpRelative_38 rfl (lv_at hl 2 rfl) ?_
        refine lv_iconst (v := (2 : Int32)) hx hb dX9_jumpRelative_39 (by decide) ?_
        refine lv_icmp_ne (tgt := 89) hx hb dX9_jumpRelative_40 (by decide) (fun c7 => ?_) (fun c7 => ?_)
        · replace h := if_no h c7
          refine lv_iload_n hx hb dX9_jumpRelative_89 rfl (lv_at hl 2 rfl) ?_
          refine lv_iconst (v := (3 : Int32)) hx hb dX9_jumpRelative_90 (by decide) ?_
          refine lv_icmp_le (tgt := 102) hx hb dX9_jumpRelative_91 (by decide) (fun c8 => ?_) (fun c8 => ?_)
          · replace h := if_yes h c8
            refine lv_aload_n hx hb dX9_jumpRelative_102 rfl (lv_at hl 1 rfl) ?_
            have hq := bd2_some h; clear h; obtain ⟨r10, s11, h9, h⟩ := hq
            refine sw_vi (rest := []) m_good X (cX9_next_m h9) calX9_next k_878 hP hD hS 0 9 rfl rfl rfl ⟨rfl, rfl⟩ rfl hl.1 rfl (Nat.le_of_ble_eq_true rfl) dX9_jumpRelative_103 (fun H locs hP hD hS => ?_)
            refine lv_i2b (v := r10.toInt8.toInt32) hx hb dX9_jumpRelative_106 rfl ?_
            refine lv_topi (fun x12 ex12 => ?_)
            replace h := nm_use ex12 h
            refine lv_istore_n (lv' := [(3, .int x12), (2, .int x5), (0, .ref (ad 0)), (1, .int p1)]) hx hb dX9_jumpRelative_107 rfl hl (by decide) rfl (fun ls hl => ?_)
            refine lv_iload_n hx hb dX9_jumpRelative_108 rfl (lv_at hl 1 rfl) ?_
            refine lv_if_eq (tgt := 135) hx hb dX9_jumpRelative_109 (by decide) (fun c13 => ?_) (fun c13 => ?_)
            · replace h := if_yes h c13
              obtain rfl := Option.some.inj h
              exact sw_vret X hP hD hS dX9_jumpRelative_135
            · replace h := if_no h c13
              refine lv_aload_n hx hb dX9_jumpRelative_112 rfl (lv_at hl 2 rfl) ?_
              refine lv_aload_n hx hb dX9_jumpRelative_113 rfl (lv_at hl 2 rfl) ?_
              refine mg_0_6 X hP k_763 dX9_jumpRelative_114 ?_
              refine lv_iconst (v := (5 : Int32)) hx hb dX9_jumpRelative_117 (by decide) ?_
              refine lv_iadd hx hb dX9_jumpRelative_118 ?_
              refine mp_0_6 X hP hD hS k_763 dX9_jumpRelative_119 (fun H locs hP hD hS => ?_)
              refine lv_aload_n hx hb dX9_jumpRelative_122 rfl (lv_at hl 2 rfl) ?_
              refine lv_aload_n hx hb dX9_jumpRelative_123 rfl (lv_at hl 2 rfl) ?_
              refine mg_0_5 X hP k_762 dX9_jumpRelative_124 ?_
              refine lv_iload_n hx hb dX9_jumpRelative_127 rfl (lv_at hl 0 rfl) ?_
              refine lv_iadd hx hb dX9_jumpRelative_128 ?_
              refine lv_ldc (v := 65535) hx hb hown (hts _ (List.mem_cons_of_mem _ k_841)) dX9_jumpRelative_129 ?_
              refine lv_iand hx hb dX9_jumpRelative_131 ?_
              refine mp_0_5 X hP hD hS k_762 dX9_jumpRelative_132 (fun H locs hP hD hS => ?_)
              obtain rfl := Option.some.inj h
              exact sw_vret X hP hD hS dX9_jumpRelative_135
          · replace h := if_no h c8
            refine lv_aload_n hx hb dX9_jumpRelative_94 rfl (lv_at hl 1 rfl) ?_
            refine lv_iload_n hx hb dX9_jumpRelative_95 rfl (lv_at hl 2 rfl) ?_
            refine lv_iconst (v := (4 : Int32)) hx hb dX9_jumpRelative_96 (by decide) ?_
            refine lv_isub hx hb dX9_jumpRelative_97 ?_
            have hq := bd2_some h; clear h; obtain ⟨r15, s16, h14, h⟩ := hq
            refine sw_vi (rest := []) m_good X (cX9_holds_m h14) calX9_holds k_874 hP hD hS 0 9 rfl rfl rfl ⟨rfl, rfl⟩ rfl hl.1 rfl (Nat.le_of_ble_eq_true rfl) dX9_jumpRelative_98 (fun H locs hP hD hS => ?_)
            refine lv_istore_n (lv' := [(2, .int r15), (0, .ref (ad 0)), (1, .int p1)]) hx hb dX9_jumpRelative_101 rfl hl (by decide) rfl (fun ls hl => ?_)
            refine lv_aload_n hx hb dX9_jumpRelative_102 rfl (lv_at hl 1 rfl) ?_
            have hq := bd2_some h; clear h; obtain ⟨r18, s19, h17, h⟩ := hq
            refine sw_vi (rest := []) m_good X (cX9_next_m h17) calX9_next k_878 hP hD hS 0 9 rfl rfl rfl ⟨rfl, rfl⟩ rfl hl.1 rfl (Nat.le_of_ble_eq_true rfl) dX9_jumpRelative_103 (fun H locs hP hD hS => ?_)
            refine lv_i2b (v := r18.toInt8.toInt32) hx hb dX9_jumpRelative_106 rfl ?_
            refine lv_topi (fun x20 ex20 => ?_)
            replace h := nm_use ex20 h
            refine lv_istore_n (lv' := [(3, .int x20), (2, .int r15), (0, .ref (ad 0)), (1, .int p1)]) hx hb dX9_jumpRelative_107 rfl hl (by decide) rfl (fun ls hl => ?_)
            refine lv_iload_n hx hb dX9_jumpRelative_108 rfl (lv_at hl 1 rfl) ?_
            refine lv_if_eq (tgt := 135) hx hb dX9_jumpRelative_109 (by decide) (fun c21 => ?_) (fun c21 => ?_)
            · replace h := if_yes h c21
              obtain rfl := Option.some.inj h
              exact sw_vret X hP hD hS dX9_jumpRelative_135
            · replace h := if_no h c21
              refine lv_aload_n hx hb dX9_jumpRelative_112 rfl (lv_at hl 2 rfl) ?_
              refine lv_aload_n hx hb dX9_jumpRelative_113 rfl (lv_at hl 2 rfl) ?_
              refine mg_0_6 X hP k_763 dX9_jumpRelative_114 ?_
              refine lv_iconst (v := (5 : Int32)) hx hb dX9_jumpRelative_117 (by decide) ?_
              refine lv_iadd hx hb dX9_jumpRelative_118 ?_
              refine mp_0_6 X hP hD hS k_763 dX9_jumpRelative_119 (fun H locs hP hD hS => ?_)
              refine lv_aload_n hx hb dX9_jumpRelative_122 rfl (lv_at hl 2 rfl) ?_
              refine lv_aload_n hx hb dX9_jumpRelative_123 rfl (lv_at hl 2 rfl) ?_
              refine mg_0_5 X hP k_762 dX9_jumpRelative_124 ?_
              refine lv_iload_n hx hb dX9_jumpRelative_127 rfl (lv_at hl 0 rfl) ?_
              refine lv_iadd hx hb dX9_jumpRelative_128 ?_
              refine lv_ldc (v := 65535) hx hb hown (hts _ (List.mem_cons_of_mem _ k_841)) dX9_jumpRelative_129 ?_
              refine lv_iand hx hb dX9_jumpRelative_131 ?_
              refine mp_0_5 X hP hD hS k_762 dX9_jumpRelative_132 (fun H locs hP hD hS => ?_)
              obtain rfl := Option.some.inj h
              exact sw_vret X hP hD hS dX9_jumpRelative_135
        · replace h := if_yes h c7
          refine lv_aload_n hx hb dX9_jumpRelative_43 rfl (lv_at hl 1 rfl) ?_
          refine lv_aload_n hx hb dX9_jumpRelative_44 rfl (lv_at hl 1 rfl) ?_
          refine mg_0_6 X hP k_763 dX9_jumpRelative_45 ?_
          refine lv_iconst (v := (1 : Int32)) hx hb dX9_jumpRelative_48 (by decide) ?_
          refine lv_iadd hx hb dX9_jumpRelative_49 ?_
          refine mp_0_6 X hP hD hS k_763 dX9_jumpRelative_50 (fun H locs hP hD hS => ?_)
          refine lv_aload_n hx hb dX9_jumpRelative_53 rfl (lv_at hl 1 rfl) ?_
          refine mg_0_2 X hP k_759 dX9_jumpRelative_54 ?_
          refine lv_iconst (v := (0 : Int32)) hx hb dX9_jumpRelative_57 (by decide) ?_
          refine lv_aload_n hx hb dX9_jumpRelative_58 rfl (lv_at hl 1 rfl) ?_
          refine mg_0_2 X hP k_759 dX9_jumpRelative_59 ?_
          refine lv_iconst (v := (0 : Int32)) hx hb dX9_jumpRelative_62 (by decide) ?_
          refine ml_1 X hP (vin_in (i := (0 : Int32)) (n := 8) (by decide) (by decide)) dX9_jumpRelative_63 ?_
          refine lv_iconst (v := (1 : Int32)) hx hb dX9_jumpRelative_64 (by decide) ?_
          refine lv_isub hx hb dX9_jumpRelative_65 ?_
          refine lv_sipush (v := (255 : Int32)) hx hb dX9_jumpRelative_66 (by decide) ?_
          refine lv_iand hx hb dX9_jumpRelative_69 ?_
          refine mb_1 X hP hD hS (vin_in (i := (0 : Int32)) (n := 8) (by decide) (by decide)) dX9_jumpRelative_70 (fun H locs hP hD hS => ?_)
          refine lv_aload_n hx hb dX9_jumpRelative_71 rfl (lv_at hl 1 rfl) ?_
          refine mg_0_2 X hP k_759 dX9_jumpRelative_72 ?_
          refine lv_iconst (v := (0 : Int32)) hx hb dX9_jumpRelative_75 (by decide) ?_
          refine ml_1 X hP (vin_in (i := (0 : Int32)) (n := 8) (by decide) (by decide)) dX9_jumpRelative_76 ?_
          have hq := bd_some h; clear h; obtain ⟨x24, h25, h⟩ := hq
          have K22 : ∀ (H : Heap) (locs : List Loc), va_P (dC, dI) vwCl (mW ad cI (st2 (st1 s0 3 ((s0.1 3) + (1 : Int32))) 1 ((0 : Int32).toNatClampNeg) ((((st1 s0 3 ((s0.1 3) + (1 : Int32))).2 1 ((0 : Int32).toNatClampNeg)) - (1 : Int32)) &&& (255 : Int32)))) H → va_D A (mW ad cI (st2 (st1 s0 3 ((s0.1 3) + (1 : Int32))) 1 ((0 : Int32).toNatClampNeg) ((((st1 s0 3 ((s0.1 3) + (1 : Int32))).2 1 ((0 : Int32).toNatClampNeg)) - (1 : Int32)) &&& (255 : Int32)))) → va_S A s.heap H locs → W p l e (sw_rm 4 85) s m args below meth c H locs 0 0 (MQ below (sw_Qv (dC, dI) vwCl [(cI, .int)] A (mW ad cI zs)) args s 0 0 A) (F0 m 85 ls [.int x24]) := by
            intro H locs hP hD hS
            refine lv_istore_n (lv' := [(2, .int x24), (0, .ref (ad 0)), (1, .int p1)]) hx hb dX9_jumpRelative_85 rfl hl (by decide) rfl (fun ls hl => ?_)
            refine lv_goto (tgt := 102) hx hb dX9_jumpRelative_86 (by decide) ?_
            refine lv_aload_n hx hb dX9_jumpRelative_102 rfl (lv_at hl 1 rfl) ?_
            have hq := bd2_some h; clear h; obtain ⟨r27, s28, h26, h⟩ := hq
            refine sw_vi (rest := []) m_good X (cX9_next_m h26) calX9_next k_878 hP hD hS 0 9 rfl rfl rfl ⟨rfl, rfl⟩ rfl hl.1 rfl (Nat.le_of_ble_eq_true rfl) dX9_jumpRelative_103 (fun H locs hP hD hS => ?_)
            refine lv_i2b (v := r27.toInt8.toInt32) hx hb dX9_jumpRelative_106 rfl ?_
            refine lv_topi (fun x29 ex29 => ?_)
            replace h := nm_use ex29 h
            refine lv_istore_n (lv' := [(3, .int x29), (2, .int x24), (0, .ref (ad 0)), (1, .int p1)]) hx hb dX9_jumpRelative_107 rfl hl (by decide) rfl (fun ls hl => ?_)
            refine lv_iload_n hx hb dX9_jumpRelative_108 rfl (lv_at hl 1 rfl) ?_
            refine lv_if_eq (tgt := 135) hx hb dX9_jumpRelative_109 (by decide) (fun c30 => ?_) (fun c30 => ?_)
            · replace h := if_yes h c30
              obtain rfl := Option.some.inj h
              exact sw_vret X hP hD hS dX9_jumpRelative_135
            · replace h := if_no h c30
              refine lv_aload_n hx hb dX9_jumpRelative_112 rfl (lv_at hl 2 rfl) ?_
              refine lv_aload_n hx hb dX9_jumpRelative_113 rfl (lv_at hl 2 rfl) ?_
              refine mg_0_6 X hP k_763 dX9_jumpRelative_114 ?_
              refine lv_iconst (v := (5 : Int32)) hx hb dX9_jumpRelative_117 (by decide) ?_
              refine lv_iadd hx hb dX9_jumpRelative_118 ?_
              refine mp_0_6 X hP hD hS k_763 dX9_jumpRelative_119 (fun H locs hP hD hS => ?_)
              refine lv_aload_n hx hb dX9_jumpRelative_122 rfl (lv_at hl 2 rfl) ?_
              refine lv_aload_n hx hb dX9_jumpRelative_123 rfl (lv_at hl 2 rfl) ?_
              refine mg_0_5 X hP k_762 dX9_jumpRelative_124 ?_
              refine lv_iload_n hx hb dX9_jumpRelative_127 rfl (lv_at hl 0 rfl) ?_
              refine lv_iadd hx hb dX9_jumpRelative_128 ?_
              refine lv_ldc (v := 65535) hx hb hown (hts _ (List.mem_cons_of_mem _ k_841)) dX9_jumpRelative_129 ?_
              refine lv_iand hx hb dX9_jumpRelative_131 ?_
              refine mp_0_5 X hP hD hS k_762 dX9_jumpRelative_132 (fun H locs hP hD hS => ?_)
              obtain rfl := Option.some.inj h
              exact sw_vret X hP hD hS dX9_jumpRelative_135
          replace h := h25
          clear h25
          refine lv_if_eq (tgt := 84) hx hb dX9_jumpRelative_77 (by decide) (fun c23 => ?_) (fun c23 => ?_)
          · replace h := if_yes h c23
            refine lv_iconst (v := (0 : Int32)) hx hb dX9_jumpRelative_84 (by decide) ?_
            obtain rfl := Option.some.inj h
            exact K22 _ _ hP hD hS
          · replace h := if_no h c23
            refine lv_iconst (v := (1 : Int32)) hx hb dX9_jumpRelative_80 (by decide) ?_
            refine lv_goto (tgt := 85) hx hb dX9_jumpRelative_81 (by decide) ?_
            obtain rfl := Option.some.inj h
            exact K22 _ _ hP hD hS
      replace h := h6
      clear h6
      refine lv_icmp_ne (tgt := 36) hx hb dX9_jumpRelative_29 (by decide) (fun c4 => ?_) (fun c4 => ?_)
      · replace h := if_no h c4
        refine lv_iconst (v := (0 : Int32)) hx hb dX9_jumpRelative_36 (by decide) ?_
        obtain rfl := Option.some.inj h
        exact K3 _ _ hP hD hS
      · replace h := if_yes h c4
        refine lv_iconst (v := (1 : Int32)) hx hb dX9_jumpRelative_32 (by decide) ?_
        refine lv_goto (tgt := 37) hx hb dX9_jumpRelative_33 (by decide) ?_
        obtain rfl := Option.some.inj h
        exact K3 _ _ hP hD hS
    · replace h := if_yes h c2
      refine lv_aload_n hx hb dX9_jumpRelative_10 rfl (lv_at hl 0 rfl) ?_
      refine lv_bipush (v := (7 : Int32)) hx hb dX9_jumpRelative_11 (by decide) ?_
      refine lv_bipush (v := (7 : Int32)) hx hb dX9_jumpRelative_13 (by decide) ?_
      have hq := bd_some h; clear h; obtain ⟨s32, h31, h⟩ := hq
      refine sw_vv (rest := []) m_good X (cX9_exchange_m h31) calX9_exchange k_870 hP hD hS 0 9 rfl rfl rfl ⟨rfl, rfl⟩ rfl hl.1 rfl (Nat.le_of_ble_eq_true rfl) dX9_jumpRelative_15 (fun H locs hP hD hS => ?_)
      refine lv_aload_n hx hb dX9_jumpRelative_18 rfl (lv_at hl 0 rfl) ?_
      refine lv_bipush (v := (6 : Int32)) hx hb dX9_jumpRelative_19 (by decide) ?_
      refine lv_bipush (v := (6 : Int32)) hx hb dX9_jumpRelative_21 (by decide) ?_
      have hq := bd_some h; clear h; obtain ⟨s34, h33, h⟩ := hq
      refine sw_vv (rest := []) m_good X (cX9_exchange_m h33) calX9_exchange k_870 hP hD hS 0 9 rfl rfl rfl ⟨rfl, rfl⟩ rfl hl.1 rfl (Nat.le_of_ble_eq_true rfl) dX9_jumpRelative_23 (fun H locs hP hD hS => ?_)
      obtain rfl := Option.some.inj h
      exact sw_vret X hP hD hS dX9_jumpRelative_26
  · replace h := if_yes h c1
    obtain rfl := Option.some.inj h
    exact sw_vret X hP hD hS dX9_jumpRelative_4
theorem dX9_loads_0 : decode cX9_loads 0 = .ok (.iload_n 1, 1) := by decide +kernel
theorem dX9_loads_1 : decode cX9_loads 1 = .ok (.iconst 4, 1) := by decide +kernel
theorem dX9_loads_2 : decode cX9_loads 2 = .ok (.if_icmp .ge 45, 3) := by decide +kernel
theorem dX9_loads_5 : decode cX9_loads 5 = .ok (.aload_n 0, 1) := by decide +kernel
theorem dX9_loads_6 : decode cX9_loads 6 = .ok (.iload_n 1, 1) := by decide +kernel
theorem dX9_loads_7 : decode cX9_loads 7 = .ok (.iconst 2, 1) := by decide +kernel
theorem dX9_loads_8 : decode cX9_loads 8 = .ok (.idiv, 1) := by decide +kernel
theorem dX9_loads_9 : decode cX9_loads 9 = .ok (.invokevirtual 68, 3) := by decide +kernel
theorem dX9_loads_12 : decode cX9_loads 12 = .ok (.istore_n 2, 1) := by decide +kernel
theorem dX9_loads_13 : decode cX9_loads 13 = .ok (.iload_n 1, 1) := by decide +kernel
theorem dX9_loads_14 : decode cX9_loads 14 = .ok (.iconst 2, 1) := by decide +kernel
theorem dX9_loads_15 : decode cX9_loads 15 = .ok (.irem, 1) := by decide +kernel
theorem dX9_loads_16 : decode cX9_loads 16 = .ok (.ifCond .ne 18, 3) := by decide +kernel
theorem dX9_loads_19 : decode cX9_loads 19 = .ok (.aload_n 0, 1) := by decide +kernel
theorem dX9_loads_20 : decode cX9_loads 20 = .ok (.iload_n 2, 1) := by decide +kernel
theorem dX9_loads_21 : decode cX9_loads 21 = .ok (.aload_n 0, 1) := by decide +kernel
theorem dX9_loads_22 : decode cX9_loads 22 = .ok (.getfield 13, 3) := by decide +kernel
theorem dX9_loads_25 : decode cX9_loads 25 = .ok (.bipush 7, 2) := by decide +kernel
theorem dX9_loads_27 : decode cX9_loads 27 = .ok (.iaload, 1) := by decide +kernel
theorem dX9_loads_28 : decode cX9_loads 28 = .ok (.invokevirtual 61, 3) := by decide +kernel
theorem dX9_loads_31 : decode cX9_loads 31 = .ok (.goto 15, 3) := by decide +kernel
theorem dX9_loads_34 : decode cX9_loads 34 = .ok (.aload_n 0, 1) := by decide +kernel
theorem dX9_loads_35 : decode cX9_loads 35 = .ok (.getfield 13, 3) := by decide +kernel
theorem dX9_loads_38 : decode cX9_loads 38 = .ok (.bipush 7, 2) := by decide +kernel
theorem dX9_loads_40 : decode cX9_loads 40 = .ok (.aload_n 0, 1) := by decide +kernel
theorem dX9_loads_41 : decode cX9_loads 41 = .ok (.iload_n 2, 1) := by decide +kernel
theorem dX9_loads_42 : decode cX9_loads 42 = .ok (.invokevirtual 50, 3) := by decide +kernel
theorem dX9_loads_45 : decode cX9_loads 45 = .ok (.iastore, 1) := by decide +kernel
theorem dX9_loads_46 : decode cX9_loads 46 = .ok (.return_, 1) := by decide +kernel
theorem dX9_loads_47 : decode cX9_loads 47 = .ok (.aload_n 0, 1) := by decide +kernel
theorem dX9_loads_48 : decode cX9_loads 48 = .ok (.invokevirtual 110, 3) := by decide +kernel
theorem dX9_loads_51 : decode cX9_loads 51 = .ok (.istore_n 2, 1) := by decide +kernel
theorem dX9_loads_52 : decode cX9_loads 52 = .ok (.iload_n 1, 1) := by decide +kernel
theorem dX9_loads_53 : decode cX9_loads 53 = .ok (.tableswitch 96 4 6 #[27, 54, 81], 27) := by decide +kernel
theorem dX9_loads_80 : decode cX9_loads 80 = .ok (.aload_n 0, 1) := by decide +kernel
theorem dX9_loads_81 : decode cX9_loads 81 = .ok (.iload_n 2, 1) := by decide +kernel
theorem dX9_loads_82 : decode cX9_loads 82 = .ok (.aload_n 0, 1) := by decide +kernel
theorem dX9_loads_83 : decode cX9_loads 83 = .ok (.getfield 13, 3) := by decide +kernel
theorem dX9_loads_86 : decode cX9_loads 86 = .ok (.iconst 5, 1) := by decide +kernel
theorem dX9_loads_87 : decode cX9_loads 87 = .ok (.iaload, 1) := by decide +kernel
theorem dX9_loads_88 : decode cX9_loads 88 = .ok (.invokevirtual 61, 3) := by decide +kernel
theorem dX9_loads_91 : decode cX9_loads 91 = .ok (.aload_n 0, 1) := by decide +kernel
theorem dX9_loads_92 : decode cX9_loads 92 = .ok (.iload_n 2, 1) := by decide +kernel
theorem dX9_loads_93 : decode cX9_loads 93 = .ok (.iconst 1, 1) := by decide +kernel
theorem dX9_loads_94 : decode cX9_loads 94 = .ok (.iadd, 1) := by decide +kernel
theorem dX9_loads_95 : decode cX9_loads 95 = .ok (.aload_n 0, 1) := by decide +kernel
theorem dX9_loads_96 : decode cX9_loads 96 = .ok (.getfield 13, 3) := by decide +kernel
theorem dX9_loads_99 : decode cX9_loads 99 = .ok (.iconst 4, 1) := by decide +kernel
theorem dX9_loads_100 : decode cX9_loads 100 = .ok (.iaload, 1) := by decide +kernel
theorem dX9_loads_101 : decode cX9_loads 101 = .ok (.invokevirtual 61, 3) := by decide +kernel
theorem dX9_loads_104 : decode cX9_loads 104 = .ok (.goto 57, 3) := by decide +kernel
theorem dX9_loads_107 : decode cX9_loads 107 = .ok (.aload_n 0, 1) := by decide +kernel
theorem dX9_loads_108 : decode cX9_loads 108 = .ok (.getfield 13, 3) := by decide +kernel
theorem dX9_loads_111 : decode cX9_loads 111 = .ok (.iconst 5, 1) := by decide +kernel
theorem dX9_loads_112 : decode cX9_loads 112 = .ok (.aload_n 0, 1) := by decide +kernel
theorem dX9_loads_113 : decode cX9_loads 113 = .ok (.iload_n 2, 1) := by decide +kernel
theorem dX9_loads_114 : decode cX9_loads 114 = .ok (.invokevirtual 50, 3) := by decide +kernel
theorem dX9_loads_117 : decode cX9_loads 117 = .ok (.iastore, 1) := by decide +kernel
theorem dX9_loads_118 : decode cX9_loads 118 = .ok (.aload_n 0, 1) := by decide +kernel
theorem dX9_loads_119 : decode cX9_loads 119 = .ok (.getfield 13, 3) := by decide +kernel
theorem dX9_loads_122 : decode cX9_loads 122 = .ok (.iconst 4, 1) := by decide +kernel
theorem dX9_loads_123 : decode cX9_loads 123 = .ok (.aload_n 0, 1) := by decide +kernel
theorem dX9_loads_124 : decode cX9_loads 124 = .ok (.iload_n 2, 1) := by decide +kernel
theorem dX9_loads_125 : decode cX9_loads 125 = .ok (.iconst 1, 1) := by decide +kernel
theorem dX9_loads_126 : decode cX9_loads 126 = .ok (.iadd, 1) := by decide +kernel
theorem dX9_loads_127 : decode cX9_loads 127 = .ok (.invokevirtual 50, 3) := by decide +kernel
theorem dX9_loads_130 : decode cX9_loads 130 = .ok (.iastore, 1) := by decide +kernel
theorem dX9_loads_131 : decode cX9_loads 131 = .ok (.goto 30, 3) := by decide +kernel
theorem dX9_loads_134 : decode cX9_loads 134 = .ok (.aload_n 0, 1) := by decide +kernel
theorem dX9_loads_135 : decode cX9_loads 135 = .ok (.iload_n 2, 1) := by decide +kernel
theorem dX9_loads_136 : decode cX9_loads 136 = .ok (.aload_n 0, 1) := by decide +kernel
theorem dX9_loads_137 : decode cX9_loads 137 = .ok (.getfield 13, 3) := by decide +kernel
theorem dX9_loads_140 : decode cX9_loads 140 = .ok (.bipush 7, 2) := by decide +kernel
theorem dX9_loads_142 : decode cX9_loads 142 = .ok (.iaload, 1) := by decide +kernel
theorem dX9_loads_143 : decode cX9_loads 143 = .ok (.invokevirtual 61, 3) := by decide +kernel
theorem dX9_loads_146 : decode cX9_loads 146 = .ok (.goto 15, 3) := by decide +kernel
theorem dX9_loads_149 : decode cX9_loads 149 = .ok (.aload_n 0, 1) := by decide +kernel
theorem dX9_loads_150 : decode cX9_loads 150 = .ok (.getfield 13, 3) := by decide +kernel
theorem dX9_loads_153 : decode cX9_loads 153 = .ok (.bipush 7, 2) := by decide +kernel
theorem dX9_loads_155 : decode cX9_loads 155 = .ok (.aload_n 0, 1) := by decide +kernel
theorem dX9_loads_156 : decode cX9_loads 156 = .ok (.iload_n 2, 1) := by decide +kernel
theorem dX9_loads_157 : decode cX9_loads 157 = .ok (.invokevirtual 50, 3) := by decide +kernel
theorem dX9_loads_160 : decode cX9_loads 160 = .ok (.iastore, 1) := by decide +kernel
theorem dX9_loads_161 : decode cX9_loads 161 = .ok (.return_, 1) := by decide +kernel
def fX9_loads (p1 : Int32) (s0 : zS) : Option (zS) := if (4 : Int32) ≤ p1 then (bd2 (fX9_nextPair  s0) fun r3 s4 => if p1 ∈ ([(4 : Int32)] : List Int32) then (bd (fX9_write r3 (s4.2 1 ((5 : Int32).toNatClampNeg)) s4) fun s7 => bd (fX9_write (r3 + (1 : Int32)) (s7.2 1 ((4 : Int32).toNatClampNeg)) s7) fun s9 => some s9) else if p1 ∈ ([(5 : Int32)] : List Int32) then (bd2 (fX9_read r3 s4) fun r12 s13 => bd2 (fX9_read (r3 + (1 : Int32)) (st2 s13 1 ((5 : Int32).toNatClampNeg) r12)) fun r15 s16 => some (st2 s16 1 ((4 : Int32).toNatClampNeg) r15)) else if p1 ∈ ([(6 : Int32)] : List Int32) then (bd (fX9_write r3 (s4.2 1 ((7 : Int32).toNatClampNeg)) s4) fun s19 => some s19) else (bd2 (fX9_read r3 s4) fun r21 s22 => some (st2 s22 1 ((7 : Int32).toNatClampNeg) r21))) else (bd2 (fX9_pair (p1 / (2 : Int32)) s0) fun r24 s25 => if (p1 - p1 / (2 : Int32) * (2 : Int32)) = (0 : Int32) then (bd (fX9_write r24 (s25.2 1 ((7 : Int32).toNatClampNeg)) s25) fun s31 => some s31) else (bd2 (fX9_read r24 s25) fun r28 s29 => some (st2 s29 1 ((7 : Int32).toNatClampNeg) r28)))
set_option maxHeartbeats 4000000 in
set_option maxRecDepth 100000 in
theorem cX9_loads_m {l : Launch} {dC : Nat → ClassId} {dI : Nat → Nat → Nat} {ad : Nat → Nat} {cI : ClassId} {p1 : Int32} {s0 : zS} {zs : zS} (h : fX9_loads p1 s0 = some zs) : sw_Mv l yX9_loads (sw_ws yX9_loads cX9_loads 3 none) (sw_rm 5 106) (dC, dI) vwCl [(cI, .int)] mF [.ref (ad 0), .int p1] (mW ad cI s0) (mW ad cI zs) := by
  intro sz
  refine sw_of (cc := cX9_loads) (maxL := 3) (ret := none) (by decide) rfl (Nat.le_of_ble_eq_true rfl) ?_
  intro p e s m args below meth c A ls hAe hsz X _ hP hD hS hl
  rw [hAe]
  have hx := X.1.1
  have hb := X.1.2.1
  have hown := X.1.2.2.2.1
  have hts := X.1.2.2.2.2
  replace hl : lv_has ls 3 [(0, .ref (ad 0)), (1, .int p1)] := hl
  unfold fX9_loads at h
  refine lv_iload_n hx hb dX9_loads_0 rfl (lv_at hl 1 rfl) ?_
  refine lv_iconst (v := (4 : Int32)) hx hb dX9_loads_1 (by decide) ?_
  refine lv_icmp_ge (tgt := 47) hx hb dX9_loads_2 (by decide) (fun c1 => ?_) (fun c1 => ?_)
  · replace h := if_yes h c1
    refine lv_aload_n hx hb dX9_loads_47 rfl (lv_at hl 0 rfl) ?_
    have hq := bd2_some h; clear h; obtain ⟨r3, s4, h2, h⟩ := hq
    refine sw_vi (rest := []) m_good X (cX9_nextPair_m h2) calX9_nextPair k_886 hP hD hS 0 9 rfl rfl rfl ⟨rfl, rfl⟩ rfl hl.1 rfl (Nat.le_of_ble_eq_true rfl) dX9_loads_48 (fun H locs hP hD hS => ?_)
    refine lv_istore_n (lv' := [(2, .int r3), (0, .ref (ad 0)), (1, .int p1)]) hx hb dX9_loads_51 rfl hl (by decide) rfl (fun ls hl => ?_)
    refine lv_iload_n hx hb dX9_loads_52 rfl (lv_at hl 2 rfl) ?_
    by_cases c5 : p1 ∈ ([(4 : Int32)] : List Int32)
    · replace h := if_yes h c5
      refine sw_tabK (tgt := 80) (off := 27) hx hb dX9_loads_53 _ c5 (by decide +kernel) (by decide) ?_
      refine lv_aload_n hx hb dX9_loads_80 rfl (lv_at hl 1 rfl) ?_
      refine lv_iload_n hx hb dX9_loads_81 rfl (lv_at hl 0 rfl) ?_
      refine lv_aload_n hx hb dX9_loads_82 rfl (lv_at hl 1 rfl) ?_
      refine mg_0_2 X hP k_759 dX9_loads_83 ?_
      refine lv_iconst (v := (5 : Int32)) hx hb dX9_loads_86 (by decide) ?_
      refine ml_1 X hP (vin_in (i := (5 : Int32)) (n := 8) (by decide) (by decide)) dX9_loads_87 ?_
      have hq := bd_some h; clear h; obtain ⟨s7, h6, h⟩ := hq
      refine sw_vv (rest := []) m_good X (cX9_write_m h6) calX9_write k_842 hP hD hS 0 9 rfl rfl rfl ⟨rfl, rfl⟩ rfl hl.1 rfl (Nat.le_of_ble_eq_true rfl) dX9_loads_88 (fun H locs hP hD hS => ?_)
      refine lv_aload_n hx hb dX9_loads_91 rfl (lv_at hl 1 rfl) ?_
      refine lv_iload_n hx hb dX9_loads_92 rfl (lv_at hl 0 rfl) ?_
      refine lv_iconst (v := (1 : Int32)) hx hb dX9_loads_93 (by decide) ?_
      refine lv_iadd hx hb dX9_loads_94 ?_
      refine lv_aload_n hx hb dX9_loads_95 rfl (lv_at hl 1 rfl) ?_
      refine mg_0_2 X hP k_759 dX9_loads_96 ?_
      refine lv_iconst (v := (4 : Int32)) hx hb dX9_loads_99 (by decide) ?_
      refine ml_1 X hP (vin_in (i := (4 : Int32)) (n := 8) (by decide) (by decide)) dX9_loads_100 ?_
      have hq := bd_some h; clear h; obtain ⟨s9, h8, h⟩ := hq
      refine sw_vv (rest := []) m_good X (cX9_write_m h8) calX9_write k_842 hP hD hS 0 9 rfl rfl rfl ⟨rfl, rfl⟩ rfl hl.1 rfl (Nat.le_of_ble_eq_true rfl) dX9_loads_101 (fun H locs hP hD hS => ?_)
      refine lv_goto (tgt := 161) hx hb dX9_loads_104 (by decide) ?_
      obtain rfl := Option.some.inj h
      exact sw_vret X hP hD hS dX9_loads_161
    · replace h := if_no h c5
      by_cases c10 : p1 ∈ ([(5 : Int32)] : List Int32)
      · replace h := if_yes h c10
        refine sw_tabK (tgt := 107) (off := 54) hx hb dX9_loads_53 _ c10 (by decide +kernel) (by decide) ?_
        refine lv_aload_n hx hb dX9_loads_107 rfl (lv_at hl 1 rfl) ?_
        refine mg_0_2 X hP k_759 dX9_loads_108 ?_
        refine lv_iconst (v := (5 : Int32)) hx hb dX9_loads_111 (by decide) ?_
        refine lv_aload_n hx hb dX9_loads_112 rfl (lv_at hl 1 rfl) ?_
        refine lv_iload_n hx hb dX9_loads_113 rfl (lv_at hl 0 rfl) ?_
        have hq := bd2_some h; clear h; obtain ⟨r12, s13, h11, h⟩ := hq
        refine sw_vi (rest := [.int (5 : Int32), .ref (ad 2)]) m_good X (cX9_read_m h11) calX9_read k_882 hP hD hS 0 9 rfl rfl rfl ⟨rfl, rfl⟩ rfl hl.1 rfl (Nat.le_of_ble_eq_true rfl) dX9_loads_114 (fun H locs hP hD hS => ?_)
        refine mb_1 X hP hD hS (vin_in (i := (5 : Int32)) (n := 8) (by decide) (by decide)) dX9_loads_117 (fun H locs hP hD hS => ?_)
        refine lv_aload_n hx hb dX9_loads_118 rfl (lv_at hl 1 rfl) ?_
        refine mg_0_2 X hP k_759 dX9_loads_119 ?_
        refine lv_iconst (v := (4 : Int32)) hx hb dX9_loads_122 (by decide) ?_
        refine lv_aload_n hx hb dX9_loads_123 rfl (lv_at hl 1 rfl) ?_
        refine lv_iload_n hx hb dX9_loads_124 rfl (lv_at hl 0 rfl) ?_
        refine lv_iconst (v := (1 : Int32)) hx hb dX9_loads_125 (by decide) ?_
        refine lv_iadd hx hb dX9_loads_126 ?_
        have hq := bd2_some h; clear h; obtain ⟨r15, s16, h14, h⟩ := hq
        refine sw_vi (rest := [.int (4 : Int32), .ref (ad 2)]) m_good X (cX9_read_m h14) calX9_read k_882 hP hD hS 0 9 rfl rfl rfl ⟨rfl, rfl⟩ rfl hl.1 rfl (Nat.le_of_ble_eq_true rfl) dX9_loads_127 (fun H locs hP hD hS => ?_)
        refine mb_1 X hP hD hS (vin_in (i := (4 : Int32)) (n := 8) (by decide) (by decide)) dX9_loads_130 (fun H locs hP hD hS => ?_)
        refine lv_goto (tgt := 161) hx hb dX9_loads_131 (by decide) ?_
        obtain rfl := Option.some.inj h
        exact sw_vret X hP hD hS dX9_loads_161
      · replace h := if_no h c10
        by_cases c17 : p1 ∈ ([(6 : Int32)] : List Int32)
        · replace h := if_yes h c17
          refine sw_tabK (tgt := 134) (off := 81) hx hb dX9_loads_53 _ c17 (by decide +kernel) (by decide) ?_
          refine lv_aload_n hx hb dX9_loads_134 rfl (lv_at hl 1 rfl) ?_
          refine lv_iload_n hx hb dX9_loads_135 rfl (lv_at hl 0 rfl) ?_
          refine lv_aload_n hx hb dX9_loads_136 rfl (lv_at hl 1 rfl) ?_
          refine mg_0_2 X hP k_759 dX9_loads_137 ?_
          refine lv_bipush (v := (7 : Int32)) hx hb dX9_loads_140 (by decide) ?_
          refine ml_1 X hP (vin_in (i := (7 : Int32)) (n := 8) (by decide) (by decide)) dX9_loads_142 ?_
          have hq := bd_some h; clear h; obtain ⟨s19, h18, h⟩ := hq
          refine sw_vv (rest := []) m_good X (cX9_write_m h18) calX9_write k_842 hP hD hS 0 9 rfl rfl rfl ⟨rfl, rfl⟩ rfl hl.1 rfl (Nat.le_of_ble_eq_true rfl) dX9_loads_143 (fun H locs hP hD hS => ?_)
          refine lv_goto (tgt := 161) hx hb dX9_loads_146 (by decide) ?_
          obtain rfl := Option.some.inj h
          exact sw_vret X hP hD hS dX9_loads_161
        · replace h := if_no h c17
          refine sw_tabD (tgt := 149) hx hb dX9_loads_53 (([(4 : Int32)] : List Int32) ++ (([(5 : Int32)] : List Int32) ++ ([(6 : Int32)] : List Int32))) (fun hm => (List.mem_append.mp hm).elim c5 (fun hm => (List.mem_append.mp hm).elim c10 c17)) (by decide +kernel) (by decide) ?_
          refine lv_aload_n hx hb dX9_loads_149 rfl (lv_at hl 1 rfl) ?_
          refine mg_0_2 X hP k_759 dX9_loads_150 ?_
          refine lv_bipush (v := (7 : Int32)) hx hb dX9_loads_153 (by decide) ?_
          refine lv_aload_n hx hb dX9_loads_155 rfl (lv_at hl 1 rfl) ?_
          refine lv_iload_n hx hb dX9_loads_156 rfl (lv_at hl 0 rfl) ?_
          have hq := bd2_some h; clear h; obtain ⟨r21, s22, h20, h⟩ := hq
          refine sw_vi (rest := [.int (7 : Int32), .ref (ad 2)]) m_good X (cX9_read_m h20) calX9_read k_882 hP hD hS 0 9 rfl rfl rfl ⟨rfl, rfl⟩ rfl hl.1 rfl (Nat.le_of_ble_eq_true rfl) dX9_loads_157 (fun H locs hP hD hS => ?_)
          refine mb_1 X hP hD hS (vin_in (i := (7 : Int32)) (n := 8) (by decide) (by decide)) dX9_loads_160 (fun H locs hP hD hS => ?_)
          obtain rfl := Option.some.inj h
          exact sw_vret X hP hD hS dX9_loads_161
  · replace h := if_no h c1
    refine lv_aload_n hx hb dX9_loads_5 rfl (lv_at hl 0 rfl) ?_
    refine lv_iload_n hx hb dX9_loads_6 rfl (lv_at hl 1 rfl) ?_
    refine lv_iconst (v := (2 : Int32)) hx hb dX9_loads_7 (by decide) ?_
    refine lv_idiv hx hb dX9_loads_8 (by decide) ?_
    have hq := bd2_some h; clear h; obtain ⟨r24, s25, h23, h⟩ := hq
    refine sw_vi (rest := []) m_good X (cX9_pair_m h23) calX9_pair k_902 hP hD hS 0 9 rfl rfl rfl ⟨rfl, rfl⟩ rfl hl.1 rfl (Nat.le_of_ble_eq_true rfl) dX9_loads_9 (fun H locs hP hD hS => ?_)
    refine lv_istore_n (lv' := [(2, .int r24), (0, .ref (ad 0)), (1, .int p1)]) hx hb dX9_loads_12 rfl hl (by decide) rfl (fun ls hl => ?_)
    refine lv_iload_n hx hb dX9_loads_13 rfl (lv_at hl 2 rfl) ?_
    refine lv_iconst (v := (2 : Int32)) hx hb dX9_loads_14 (by decide) ?_
    refine lv_irem hx hb dX9_loads_15 (by decide) ?_
    refine lv_if_ne (tgt := 34) hx hb dX9_loads_16 (by decide) (fun c26 => ?_) (fun c26 => ?_)
    · replace h := if_no h c26
      refine lv_aload_n hx hb dX9_loads_34 rfl (lv_at hl 1 rfl) ?_
      refine mg_0_2 X hP k_759 dX9_loads_35 ?_
      refine lv_bipush (v := (7 : Int32)) hx hb dX9_loads_38 (by decide) ?_
      refine lv_aload_n hx hb dX9_loads_40 rfl (lv_at hl 1 rfl) ?_
      refine lv_iload_n hx hb dX9_loads_41 rfl (lv_at hl 0 rfl) ?_
      have hq := bd2_some h; clear h; obtain ⟨r28, s29, h27, h⟩ := hq
      refine sw_vi (rest := [.int (7 : Int32), .ref (ad 2)]) m_good X (cX9_read_m h27) calX9_read k_882 hP hD hS 0 9 rfl rfl rfl ⟨rfl, rfl⟩ rfl hl.1 rfl (Nat.le_of_ble_eq_true rfl) dX9_loads_42 (fun H locs hP hD hS => ?_)
      refine mb_1 X hP hD hS (vin_in (i := (7 : Int32)) (n := 8) (by decide) (by decide)) dX9_loads_45 (fun H locs hP hD hS => ?_)
      obtain rfl := Option.some.inj h
      exact sw_vret X hP hD hS dX9_loads_46
    · replace h := if_yes h c26
      refine lv_aload_n hx hb dX9_loads_19 rfl (lv_at hl 1 rfl) ?_
      refine lv_iload_n hx hb dX9_loads_20 rfl (lv_at hl 0 rfl) ?_
      refine lv_aload_n hx hb dX9_loads_21 rfl (lv_at hl 1 rfl) ?_
      refine mg_0_2 X hP k_759 dX9_loads_22 ?_
      refine lv_bipush (v := (7 : Int32)) hx hb dX9_loads_25 (by decide) ?_
      refine ml_1 X hP (vin_in (i := (7 : Int32)) (n := 8) (by decide) (by decide)) dX9_loads_27 ?_
      have hq := bd_some h; clear h; obtain ⟨s31, h30, h⟩ := hq
      refine sw_vv (rest := []) m_good X (cX9_write_m h30) calX9_write k_842 hP hD hS 0 9 rfl rfl rfl ⟨rfl, rfl⟩ rfl hl.1 rfl (Nat.le_of_ble_eq_true rfl) dX9_loads_28 (fun H locs hP hD hS => ?_)
      refine lv_goto (tgt := 46) hx hb dX9_loads_31 (by decide) ?_
      obtain rfl := Option.some.inj h
      exact sw_vret X hP hD hS dX9_loads_46
theorem dX9_step_0 : decode cX9_step 0 = .ok (.aload_n 0, 1) := by decide +kernel
theorem dX9_step_1 : decode cX9_step 1 = .ok (.invokevirtual 77, 3) := by decide +kernel
theorem dX9_step_4 : decode cX9_step 4 = .ok (.istore_n 3, 1) := by decide +kernel
theorem dX9_step_5 : decode cX9_step 5 = .ok (.aload_n 0, 1) := by decide +kernel
theorem dX9_step_6 : decode cX9_step 6 = .ok (.iload_n 1, 1) := by decide +kernel
theorem dX9_step_7 : decode cX9_step 7 = .ok (.invokevirtual 101, 3) := by decide +kernel
theorem dX9_step_10 : decode cX9_step 10 = .ok (.istore 4, 2) := by decide +kernel
theorem dX9_step_12 : decode cX9_step 12 = .ok (.aload_n 0, 1) := by decide +kernel
theorem dX9_step_13 : decode cX9_step 13 = .ok (.iload_n 1, 1) := by decide +kernel
theorem dX9_step_14 : decode cX9_step 14 = .ok (.bipush 6, 2) := by decide +kernel
theorem dX9_step_16 : decode cX9_step 16 = .ok (.if_icmp .ne 12, 3) := by decide +kernel
theorem dX9_step_19 : decode cX9_step 19 = .ok (.aload_n 0, 1) := by decide +kernel
theorem dX9_step_20 : decode cX9_step 20 = .ok (.getfield 32, 3) := by decide +kernel
theorem dX9_step_23 : decode cX9_step 23 = .ok (.iconst 1, 1) := by decide +kernel
theorem dX9_step_24 : decode cX9_step 24 = .ok (.iadd, 1) := by decide +kernel
theorem dX9_step_25 : decode cX9_step 25 = .ok (.goto 7, 3) := by decide +kernel
theorem dX9_step_28 : decode cX9_step 28 = .ok (.aload_n 0, 1) := by decide +kernel
theorem dX9_step_29 : decode cX9_step 29 = .ok (.getfield 32, 3) := by decide +kernel
theorem dX9_step_32 : decode cX9_step 32 = .ok (.putfield 32, 3) := by decide +kernel
theorem dX9_step_35 : decode cX9_step 35 = .ok (.iload_n 2, 1) := by decide +kernel
theorem dX9_step_36 : decode cX9_step 36 = .ok (.ifCond .eq 14, 3) := by decide +kernel
theorem dX9_step_39 : decode cX9_step 39 = .ok (.aload_n 0, 1) := by decide +kernel
theorem dX9_step_40 : decode cX9_step 40 = .ok (.iload 4, 2) := by decide +kernel
theorem dX9_step_42 : decode cX9_step 42 = .ok (.iconst 1, 1) := by decide +kernel
theorem dX9_step_43 : decode cX9_step 43 = .ok (.iconst 0, 1) := by decide +kernel
theorem dX9_step_44 : decode cX9_step 44 = .ok (.invokevirtual 84, 3) := by decide +kernel
theorem dX9_step_47 : decode cX9_step 47 = .ok (.goto 11, 3) := by decide +kernel
theorem dX9_step_50 : decode cX9_step 50 = .ok (.aload_n 0, 1) := by decide +kernel
theorem dX9_step_51 : decode cX9_step 51 = .ok (.iload 4, 2) := by decide +kernel
theorem dX9_step_53 : decode cX9_step 53 = .ok (.iconst 1, 1) := by decide +kernel
theorem dX9_step_54 : decode cX9_step 54 = .ok (.iconst 0, 1) := by decide +kernel
theorem dX9_step_55 : decode cX9_step 55 = .ok (.invokevirtual 80, 3) := by decide +kernel
theorem dX9_step_58 : decode cX9_step 58 = .ok (.istore 5, 2) := by decide +kernel
theorem dX9_step_60 : decode cX9_step 60 = .ok (.aload_n 0, 1) := by decide +kernel
theorem dX9_step_61 : decode cX9_step 61 = .ok (.getfield 13, 3) := by decide +kernel
theorem dX9_step_64 : decode cX9_step 64 = .ok (.bipush 6, 2) := by decide +kernel
theorem dX9_step_66 : decode cX9_step 66 = .ok (.aload_n 0, 1) := by decide +kernel
theorem dX9_step_67 : decode cX9_step 67 = .ok (.getfield 13, 3) := by decide +kernel
theorem dX9_step_70 : decode cX9_step 70 = .ok (.bipush 6, 2) := by decide +kernel
theorem dX9_step_72 : decode cX9_step 72 = .ok (.iaload, 1) := by decide +kernel
theorem dX9_step_73 : decode cX9_step 73 = .ok (.bipush (-2), 2) := by decide +kernel
theorem dX9_step_75 : decode cX9_step 75 = .ok (.iand, 1) := by decide +kernel
theorem dX9_step_76 : decode cX9_step 76 = .ok (.iload_n 3, 1) := by decide +kernel
theorem dX9_step_77 : decode cX9_step 77 = .ok (.ior, 1) := by decide +kernel
theorem dX9_step_78 : decode cX9_step 78 = .ok (.iastore, 1) := by decide +kernel
theorem dX9_step_79 : decode cX9_step 79 = .ok (.aload_n 0, 1) := by decide +kernel
theorem dX9_step_80 : decode cX9_step 80 = .ok (.iload_n 1, 1) := by decide +kernel
theorem dX9_step_81 : decode cX9_step 81 = .ok (.iload 5, 2) := by decide +kernel
theorem dX9_step_83 : decode cX9_step 83 = .ok (.invokevirtual 104, 3) := by decide +kernel
theorem dX9_step_86 : decode cX9_step 86 = .ok (.return_, 1) := by decide +kernel
def fX9_step (p1 p2 : Int32) (s0 : zS) : Option (zS) := bd2 (fX9_carry  s0) fun r2 s3 => bd2 (fX9_operand p1 s3) fun r5 s6 => bd (if p1 = (6 : Int32) then (some ((s6.1 3) + (1 : Int32))) else (some (s6.1 3))) fun x9 => if p2 = (0 : Int32) then (bd2 (fX9_plus r5 (1 : Int32) (0 : Int32) (st1 s6 3 x9)) fun r13 s14 => bd (fX9_setOperand p1 r13 (st2 s14 1 ((6 : Int32).toNatClampNeg) (((s14.2 1 ((6 : Int32).toNatClampNeg)) &&& (-2 : Int32)) ||| r2))) fun s16 => some s16) else (bd2 (fX9_minus r5 (1 : Int32) (0 : Int32) (st1 s6 3 x9)) fun r18 s19 => bd (fX9_setOperand p1 r18 (st2 s19 1 ((6 : Int32).toNatClampNeg) (((s19.2 1 ((6 : Int32).toNatClampNeg)) &&& (-2 : Int32)) ||| r2))) fun s21 => some s21)
set_option maxHeartbeats 4000000 in
set_option maxRecDepth 100000 in
theorem cX9_step_m {l : Launch} {dC : Nat → ClassId} {dI : Nat → Nat → Nat} {ad : Nat → Nat} {cI : ClassId} {p1 p2 : Int32} {s0 : zS} {zs : zS} (h : fX9_step p1 p2 s0 = some zs) : sw_Mv l yX9_step (sw_ws yX9_step cX9_step 6 none) (sw_rm 4 87) (dC, dI) vwCl [(cI, .int)] mF [.ref (ad 0), .int p1, .int p2] (mW ad cI s0) (mW ad cI zs) := by
  intro sz
  refine sw_of (cc := cX9_step) (maxL := 6) (ret := none) (by decide) rfl (Nat.le_of_ble_eq_true rfl) ?_
  intro p e s m args below meth c A ls hAe hsz X _ hP hD hS hl
  rw [hAe]
  have hx := X.1.1
  have hb := X.1.2.1
  have hown := X.1.2.2.2.1
  have hts := X.1.2.2.2.2
  replace hl : lv_has ls 6 [(0, .ref (ad 0)), (1, .int p1), (2, .int p2)] := hl
  unfold fX9_step at h
  refine lv_aload_n hx hb dX9_step_0 rfl (lv_at hl 0 rfl) ?_
  have hq := bd2_some h; clear h; obtain ⟨r2, s3, h1, h⟩ := hq
  refine sw_vi (rest := []) m_good X (cX9_carry_m h1) calX9_carry k_914 hP hD hS 0 9 rfl rfl rfl ⟨rfl, rfl⟩ rfl hl.1 rfl (Nat.le_of_ble_eq_true rfl) dX9_step_1 (fun H locs hP hD hS => ?_)
  refine lv_istore_n (lv' := [(3, .int r2), (0, .ref (ad 0)), (1, .int p1), (2, .int p2)]) hx hb dX9_step_4 rfl hl (by decide) rfl (fun ls hl => ?_)
  refine lv_aload_n hx hb dX9_step_5 rfl (lv_at hl 1 rfl) ?_
  refine lv_iload_n hx hb dX9_step_6 rfl (lv_at hl 2 rfl) ?_
  have hq := bd2_some h; clear h; obtain ⟨r5, s6, h4, h⟩ := hq
  refine sw_vi (rest := []) m_good X (cX9_operand_m h4) calX9_operand k_918 hP hD hS 0 9 rfl rfl rfl ⟨rfl, rfl⟩ rfl hl.1 rfl (Nat.le_of_ble_eq_true rfl) dX9_step_7 (fun H locs hP hD hS => ?_)
  refine lv_istore (lv' := [(4, .int r5), (3, .int r2), (0, .ref (ad 0)), (1, .int p1), (2, .int p2)]) hx hb dX9_step_10 hl (by decide) rfl (fun ls hl => ?_)
  refine lv_aload_n hx hb dX9_step_12 rfl (lv_at hl 2 rfl) ?_
  refine lv_iload_n hx hb dX9_step_13 rfl (lv_at hl 3 rfl) ?_
  refine lv_bipush (v := (6 : Int32)) hx hb dX9_step_14 (by decide) ?_
  have hq := bd_some h; clear h; obtain ⟨x9, h10, h⟩ := hq
  have K7 : ∀ (H : Heap) (locs : List Loc), va_P (dC, dI) vwCl (mW ad cI s6) H → va_D A (mW ad cI s6) → va_S A s.heap H locs → W p l e (sw_rm 4 87) s m args below meth c H locs 0 0 (MQ below (sw_Qv (dC, dI) vwCl [(cI, .int)] A (mW ad cI zs)) args s 0 0 A) (F0 m 32 ls [.int x9, .ref (ad 0)]) := by
    intro H locs hP hD hS
    refine mp_0_6 X hP hD hS k_763 dX9_step_32 (fun H locs hP hD hS => ?_)
    refine lv_iload_n hx hb dX9_step_35 rfl (lv_at hl 4 rfl) ?_
    refine lv_if_eq (tgt := 50) hx hb dX9_step_36 (by decide) (fun c11 => ?_) (fun c11 => ?_)
    · replace h := if_yes h c11
      refine lv_aload_n hx hb dX9_step_50 rfl (lv_at hl 2 rfl) ?_
      refine lv_iload hx hb dX9_step_51 (lv_at hl 0 rfl) ?_
      refine lv_iconst (v := (1 : Int32)) hx hb dX9_step_53 (by decide) ?_
      refine lv_iconst (v := (0 : Int32)) hx hb dX9_step_54 (by decide) ?_
      have hq := bd2_some h; clear h; obtain ⟨r13, s14, h12, h⟩ := hq
      refine sw_vi (rest := []) m_good X (cX9_plus_m h12) calX9_plus k_929 hP hD hS 0 9 rfl rfl rfl ⟨rfl, rfl⟩ rfl hl.1 rfl (Nat.le_of_ble_eq_true rfl) dX9_step_55 (fun H locs hP hD hS => ?_)
      refine lv_istore (lv' := [(5, .int r13), (4, .int r5), (3, .int r2), (0, .ref (ad 0)), (1, .int p1), (2, .int p2)]) hx hb dX9_step_58 hl (by decide) rfl (fun ls hl => ?_)
      refine lv_aload_n hx hb dX9_step_60 rfl (lv_at hl 3 rfl) ?_
      refine mg_0_2 X hP k_759 dX9_step_61 ?_
      refine lv_bipush (v := (6 : Int32)) hx hb dX9_step_64 (by decide) ?_
      refine lv_aload_n hx hb dX9_step_66 rfl (lv_at hl 3 rfl) ?_
      refine mg_0_2 X hP k_759 dX9_step_67 ?_
      refine lv_bipush (v := (6 : Int32)) hx hb dX9_step_70 (by decide) ?_
      refine ml_1 X hP (vin_in (i := (6 : Int32)) (n := 8) (by decide) (by decide)) dX9_step_72 ?_
      refine lv_bipush (v := (-2 : Int32)) hx hb dX9_step_73 (by decide) ?_
      refine lv_iand hx hb dX9_step_75 ?_
      refine lv_iload_n hx hb dX9_step_76 rfl (lv_at hl 2 rfl) ?_
      refine lv_ior hx hb dX9_step_77 ?_
      refine mb_1 X hP hD hS (vin_in (i := (6 : Int32)) (n := 8) (by decide) (by decide)) dX9_step_78 (fun H locs hP hD hS => ?_)
      refine lv_aload_n hx hb dX9_step_79 rfl (lv_at hl 3 rfl) ?_
      refine lv_iload_n hx hb dX9_step_80 rfl (lv_at hl 4 rfl) ?_
      refine lv_iload hx hb dX9_step_81 (lv_at hl 0 rfl) ?_
      have hq := bd_some h; clear h; obtain ⟨s16, h15, h⟩ := hq
      refine sw_vv (rest := []) m_good X (cX9_setOperand_m h15) calX9_setOperand k_933 hP hD hS 0 9 rfl rfl rfl ⟨rfl, rfl⟩ rfl hl.1 rfl (Nat.le_of_ble_eq_true rfl) dX9_step_83 (fun H locs hP hD hS => ?_)
      obtain rfl := Option.some.inj h
      exact sw_vret X hP hD hS dX9_step_86
    · replace h := if_no h c11
      refine lv_aload_n hx hb dX9_step_39 rfl (lv_at hl 2 rfl) ?_
      refine lv_iload hx hb dX9_step_40 (lv_at hl 0 rfl) ?_
      refine lv_iconst (v := (1 : Int32)) hx hb dX9_step_42 (by decide) ?_
      refine lv_iconst (v := (0 : Int32)) hx hb dX9_step_43 (by decide) ?_
      have hq := bd2_some h; clear h; obtain ⟨r18, s19, h17, h⟩ := hq
      refine sw_vi (rest := []) m_good X (cX9_minus_m h17) calX9_minus k_922 hP hD hS 0 9 rfl rfl rfl ⟨rfl, rfl⟩ rfl hl.1 rfl (Nat.le_of_ble_eq_true rfl) dX9_step_44 (fun H locs hP hD hS => ?_)
      refine lv_goto (tgt := 58) hx hb dX9_step_47 (by decide) ?_
      refine lv_istore (lv' := [(5, .int r18), (4, .int r5), (3, .int r2), (0, .ref (ad 0)), (1, .int p1), (2, .int p2)]) hx hb dX9_step_58 hl (by decide) rfl (fun ls hl => ?_)
      refine lv_aload_n hx hb dX9_step_60 rfl (lv_at hl 3 rfl) ?_
      refine mg_0_2 X hP k_759 dX9_step_61 ?_
      refine lv_bipush (v := (6 : Int32)) hx hb dX9_step_64 (by decide) ?_
      refine lv_aload_n hx hb dX9_step_66 rfl (lv_at hl 3 rfl) ?_
      refine mg_0_2 X hP k_759 dX9_step_67 ?_
      refine lv_bipush (v := (6 : Int32)) hx hb dX9_step_70 (by decide) ?_
      refine ml_1 X hP (vin_in (i := (6 : Int32)) (n := 8) (by decide) (by decide)) dX9_step_72 ?_
      refine lv_bipush (v := (-2 : Int32)) hx hb dX9_step_73 (by decide) ?_
      refine lv_iand hx hb dX9_step_75 ?_
      refine lv_iload_n hx hb dX9_step_76 rfl (lv_at hl 2 rfl) ?_
      refine lv_ior hx hb dX9_step_77 ?_
      refine mb_1 X hP hD hS (vin_in (i := (6 : Int32)) (n := 8) (by decide) (by decide)) dX9_step_78 (fun H locs hP hD hS => ?_)
      refine lv_aload_n hx hb dX9_step_79 rfl (lv_at hl 3 rfl) ?_
      refine lv_iload_n hx hb dX9_step_80 rfl (lv_at hl 4 rfl) ?_
      refine lv_iload hx hb dX9_step_81 (lv_at hl 0 rfl) ?_
      have hq := bd_some h; clear h; obtain ⟨s21, h20, h⟩ := hq
      refine sw_vv (rest := []) m_good X (cX9_setOperand_m h20) calX9_setOperand k_933 hP hD hS 0 9 rfl rfl rfl ⟨rfl, rfl⟩ rfl hl.1 rfl (Nat.le_of_ble_eq_true rfl) dX9_step_83 (fun H locs hP hD hS => ?_)
      obtain rfl := Option.some.inj h
      exact sw_vret X hP hD hS dX9_step_86
  replace h := h10
  clear h10
  refine lv_icmp_ne (tgt := 28) hx hb dX9_step_16 (by decide) (fun c8 => ?_) (fun c8 => ?_)
  · replace h := if_no h c8
    refine lv_aload_n hx hb dX9_step_28 rfl (lv_at hl 2 rfl) ?_
    refine mg_0_6 X hP k_763 dX9_step_29 ?_
    obtain rfl := Option.some.inj h
    exact K7 _ _ hP hD hS
  · replace h := if_yes h c8
    refine lv_aload_n hx hb dX9_step_19 rfl (lv_at hl 2 rfl) ?_
    refine mg_0_6 X hP k_763 dX9_step_20 ?_
    refine lv_iconst (v := (1 : Int32)) hx hb dX9_step_23 (by decide) ?_
    refine lv_iadd hx hb dX9_step_24 ?_
    refine lv_goto (tgt := 32) hx hb dX9_step_25 (by decide) ?_
    obtain rfl := Option.some.inj h
    exact K7 _ _ hP hD hS
