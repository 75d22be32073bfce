theorem dX5_step_0 : decode cX5_step 0 = .ok (.aload_n 0, 1) := by decide +kernel
theorem dX5_step_1 : decode cX5_step 1 = .ok (.getfield 43, 3) := by decide +kernel
theorem dX5_step_4 : decode cX5_step 4 = .ok (.ifCond .eq 26, 3) := by decide +kernel
theorem dX5_step_7 : decode cX5_step 7 = .ok (.aload_n 0, 1) := by decide +kernel
theorem dX5_step_8 : decode cX5_step 8 = .ok (.getfield 47, 3) := by decide +kernel
theorem dX5_step_11 : decode cX5_step 11 = .ok (.ifCond .ne 19, 3) := by decide +kernel
theorem dX5_step_14 : decode cX5_step 14 = .ok (.aload_n 0, 1) := by decide +kernel
theorem dX5_step_15 : decode cX5_step 15 = .ok (.getfield 7, 3) := by decide +kernel
theorem dX5_step_18 : decode cX5_step 18 = .ok (.invokevirtual 50, 3) := by decide +kernel
theorem dX5_step_21 : decode cX5_step 21 = .ok (.ifCond .eq 9, 3) := by decide +kernel
theorem dX5_step_24 : decode cX5_step 24 = .ok (.aload_n 0, 1) := by decide +kernel
theorem dX5_step_25 : decode cX5_step 25 = .ok (.invokevirtual 56, 3) := by decide +kernel
theorem dX5_step_28 : decode cX5_step 28 = .ok (.iconst 1, 1) := by decide +kernel
theorem dX5_step_29 : decode cX5_step 29 = .ok (.ireturn, 1) := by decide +kernel
theorem dX5_step_30 : decode cX5_step 30 = .ok (.aload_n 0, 1) := by decide +kernel
theorem dX5_step_31 : decode cX5_step 31 = .ok (.getfield 59, 3) := by decide +kernel
theorem dX5_step_34 : decode cX5_step 34 = .ok (.ifCond .ne 12, 3) := by decide +kernel
theorem dX5_step_37 : decode cX5_step 37 = .ok (.aload_n 0, 1) := by decide +kernel
theorem dX5_step_38 : decode cX5_step 38 = .ok (.invokevirtual 62, 3) := by decide +kernel
theorem dX5_step_41 : decode cX5_step 41 = .ok (.ifCond .eq 5, 3) := by decide +kernel
theorem dX5_step_44 : decode cX5_step 44 = .ok (.iconst 0, 1) := by decide +kernel
theorem dX5_step_45 : decode cX5_step 45 = .ok (.ireturn, 1) := by decide +kernel
theorem dX5_step_46 : decode cX5_step 46 = .ok (.aload_n 0, 1) := by decide +kernel
theorem dX5_step_47 : decode cX5_step 47 = .ok (.dup, 1) := by decide +kernel
theorem dX5_step_48 : decode cX5_step 48 = .ok (.getfield 65, 3) := by decide +kernel
theorem dX5_step_51 : decode cX5_step 51 = .ok (.iconst 1, 1) := by decide +kernel
theorem dX5_step_52 : decode cX5_step 52 = .ok (.iadd, 1) := by decide +kernel
theorem dX5_step_53 : decode cX5_step 53 = .ok (.putfield 65, 3) := by decide +kernel
theorem dX5_step_56 : decode cX5_step 56 = .ok (.aload_n 0, 1) := by decide +kernel
theorem dX5_step_57 : decode cX5_step 57 = .ok (.getfield 59, 3) := by decide +kernel
theorem dX5_step_60 : decode cX5_step 60 = .ok (.ifCond .eq 13, 3) := by decide +kernel
theorem dX5_step_63 : decode cX5_step 63 = .ok (.aload_n 0, 1) := by decide +kernel
theorem dX5_step_64 : decode cX5_step 64 = .ok (.getfield 7, 3) := by decide +kernel
theorem dX5_step_67 : decode cX5_step 67 = .ok (.iconst 4, 1) := by decide +kernel
theorem dX5_step_68 : decode cX5_step 68 = .ok (.invokevirtual 69, 3) := by decide +kernel
theorem dX5_step_71 : decode cX5_step 71 = .ok (.iconst 1, 1) := by decide +kernel
theorem dX5_step_72 : decode cX5_step 72 = .ok (.ireturn, 1) := by decide +kernel
theorem dX5_step_73 : decode cX5_step 73 = .ok (.aload_n 0, 1) := by decide +kernel
theorem dX5_step_74 : decode cX5_step 74 = .ok (.iconst 0, 1) := by decide +kernel
theorem dX5_step_75 : decode cX5_step 75 = .ok (.putfield 47, 3) := by decide +kernel
theorem dX5_step_78 : decode cX5_step 78 = .ok (.aload_n 0, 1) := by decide +kernel
theorem dX5_step_79 : decode cX5_step 79 = .ok (.getfield 39, 3) := by decide +kernel
theorem dX5_step_82 : decode cX5_step 82 = .ok (.invokevirtual 73, 3) := by decide +kernel
theorem dX5_step_85 : decode cX5_step 85 = .ok (.istore_n 1, 1) := by decide +kernel
theorem dX5_step_86 : decode cX5_step 86 = .ok (.iload_n 1, 1) := by decide +kernel
theorem dX5_step_87 : decode cX5_step 87 = .ok (.iconst 3, 1) := by decide +kernel
theorem dX5_step_88 : decode cX5_step 88 = .ok (.ishr, 1) := by decide +kernel
theorem dX5_step_89 : decode cX5_step 89 = .ok (.bipush 7, 2) := by decide +kernel
theorem dX5_step_91 : decode cX5_step 91 = .ok (.iand, 1) := by decide +kernel
theorem dX5_step_92 : decode cX5_step 92 = .ok (.istore_n 2, 1) := by decide +kernel
theorem dX5_step_93 : decode cX5_step 93 = .ok (.iload_n 1, 1) := by decide +kernel
theorem dX5_step_94 : decode cX5_step 94 = .ok (.bipush 7, 2) := by decide +kernel
theorem dX5_step_96 : decode cX5_step 96 = .ok (.iand, 1) := by decide +kernel
theorem dX5_step_97 : decode cX5_step 97 = .ok (.istore_n 3, 1) := by decide +kernel
theorem dX5_step_98 : decode cX5_step 98 = .ok (.iload_n 1, 1) := by decide +kernel
theorem dX5_step_99 : decode cX5_step 99 = .ok (.bipush 6, 2) := by decide +kernel
theorem dX5_step_101 : decode cX5_step 101 = .ok (.ishr, 1) := by decide +kernel
theorem dX5_step_102 : decode cX5_step 102 = .ok (.tableswitch 63 0 2 #[26, 35, 44], 26) := by decide +kernel
theorem dX5_step_128 : decode cX5_step 128 = .ok (.aload_n 0, 1) := by decide +kernel
theorem dX5_step_129 : decode cX5_step 129 = .ok (.iload_n 2, 1) := by decide +kernel
theorem dX5_step_130 : decode cX5_step 130 = .ok (.iload_n 3, 1) := by decide +kernel
theorem dX5_step_131 : decode cX5_step 131 = .ok (.invokevirtual 77, 3) := by decide +kernel
theorem dX5_step_134 : decode cX5_step 134 = .ok (.goto 53, 3) := by decide +kernel
theorem dX5_step_137 : decode cX5_step 137 = .ok (.aload_n 0, 1) := by decide +kernel
theorem dX5_step_138 : decode cX5_step 138 = .ok (.iload_n 2, 1) := by decide +kernel
theorem dX5_step_139 : decode cX5_step 139 = .ok (.iload_n 3, 1) := by decide +kernel
theorem dX5_step_140 : decode cX5_step 140 = .ok (.invokevirtual 81, 3) := by decide +kernel
theorem dX5_step_143 : decode cX5_step 143 = .ok (.goto 44, 3) := by decide +kernel
theorem dX5_step_146 : decode cX5_step 146 = .ok (.aload_n 0, 1) := by decide +kernel
theorem dX5_step_147 : decode cX5_step 147 = .ok (.getfield 30, 3) := by decide +kernel
theorem dX5_step_150 : decode cX5_step 150 = .ok (.iload_n 2, 1) := by decide +kernel
theorem dX5_step_151 : decode cX5_step 151 = .ok (.aload_n 0, 1) := by decide +kernel
theorem dX5_step_152 : decode cX5_step 152 = .ok (.getfield 39, 3) := by decide +kernel
theorem dX5_step_155 : decode cX5_step 155 = .ok (.iload_n 3, 1) := by decide +kernel
theorem dX5_step_156 : decode cX5_step 156 = .ok (.invokevirtual 84, 3) := by decide +kernel
theorem dX5_step_159 : decode cX5_step 159 = .ok (.invokevirtual 88, 3) := by decide +kernel
theorem dX5_step_162 : decode cX5_step 162 = .ok (.goto 25, 3) := by decide +kernel
theorem dX5_step_165 : decode cX5_step 165 = .ok (.iload_n 2, 1) := by decide +kernel
theorem dX5_step_166 : decode cX5_step 166 = .ok (.iload_n 3, 1) := by decide +kernel
theorem dX5_step_167 : decode cX5_step 167 = .ok (.invokestatic 91, 3) := by decide +kernel
theorem dX5_step_170 : decode cX5_step 170 = .ok (.ifCond .eq 11, 3) := by decide +kernel
theorem dX5_step_173 : decode cX5_step 173 = .ok (.aload_n 0, 1) := by decide +kernel
theorem dX5_step_174 : decode cX5_step 174 = .ok (.iload_n 1, 1) := by decide +kernel
theorem dX5_step_175 : decode cX5_step 175 = .ok (.invokevirtual 95, 3) := by decide +kernel
theorem dX5_step_178 : decode cX5_step 178 = .ok (.goto 9, 3) := by decide +kernel
theorem dX5_step_181 : decode cX5_step 181 = .ok (.aload_n 0, 1) := by decide +kernel
theorem dX5_step_182 : decode cX5_step 182 = .ok (.iload_n 2, 1) := by decide +kernel
theorem dX5_step_183 : decode cX5_step 183 = .ok (.iload_n 3, 1) := by decide +kernel
theorem dX5_step_184 : decode cX5_step 184 = .ok (.invokevirtual 98, 3) := by decide +kernel
theorem dX5_step_187 : decode cX5_step 187 = .ok (.iconst 1, 1) := by decide +kernel
theorem dX5_step_188 : decode cX5_step 188 = .ok (.ireturn, 1) := by decide +kernel
def fX5_step (s0 : zS) : Option (Int32 × zS) := if (s0.1 5) = (0 : Int32) then (if (s0.1 4) = (0 : Int32) then (bd2 (fX5_isTrapNext  s0) fun r31 s32 => if r31 = (0 : Int32) then (if ((st1 s32 8 ((s32.1 8) + (1 : Int32))).1 4) = (0 : Int32) then (bd2 (fX3_fetchNext  (st1 (st1 s32 8 ((s32.1 8) + (1 : Int32))) 6 (0 : Int32))) fun r36 s37 => nm ((r36 >>> ((3 : Int32) &&& 31)) &&& (7 : Int32)) fun x38 => nm (r36 &&& (7 : Int32)) fun x39 => if (r36 >>> ((6 : Int32) &&& 31)) ∈ ([(0 : Int32)] : List Int32) then (bd (fX5_executeFirstQuarter x38 x39 s37) fun s42 => some ((1 : Int32), s42)) else if (r36 >>> ((6 : Int32) &&& 31)) ∈ ([(1 : Int32)] : List Int32) then (bd (fX5_loadOrHalt x38 x39 s37) fun s45 => some ((1 : Int32), s45)) else if (r36 >>> ((6 : Int32) &&& 31)) ∈ ([(2 : Int32)] : List Int32) then (bd2 (fX3_value x39 s37) fun r48 s49 => bd (fX0_withA x38 r48 s49) fun s51 => some ((1 : Int32), s51)) else (bd (fX5_standsAlone x38 x39) fun r53 => if r53 = (0 : Int32) then (bd (fX5_executeLastQuarter x38 x39 s37) fun s56 => some ((1 : Int32), s56)) else (bd (fX5_executeAlone r36 s37) fun s58 => some ((1 : Int32), s58)))) else (bd (fX1_pass (4 : Int32) (st1 s32 8 ((s32.1 8) + (1 : Int32)))) fun s60 => some ((1 : Int32), s60))) else (some ((0 : Int32), s32))) else (if ((st1 s0 8 ((s0.1 8) + (1 : Int32))).1 4) = (0 : Int32) then (bd2 (fX3_fetchNext  (st1 (st1 s0 8 ((s0.1 8) + (1 : Int32))) 6 (0 : Int32))) fun r5 s6 => nm ((r5 >>> ((3 : Int32) &&& 31)) &&& (7 : Int32)) fun x7 => nm (r5 &&& (7 : Int32)) fun x8 => if (r5 >>> ((6 : Int32) &&& 31)) ∈ ([(0 : Int32)] : List Int32) then (bd (fX5_executeFirstQuarter x7 x8 s6) fun s11 => some ((1 : Int32), s11)) else if (r5 >>> ((6 : Int32) &&& 31)) ∈ ([(1 : Int32)] : List Int32) then (bd (fX5_loadOrHalt x7 x8 s6) fun s14 => some ((1 : Int32), s14)) else if (r5 >>> ((6 : Int32) &&& 31)) ∈ ([(2 : Int32)] : List Int32) then (bd2 (fX3_value x8 s6) fun r17 s18 => bd (fX0_withA x7 r17 s18) fun s20 => some ((1 : Int32), s20)) else (bd (fX5_standsAlone x7 x8) fun r22 => if r22 = (0 : Int32) then (bd (fX5_executeLastQuarter x7 x8 s6) fun s25 => some ((1 : Int32), s25)) else (bd (fX5_executeAlone r5 s6) fun s27 => some ((1 : Int32), s27)))) else (bd (fX1_pass (4 : Int32) (st1 s0 8 ((s0.1 8) + (1 : Int32)))) fun s29 => some ((1 : Int32), s29)))) else (if (s0.1 6) = (0 : Int32) then (bd2 (fX1_asksForInterrupt  s0) fun r122 s123 => if r122 = (0 : Int32) then (if (s123.1 4) = (0 : Int32) then (bd2 (fX5_isTrapNext  s123) fun r154 s155 => if r154 = (0 : Int32) then (if ((st1 s155 8 ((s155.1 8) + (1 : Int32))).1 4) = (0 : Int32) then (bd2 (fX3_fetchNext  (st1 (st1 s155 8 ((s155.1 8) + (1 : Int32))) 6 (0 : Int32))) fun r159 s160 => nm ((r159 >>> ((3 : Int32) &&& 31)) &&& (7 : Int32)) fun x161 => nm (r159 &&& (7 : Int32)) fun x162 => if (r159 >>> ((6 : Int32) &&& 31)) ∈ ([(0 : Int32)] : List Int32) then (bd (fX5_executeFirstQuarter x161 x162 s160) fun s165 => some ((1 : Int32), s165)) else if (r159 >>> ((6 : Int32) &&& 31)) ∈ ([(1 : Int32)] : List Int32) then (bd (fX5_loadOrHalt x161 x162 s160) fun s168 => some ((1 : Int32), s168)) else if (r159 >>> ((6 : Int32) &&& 31)) ∈ ([(2 : Int32)] : List Int32) then (bd2 (fX3_value x162 s160) fun r171 s172 => bd (fX0_withA x161 r171 s172) fun s174 => some ((1 : Int32), s174)) else (bd (fX5_standsAlone x161 x162) fun r176 => if r176 = (0 : Int32) then (bd (fX5_executeLastQuarter x161 x162 s160) fun s179 => some ((1 : Int32), s179)) else (bd (fX5_executeAlone r159 s160) fun s181 => some ((1 : Int32), s181)))) else (bd (fX1_pass (4 : Int32) (st1 s155 8 ((s155.1 8) + (1 : Int32)))) fun s183 => some ((1 : Int32), s183))) else (some ((0 : Int32), s155))) else (if ((st1 s123 8 ((s123.1 8) + (1 : Int32))).1 4) = (0 : Int32) then (bd2 (fX3_fetchNext  (st1 (st1 s123 8 ((s123.1 8) + (1 : Int32))) 6 (0 : Int32))) fun r128 s129 => nm ((r128 >>> ((3 : Int32) &&& 31)) &&& (7 : Int32)) fun x130 => nm (r128 &&& (7 : Int32)) fun x131 => if (r128 >>> ((6 : Int32) &&& 31)) ∈ ([(0 : Int32)] : List Int32) then (bd (fX5_executeFirstQuarter x130 x131 s129) fun s134 => some ((1 : Int32), s134)) else if (r128 >>> ((6 : Int32) &&& 31)) ∈ ([(1 : Int32)] : List Int32) then (bd (fX5_loadOrHalt x130 x131 s129) fun s137 => some ((1 : Int32), s137)) else if (r128 >>> ((6 : Int32) &&& 31)) ∈ ([(2 : Int32)] : List Int32) then (bd2 (fX3_value x131 s129) fun r140 s141 => bd (fX0_withA x130 r140 s141) fun s143 => some ((1 : Int32), s143)) else (bd (fX5_standsAlone x130 x131) fun r145 => if r145 = (0 : Int32) then (bd (fX5_executeLastQuarter x130 x131 s129) fun s148 => some ((1 : Int32), s148)) else (bd (fX5_executeAlone r128 s129) fun s150 => some ((1 : Int32), s150)))) else (bd (fX1_pass (4 : Int32) (st1 s123 8 ((s123.1 8) + (1 : Int32)))) fun s152 => some ((1 : Int32), s152)))) else (bd (fX5_interrupt  s123) fun s185 => some ((1 : Int32), s185))) else (if (s0.1 4) = (0 : Int32) then (bd2 (fX5_isTrapNext  s0) fun r91 s92 => if r91 = (0 : Int32) then (if ((st1 s92 8 ((s92.1 8) + (1 : Int32))).1 4) = (0 : Int32) then (bd2 (fX3_fetchNext  (st1 (st1 s92 8 ((s92.1 8) + (1 : Int32))) 6 (0 : Int32))) fun r96 s97 => nm ((r96 >>> ((3 : Int32) &&& 31)) &&& (7 : Int32)) fun x98 => nm (r96 &&& (7 : Int32)) fun x99 => if (r96 >>> ((6 : Int32) &&& 31)) ∈ ([(0 : Int32)] : List Int32) then (bd (fX5_executeFirstQuarter x98 x99 s97) fun s102 => some ((1 : Int32), s102)) else if (r96 >>> ((6 : Int32) &&& 31)) ∈ ([(1 : Int32)] : List Int32) then (bd (fX5_loadOrHalt x98 x99 s97) fun s105 => some ((1 : Int32), s105)) else if (r96 >>> ((6 : Int32) &&& 31)) ∈ ([(2 : Int32)] : List Int32) then (bd2 (fX3_value x99 s97) fun r108 s109 => bd (fX0_withA x98 r108 s109) fun s111 => some ((1 : Int32), s111)) else (bd (fX5_standsAlone x98 x99) fun r113 => if r113 = (0 : Int32) then (bd (fX5_executeLastQuarter x98 x99 s97) fun s116 => some ((1 : Int32), s116)) else (bd (fX5_executeAlone r96 s97) fun s118 => some ((1 : Int32), s118)))) else (bd (fX1_pass (4 : Int32) (st1 s92 8 ((s92.1 8) + (1 : Int32)))) fun s120 => some ((1 : Int32), s120))) else (some ((0 : Int32), s92))) else (if ((st1 s0 8 ((s0.1 8) + (1 : Int32))).1 4) = (0 : Int32) then (bd2 (fX3_fetchNext  (st1 (st1 s0 8 ((s0.1 8) + (1 : Int32))) 6 (0 : Int32))) fun r65 s66 => nm ((r65 >>> ((3 : Int32) &&& 31)) &&& (7 : Int32)) fun x67 => nm (r65 &&& (7 : Int32)) fun x68 => if (r65 >>> ((6 : Int32) &&& 31)) ∈ ([(0 : Int32)] : List Int32) then (bd (fX5_executeFirstQuarter x67 x68 s66) fun s71 => some ((1 : Int32), s71)) else if (r65 >>> ((6 : Int32) &&& 31)) ∈ ([(1 : Int32)] : List Int32) then (bd (fX5_loadOrHalt x67 x68 s66) fun s74 => some ((1 : Int32), s74)) else if (r65 >>> ((6 : Int32) &&& 31)) ∈ ([(2 : Int32)] : List Int32) then (bd2 (fX3_value x68 s66) fun r77 s78 => bd (fX0_withA x67 r77 s78) fun s80 => some ((1 : Int32), s80)) else (bd (fX5_standsAlone x67 x68) fun r82 => if r82 = (0 : Int32) then (bd (fX5_executeLastQuarter x67 x68 s66) fun s85 => some ((1 : Int32), s85)) else (bd (fX5_executeAlone r65 s66) fun s87 => some ((1 : Int32), s87)))) else (bd (fX1_pass (4 : Int32) (st1 s0 8 ((s0.1 8) + (1 : Int32)))) fun s89 => some ((1 : Int32), s89)))))
set_option maxHeartbeats 4000000 in
set_option maxRecDepth 100000 in
theorem cX5_step_m {l : Launch} {dC : Nat → ClassId} {dI : Nat → Nat → Nat} {ad : Nat → Nat} {cI : ClassId} {s0 : zS} {zr : Int32} {zs : zS} (h : fX5_step  s0 = some (zr, zs)) : sw_Mi l yX5_step (sw_ws yX5_step cX5_step 4 (some .boolean)) (sw_rm 5 113) (dC, dI) vwCl [(cI, .int)] cF [.ref (ad 5)] (cW ad cI s0) (cW ad cI zs) zr := by
  intro sz
  refine sw_of (cc := cX5_step) (maxL := 4) (ret := (some .boolean)) (by decide) rfl (Nat.le_of_ble_eq_true rfl) ?_
  intro p e s m args below meth c A ls hAe hsz X _ hP hD hS hl
  rw [hAe]
  have hx := X.1.1
  have hb := X.1.2.1
  have hown := X.1.2.2.2.1
  have hts := X.1.2.2.2.2
  replace hl : lv_has ls 4 [(0, .ref (ad 5))] := hl
  unfold fX5_step at h
  refine lv_aload_n hx hb dX5_step_0 rfl (lv_at hl 0 rfl) ?_
  refine cg_5_7 X hP k_147 dX5_step_1 ?_
  refine lv_if_eq (tgt := 30) hx hb dX5_step_4 (by decide) (fun c1 => ?_) (fun c1 => ?_)
  · replace h := if_yes h c1
    refine lv_aload_n hx hb dX5_step_30 rfl (lv_at hl 0 rfl) ?_
    refine cg_5_6 X hP k_145 dX5_step_31 ?_
    refine lv_if_ne (tgt := 46) hx hb dX5_step_34 (by decide) (fun c2 => ?_) (fun c2 => ?_)
    · replace h := if_no h c2
      refine lv_aload_n hx hb dX5_step_46 rfl (lv_at hl 0 rfl) ?_
      refine lv_dup hx hb dX5_step_47 rfl ?_
      refine cg_5_10 X hP k_152 dX5_step_48 ?_
      refine lv_iconst (v := (1 : Int32)) hx hb dX5_step_51 (by decide) ?_
      refine lv_iadd hx hb dX5_step_52 ?_
      refine cp_5_10 X hP hD hS k_152 dX5_step_53 (fun H locs hP hD hS => ?_)
      refine lv_aload_n hx hb dX5_step_56 rfl (lv_at hl 0 rfl) ?_
      refine cg_5_6 X hP k_145 dX5_step_57 ?_
      refine lv_if_eq (tgt := 73) hx hb dX5_step_60 (by decide) (fun c3 => ?_) (fun c3 => ?_)
      · replace h := if_yes h c3
        refine lv_aload_n hx hb dX5_step_73 rfl (lv_at hl 0 rfl) ?_
        refine lv_iconst (v := (0 : Int32)) hx hb dX5_step_74 (by decide) ?_
        refine cp_5_8 X hP hD hS k_149 (by decide) dX5_step_75 (fun H locs hP hD hS => ?_)
        refine lv_aload_n hx hb dX5_step_78 rfl (lv_at hl 0 rfl) ?_
        refine cg_5_5 X hP k_144 dX5_step_79 ?_
        have hq := bd2_some h; clear h; obtain ⟨r5, s6, h4, h⟩ := hq
        refine sw_vi (rest := []) c_good X (cX3_fetchNext_m h4) calX3_fetchNext k_421 hP hD hS 7 3 rfl rfl rfl ⟨rfl, rfl⟩ rfl hl.1 rfl (Nat.le_of_ble_eq_true rfl) dX5_step_82 (fun H locs hP hD hS => ?_)
        refine lv_istore_n (lv' := [(1, .int r5), (0, .ref (ad 5))]) hx hb dX5_step_85 rfl hl (by decide) rfl (fun ls hl => ?_)
        refine lv_iload_n hx hb dX5_step_86 rfl (lv_at hl 0 rfl) ?_
        refine lv_iconst (v := (3 : Int32)) hx hb dX5_step_87 (by decide) ?_
        refine lv_ishr hx hb dX5_step_88 ?_
        refine lv_bipush (v := (7 : Int32)) hx hb dX5_step_89 (by decide) ?_
        refine lv_iand hx hb dX5_step_91 ?_
        refine lv_topi (fun x7 ex7 => ?_)
        replace h := nm_use ex7 h
        refine lv_istore_n (lv' := [(2, .int x7), (1, .int r5), (0, .ref (ad 5))]) hx hb dX5_step_92 rfl hl (by decide) rfl (fun ls hl => ?_)
        refine lv_iload_n hx hb dX5_step_93 rfl (lv_at hl 1 rfl) ?_
        refine lv_bipush (v := (7 : Int32)) hx hb dX5_step_94 (by decide) ?_
        refine lv_iand hx hb dX5_step_96 ?_
        refine lv_topi (fun x8 ex8 => ?_)
        replace h := nm_use ex8 h
        refine lv_istore_n (lv' := [(3, .int x8), (2, .int x7), (1, .int r5), (0, .ref (ad 5))]) hx hb dX5_step_97 rfl hl (by decide) rfl (fun ls hl => ?_)
        refine lv_iload_n hx hb dX5_step_98 rfl (lv_at hl 2 rfl) ?_
        refine lv_bipush (v := (6 : Int32)) hx hb dX5_step_99 (by decide) ?_
        refine lv_ishr hx hb dX5_step_101 ?_
        by_cases c9 : (r5 >>> ((6 : Int32) &&& 31)) ∈ ([(0 : Int32)] : List Int32)
        · replace h := if_yes h c9
          refine sw_tabK (tgt := 128) (off := 26) hx hb dX5_step_102 _ c9 (by decide +kernel) (by decide) ?_
          refine lv_aload_n hx hb dX5_step_128 rfl (lv_at hl 3 rfl) ?_
          refine lv_iload_n hx hb dX5_step_129 rfl (lv_at hl 1 rfl) ?_
          refine lv_iload_n hx hb dX5_step_130 rfl (lv_at hl 0 rfl) ?_
          have hq := bd_some h; clear h; obtain ⟨s11, h10, h⟩ := hq
          refine sw_vv (rest := []) c_good X (cX5_executeFirstQuarter_m h10) calX5_executeFirstQuarter k_430 hP hD hS 5 5 rfl rfl rfl ⟨rfl, rfl⟩ rfl hl.1 rfl (Nat.le_of_ble_eq_true rfl) dX5_step_131 (fun H locs hP hD hS => ?_)
          refine lv_goto (tgt := 187) hx hb dX5_step_134 (by decide) ?_
          refine lv_iconst (v := (1 : Int32)) hx hb dX5_step_187 (by decide) ?_
          obtain ⟨rfl, rfl⟩ := Prod.mk.inj (Option.some.inj h)
          exact sw_bret X (bz_n (by decide)) hP hD hS dX5_step_188
        · replace h := if_no h c9
          by_cases c12 : (r5 >>> ((6 : Int32) &&& 31)) ∈ ([(1 : Int32)] : List Int32)
          · replace h := if_yes h c12
            refine sw_tabK (tgt := 137) (off := 35) hx hb dX5_step_102 _ c12 (by decide +kernel) (by decide) ?_
            refine lv_aload_n hx hb dX5_step_137 rfl (lv_at hl 3 rfl) ?_
            refine lv_iload_n hx hb dX5_step_138 rfl (lv_at hl 1 rfl) ?_
            refine lv_iload_n hx hb dX5_step_139 rfl (lv_at hl 0 rfl) ?_
            have hq := bd_some h; clear h; obtain ⟨s14, h13, h⟩ := hq
            refine sw_vv (rest := []) c_good X (cX5_loadOrHalt_m h13) calX5_loadOrHalt k_602 hP hD hS 5 5 rfl rfl rfl ⟨rfl, rfl⟩ rfl hl.1 rfl (Nat.le_of_ble_eq_true rfl) dX5_step_140 (fun H locs hP hD hS => ?_)
            refine lv_goto (tgt := 187) hx hb dX5_step_143 (by decide) ?_
            refine lv_iconst (v := (1 : Int32)) hx hb dX5_step_187 (by decide) ?_
            obtain ⟨rfl, rfl⟩ := Prod.mk.inj (Option.some.inj h)
            exact sw_bret X (bz_n (by decide)) hP hD hS dX5_step_188
          · replace h := if_no h c12
            by_cases c15 : (r5 >>> ((6 : Int32) &&& 31)) ∈ ([(2 : Int32)] : List Int32)
            · replace h := if_yes h c15
              refine sw_tabK (tgt := 146) (off := 44) hx hb dX5_step_102 _ c15 (by decide +kernel) (by decide) ?_
              refine lv_aload_n hx hb dX5_step_146 rfl (lv_at hl 3 rfl) ?_
              refine cg_5_4 X hP k_143 dX5_step_147 ?_
              refine lv_iload_n hx hb dX5_step_150 rfl (lv_at hl 1 rfl) ?_
              refine lv_aload_n hx hb dX5_step_151 rfl (lv_at hl 3 rfl) ?_
              refine cg_5_5 X hP k_144 dX5_step_152 ?_
              refine lv_iload_n hx hb dX5_step_155 rfl (lv_at hl 0 rfl) ?_
              have hq := bd2_some h; clear h; obtain ⟨r17, s18, h16, h⟩ := hq
              refine sw_vi (rest := [.int x7, .ref (ad 6)]) c_good X (cX3_value_m h16) calX3_value k_536 hP hD hS 7 3 rfl rfl rfl ⟨rfl, rfl⟩ rfl hl.1 rfl (Nat.le_of_ble_eq_true rfl) dX5_step_156 (fun H locs hP hD hS => ?_)
              have hq := bd_some h; clear h; obtain ⟨s20, h19, h⟩ := hq
              refine sw_vv (rest := []) c_good X (cX0_withA_m h19) calX0_withA k_606 hP hD hS 6 0 rfl rfl rfl ⟨rfl, rfl⟩ rfl hl.1 rfl (Nat.le_of_ble_eq_true rfl) dX5_step_159 (fun H locs hP hD hS => ?_)
              refine lv_goto (tgt := 187) hx hb dX5_step_162 (by decide) ?_
              refine lv_iconst (v := (1 : Int32)) hx hb dX5_step_187 (by decide) ?_
              obtain ⟨rfl, rfl⟩ := Prod.mk.inj (Option.some.inj h)
              exact sw_bret X (bz_n (by decide)) hP hD hS dX5_step_188
            · replace h := if_no h c15
              refine sw_tabD (tgt := 165) hx hb dX5_step_102 (([(0 : Int32)] : List Int32) ++ (([(1 : Int32)] : List Int32) ++ ([(2 : Int32)] : List Int32))) (fun hm => (List.mem_append.mp hm).elim c9 (fun hm => (List.mem_append.mp hm).elim c12 c15)) (by decide +kernel) (by decide) ?_
              refine lv_iload_n hx hb dX5_step_165 rfl (lv_at hl 1 rfl) ?_
              refine lv_iload_n hx hb dX5_step_166 rfl (lv_at hl 0 rfl) ?_
              have hq := bd_some h; clear h; obtain ⟨r22, h21, h⟩ := hq
              refine sw_si (rest := []) c_good X (cX5_standsAlone_m h21) calX5_standsAlone k_622 hP hD hS ⟨rfl, rfl⟩ rfl hl.1 rfl (Nat.le_of_ble_eq_true rfl) dX5_step_167 (fun H locs hP hD hS => ?_)
              refine lv_if_eq (tgt := 181) hx hb dX5_step_170 (by decide) (fun c23 => ?_) (fun c23 => ?_)
              · replace h := if_yes h c23
                refine lv_aload_n hx hb dX5_step_181 rfl (lv_at hl 3 rfl) ?_
                refine lv_iload_n hx hb dX5_step_182 rfl (lv_at hl 1 rfl) ?_
                refine lv_iload_n hx hb dX5_step_183 rfl (lv_at hl 0 rfl) ?_
                have hq := bd_some h; clear h; obtain ⟨s25, h24, h⟩ := hq
                refine sw_vv (rest := []) c_good X (cX5_executeLastQuarter_m h24) calX5_executeLastQuarter k_729 hP hD hS 5 5 rfl rfl rfl ⟨rfl, rfl⟩ rfl hl.1 rfl (Nat.le_of_ble_eq_true rfl) dX5_step_184 (fun H locs hP hD hS => ?_)
                refine lv_iconst (v := (1 : Int32)) hx hb dX5_step_187 (by decide) ?_
                obtain ⟨rfl, rfl⟩ := Prod.mk.inj (Option.some.inj h)
                exact sw_bret X (bz_n (by decide)) hP hD hS dX5_step_188
              · replace h := if_no h c23
                refine lv_aload_n hx hb dX5_step_173 rfl (lv_at hl 3 rfl) ?_
                refine lv_iload_n hx hb dX5_step_174 rfl (lv_at hl 2 rfl) ?_
                have hq := bd_some h; clear h; obtain ⟨s27, h26, h⟩ := hq
                refine sw_vv (rest := []) c_good X (cX5_executeAlone_m h26) calX5_executeAlone k_625 hP hD hS 5 5 rfl rfl rfl ⟨rfl, rfl⟩ rfl hl.1 rfl (Nat.le_of_ble_eq_true rfl) dX5_step_175 (fun H locs hP hD hS => ?_)
                refine lv_goto (tgt := 187) hx hb dX5_step_178 (by decide) ?_
                refine lv_iconst (v := (1 : Int32)) hx hb dX5_step_187 (by decide) ?_
                obtain ⟨rfl, rfl⟩ := Prod.mk.inj (Option.some.inj h)
                exact sw_bret X (bz_n (by decide)) hP hD hS dX5_step_188
      · replace h := if_no h c3
        refine lv_aload_n hx hb dX5_step_63 rfl (lv_at hl 0 rfl) ?_
        refine cg_5_0 X hP k_139 dX5_step_64 ?_
        refine lv_iconst (v := (4 : Int32)) hx hb dX5_step_67 (by decide) ?_
        have hq := bd_some h; clear h; obtain ⟨s29, h28, h⟩ := hq
        refine sw_vv (rest := []) c_good X (cX1_pass_m h28) calX1_pass k_381 hP hD hS 1 1 rfl rfl rfl ⟨rfl, rfl⟩ rfl hl.1 rfl (Nat.le_of_ble_eq_true rfl) dX5_step_68 (fun H locs hP hD hS => ?_)
        refine lv_iconst (v := (1 : Int32)) hx hb dX5_step_71 (by decide) ?_
        obtain ⟨rfl, rfl⟩ := Prod.mk.inj (Option.some.inj h)
        exact sw_bret X (bz_n (by decide)) hP hD hS dX5_step_72
    · replace h := if_yes h c2
      refine lv_aload_n hx hb dX5_step_37 rfl (lv_at hl 0 rfl) ?_
      have hq := bd2_some h; clear h; obtain ⟨r31, s32, h30, h⟩ := hq
      refine sw_vi (rest := []) c_good X (cX5_isTrapNext_m h30) calX5_isTrapNext k_413 hP hD hS 5 5 rfl rfl rfl ⟨rfl, rfl⟩ rfl hl.1 rfl (Nat.le_of_ble_eq_true rfl) dX5_step_38 (fun H locs hP hD hS => ?_)
      refine lv_if_eq (tgt := 46) hx hb dX5_step_41 (by decide) (fun c33 => ?_) (fun c33 => ?_)
      · replace h := if_yes h c33
        refine lv_aload_n hx hb dX5_step_46 rfl (lv_at hl 0 rfl) ?_
        refine lv_dup hx hb dX5_step_47 rfl ?_
        refine cg_5_10 X hP k_152 dX5_step_48 ?_
        refine lv_iconst (v := (1 : Int32)) hx hb dX5_step_51 (by decide) ?_
        refine lv_iadd hx hb dX5_step_52 ?_
        refine cp_5_10 X hP hD hS k_152 dX5_step_53 (fun H locs hP hD hS => ?_)
        refine lv_aload_n hx hb dX5_step_56 rfl (lv_at hl 0 rfl) ?_
        refine cg_5_6 X hP k_145 dX5_step_57 ?_
        refine lv_if_eq (tgt := 73) hx hb dX5_step_60 (by decide) (fun c34 => ?_) (fun c34 => ?_)
        · replace h := if_yes h c34
          refine lv_aload_n hx hb dX5_step_73 rfl (lv_at hl 0 rfl) ?_
          refine lv_iconst (v := (0 : Int32)) hx hb dX5_step_74 (by decide) ?_
          refine cp_5_8 X hP hD hS k_149 (by decide) dX5_step_75 (fun H locs hP hD hS => ?_)
          refine lv_aload_n hx hb dX5_step_78 rfl (lv_at hl 0 rfl) ?_
          refine cg_5_5 X hP k_144 dX5_step_79 ?_
          have hq := bd2_some h; clear h; obtain ⟨r36, s37, h35, h⟩ := hq
          refine sw_vi (rest := []) c_good X (cX3_fetchNext_m h35) calX3_fetchNext k_421 hP hD hS 7 3 rfl rfl rfl ⟨rfl, rfl⟩ rfl hl.1 rfl (Nat.le_of_ble_eq_true rfl) dX5_step_82 (fun H locs hP hD hS => ?_)
          refine lv_istore_n (lv' := [(1, .int r36), (0, .ref (ad 5))]) hx hb dX5_step_85 rfl hl (by decide) rfl (fun ls hl => ?_)
          refine lv_iload_n hx hb dX5_step_86 rfl (lv_at hl 0 rfl) ?_
          refine lv_iconst (v := (3 : Int32)) hx hb dX5_step_87 (by decide) ?_
          refine lv_ishr hx hb dX5_step_88 ?_
          refine lv_bipush (v := (7 : Int32)) hx hb dX5_step_89 (by decide) ?_
          refine lv_iand hx hb dX5_step_91 ?_
          refine lv_topi (fun x38 ex38 => ?_)
          replace h := nm_use ex38 h
          refine lv_istore_n (lv' := [(2, .int x38), (1, .int r36), (0, .ref (ad 5))]) hx hb dX5_step_92 rfl hl (by decide) rfl (fun ls hl => ?_)
          refine lv_iload_n hx hb dX5_step_93 rfl (lv_at hl 1 rfl) ?_
          refine lv_bipush (v := (7 : Int32)) hx hb dX5_step_94 (by decide) ?_
          refine lv_iand hx hb dX5_step_96 ?_
          refine lv_topi (fun x39 ex39 => ?_)
          replace h := nm_use ex39 h
          refine lv_istore_n (lv' := [(3, .int x39), (2, .int x38), (1, .int r36), (0, .ref (ad 5))]) hx hb dX5_step_97 rfl hl (by decide) rfl (fun ls hl => ?_)
          refine lv_iload_n hx hb dX5_step_98 rfl (lv_at hl 2 rfl) ?_
          refine lv_bipush (v := (6 : Int32)) hx hb dX5_step_99 (by decide) ?_
          refine lv_ishr hx hb dX5_step_101 ?_
          by_cases c40 : (r36 >>> ((6 : Int32) &&& 31)) ∈ ([(0 : Int32)] : List Int32)
          · replace h := if_yes h c40
            refine sw_tabK (tgt := 128) (off := 26) hx hb dX5_step_102 _ c40 (by decide +kernel) (by decide) ?_
            refine lv_aload_n hx hb dX5_step_128 rfl (lv_at hl 3 rfl) ?_
            refine lv_iload_n hx hb dX5_step_129 rfl (lv_at hl 1 rfl) ?_
            refine lv_iload_n hx hb dX5_step_130 rfl (lv_at hl 0 rfl) ?_
            have hq := bd_some h; clear h; obtain ⟨s42, h41, h⟩ := hq
            refine sw_vv (rest := []) c_good X (cX5_executeFirstQuarter_m h41) calX5_executeFirstQuarter k_430 hP hD hS 5 5 rfl rfl rfl ⟨rfl, rfl⟩ rfl hl.1 rfl (Nat.le_of_ble_eq_true rfl) dX5_step_131 (fun H locs hP hD hS => ?_)
            refine lv_goto (tgt := 187) hx hb dX5_step_134 (by decide) ?_
            refine lv_iconst (v := (1 : Int32)) hx hb dX5_step_187 (by decide) ?_
            obtain ⟨rfl, rfl⟩ := Prod.mk.inj (Option.some.inj h)
            exact sw_bret X (bz_n (by decide)) hP hD hS dX5_step_188
          · replace h := if_no h c40
            by_cases c43 : (r36 >>> ((6 : Int32) &&& 31)) ∈ ([(1 : Int32)] : List Int32)
            · replace h := if_yes h c43
              refine sw_tabK (tgt := 137) (off := 35) hx hb dX5_step_102 _ c43 (by decide +kernel) (by decide) ?_
              refine lv_aload_n hx hb dX5_step_137 rfl (lv_at hl 3 rfl) ?_
              refine lv_iload_n hx hb dX5_step_138 rfl (lv_at hl 1 rfl) ?_
              refine lv_iload_n hx hb dX5_step_139 rfl (lv_at hl 0 rfl) ?_
              have hq := bd_some h; clear h; obtain ⟨s45, h44, h⟩ := hq
              refine sw_vv (rest := []) c_good X (cX5_loadOrHalt_m h44) calX5_loadOrHalt k_602 hP hD hS 5 5 rfl rfl rfl ⟨rfl, rfl⟩ rfl hl.1 rfl (Nat.le_of_ble_eq_true rfl) dX5_step_140 (fun H locs hP hD hS => ?_)
              refine lv_goto (tgt := 187) hx hb dX5_step_143 (by decide) ?_
              refine lv_iconst (v := (1 : Int32)) hx hb dX5_step_187 (by decide) ?_
              obtain ⟨rfl, rfl⟩ := Prod.mk.inj (Option.some.inj h)
              exact sw_bret X (bz_n (by decide)) hP hD hS dX5_step_188
            · replace h := if_no h c43
              by_cases c46 : (r36 >>> ((6 : Int32) &&& 31)) ∈ ([(2 : Int32)] : List Int32)
              · replace h := if_yes h c46
                refine sw_tabK (tgt := 146) (off := 44) hx hb dX5_step_102 _ c46 (by decide +kernel) (by decide) ?_
                refine lv_aload_n hx hb dX5_step_146 rfl (lv_at hl 3 rfl) ?_
                refine cg_5_4 X hP k_143 dX5_step_147 ?_
                refine lv_iload_n hx hb dX5_step_150 rfl (lv_at hl 1 rfl) ?_
                refine lv_aload_n hx hb dX5_step_151 rfl (lv_at hl 3 rfl) ?_
                refine cg_5_5 X hP k_144 dX5_step_152 ?_
                refine lv_iload_n hx hb dX5_step_155 rfl (lv_at hl 0 rfl) ?_
                have hq := bd2_some h; clear h; obtain ⟨r48, s49, h47, h⟩ := hq
                refine sw_vi (rest := [.int x38, .ref (ad 6)]) c_good X (cX3_value_m h47) calX3_value k_536 hP hD hS 7 3 rfl rfl rfl ⟨rfl, rfl⟩ rfl hl.1 rfl (Nat.le_of_ble_eq_true rfl) dX5_step_156 (fun H locs hP hD hS => ?_)
                have hq := bd_some h; clear h; obtain ⟨s51, h50, h⟩ := hq
                refine sw_vv (rest := []) c_good X (cX0_withA_m h50) calX0_withA k_606 hP hD hS 6 0 rfl rfl rfl ⟨rfl, rfl⟩ rfl hl.1 rfl (Nat.le_of_ble_eq_true rfl) dX5_step_159 (fun H locs hP hD hS => ?_)
                refine lv_goto (tgt := 187) hx hb dX5_step_162 (by decide) ?_
                refine lv_iconst (v := (1 : Int32)) hx hb dX5_step_187 (by decide) ?_
                obtain ⟨rfl, rfl⟩ := Prod.mk.inj (Option.some.inj h)
                exact sw_bret X (bz_n (by decide)) hP hD hS dX5_step_188
              · replace h := if_no h c46
                refine sw_tabD (tgt := 165) hx hb dX5_step_102 (([(0 : Int32)] : List Int32) ++ (([(1 : Int32)] : List Int32) ++ ([(2 : Int32)] : List Int32))) (fun hm => (List.mem_append.mp hm).elim c40 (fun hm => (List.mem_append.mp hm).elim c43 c46)) (by decide +kernel) (by decide) ?_
                refine lv_iload_n hx hb dX5_step_165 rfl (lv_at hl 1 rfl) ?_
                refine lv_iload_n hx hb dX5_step_166 rfl (lv_at hl 0 rfl) ?_
                have hq := bd_some h; clear h; obtain ⟨r53, h52, h⟩ := hq
                refine sw_si (rest := []) c_good X (cX5_standsAlone_m h52) calX5_standsAlone k_622 hP hD hS ⟨rfl, rfl⟩ rfl hl.1 rfl (Nat.le_of_ble_eq_true rfl) dX5_step_167 (fun H locs hP hD hS => ?_)
                refine lv_if_eq (tgt := 181) hx hb dX5_step_170 (by decide) (fun c54 => ?_) (fun c54 => ?_)
                · replace h := if_yes h c54
                  refine lv_aload_n hx hb dX5_step_181 rfl (lv_at hl 3 rfl) ?_
                  refine lv_iload_n hx hb dX5_step_182 rfl (lv_at hl 1 rfl) ?_
                  refine lv_iload_n hx hb dX5_step_183 rfl (lv_at hl 0 rfl) ?_
                  have hq := bd_some h; clear h; obtain ⟨s56, h55, h⟩ := hq
                  refine sw_vv (rest := []) c_good X (cX5_executeLastQuarter_m h55) calX5_executeLastQuarter k_729 hP hD hS 5 5 rfl rfl rfl ⟨rfl, rfl⟩ rfl hl.1 rfl (Nat.le_of_ble_eq_true rfl) dX5_step_184 (fun H locs hP hD hS => ?_)
                  refine lv_iconst (v := (1 : Int32)) hx hb dX5_step_187 (by decide) ?_
                  obtain ⟨rfl, rfl⟩ := Prod.mk.inj (Option.some.inj h)
                  exact sw_bret X (bz_n (by decide)) hP hD hS dX5_step_188
                · replace h := if_no h c54
                  refine lv_aload_n hx hb dX5_step_173 rfl (lv_at hl 3 rfl) ?_
                  refine lv_iload_n hx hb dX5_step_174 rfl (lv_at hl 2 rfl) ?_
                  have hq := bd_some h; clear h; obtain ⟨s58, h57, h⟩ := hq
                  refine sw_vv (rest := []) c_good X (cX5_executeAlone_m h57) calX5_executeAlone k_625 hP hD hS 5 5 rfl rfl rfl ⟨rfl, rfl⟩ rfl hl.1 rfl (Nat.le_of_ble_eq_true rfl) dX5_step_175 (fun H locs hP hD hS => ?_)
                  refine lv_goto (tgt := 187) hx hb dX5_step_178 (by decide) ?_
                  refine lv_iconst (v := (1 : Int32)) hx hb dX5_step_187 (by decide) ?_
                  obtain ⟨rfl, rfl⟩ := Prod.mk.inj (Option.some.inj h)
                  exact sw_bret X (bz_n (by decide)) hP hD hS dX5_step_188
        · replace h := if_no h c34
          refine lv_aload_n hx hb dX5_step_63 rfl (lv_at hl 0 rfl) ?_
          refine cg_5_0 X hP k_139 dX5_step_64 ?_
          refine lv_iconst (v := (4 : Int32)) hx hb dX5_step_67 (by decide) ?_
          have hq := bd_some h; clear h; obtain ⟨s60, h59, h⟩ := hq
          refine sw_vv (rest := []) c_good X (cX1_pass_m h59) calX1_pass k_381 hP hD hS 1 1 rfl rfl rfl ⟨rfl, rfl⟩ rfl hl.1 rfl (Nat.le_of_ble_eq_true rfl) dX5_step_68 (fun H locs hP hD hS => ?_)
          refine lv_iconst (v := (1 : Int32)) hx hb dX5_step_71 (by decide) ?_
          obtain ⟨rfl, rfl⟩ := Prod.mk.inj (Option.some.inj h)
          exact sw_bret X (bz_n (by decide)) hP hD hS dX5_step_72
      · replace h := if_no h c33
        refine lv_iconst (v := (0 : Int32)) hx hb dX5_step_44 (by decide) ?_
        obtain ⟨rfl, rfl⟩ := Prod.mk.inj (Option.some.inj h)
        exact sw_bret X (bz_n (by decide)) hP hD hS dX5_step_45
  · replace h := if_no h c1
    refine lv_aload_n hx hb dX5_step_7 rfl (lv_at hl 0 rfl) ?_
    refine cg_5_8 X hP k_149 dX5_step_8 ?_
    refine lv_if_ne (tgt := 30) hx hb dX5_step_11 (by decide) (fun c61 => ?_) (fun c61 => ?_)
    · replace h := if_no h c61
      refine lv_aload_n hx hb dX5_step_30 rfl (lv_at hl 0 rfl) ?_
      refine cg_5_6 X hP k_145 dX5_step_31 ?_
      refine lv_if_ne (tgt := 46) hx hb dX5_step_34 (by decide) (fun c62 => ?_) (fun c62 => ?_)
      · replace h := if_no h c62
        refine lv_aload_n hx hb dX5_step_46 rfl (lv_at hl 0 rfl) ?_
        refine lv_dup hx hb dX5_step_47 rfl ?_
        refine cg_5_10 X hP k_152 dX5_step_48 ?_
        refine lv_iconst (v := (1 : Int32)) hx hb dX5_step_51 (by decide) ?_
        refine lv_iadd hx hb dX5_step_52 ?_
        refine cp_5_10 X hP hD hS k_152 dX5_step_53 (fun H locs hP hD hS => ?_)
        refine lv_aload_n hx hb dX5_step_56 rfl (lv_at hl 0 rfl) ?_
        refine cg_5_6 X hP k_145 dX5_step_57 ?_
        refine lv_if_eq (tgt := 73) hx hb dX5_step_60 (by decide) (fun c63 => ?_) (fun c63 => ?_)
        · replace h := if_yes h c63
          refine lv_aload_n hx hb dX5_step_73 rfl (lv_at hl 0 rfl) ?_
          refine lv_iconst (v := (0 : Int32)) hx hb dX5_step_74 (by decide) ?_
          refine cp_5_8 X hP hD hS k_149 (by decide) dX5_step_75 (fun H locs hP hD hS => ?_)
          refine lv_aload_n hx hb dX5_step_78 rfl (lv_at hl 0 rfl) ?_
          refine cg_5_5 X hP k_144 dX5_step_79 ?_
          have hq := bd2_some h; clear h; obtain ⟨r65, s66, h64, h⟩ := hq
          refine sw_vi (rest := []) c_good X (cX3_fetchNext_m h64) calX3_fetchNext k_421 hP hD hS 7 3 rfl rfl rfl ⟨rfl, rfl⟩ rfl hl.1 rfl (Nat.le_of_ble_eq_true rfl) dX5_step_82 (fun H locs hP hD hS => ?_)
          refine lv_istore_n (lv' := [(1, .int r65), (0, .ref (ad 5))]) hx hb dX5_step_85 rfl hl (by decide) rfl (fun ls hl => ?_)
          refine lv_iload_n hx hb dX5_step_86 rfl (lv_at hl 0 rfl) ?_
          refine lv_iconst (v := (3 : Int32)) hx hb dX5_step_87 (by decide) ?_
          refine lv_ishr hx hb dX5_step_88 ?_
          refine lv_bipush (v := (7 : Int32)) hx hb dX5_step_89 (by decide) ?_
          refine lv_iand hx hb dX5_step_91 ?_
          refine lv_topi (fun x67 ex67 => ?_)
          replace h := nm_use ex67 h
          refine lv_istore_n (lv' := [(2, .int x67), (1, .int r65), (0, .ref (ad 5))]) hx hb dX5_step_92 rfl hl (by decide) rfl (fun ls hl => ?_)
          refine lv_iload_n hx hb dX5_step_93 rfl (lv_at hl 1 rfl) ?_
          refine lv_bipush (v := (7 : Int32)) hx hb dX5_step_94 (by decide) ?_
          refine lv_iand hx hb dX5_step_96 ?_
          refine lv_topi (fun x68 ex68 => ?_)
          replace h := nm_use ex68 h
          refine lv_istore_n (lv' := [(3, .int x68), (2, .int x67), (1, .int r65), (0, .ref (ad 5))]) hx hb dX5_step_97 rfl hl (by decide) rfl (fun ls hl => ?_)
          refine lv_iload_n hx hb dX5_step_98 rfl (lv_at hl 2 rfl) ?_
          refine lv_bipush (v := (6 : Int32)) hx hb dX5_step_99 (by decide) ?_
          refine lv_ishr hx hb dX5_step_101 ?_
          by_cases c69 : (r65 >>> ((6 : Int32) &&& 31)) ∈ ([(0 : Int32)] : List Int32)
          · replace h := if_yes h c69
            refine sw_tabK (tgt := 128) (off := 26) hx hb dX5_step_102 _ c69 (by decide +kernel) (by decide) ?_
            refine lv_aload_n hx hb dX5_step_128 rfl (lv_at hl 3 rfl) ?_
            refine lv_iload_n hx hb dX5_step_129 rfl (lv_at hl 1 rfl) ?_
            refine lv_iload_n hx hb dX5_step_130 rfl (lv_at hl 0 rfl) ?_
            have hq := bd_some h; clear h; obtain ⟨s71, h70, h⟩ := hq
            refine sw_vv (rest := []) c_good X (cX5_executeFirstQuarter_m h70) calX5_executeFirstQuarter k_430 hP hD hS 5 5 rfl rfl rfl ⟨rfl, rfl⟩ rfl hl.1 rfl (Nat.le_of_ble_eq_true rfl) dX5_step_131 (fun H locs hP hD hS => ?_)
            refine lv_goto (tgt := 187) hx hb dX5_step_134 (by decide) ?_
            refine lv_iconst (v := (1 : Int32)) hx hb dX5_step_187 (by decide) ?_
            obtain ⟨rfl, rfl⟩ := Prod.mk.inj (Option.some.inj h)
            exact sw_bret X (bz_n (by decide)) hP hD hS dX5_step_188
          · replace h := if_no h c69
            by_cases c72 : (r65 >>> ((6 : Int32) &&& 31)) ∈ ([(1 : Int32)] : List Int32)
            · replace h := if_yes h c72
              refine sw_tabK (tgt := 137) (off := 35) hx hb dX5_step_102 _ c72 (by decide +kernel) (by decide) ?_
              refine lv_aload_n hx hb dX5_step_137 rfl (lv_at hl 3 rfl) ?_
              refine lv_iload_n hx hb dX5_step_138 rfl (lv_at hl 1 rfl) ?_
              refine lv_iload_n hx hb dX5_step_139 rfl (lv_at hl 0 rfl) ?_
              have hq := bd_some h; clear h; obtain ⟨s74, h73, h⟩ := hq
              refine sw_vv (rest := []) c_good X (cX5_loadOrHalt_m h73) calX5_loadOrHalt k_602 hP hD hS 5 5 rfl rfl rfl ⟨rfl, rfl⟩ rfl hl.1 rfl (Nat.le_of_ble_eq_true rfl) dX5_step_140 (fun H locs hP hD hS => ?_)
              refine lv_goto (tgt := 187) hx hb dX5_step_143 (by decide) ?_
              refine lv_iconst (v := (1 : Int32)) hx hb dX5_step_187 (by decide) ?_
              obtain ⟨rfl, rfl⟩ := Prod.mk.inj (Option.some.inj h)
              exact sw_bret X (bz_n (by decide)) hP hD hS dX5_step_188
            · replace h := if_no h c72
              by_cases c75 : (r65 >>> ((6 : Int32) &&& 31)) ∈ ([(2 : Int32)] : List Int32)
              · replace h := if_yes h c75
                refine sw_tabK (tgt := 146) (off := 44) hx hb dX5_step_102 _ c75 (by decide +kernel) (by decide) ?_
                refine lv_aload_n hx hb dX5_step_146 rfl (lv_at hl 3 rfl) ?_
                refine cg_5_4 X hP k_143 dX5_step_147 ?_
                refine lv_iload_n hx hb dX5_step_150 rfl (lv_at hl 1 rfl) ?_
                refine lv_aload_n hx hb dX5_step_151 rfl (lv_at hl 3 rfl) ?_
                refine cg_5_5 X hP k_144 dX5_step_152 ?_
                refine lv_iload_n hx hb dX5_step_155 rfl (lv_at hl 0 rfl) ?_
                have hq := bd2_some h; clear h; obtain ⟨r77, s78, h76, h⟩ := hq
                refine sw_vi (rest := [.int x67, .ref (ad 6)]) c_good X (cX3_value_m h76) calX3_value k_536 hP hD hS 7 3 rfl rfl rfl ⟨rfl, rfl⟩ rfl hl.1 rfl (Nat.le_of_ble_eq_true rfl) dX5_step_156 (fun H locs hP hD hS => ?_)
                have hq := bd_some h; clear h; obtain ⟨s80, h79, h⟩ := hq
                refine sw_vv (rest := []) c_good X (cX0_withA_m h79) calX0_withA k_606 hP hD hS 6 0 rfl rfl rfl ⟨rfl, rfl⟩ rfl hl.1 rfl (Nat.le_of_ble_eq_true rfl) dX5_step_159 (fun H locs hP hD hS => ?_)
                refine lv_goto (tgt := 187) hx hb dX5_step_162 (by decide) ?_
                refine lv_iconst (v := (1 : Int32)) hx hb dX5_step_187 (by decide) ?_
                obtain ⟨rfl, rfl⟩ := Prod.mk.inj (Option.some.inj h)
                exact sw_bret X (bz_n (by decide)) hP hD hS dX5_step_188
              · replace h := if_no h c75
                refine sw_tabD (tgt := 165) hx hb dX5_step_102 (([(0 : Int32)] : List Int32) ++ (([(1 : Int32)] : List Int32) ++ ([(2 : Int32)] : List Int32))) (fun hm => (List.mem_append.mp hm).elim c69 (fun hm => (List.mem_append.mp hm).elim c72 c75)) (by decide +kernel) (by decide) ?_
                refine lv_iload_n hx hb dX5_step_165 rfl (lv_at hl 1 rfl) ?_
                refine lv_iload_n hx hb dX5_step_166 rfl (lv_at hl 0 rfl) ?_
                have hq := bd_some h; clear h; obtain ⟨r82, h81, h⟩ := hq
                refine sw_si (rest := []) c_good X (cX5_standsAlone_m h81) calX5_standsAlone k_622 hP hD hS ⟨rfl, rfl⟩ rfl hl.1 rfl (Nat.le_of_ble_eq_true rfl) dX5_step_167 (fun H locs hP hD hS => ?_)
                refine lv_if_eq (tgt := 181) hx hb dX5_step_170 (by decide) (fun c83 => ?_) (fun c83 => ?_)
                · replace h := if_yes h c83
                  refine lv_aload_n hx hb dX5_step_181 rfl (lv_at hl 3 rfl) ?_
                  refine lv_iload_n hx hb dX5_step_182 rfl (lv_at hl 1 rfl) ?_
                  refine lv_iload_n hx hb dX5_step_183 rfl (lv_at hl 0 rfl) ?_
                  have hq := bd_some h; clear h; obtain ⟨s85, h84, h⟩ := hq
                  refine sw_vv (rest := []) c_good X (cX5_executeLastQuarter_m h84) calX5_executeLastQuarter k_729 hP hD hS 5 5 rfl rfl rfl ⟨rfl, rfl⟩ rfl hl.1 rfl (Nat.le_of_ble_eq_true rfl) dX5_step_184 (fun H locs hP hD hS => ?_)
                  refine lv_iconst (v := (1 : Int32)) hx hb dX5_step_187 (by decide) ?_
                  obtain ⟨rfl, rfl⟩ := Prod.mk.inj (Option.some.inj h)
                  exact sw_bret X (bz_n (by decide)) hP hD hS dX5_step_188
                · replace h := if_no h c83
                  refine lv_aload_n hx hb dX5_step_173 rfl (lv_at hl 3 rfl) ?_
                  refine lv_iload_n hx hb dX5_step_174 rfl (lv_at hl 2 rfl) ?_
                  have hq := bd_some h; clear h; obtain ⟨s87, h86, h⟩ := hq
                  refine sw_vv (rest := []) c_good X (cX5_executeAlone_m h86) calX5_executeAlone k_625 hP hD hS 5 5 rfl rfl rfl ⟨rfl, rfl⟩ rfl hl.1 rfl (Nat.le_of_ble_eq_true rfl) dX5_step_175 (fun H locs hP hD hS => ?_)
                  refine lv_goto (tgt := 187) hx hb dX5_step_178 (by decide) ?_
                  refine lv_iconst (v := (1 : Int32)) hx hb dX5_step_187 (by decide) ?_
                  obtain ⟨rfl, rfl⟩ := Prod.mk.inj (Option.some.inj h)
                  exact sw_bret X (bz_n (by decide)) hP hD hS dX5_step_188
        · replace h := if_no h c63
          refine lv_aload_n hx hb dX5_step_63 rfl (lv_at hl 0 rfl) ?_
          refine cg_5_0 X hP k_139 dX5_step_64 ?_
          refine lv_iconst (v := (4 : Int32)) hx hb dX5_step_67 (by decide) ?_
          have hq := bd_some h; clear h; obtain ⟨s89, h88, h⟩ := hq
          refine sw_vv (rest := []) c_good X (cX1_pass_m h88) calX1_pass k_381 hP hD hS 1 1 rfl rfl rfl ⟨rfl, rfl⟩ rfl hl.1 rfl (Nat.le_of_ble_eq_true rfl) dX5_step_68 (fun H locs hP hD hS => ?_)
          refine lv_iconst (v := (1 : Int32)) hx hb dX5_step_71 (by decide) ?_
          obtain ⟨rfl, rfl⟩ := Prod.mk.inj (Option.some.inj h)
          exact sw_bret X (bz_n (by decide)) hP hD hS dX5_step_72
      · replace h := if_yes h c62
        refine lv_aload_n hx hb dX5_step_37 rfl (lv_at hl 0 rfl) ?_
        have hq := bd2_some h; clear h; obtain ⟨r91, s92, h90, h⟩ := hq
        refine sw_vi (rest := []) c_good X (cX5_isTrapNext_m h90) calX5_isTrapNext k_413 hP hD hS 5 5 rfl rfl rfl ⟨rfl, rfl⟩ rfl hl.1 rfl (Nat.le_of_ble_eq_true rfl) dX5_step_38 (fun H locs hP hD hS => ?_)
        refine lv_if_eq (tgt := 46) hx hb dX5_step_41 (by decide) (fun c93 => ?_) (fun c93 => ?_)
        · replace h := if_yes h c93
          refine lv_aload_n hx hb dX5_step_46 rfl (lv_at hl 0 rfl) ?_
          refine lv_dup hx hb dX5_step_47 rfl ?_
          refine cg_5_10 X hP k_152 dX5_step_48 ?_
          refine lv_iconst (v := (1 : Int32)) hx hb dX5_step_51 (by decide) ?_
          refine lv_iadd hx hb dX5_step_52 ?_
          refine cp_5_10 X hP hD hS k_152 dX5_step_53 (fun H locs hP hD hS => ?_)
          refine lv_aload_n hx hb dX5_step_56 rfl (lv_at hl 0 rfl) ?_
          refine cg_5_6 X hP k_145 dX5_step_57 ?_
          refine lv_if_eq (tgt := 73) hx hb dX5_step_60 (by decide) (fun c94 => ?_) (fun c94 => ?_)
          · replace h := if_yes h c94
            refine lv_aload_n hx hb dX5_step_73 rfl (lv_at hl 0 rfl) ?_
            refine lv_iconst (v := (0 : Int32)) hx hb dX5_step_74 (by decide) ?_
            refine cp_5_8 X hP hD hS k_149 (by decide) dX5_step_75 (fun H locs hP hD hS => ?_)
            refine lv_aload_n hx hb dX5_step_78 rfl (lv_at hl 0 rfl) ?_
            refine cg_5_5 X hP k_144 dX5_step_79 ?_
            have hq := bd2_some h; clear h; obtain ⟨r96, s97, h95, h⟩ := hq
            refine sw_vi (rest := []) c_good X (cX3_fetchNext_m h95) calX3_fetchNext k_421 hP hD hS 7 3 rfl rfl rfl ⟨rfl, rfl⟩ rfl hl.1 rfl (Nat.le_of_ble_eq_true rfl) dX5_step_82 (fun H locs hP hD hS => ?_)
            refine lv_istore_n (lv' := [(1, .int r96), (0, .ref (ad 5))]) hx hb dX5_step_85 rfl hl (by decide) rfl (fun ls hl => ?_)
            refine lv_iload_n hx hb dX5_step_86 rfl (lv_at hl 0 rfl) ?_
            refine lv_iconst (v := (3 : Int32)) hx hb dX5_step_87 (by decide) ?_
            refine lv_ishr hx hb dX5_step_88 ?_
            refine lv_bipush (v := (7 : Int32)) hx hb dX5_step_89 (by decide) ?_
            refine lv_iand hx hb dX5_step_91 ?_
            refine lv_topi (fun x98 ex98 => ?_)
            replace h := nm_use ex98 h
            refine lv_istore_n (lv' := [(2, .int x98), (1, .int r96), (0, .ref (ad 5))]) hx hb dX5_step_92 rfl hl (by decide) rfl (fun ls hl => ?_)
            refine lv_iload_n hx hb dX5_step_93 rfl (lv_at hl 1 rfl) ?_
            refine lv_bipush (v := (7 : Int32)) hx hb dX5_step_94 (by decide) ?_
            refine lv_iand hx hb dX5_step_96 ?_
            refine lv_topi (fun x99 ex99 => ?_)
            replace h := nm_use ex99 h
            refine lv_istore_n (lv' := [(3, .int x99), (2, .int x98), (1, .int r96), (0, .ref (ad 5))]) hx hb dX5_step_97 rfl hl (by decide) rfl (fun ls hl => ?_)
            refine lv_iload_n hx hb dX5_step_98 rfl (lv_at hl 2 rfl) ?_
            refine lv_bipush (v := (6 : Int32)) hx hb dX5_step_99 (by decide) ?_
            refine lv_ishr hx hb dX5_step_101 ?_
            by_cases c100 : (r96 >>> ((6 : Int32) &&& 31)) ∈ ([(0 : Int32)] : List Int32)
            · replace h := if_yes h c100
              refine sw_tabK (tgt := 128) (off := 26) hx hb dX5_step_102 _ c100 (by decide +kernel) (by decide) ?_
              refine lv_aload_n hx hb dX5_step_128 rfl (lv_at hl 3 rfl) ?_
              refine lv_iload_n hx hb dX5_step_129 rfl (lv_at hl 1 rfl) ?_
              refine lv_iload_n hx hb dX5_step_130 rfl (lv_at hl 0 rfl) ?_
              have hq := bd_some h; clear h; obtain ⟨s102, h101, h⟩ := hq
              refine sw_vv (rest := []) c_good X (cX5_executeFirstQuarter_m h101) calX5_executeFirstQuarter k_430 hP hD hS 5 5 rfl rfl rfl ⟨rfl, rfl⟩ rfl hl.1 rfl (Nat.le_of_ble_eq_true rfl) dX5_step_131 (fun H locs hP hD hS => ?_)
              refine lv_goto (tgt := 187) hx hb dX5_step_134 (by decide) ?_
              refine lv_iconst (v := (1 : Int32)) hx hb dX5_step_187 (by decide) ?_
              obtain ⟨rfl, rfl⟩ := Prod.mk.inj (Option.some.inj h)
              exact sw_bret X (bz_n (by decide)) hP hD hS dX5_step_188
            · replace h := if_no h c100
              by_cases c103 : (r96 >>> ((6 : Int32) &&& 31)) ∈ ([(1 : Int32)] : List Int32)
              · replace h := if_yes h c103
                refine sw_tabK (tgt := 137) (off := 35) hx hb dX5_step_102 _ c103 (by decide +kernel) (by decide) ?_
                refine lv_aload_n hx hb dX5_step_137 rfl (lv_at hl 3 rfl) ?_
                refine lv_iload_n hx hb dX5_step_138 rfl (lv_at hl 1 rfl) ?_
                refine lv_iload_n hx hb dX5_step_139 rfl (lv_at hl 0 rfl) ?_
                have hq := bd_some h; clear h; obtain ⟨s105, h104, h⟩ := hq
                refine sw_vv (rest := []) c_good X (cX5_loadOrHalt_m h104) calX5_loadOrHalt k_602 hP hD hS 5 5 rfl rfl rfl ⟨rfl, rfl⟩ rfl hl.1 rfl (Nat.le_of_ble_eq_true rfl) dX5_step_140 (fun H locs hP hD hS => ?_)
                refine lv_goto (tgt := 187) hx hb dX5_step_143 (by decide) ?_
                refine lv_iconst (v := (1 : Int32)) hx hb dX5_step_187 (by decide) ?_
                obtain ⟨rfl, rfl⟩ := Prod.mk.inj (Option.some.inj h)
                exact sw_bret X (bz_n (by decide)) hP hD hS dX5_step_188
              · replace h := if_no h c103
                by_cases c106 : (r96 >>> ((6 : Int32) &&& 31)) ∈ ([(2 : Int32)] : List Int32)
                · replace h := if_yes h c106
                  refine sw_tabK (tgt := 146) (off := 44) hx hb dX5_step_102 _ c106 (by decide +kernel) (by decide) ?_
                  refine lv_aload_n hx hb dX5_step_146 rfl (lv_at hl 3 rfl) ?_
                  refine cg_5_4 X hP k_143 dX5_step_147 ?_
                  refine lv_iload_n hx hb dX5_step_150 rfl (lv_at hl 1 rfl) ?_
                  refine lv_aload_n hx hb dX5_step_151 rfl (lv_at hl 3 rfl) ?_
                  refine cg_5_5 X hP k_144 dX5_step_152 ?_
                  refine lv_iload_n hx hb dX5_step_155 rfl (lv_at hl 0 rfl) ?_
                  have hq := bd2_some h; clear h; obtain ⟨r108, s109, h107, h⟩ := hq
                  refine sw_vi (rest := [.int x98, .ref (ad 6)]) c_good X (cX3_value_m h107) calX3_value k_536 hP hD hS 7 3 rfl rfl rfl ⟨rfl, rfl⟩ rfl hl.1 rfl (Nat.le_of_ble_eq_true rfl) dX5_step_156 (fun H locs hP hD hS => ?_)
                  have hq := bd_some h; clear h; obtain ⟨s111, h110, h⟩ := hq
                  refine sw_vv (rest := []) c_good X (cX0_withA_m h110) calX0_withA k_606 hP hD hS 6 0 rfl rfl rfl ⟨rfl, rfl⟩ rfl hl.1 rfl (Nat.le_of_ble_eq_true rfl) dX5_step_159 (fun H locs hP hD hS => ?_)
                  refine lv_goto (tgt := 187) hx hb dX5_step_162 (by decide) ?_
                  refine lv_iconst (v := (1 : Int32)) hx hb dX5_step_187 (by decide) ?_
                  obtain ⟨rfl, rfl⟩ := Prod.mk.inj (Option.some.inj h)
                  exact sw_bret X (bz_n (by decide)) hP hD hS dX5_step_188
                · replace h := if_no h c106
                  refine sw_tabD (tgt := 165) hx hb dX5_step_102 (([(0 : Int32)] : List Int32) ++ (([(1 : Int32)] : List Int32) ++ ([(2 : Int32)] : List Int32))) (fun hm => (List.mem_append.mp hm).elim c100 (fun hm => (List.mem_append.mp hm).elim c103 c106)) (by decide +kernel) (by decide) ?_
                  refine lv_iload_n hx hb dX5_step_165 rfl (lv_at hl 1 rfl) ?_
                  refine lv_iload_n hx hb dX5_step_166 rfl (lv_at hl 0 rfl) ?_
                  have hq := bd_some h; clear h; obtain ⟨r113, h112, h⟩ := hq
                  refine sw_si (rest := []) c_good X (cX5_standsAlone_m h112) calX5_standsAlone k_622 hP hD hS ⟨rfl, rfl⟩ rfl hl.1 rfl (Nat.le_of_ble_eq_true rfl) dX5_step_167 (fun H locs hP hD hS => ?_)
                  refine lv_if_eq (tgt := 181) hx hb dX5_step_170 (by decide) (fun c114 => ?_) (fun c114 => ?_)
                  · replace h := if_yes h c114
                    refine lv_aload_n hx hb dX5_step_181 rfl (lv_at hl 3 rfl) ?_
                    refine lv_iload_n hx hb dX5_step_182 rfl (lv_at hl 1 rfl) ?_
                    refine lv_iload_n hx hb dX5_step_183 rfl (lv_at hl 0 rfl) ?_
                    have hq := bd_some h; clear h; obtain ⟨s116, h115, h⟩ := hq
                    refine sw_vv (rest := []) c_good X (cX5_executeLastQuarter_m h115) calX5_executeLastQuarter k_729 hP hD hS 5 5 rfl rfl rfl ⟨rfl, rfl⟩ rfl hl.1 rfl (Nat.le_of_ble_eq_true rfl) dX5_step_184 (fun H locs hP hD hS => ?_)
                    refine lv_iconst (v := (1 : Int32)) hx hb dX5_step_187 (by decide) ?_
                    obtain ⟨rfl, rfl⟩ := Prod.mk.inj (Option.some.inj h)
                    exact sw_bret X (bz_n (by decide)) hP hD hS dX5_step_188
                  · replace h := if_no h c114
                    refine lv_aload_n hx hb dX5_step_173 rfl (lv_at hl 3 rfl) ?_
                    refine lv_iload_n hx hb dX5_step_174 rfl (lv_at hl 2 rfl) ?_
                    have hq := bd_some h; clear h; obtain ⟨s118, h117, h⟩ := hq
                    refine sw_vv (rest := []) c_good X (cX5_executeAlone_m h117) calX5_executeAlone k_625 hP hD hS 5 5 rfl rfl rfl ⟨rfl, rfl⟩ rfl hl.1 rfl (Nat.le_of_ble_eq_true rfl) dX5_step_175 (fun H locs hP hD hS => ?_)
                    refine lv_goto (tgt := 187) hx hb dX5_step_178 (by decide) ?_
                    refine lv_iconst (v := (1 : Int32)) hx hb dX5_step_187 (by decide) ?_
                    obtain ⟨rfl, rfl⟩ := Prod.mk.inj (Option.some.inj h)
                    exact sw_bret X (bz_n (by decide)) hP hD hS dX5_step_188
          · replace h := if_no h c94
            refine lv_aload_n hx hb dX5_step_63 rfl (lv_at hl 0 rfl) ?_
            refine cg_5_0 X hP k_139 dX5_step_64 ?_
            refine lv_iconst (v := (4 : Int32)) hx hb dX5_step_67 (by decide) ?_
            have hq := bd_some h; clear h; obtain ⟨s120, h119, h⟩ := hq
            refine sw_vv (rest := []) c_good X (cX1_pass_m h119) calX1_pass k_381 hP hD hS 1 1 rfl rfl rfl ⟨rfl, rfl⟩ rfl hl.1 rfl (Nat.le_of_ble_eq_true rfl) dX5_step_68 (fun H locs hP hD hS => ?_)
            refine lv_iconst (v := (1 : Int32)) hx hb dX5_step_71 (by decide) ?_
            obtain ⟨rfl, rfl⟩ := Prod.mk.inj (Option.some.inj h)
            exact sw_bret X (bz_n (by decide)) hP hD hS dX5_step_72
        · replace h := if_no h c93
          refine lv_iconst (v := (0 : Int32)) hx hb dX5_step_44 (by decide) ?_
          obtain ⟨rfl, rfl⟩ := Prod.mk.inj (Option.some.inj h)
          exact sw_bret X (bz_n (by decide)) hP hD hS dX5_step_45
    · replace h := if_yes h c61
      refine lv_aload_n hx hb dX5_step_14 rfl (lv_at hl 0 rfl) ?_
      refine cg_5_0 X hP k_139 dX5_step_15 ?_
      have hq := bd2_some h; clear h; obtain ⟨r122, s123, h121, h⟩ := hq
      refine sw_vi (rest := []) c_good X (cX1_asksForInterrupt_m h121) calX1_asksForInterrupt k_373 hP hD hS 1 1 rfl rfl rfl ⟨rfl, rfl⟩ rfl hl.1 rfl (Nat.le_of_ble_eq_true rfl) dX5_step_18 (fun H locs hP hD hS => ?_)
      refine lv_if_eq (tgt := 30) hx hb dX5_step_21 (by decide) (fun c124 => ?_) (fun c124 => ?_)
      · replace h := if_yes h c124
        refine lv_aload_n hx hb dX5_step_30 rfl (lv_at hl 0 rfl) ?_
        refine cg_5_6 X hP k_145 dX5_step_31 ?_
        refine lv_if_ne (tgt := 46) hx hb dX5_step_34 (by decide) (fun c125 => ?_) (fun c125 => ?_)
        · replace h := if_no h c125
          refine lv_aload_n hx hb dX5_step_46 rfl (lv_at hl 0 rfl) ?_
          refine lv_dup hx hb dX5_step_47 rfl ?_
          refine cg_5_10 X hP k_152 dX5_step_48 ?_
          refine lv_iconst (v := (1 : Int32)) hx hb dX5_step_51 (by decide) ?_
          refine lv_iadd hx hb dX5_step_52 ?_
          refine cp_5_10 X hP hD hS k_152 dX5_step_53 (fun H locs hP hD hS => ?_)
          refine lv_aload_n hx hb dX5_step_56 rfl (lv_at hl 0 rfl) ?_
          refine cg_5_6 X hP k_145 dX5_step_57 ?_
          refine lv_if_eq (tgt := 73) hx hb dX5_step_60 (by decide) (fun c126 => ?_) (fun c126 => ?_)
          · replace h := if_yes h c126
            refine lv_aload_n hx hb dX5_step_73 rfl (lv_at hl 0 rfl) ?_
            refine lv_iconst (v := (0 : Int32)) hx hb dX5_step_74 (by decide) ?_
            refine cp_5_8 X hP hD hS k_149 (by decide) dX5_step_75 (fun H locs hP hD hS => ?_)
            refine lv_aload_n hx hb dX5_step_78 rfl (lv_at hl 0 rfl) ?_
            refine cg_5_5 X hP k_144 dX5_step_79 ?_
            have hq := bd2_some h; clear h; obtain ⟨r128, s129, h127, h⟩ := hq
            refine sw_vi (rest := []) c_good X (cX3_fetchNext_m h127) calX3_fetchNext k_421 hP hD hS 7 3 rfl rfl rfl ⟨rfl, rfl⟩ rfl hl.1 rfl (Nat.le_of_ble_eq_true rfl) dX5_step_82 (fun H locs hP hD hS => ?_)
            refine lv_istore_n (lv' := [(1, .int r128), (0, .ref (ad 5))]) hx hb dX5_step_85 rfl hl (by decide) rfl (fun ls hl => ?_)
            refine lv_iload_n hx hb dX5_step_86 rfl (lv_at hl 0 rfl) ?_
            refine lv_iconst (v := (3 : Int32)) hx hb dX5_step_87 (by decide) ?_
            refine lv_ishr hx hb dX5_step_88 ?_
            refine lv_bipush (v := (7 : Int32)) hx hb dX5_step_89 (by decide) ?_
            refine lv_iand hx hb dX5_step_91 ?_
            refine lv_topi (fun x130 ex130 => ?_)
            replace h := nm_use ex130 h
            refine lv_istore_n (lv' := [(2, .int x130), (1, .int r128), (0, .ref (ad 5))]) hx hb dX5_step_92 rfl hl (by decide) rfl (fun ls hl => ?_)
            refine lv_iload_n hx hb dX5_step_93 rfl (lv_at hl 1 rfl) ?_
            refine lv_bipush (v := (7 : Int32)) hx hb dX5_step_94 (by decide) ?_
            refine lv_iand hx hb dX5_step_96 ?_
            refine lv_topi (fun x131 ex131 => ?_)
            replace h := nm_use ex131 h
            refine lv_istore_n (lv' := [(3, .int x131), (2, .int x130), (1, .int r128), (0, .ref (ad 5))]) hx hb dX5_step_97 rfl hl (by decide) rfl (fun ls hl => ?_)
            refine lv_iload_n hx hb dX5_step_98 rfl (lv_at hl 2 rfl) ?_
            refine lv_bipush (v := (6 : Int32)) hx hb dX5_step_99 (by decide) ?_
            refine lv_ishr hx hb dX5_step_101 ?_
            by_cases c132 : (r128 >>> ((6 : Int32) &&& 31)) ∈ ([(0 : Int32)] : List Int32)
            · replace h := if_yes h c132
              refine sw_tabK (tgt := 128) (off := 26) hx hb dX5_step_102 _ c132 (by decide +kernel) (by decide) ?_
              refine lv_aload_n hx hb dX5_step_128 rfl (lv_at hl 3 rfl) ?_
              refine lv_iload_n hx hb dX5_step_129 rfl (lv_at hl 1 rfl) ?_
              refine lv_iload_n hx hb dX5_step_130 rfl (lv_at hl 0 rfl) ?_
              have hq := bd_some h; clear h; obtain ⟨s134, h133, h⟩ := hq
              refine sw_vv (rest := []) c_good X (cX5_executeFirstQuarter_m h133) calX5_executeFirstQuarter k_430 hP hD hS 5 5 rfl rfl rfl ⟨rfl, rfl⟩ rfl hl.1 rfl (Nat.le_of_ble_eq_true rfl) dX5_step_131 (fun H locs hP hD hS => ?_)
              refine lv_goto (tgt := 187) hx hb dX5_step_134 (by decide) ?_
              refine lv_iconst (v := (1 : Int32)) hx hb dX5_step_187 (by decide) ?_
              obtain ⟨rfl, rfl⟩ := Prod.mk.inj (Option.some.inj h)
              exact sw_bret X (bz_n (by decide)) hP hD hS dX5_step_188
            · replace h := if_no h c132
              by_cases c135 : (r128 >>> ((6 : Int32) &&& 31)) ∈ ([(1 : Int32)] : List Int32)
              · replace h := if_yes h c135
                refine sw_tabK (tgt := 137) (off := 35) hx hb dX5_step_102 _ c135 (by decide +kernel) (by decide) ?_
                refine lv_aload_n hx hb dX5_step_137 rfl (lv_at hl 3 rfl) ?_
                refine lv_iload_n hx hb dX5_step_138 rfl (lv_at hl 1 rfl) ?_
                refine lv_iload_n hx hb dX5_step_139 rfl (lv_at hl 0 rfl) ?_
                have hq := bd_some h; clear h; obtain ⟨s137, h136, h⟩ := hq
                refine sw_vv (rest := []) c_good X (cX5_loadOrHalt_m h136) calX5_loadOrHalt k_602 hP hD hS 5 5 rfl rfl rfl ⟨rfl, rfl⟩ rfl hl.1 rfl (Nat.le_of_ble_eq_true rfl) dX5_step_140 (fun H locs hP hD hS => ?_)
                refine lv_goto (tgt := 187) hx hb dX5_step_143 (by decide) ?_
                refine lv_iconst (v := (1 : Int32)) hx hb dX5_step_187 (by decide) ?_
                obtain ⟨rfl, rfl⟩ := Prod.mk.inj (Option.some.inj h)
                exact sw_bret X (bz_n (by decide)) hP hD hS dX5_step_188
              · replace h := if_no h c135
                by_cases c138 : (r128 >>> ((6 : Int32) &&& 31)) ∈ ([(2 : Int32)] : List Int32)
                · replace h := if_yes h c138
                  refine sw_tabK (tgt := 146) (off := 44) hx hb dX5_step_102 _ c138 (by decide +kernel) (by decide) ?_
                  refine lv_aload_n hx hb dX5_step_146 rfl (lv_at hl 3 rfl) ?_
                  refine cg_5_4 X hP k_143 dX5_step_147 ?_
                  refine lv_iload_n hx hb dX5_step_150 rfl (lv_at hl 1 rfl) ?_
                  refine lv_aload_n hx hb dX5_step_151 rfl (lv_at hl 3 rfl) ?_
                  refine cg_5_5 X hP k_144 dX5_step_152 ?_
                  refine lv_iload_n hx hb dX5_step_155 rfl (lv_at hl 0 rfl) ?_
                  have hq := bd2_some h; clear h; obtain ⟨r140, s141, h139, h⟩ := hq
                  refine sw_vi (rest := [.int x130, .ref (ad 6)]) c_good X (cX3_value_m h139) calX3_value k_536 hP hD hS 7 3 rfl rfl rfl ⟨rfl, rfl⟩ rfl hl.1 rfl (Nat.le_of_ble_eq_true rfl) dX5_step_156 (fun H locs hP hD hS => ?_)
                  have hq := bd_some h; clear h; obtain ⟨s143, h142, h⟩ := hq
                  refine sw_vv (rest := []) c_good X (cX0_withA_m h142) calX0_withA k_606 hP hD hS 6 0 rfl rfl rfl ⟨rfl, rfl⟩ rfl hl.1 rfl (Nat.le_of_ble_eq_true rfl) dX5_step_159 (fun H locs hP hD hS => ?_)
                  refine lv_goto (tgt := 187) hx hb dX5_step_162 (by decide) ?_
                  refine lv_iconst (v := (1 : Int32)) hx hb dX5_step_187 (by decide) ?_
                  obtain ⟨rfl, rfl⟩ := Prod.mk.inj (Option.some.inj h)
                  exact sw_bret X (bz_n (by decide)) hP hD hS dX5_step_188
                · replace h := if_no h c138
                  refine sw_tabD (tgt := 165) hx hb dX5_step_102 (([(0 : Int32)] : List Int32) ++ (([(1 : Int32)] : List Int32) ++ ([(2 : Int32)] : List Int32))) (fun hm => (List.mem_append.mp hm).elim c132 (fun hm => (List.mem_append.mp hm).elim c135 c138)) (by decide +kernel) (by decide) ?_
                  refine lv_iload_n hx hb dX5_step_165 rfl (lv_at hl 1 rfl) ?_
                  refine lv_iload_n hx hb dX5_step_166 rfl (lv_at hl 0 rfl) ?_
                  have hq := bd_some h; clear h; obtain ⟨r145, h144, h⟩ := hq
                  refine sw_si (rest := []) c_good X (cX5_standsAlone_m h144) calX5_standsAlone k_622 hP hD hS ⟨rfl, rfl⟩ rfl hl.1 rfl (Nat.le_of_ble_eq_true rfl) dX5_step_167 (fun H locs hP hD hS => ?_)
                  refine lv_if_eq (tgt := 181) hx hb dX5_step_170 (by decide) (fun c146 => ?_) (fun c146 => ?_)
                  · replace h := if_yes h c146
                    refine lv_aload_n hx hb dX5_step_181 rfl (lv_at hl 3 rfl) ?_
                    refine lv_iload_n hx hb dX5_step_182 rfl (lv_at hl 1 rfl) ?_
                    refine lv_iload_n hx hb dX5_step_183 rfl (lv_at hl 0 rfl) ?_
                    have hq := bd_some h; clear h; obtain ⟨s148, h147, h⟩ := hq
                    refine sw_vv (rest := []) c_good X (cX5_executeLastQuarter_m h147) calX5_executeLastQuarter k_729 hP hD hS 5 5 rfl rfl rfl ⟨rfl, rfl⟩ rfl hl.1 rfl (Nat.le_of_ble_eq_true rfl) dX5_step_184 (fun H locs hP hD hS => ?_)
                    refine lv_iconst (v := (1 : Int32)) hx hb dX5_step_187 (by decide) ?_
                    obtain ⟨rfl, rfl⟩ := Prod.mk.inj (Option.some.inj h)
                    exact sw_bret X (bz_n (by decide)) hP hD hS dX5_step_188
                  · replace h := if_no h c146
                    refine lv_aload_n hx hb dX5_step_173 rfl (lv_at hl 3 rfl) ?_
                    refine lv_iload_n hx hb dX5_step_174 rfl (lv_at hl 2 rfl) ?_
                    have hq := bd_some h; clear h; obtain ⟨s150, h149, h⟩ := hq
                    refine sw_vv (rest := []) c_good X (cX5_executeAlone_m h149) calX5_executeAlone k_625 hP hD hS 5 5 rfl rfl rfl ⟨rfl, rfl⟩ rfl hl.1 rfl (Nat.le_of_ble_eq_true rfl) dX5_step_175 (fun H locs hP hD hS => ?_)
                    refine lv_goto (tgt := 187) hx hb dX5_step_178 (by decide) ?_
                    refine lv_iconst (v := (1 : Int32)) hx hb dX5_step_187 (by decide) ?_
                    obtain ⟨rfl, rfl⟩ := Prod.mk.inj (Option.some.inj h)
                    exact sw_bret X (bz_n (by decide)) hP hD hS dX5_step_188
          · replace h := if_no h c126
            refine lv_aload_n hx hb dX5_step_63 rfl (lv_at hl 0 rfl) ?_
            refine cg_5_0 X hP k_139 dX5_step_64 ?_
            refine lv_iconst (v := (4 : Int32)) hx hb dX5_step_67 (by decide) ?_
            have hq := bd_some h; clear h; obtain ⟨s152, h151, h⟩ := hq
            refine sw_vv (rest := []) c_good X (cX1_pass_m h151) calX1_pass k_381 hP hD hS 1 1 rfl rfl rfl ⟨rfl, rfl⟩ rfl hl.1 rfl (Nat.le_of_ble_eq_true rfl) dX5_step_68 (fun H locs hP hD hS => ?_)
            refine lv_iconst (v := (1 : Int32)) hx hb dX5_step_71 (by decide) ?_
            obtain ⟨rfl, rfl⟩ := Prod.mk.inj (Option.some.inj h)
            exact sw_bret X (bz_n (by decide)) hP hD hS dX5_step_72
        · replace h := if_yes h c125
          refine lv_aload_n hx hb dX5_step_37 rfl (lv_at hl 0 rfl) ?_
          have hq := bd2_some h; clear h; obtain ⟨r154, s155, h153, h⟩ := hq
          refine sw_vi (rest := []) c_good X (cX5_isTrapNext_m h153) calX5_isTrapNext k_413 hP hD hS 5 5 rfl rfl rfl ⟨rfl, rfl⟩ rfl hl.1 rfl (Nat.le_of_ble_eq_true rfl) dX5_step_38 (fun H locs hP hD hS => ?_)
          refine lv_if_eq (tgt := 46) hx hb dX5_step_41 (by decide) (fun c156 => ?_) (fun c156 => ?_)
          · replace h := if_yes h c156
            refine lv_aload_n hx hb dX5_step_46 rfl (lv_at hl 0 rfl) ?_
            refine lv_dup hx hb dX5_step_47 rfl ?_
            refine cg_5_10 X hP k_152 dX5_step_48 ?_
            refine lv_iconst (v := (1 : Int32)) hx hb dX5_step_51 (by decide) ?_
            refine lv_iadd hx hb dX5_step_52 ?_
            refine cp_5_10 X hP hD hS k_152 dX5_step_53 (fun H locs hP hD hS => ?_)
            refine lv_aload_n hx hb dX5_step_56 rfl (lv_at hl 0 rfl) ?_
            refine cg_5_6 X hP k_145 dX5_step_57 ?_
            refine lv_if_eq (tgt := 73) hx hb dX5_step_60 (by decide) (fun c157 => ?_) (fun c157 => ?_)
            · replace h := if_yes h c157
              refine lv_aload_n hx hb dX5_step_73 rfl (lv_at hl 0 rfl) ?_
              refine lv_iconst (v := (0 : Int32)) hx hb dX5_step_74 (by decide) ?_
              refine cp_5_8 X hP hD hS k_149 (by decide) dX5_step_75 (fun H locs hP hD hS => ?_)
              refine lv_aload_n hx hb dX5_step_78 rfl (lv_at hl 0 rfl) ?_
              refine cg_5_5 X hP k_144 dX5_step_79 ?_
              have hq := bd2_some h; clear h; obtain ⟨r159, s160, h158, h⟩ := hq
              refine sw_vi (rest := []) c_good X (cX3_fetchNext_m h158) calX3_fetchNext k_421 hP hD hS 7 3 rfl rfl rfl ⟨rfl, rfl⟩ rfl hl.1 rfl (Nat.le_of_ble_eq_true rfl) dX5_step_82 (fun H locs hP hD hS => ?_)
              refine lv_istore_n (lv' := [(1, .int r159), (0, .ref (ad 5))]) hx hb dX5_step_85 rfl hl (by decide) rfl (fun ls hl => ?_)
              refine lv_iload_n hx hb dX5_step_86 rfl (lv_at hl 0 rfl) ?_
              refine lv_iconst (v := (3 : Int32)) hx hb dX5_step_87 (by decide) ?_
              refine lv_ishr hx hb dX5_step_88 ?_
              refine lv_bipush (v := (7 : Int32)) hx hb dX5_step_89 (by decide) ?_
              refine lv_iand hx hb dX5_step_91 ?_
              refine lv_topi (fun x161 ex161 => ?_)
              replace h := nm_use ex161 h
              refine lv_istore_n (lv' := [(2, .int x161), (1, .int r159), (0, .ref (ad 5))]) hx hb dX5_step_92 rfl hl (by decide) rfl (fun ls hl => ?_)
              refine lv_iload_n hx hb dX5_step_93 rfl (lv_at hl 1 rfl) ?_
              refine lv_bipush (v := (7 : Int32)) hx hb dX5_step_94 (by decide) ?_
              refine lv_iand hx hb dX5_step_96 ?_
              refine lv_topi (fun x162 ex162 => ?_)
              replace h := nm_use ex162 h
              refine lv_istore_n (lv' := [(3, .int x162), (2, .int x161), (1, .int r159), (0, .ref (ad 5))]) hx hb dX5_step_97 rfl hl (by decide) rfl (fun ls hl => ?_)
              refine lv_iload_n hx hb dX5_step_98 rfl (lv_at hl 2 rfl) ?_
              refine lv_bipush (v := (6 : Int32)) hx hb dX5_step_99 (by decide) ?_
              refine lv_ishr hx hb dX5_step_101 ?_
              by_cases c163 : (r159 >>> ((6 : Int32) &&& 31)) ∈ ([(0 : Int32)] : List Int32)
              · replace h := if_yes h c163
                refine sw_tabK (tgt := 128) (off := 26) hx hb dX5_step_102 _ c163 (by decide +kernel) (by decide) ?_
                refine lv_aload_n hx hb dX5_step_128 rfl (lv_at hl 3 rfl) ?_
                refine lv_iload_n hx hb dX5_step_129 rfl (lv_at hl 1 rfl) ?_
                refine lv_iload_n hx hb dX5_step_130 rfl (lv_at hl 0 rfl) ?_
                have hq := bd_some h; clear h; obtain ⟨s165, h164, h⟩ := hq
                refine sw_vv (rest := []) c_good X (cX5_executeFirstQuarter_m h164) calX5_executeFirstQuarter k_430 hP hD hS 5 5 rfl rfl rfl ⟨rfl, rfl⟩ rfl hl.1 rfl (Nat.le_of_ble_eq_true rfl) dX5_step_131 (fun H locs hP hD hS => ?_)
                refine lv_goto (tgt := 187) hx hb dX5_step_134 (by decide) ?_
                refine lv_iconst (v := (1 : Int32)) hx hb dX5_step_187 (by decide) ?_
                obtain ⟨rfl, rfl⟩ := Prod.mk.inj (Option.some.inj h)
                exact sw_bret X (bz_n (by decide)) hP hD hS dX5_step_188
              · replace h := if_no h c163
                by_cases c166 : (r159 >>> ((6 : Int32) &&& 31)) ∈ ([(1 : Int32)] : List Int32)
                · replace h := if_yes h c166
                  refine sw_tabK (tgt := 137) (off := 35) hx hb dX5_step_102 _ c166 (by decide +kernel) (by decide) ?_
                  refine lv_aload_n hx hb dX5_step_137 rfl (lv_at hl 3 rfl) ?_
                  refine lv_iload_n hx hb dX5_step_138 rfl (lv_at hl 1 rfl) ?_
                  refine lv_iload_n hx hb dX5_step_139 rfl (lv_at hl 0 rfl) ?_
                  have hq := bd_some h; clear h; obtain ⟨s168, h167, h⟩ := hq
                  refine sw_vv (rest := []) c_good X (cX5_loadOrHalt_m h167) calX5_loadOrHalt k_602 hP hD hS 5 5 rfl rfl rfl ⟨rfl, rfl⟩ rfl hl.1 rfl (Nat.le_of_ble_eq_true rfl) dX5_step_140 (fun H locs hP hD hS => ?_)
                  refine lv_goto (tgt := 187) hx hb dX5_step_143 (by decide) ?_
                  refine lv_iconst (v := (1 : Int32)) hx hb dX5_step_187 (by decide) ?_
                  obtain ⟨rfl, rfl⟩ := Prod.mk.inj (Option.some.inj h)
                  exact sw_bret X (bz_n (by decide)) hP hD hS dX5_step_188
                · replace h := if_no h c166
                  by_cases c169 : (r159 >>> ((6 : Int32) &&& 31)) ∈ ([(2 : Int32)] : List Int32)
                  · replace h := if_yes h c169
                    refine sw_tabK (tgt := 146) (off := 44) hx hb dX5_step_102 _ c169 (by decide +kernel) (by decide) ?_
                    refine lv_aload_n hx hb dX5_step_146 rfl (lv_at hl 3 rfl) ?_
                    refine cg_5_4 X hP k_143 dX5_step_147 ?_
                    refine lv_iload_n hx hb dX5_step_150 rfl (lv_at hl 1 rfl) ?_
                    refine lv_aload_n hx hb dX5_step_151 rfl (lv_at hl 3 rfl) ?_
                    refine cg_5_5 X hP k_144 dX5_step_152 ?_
                    refine lv_iload_n hx hb dX5_step_155 rfl (lv_at hl 0 rfl) ?_
                    have hq := bd2_some h; clear h; obtain ⟨r171, s172, h170, h⟩ := hq
                    refine sw_vi (rest := [.int x161, .ref (ad 6)]) c_good X (cX3_value_m h170) calX3_value k_536 hP hD hS 7 3 rfl rfl rfl ⟨rfl, rfl⟩ rfl hl.1 rfl (Nat.le_of_ble_eq_true rfl) dX5_step_156 (fun H locs hP hD hS => ?_)
                    have hq := bd_some h; clear h; obtain ⟨s174, h173, h⟩ := hq
                    refine sw_vv (rest := []) c_good X (cX0_withA_m h173) calX0_withA k_606 hP hD hS 6 0 rfl rfl rfl ⟨rfl, rfl⟩ rfl hl.1 rfl (Nat.le_of_ble_eq_true rfl) dX5_step_159 (fun H locs hP hD hS => ?_)
                    refine lv_goto (tgt := 187) hx hb dX5_step_162 (by decide) ?_
                    refine lv_iconst (v := (1 : Int32)) hx hb dX5_step_187 (by decide) ?_
                    obtain ⟨rfl, rfl⟩ := Prod.mk.inj (Option.some.inj h)
                    exact sw_bret X (bz_n (by decide)) hP hD hS dX5_step_188
                  · replace h := if_no h c169
                    refine sw_tabD (tgt := 165) hx hb dX5_step_102 (([(0 : Int32)] : List Int32) ++ (([(1 : Int32)] : List Int32) ++ ([(2 : Int32)] : List Int32))) (fun hm => (List.mem_append.mp hm).elim c163 (fun hm => (List.mem_append.mp hm).elim c166 c169)) (by decide +kernel) (by decide) ?_
                    refine lv_iload_n hx hb dX5_step_165 rfl (lv_at hl 1 rfl) ?_
                    refine lv_iload_n hx hb dX5_step_166 rfl (lv_at hl 0 rfl) ?_
                    have hq := bd_some h; clear h; obtain ⟨r176, h175, h⟩ := hq
                    refine sw_si (rest := []) c_good X (cX5_standsAlone_m h175) calX5_standsAlone k_622 hP hD hS ⟨rfl, rfl⟩ rfl hl.1 rfl (Nat.le_of_ble_eq_true rfl) dX5_step_167 (fun H locs hP hD hS => ?_)
                    refine lv_if_eq (tgt := 181) hx hb dX5_step_170 (by decide) (fun c177 => ?_) (fun c177 => ?_)
                    · replace h := if_yes h c177
                      refine lv_aload_n hx hb dX5_step_181 rfl (lv_at hl 3 rfl) ?_
                      refine lv_iload_n hx hb dX5_step_182 rfl (lv_at hl 1 rfl) ?_
                      refine lv_iload_n hx hb dX5_step_183 rfl (lv_at hl 0 rfl) ?_
                      have hq := bd_some h; clear h; obtain ⟨s179, h178, h⟩ := hq
                      refine sw_vv (rest := []) c_good X (cX5_executeLastQuarter_m h178) calX5_executeLastQuarter k_729 hP hD hS 5 5 rfl rfl rfl ⟨rfl, rfl⟩ rfl hl.1 rfl (Nat.le_of_ble_eq_true rfl) dX5_step_184 (fun H locs hP hD hS => ?_)
                      refine lv_iconst (v := (1 : Int32)) hx hb dX5_step_187 (by decide) ?_
                      obtain ⟨rfl, rfl⟩ := Prod.mk.inj (Option.some.inj h)
                      exact sw_bret X (bz_n (by decide)) hP hD hS dX5_step_188
                    · replace h := if_no h c177
                      refine lv_aload_n hx hb dX5_step_173 rfl (lv_at hl 3 rfl) ?_
                      refine lv_iload_n hx hb dX5_step_174 rfl (lv_at hl 2 rfl) ?_
                      have hq := bd_some h; clear h; obtain ⟨s181, h180, h⟩ := hq
                      refine sw_vv (rest := []) c_good X (cX5_executeAlone_m h180) calX5_executeAlone k_625 hP hD hS 5 5 rfl rfl rfl ⟨rfl, rfl⟩ rfl hl.1 rfl (Nat.le_of_ble_eq_true rfl) dX5_step_175 (fun H locs hP hD hS => ?_)
                      refine lv_goto (tgt := 187) hx hb dX5_step_178 (by decide) ?_
                      refine lv_iconst (v := (1 : Int32)) hx hb dX5_step_187 (by decide) ?_
                      obtain ⟨rfl, rfl⟩ := Prod.mk.inj (Option.some.inj h)
                      exact sw_bret X (bz_n (by decide)) hP hD hS dX5_step_188
            · replace h := if_no h c157
              refine lv_aload_n hx hb dX5_step_63 rfl (lv_at hl 0 rfl) ?_
              refine cg_5_0 X hP k_139 dX5_step_64 ?_
              refine lv_iconst (v := (4 : Int32)) hx hb dX5_step_67 (by decide) ?_
              have hq := bd_some h; clear h; obtain ⟨s183, h182, h⟩ := hq
              refine sw_vv (rest := []) c_good X (cX1_pass_m h182) calX1_pass k_381 hP hD hS 1 1 rfl rfl rfl ⟨rfl, rfl⟩ rfl hl.1 rfl (Nat.le_of_ble_eq_true rfl) dX5_step_68 (fun H locs hP hD hS => ?_)
              refine lv_iconst (v := (1 : Int32)) hx hb dX5_step_71 (by decide) ?_
              obtain ⟨rfl, rfl⟩ := Prod.mk.inj (Option.some.inj h)
              exact sw_bret X (bz_n (by decide)) hP hD hS dX5_step_72
          · replace h := if_no h c156
            refine lv_iconst (v := (0 : Int32)) hx hb dX5_step_44 (by decide) ?_
            obtain ⟨rfl, rfl⟩ := Prod.mk.inj (Option.some.inj h)
            exact sw_bret X (bz_n (by decide)) hP hD hS dX5_step_45
      · replace h := if_no h c124
        refine lv_aload_n hx hb dX5_step_24 rfl (lv_at hl 0 rfl) ?_
        have hq := bd_some h; clear h; obtain ⟨s185, h184, h⟩ := hq
        refine sw_vv (rest := []) c_good X (cX5_interrupt_m h184) calX5_interrupt k_377 hP hD hS 5 5 rfl rfl rfl ⟨rfl, rfl⟩ rfl hl.1 rfl (Nat.le_of_ble_eq_true rfl) dX5_step_25 (fun H locs hP hD hS => ?_)
        refine lv_iconst (v := (1 : Int32)) hx hb dX5_step_28 (by decide) ?_
        obtain ⟨rfl, rfl⟩ := Prod.mk.inj (Option.some.inj h)
        exact sw_bret X (bz_n (by decide)) hP hD hS dX5_step_29
theorem dX6_has_0 : decode cX6_has 0 = .ok (.iload_n 0, 1) := by decide +kernel
theorem dX6_has_1 : decode cX6_has 1 = .ok (.ifCond .lt 13, 3) := by decide +kernel
theorem dX6_has_4 : decode cX6_has 4 = .ok (.iload_n 0, 1) := by decide +kernel
theorem dX6_has_5 : decode cX6_has 5 = .ok (.bipush 10, 2) := by decide +kernel
theorem dX6_has_7 : decode cX6_has 7 = .ok (.if_icmp .ge 7, 3) := by decide +kernel
theorem dX6_has_10 : decode cX6_has 10 = .ok (.iconst 1, 1) := by decide +kernel
theorem dX6_has_11 : decode cX6_has 11 = .ok (.goto 4, 3) := by decide +kernel
theorem dX6_has_14 : decode cX6_has 14 = .ok (.iconst 0, 1) := by decide +kernel
theorem dX6_has_15 : decode cX6_has 15 = .ok (.ireturn, 1) := by decide +kernel
def fX6_has (p1 : Int32) : Option (Int32) := if p1 < (0 : Int32) then (some (0 : Int32)) else (if (10 : Int32) ≤ p1 then (some (0 : Int32)) else (some (1 : Int32)))
set_option maxHeartbeats 4000000 in
set_option maxRecDepth 100000 in
theorem cX6_has_m {l : Launch} {dC : Nat → ClassId} {dI : Nat → Nat → Nat} {cI : ClassId} {w : va_W} {p1 : Int32} {zr : Int32} (h : fX6_has p1 = some zr) : sw_Mi l yX6_has (sw_ws yX6_has cX6_has 1 (some .boolean)) (sw_rm 0 0) (dC, dI) vwCl [(cI, .int)] cF [.int p1] w w zr := by
  intro sz
  refine sw_of (cc := cX6_has) (maxL := 1) (ret := (some .boolean)) (by decide) rfl (Nat.le_of_ble_eq_true rfl) ?_
  intro p e s m args below meth c A ls hAe hsz X _ hP hD hS hl
  rw [hAe]
  have hx := X.1.1
  have hb := X.1.2.1
  have hown := X.1.2.2.2.1
  have hts := X.1.2.2.2.2
  replace hl : lv_has ls 1 [(0, .int p1)] := hl
  unfold fX6_has at h
  refine lv_iload_n hx hb dX6_has_0 rfl (lv_at hl 0 rfl) ?_
  refine lv_if_lt (tgt := 14) hx hb dX6_has_1 (by decide) (fun c1 => ?_) (fun c1 => ?_)
  · replace h := if_yes h c1
    refine lv_iconst (v := (0 : Int32)) hx hb dX6_has_14 (by decide) ?_
    obtain rfl := Option.some.inj h
    exact sw_bret X (bz_n (by decide)) hP hD hS dX6_has_15
  · replace h := if_no h c1
    refine lv_iload_n hx hb dX6_has_4 rfl (lv_at hl 0 rfl) ?_
    refine lv_bipush (v := (10 : Int32)) hx hb dX6_has_5 (by decide) ?_
    refine lv_icmp_ge (tgt := 14) hx hb dX6_has_7 (by decide) (fun c2 => ?_) (fun c2 => ?_)
    · replace h := if_yes h c2
      refine lv_iconst (v := (0 : Int32)) hx hb dX6_has_14 (by decide) ?_
      obtain rfl := Option.some.inj h
      exact sw_bret X (bz_n (by decide)) hP hD hS dX6_has_15
    · replace h := if_no h c2
      refine lv_iconst (v := (1 : Int32)) hx hb dX6_has_10 (by decide) ?_
      refine lv_goto (tgt := 15) hx hb dX6_has_11 (by decide) ?_
      obtain rfl := Option.some.inj h
      exact sw_bret X (bz_n (by decide)) hP hD hS dX6_has_15
theorem dX7_isFull_0 : decode cX7_isFull 0 = .ok (.aload_n 0, 1) := by decide +kernel
theorem dX7_isFull_1 : decode cX7_isFull 1 = .ok (.getfield 13, 3) := by decide +kernel
theorem dX7_isFull_4 : decode cX7_isFull 4 = .ok (.bipush 64, 2) := by decide +kernel
theorem dX7_isFull_6 : decode cX7_isFull 6 = .ok (.if_icmp .lt 7, 3) := by decide +kernel
theorem dX7_isFull_9 : decode cX7_isFull 9 = .ok (.iconst 1, 1) := by decide +kernel
theorem dX7_isFull_10 : decode cX7_isFull 10 = .ok (.goto 4, 3) := by decide +kernel
theorem dX7_isFull_13 : decode cX7_isFull 13 = .ok (.iconst 0, 1) := by decide +kernel
theorem dX7_isFull_14 : decode cX7_isFull 14 = .ok (.ireturn, 1) := by decide +kernel
def fX7_isFull (s0 : zS) : Option (Int32 × zS) := if (s0.1 9) < (64 : Int32) then (some ((0 : Int32), s0)) else (some ((1 : Int32), s0))
set_option maxHeartbeats 4000000 in
set_option maxRecDepth 100000 in
theorem cX7_isFull_m {l : Launch} {dC : Nat → ClassId} {dI : Nat → Nat → Nat} {ad : Nat → Nat} {cI : ClassId} {s0 : zS} {zr : Int32} {zs : zS} (h : fX7_isFull  s0 = some (zr, zs)) : sw_Mi l yX7_isFull (sw_ws yX7_isFull cX7_isFull 1 (some .boolean)) (sw_rm 0 0) (dC, dI) vwCl [(cI, .int)] cF [.ref (ad 8)] (cW ad cI s0) (cW ad cI zs) zr := by
  intro sz
  refine sw_of (cc := cX7_isFull) (maxL := 1) (ret := (some .boolean)) (by decide) rfl (Nat.le_of_ble_eq_true rfl) ?_
  intro p e s m args below meth c A ls hAe hsz X _ hP hD hS hl
  rw [hAe]
  have hx := X.1.1
  have hb := X.1.2.1
  have hown := X.1.2.2.2.1
  have hts := X.1.2.2.2.2
  replace hl : lv_has ls 1 [(0, .ref (ad 8))] := hl
  unfold fX7_isFull at h
  refine lv_aload_n hx hb dX7_isFull_0 rfl (lv_at hl 0 rfl) ?_
  refine cg_8_1 X hP k_64 dX7_isFull_1 ?_
  refine lv_bipush (v := (64 : Int32)) hx hb dX7_isFull_4 (by decide) ?_
  refine lv_icmp_lt (tgt := 13) hx hb dX7_isFull_6 (by decide) (fun c1 => ?_) (fun c1 => ?_)
  · replace h := if_yes h c1
    refine lv_iconst (v := (0 : Int32)) hx hb dX7_isFull_13 (by decide) ?_
    obtain ⟨rfl, rfl⟩ := Prod.mk.inj (Option.some.inj h)
    exact sw_bret X (bz_n (by decide)) hP hD hS dX7_isFull_14
  · replace h := if_no h c1
    refine lv_iconst (v := (1 : Int32)) hx hb dX7_isFull_9 (by decide) ?_
    refine lv_goto (tgt := 14) hx hb dX7_isFull_10 (by decide) ?_
    obtain ⟨rfl, rfl⟩ := Prod.mk.inj (Option.some.inj h)
    exact sw_bret X (bz_n (by decide)) hP hD hS dX7_isFull_14
theorem dX7_append_0 : decode cX7_append 0 = .ok (.aload_n 0, 1) := by decide +kernel
theorem dX7_append_1 : decode cX7_append 1 = .ok (.dup, 1) := by decide +kernel
theorem dX7_append_2 : decode cX7_append 2 = .ok (.getfield 17, 3) := by decide +kernel
theorem dX7_append_5 : decode cX7_append 5 = .ok (.iload_n 1, 1) := by decide +kernel
theorem dX7_append_6 : decode cX7_append 6 = .ok (.iadd, 1) := by decide +kernel
theorem dX7_append_7 : decode cX7_append 7 = .ok (.putfield 17, 3) := by decide +kernel
theorem dX7_append_10 : decode cX7_append 10 = .ok (.aload_n 0, 1) := by decide +kernel
theorem dX7_append_11 : decode cX7_append 11 = .ok (.getfield 9, 3) := by decide +kernel
theorem dX7_append_14 : decode cX7_append 14 = .ok (.aload_n 0, 1) := by decide +kernel
theorem dX7_append_15 : decode cX7_append 15 = .ok (.getfield 13, 3) := by decide +kernel
theorem dX7_append_18 : decode cX7_append 18 = .ok (.aload_n 0, 1) := by decide +kernel
theorem dX7_append_19 : decode cX7_append 19 = .ok (.getfield 17, 3) := by decide +kernel
theorem dX7_append_22 : decode cX7_append 22 = .ok (.iastore, 1) := by decide +kernel
theorem dX7_append_23 : decode cX7_append 23 = .ok (.aload_n 0, 1) := by decide +kernel
theorem dX7_append_24 : decode cX7_append 24 = .ok (.dup, 1) := by decide +kernel
theorem dX7_append_25 : decode cX7_append 25 = .ok (.getfield 13, 3) := by decide +kernel
theorem dX7_append_28 : decode cX7_append 28 = .ok (.iconst 1, 1) := by decide +kernel
theorem dX7_append_29 : decode cX7_append 29 = .ok (.iadd, 1) := by decide +kernel
theorem dX7_append_30 : decode cX7_append 30 = .ok (.putfield 13, 3) := by decide +kernel
theorem dX7_append_33 : decode cX7_append 33 = .ok (.aload_n 0, 1) := by decide +kernel
theorem dX7_append_34 : decode cX7_append 34 = .ok (.getfield 13, 3) := by decide +kernel
theorem dX7_append_37 : decode cX7_append 37 = .ok (.ireturn, 1) := by decide +kernel
def fX7_append (p1 : Int32) (s0 : zS) : Option (Int32 × zS) := gd (0 ≤ ((st1 s0 10 ((s0.1 10) + p1)).1 9) ∧ ((st1 s0 10 ((s0.1 10) + p1)).1 9) < 64) <| some (((st1 (st2 (st1 s0 10 ((s0.1 10) + p1)) 3 (((st1 s0 10 ((s0.1 10) + p1)).1 9).toNatClampNeg) ((st1 s0 10 ((s0.1 10) + p1)).1 10)) 9 (((st2 (st1 s0 10 ((s0.1 10) + p1)) 3 (((st1 s0 10 ((s0.1 10) + p1)).1 9).toNatClampNeg) ((st1 s0 10 ((s0.1 10) + p1)).1 10)).1 9) + (1 : Int32))).1 9), (st1 (st2 (st1 s0 10 ((s0.1 10) + p1)) 3 (((st1 s0 10 ((s0.1 10) + p1)).1 9).toNatClampNeg) ((st1 s0 10 ((s0.1 10) + p1)).1 10)) 9 (((st2 (st1 s0 10 ((s0.1 10) + p1)) 3 (((st1 s0 10 ((s0.1 10) + p1)).1 9).toNatClampNeg) ((st1 s0 10 ((s0.1 10) + p1)).1 10)).1 9) + (1 : Int32))))
set_option maxHeartbeats 4000000 in
set_option maxRecDepth 100000 in
theorem cX7_append_m {l : Launch} {dC : Nat → ClassId} {dI : Nat → Nat → Nat} {ad : Nat → Nat} {cI : ClassId} {p1 : Int32} {s0 : zS} {zr : Int32} {zs : zS} (h : fX7_append p1 s0 = some (zr, zs)) : sw_Mi l yX7_append (sw_ws yX7_append cX7_append 2 (some .int)) (sw_rm 0 0) (dC, dI) vwCl [(cI, .int)] cF [.ref (ad 8), .int p1] (cW ad cI s0) (cW ad cI zs) zr := by
  intro sz
  refine sw_of (cc := cX7_append) (maxL := 2) (ret := (some .int)) (by decide) rfl (Nat.le_of_ble_eq_true rfl) ?_
  intro p e s m args below meth c A ls hAe hsz X _ hP hD hS hl
  rw [hAe]
  have hx := X.1.1
  have hb := X.1.2.1
  have hown := X.1.2.2.2.1
  have hts := X.1.2.2.2.2
  replace hl : lv_has ls 2 [(0, .ref (ad 8)), (1, .int p1)] := hl
  unfold fX7_append at h
  refine lv_aload_n hx hb dX7_append_0 rfl (lv_at hl 0 rfl) ?_
  refine lv_dup hx hb dX7_append_1 rfl ?_
  refine cg_8_2 X hP k_65 dX7_append_2 ?_
  refine lv_iload_n hx hb dX7_append_5 rfl (lv_at hl 1 rfl) ?_
  refine lv_iadd hx hb dX7_append_6 ?_
  refine cp_8_2 X hP hD hS k_65 dX7_append_7 (fun H locs hP hD hS => ?_)
  refine lv_aload_n hx hb dX7_append_10 rfl (lv_at hl 0 rfl) ?_
  refine cg_8_0 X hP k_63 dX7_append_11 ?_
  refine lv_aload_n hx hb dX7_append_14 rfl (lv_at hl 0 rfl) ?_
  refine cg_8_1 X hP k_64 dX7_append_15 ?_
  refine lv_aload_n hx hb dX7_append_18 rfl (lv_at hl 0 rfl) ?_
  refine cg_8_2 X hP k_65 dX7_append_19 ?_
  have hq := gd_some h; clear h; obtain ⟨c1, h⟩ := hq
  refine cb_3 X hP hD hS (vin_in c1 (by decide)) dX7_append_22 (fun H locs hP hD hS => ?_)
  refine lv_aload_n hx hb dX7_append_23 rfl (lv_at hl 0 rfl) ?_
  refine lv_dup hx hb dX7_append_24 rfl ?_
  refine cg_8_1 X hP k_64 dX7_append_25 ?_
  refine lv_iconst (v := (1 : Int32)) hx hb dX7_append_28 (by decide) ?_
  refine lv_iadd hx hb dX7_append_29 ?_
  refine cp_8_1 X hP hD hS k_64 dX7_append_30 (fun H locs hP hD hS => ?_)
  refine lv_aload_n hx hb dX7_append_33 rfl (lv_at hl 0 rfl) ?_
  refine cg_8_1 X hP k_64 dX7_append_34 ?_
  obtain ⟨rfl, rfl⟩ := Prod.mk.inj (Option.some.inj h)
  exact sw_iret X hP hD hS dX7_append_37
