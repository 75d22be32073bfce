theorem dX9_three_0 : decode cX9_three 0 = .ok (.iload_n 1, 1) := by decide +kernel
theorem dX9_three_1 : decode cX9_three 1 = .ok (.iconst 3, 1) := by decide +kernel
theorem dX9_three_2 : decode cX9_three 2 = .ok (.ishr, 1) := by decide +kernel
theorem dX9_three_3 : decode cX9_three 3 = .ok (.bipush 7, 2) := by decide +kernel
theorem dX9_three_5 : decode cX9_three 5 = .ok (.iand, 1) := by decide +kernel
theorem dX9_three_6 : decode cX9_three 6 = .ok (.istore_n 2, 1) := by decide +kernel
theorem dX9_three_7 : decode cX9_three 7 = .ok (.iload_n 1, 1) := by decide +kernel
theorem dX9_three_8 : decode cX9_three 8 = .ok (.bipush 7, 2) := by decide +kernel
theorem dX9_three_10 : decode cX9_three 10 = .ok (.iand, 1) := by decide +kernel
theorem dX9_three_11 : decode cX9_three 11 = .ok (.tableswitch 146 0 6 #[41, 70, 78, 106, 114, 126, 134], 41) := by decide +kernel
theorem dX9_three_52 : decode cX9_three 52 = .ok (.aload_n 0, 1) := by decide +kernel
theorem dX9_three_53 : decode cX9_three 53 = .ok (.aload_n 0, 1) := by decide +kernel
theorem dX9_three_54 : decode cX9_three 54 = .ok (.getfield 32, 3) := by decide +kernel
theorem dX9_three_57 : decode cX9_three 57 = .ok (.iconst 1, 1) := by decide +kernel
theorem dX9_three_58 : decode cX9_three 58 = .ok (.iadd, 1) := by decide +kernel
theorem dX9_three_59 : decode cX9_three 59 = .ok (.putfield 32, 3) := by decide +kernel
theorem dX9_three_62 : decode cX9_three 62 = .ok (.aload_n 0, 1) := by decide +kernel
theorem dX9_three_63 : decode cX9_three 63 = .ok (.iload_n 2, 1) := by decide +kernel
theorem dX9_three_64 : decode cX9_three 64 = .ok (.invokevirtual 129, 3) := by decide +kernel
theorem dX9_three_67 : decode cX9_three 67 = .ok (.ifCond .eq 116, 3) := by decide +kernel
theorem dX9_three_70 : decode cX9_three 70 = .ok (.aload_n 0, 1) := by decide +kernel
theorem dX9_three_71 : decode cX9_three 71 = .ok (.aload_n 0, 1) := by decide +kernel
theorem dX9_three_72 : decode cX9_three 72 = .ok (.invokevirtual 139, 3) := by decide +kernel
theorem dX9_three_75 : decode cX9_three 75 = .ok (.putfield 46, 3) := by decide +kernel
theorem dX9_three_78 : decode cX9_three 78 = .ok (.goto 105, 3) := by decide +kernel
theorem dX9_three_81 : decode cX9_three 81 = .ok (.aload_n 0, 1) := by decide +kernel
theorem dX9_three_82 : decode cX9_three 82 = .ok (.iload_n 2, 1) := by decide +kernel
theorem dX9_three_83 : decode cX9_three 83 = .ok (.invokevirtual 142, 3) := by decide +kernel
theorem dX9_three_86 : decode cX9_three 86 = .ok (.goto 97, 3) := by decide +kernel
theorem dX9_three_89 : decode cX9_three 89 = .ok (.aload_n 0, 1) := by decide +kernel
theorem dX9_three_90 : decode cX9_three 90 = .ok (.invokevirtual 110, 3) := by decide +kernel
theorem dX9_three_93 : decode cX9_three 93 = .ok (.istore_n 3, 1) := by decide +kernel
theorem dX9_three_94 : decode cX9_three 94 = .ok (.aload_n 0, 1) := by decide +kernel
theorem dX9_three_95 : decode cX9_three 95 = .ok (.aload_n 0, 1) := by decide +kernel
theorem dX9_three_96 : decode cX9_three 96 = .ok (.iload_n 2, 1) := by decide +kernel
theorem dX9_three_97 : decode cX9_three 97 = .ok (.invokevirtual 129, 3) := by decide +kernel
theorem dX9_three_100 : decode cX9_three 100 = .ok (.ifCond .eq 7, 3) := by decide +kernel
theorem dX9_three_103 : decode cX9_three 103 = .ok (.iload_n 3, 1) := by decide +kernel
theorem dX9_three_104 : decode cX9_three 104 = .ok (.goto 7, 3) := by decide +kernel
theorem dX9_three_107 : decode cX9_three 107 = .ok (.aload_n 0, 1) := by decide +kernel
theorem dX9_three_108 : decode cX9_three 108 = .ok (.getfield 46, 3) := by decide +kernel
theorem dX9_three_111 : decode cX9_three 111 = .ok (.putfield 46, 3) := by decide +kernel
theorem dX9_three_114 : decode cX9_three 114 = .ok (.goto 69, 3) := by decide +kernel
theorem dX9_three_117 : decode cX9_three 117 = .ok (.aload_n 0, 1) := by decide +kernel
theorem dX9_three_118 : decode cX9_three 118 = .ok (.iload_n 2, 1) := by decide +kernel
theorem dX9_three_119 : decode cX9_three 119 = .ok (.invokevirtual 145, 3) := by decide +kernel
theorem dX9_three_122 : decode cX9_three 122 = .ok (.goto 61, 3) := by decide +kernel
theorem dX9_three_125 : decode cX9_three 125 = .ok (.aload_n 0, 1) := by decide +kernel
theorem dX9_three_126 : decode cX9_three 126 = .ok (.aload_n 0, 1) := by decide +kernel
theorem dX9_three_127 : decode cX9_three 127 = .ok (.iload_n 2, 1) := by decide +kernel
theorem dX9_three_128 : decode cX9_three 128 = .ok (.invokevirtual 129, 3) := by decide +kernel
theorem dX9_three_131 : decode cX9_three 131 = .ok (.invokevirtual 148, 3) := by decide +kernel
theorem dX9_three_134 : decode cX9_three 134 = .ok (.goto 49, 3) := by decide +kernel
theorem dX9_three_137 : decode cX9_three 137 = .ok (.aload_n 0, 1) := by decide +kernel
theorem dX9_three_138 : decode cX9_three 138 = .ok (.iload_n 2, 1) := by decide +kernel
theorem dX9_three_139 : decode cX9_three 139 = .ok (.invokevirtual 152, 3) := by decide +kernel
theorem dX9_three_142 : decode cX9_three 142 = .ok (.goto 41, 3) := by decide +kernel
theorem dX9_three_145 : decode cX9_three 145 = .ok (.aload_n 0, 1) := by decide +kernel
theorem dX9_three_146 : decode cX9_three 146 = .ok (.iload_n 2, 1) := by decide +kernel
theorem dX9_three_147 : decode cX9_three 147 = .ok (.aload_n 0, 1) := by decide +kernel
theorem dX9_three_148 : decode cX9_three 148 = .ok (.invokevirtual 54, 3) := by decide +kernel
theorem dX9_three_151 : decode cX9_three 151 = .ok (.invokevirtual 155, 3) := by decide +kernel
theorem dX9_three_154 : decode cX9_three 154 = .ok (.goto 29, 3) := by decide +kernel
theorem dX9_three_157 : decode cX9_three 157 = .ok (.aload_n 0, 1) := by decide +kernel
theorem dX9_three_158 : decode cX9_three 158 = .ok (.aload_n 0, 1) := by decide +kernel
theorem dX9_three_159 : decode cX9_three 159 = .ok (.getfield 32, 3) := by decide +kernel
theorem dX9_three_162 : decode cX9_three 162 = .ok (.iconst 1, 1) := by decide +kernel
theorem dX9_three_163 : decode cX9_three 163 = .ok (.iadd, 1) := by decide +kernel
theorem dX9_three_164 : decode cX9_three 164 = .ok (.putfield 32, 3) := by decide +kernel
theorem dX9_three_167 : decode cX9_three 167 = .ok (.aload_n 0, 1) := by decide +kernel
theorem dX9_three_168 : decode cX9_three 168 = .ok (.aload_n 0, 1) := by decide +kernel
theorem dX9_three_169 : decode cX9_three 169 = .ok (.getfield 46, 3) := by decide +kernel
theorem dX9_three_172 : decode cX9_three 172 = .ok (.invokevirtual 158, 3) := by decide +kernel
theorem dX9_three_175 : decode cX9_three 175 = .ok (.aload_n 0, 1) := by decide +kernel
theorem dX9_three_176 : decode cX9_three 176 = .ok (.bipush 8, 2) := by decide +kernel
theorem dX9_three_178 : decode cX9_three 178 = .ok (.iload_n 2, 1) := by decide +kernel
theorem dX9_three_179 : decode cX9_three 179 = .ok (.imul, 1) := by decide +kernel
theorem dX9_three_180 : decode cX9_three 180 = .ok (.putfield 46, 3) := by decide +kernel
theorem dX9_three_183 : decode cX9_three 183 = .ok (.return_, 1) := by decide +kernel
def fX9_three (p1 : Int32) (s0 : zS) : Option (zS) := nm ((p1 >>> ((3 : Int32) &&& 31)) &&& (7 : Int32)) fun x1 => if (p1 &&& (7 : Int32)) ∈ ([(0 : Int32)] : List Int32) then (bd2 (fX9_holds x1 (st1 s0 3 ((s0.1 3) + (1 : Int32)))) fun r4 s5 => if r4 = (0 : Int32) then (some s5) else (bd2 (fX9_pop  s5) fun r8 s9 => some (st1 s9 2 r8))) else if (p1 &&& (7 : Int32)) ∈ ([(1 : Int32)] : List Int32) then (bd (fX9_back x1 s0) fun s12 => some s12) else if (p1 &&& (7 : Int32)) ∈ ([(2 : Int32)] : List Int32) then (bd2 (fX9_nextPair  s0) fun r15 s16 => bd2 (fX9_holds x1 s16) fun r18 s19 => bd (if r18 = (0 : Int32) then (some (s19.1 2)) else (some r15)) fun x22 => some (st1 s19 2 x22)) else if (p1 &&& (7 : Int32)) ∈ ([(3 : Int32)] : List Int32) then (bd (fX9_various x1 s0) fun s26 => some s26) else if (p1 &&& (7 : Int32)) ∈ ([(4 : Int32)] : List Int32) then (bd2 (fX9_holds x1 s0) fun r29 s30 => bd (fX9_callIf r29 s30) fun s32 => some s32) else if (p1 &&& (7 : Int32)) ∈ ([(5 : Int32)] : List Int32) then (bd (fX9_ahead x1 s0) fun s35 => some s35) else if (p1 &&& (7 : Int32)) ∈ ([(6 : Int32)] : List Int32) then (bd2 (fX9_next  s0) fun r38 s39 => bd (fX9_reckon x1 r38 s39) fun s41 => some s41) else (bd (fX9_push ((st1 s0 3 ((s0.1 3) + (1 : Int32))).1 2) (st1 s0 3 ((s0.1 3) + (1 : Int32)))) fun s43 => some (st1 s43 2 ((8 : Int32) * x1)))
set_option maxHeartbeats 4000000 in
set_option maxRecDepth 100000 in
theorem cX9_three_m {l : Launch} {dC : Nat → ClassId} {dI : Nat → Nat → Nat} {ad : Nat → Nat} {cI : ClassId} {p1 : Int32} {s0 : zS} {zs : zS} (h : fX9_three p1 s0 = some zs) : sw_Mv l yX9_three (sw_ws yX9_three cX9_three 4 none) (sw_rm 7 149) (dC, dI) vwCl [(cI, .int)] mF [.ref (ad 0), .int p1] (mW ad cI s0) (mW ad cI zs) := by
  intro sz
  refine sw_of (cc := cX9_three) (maxL := 4) (ret := none) (by decide) rfl (Nat.le_of_ble_eq_true rfl) ?_
  intro p e s m args below meth c A ls hAe hsz X _ hP hD hS hl
  rw [hAe]
  have hx := X.1.1
  have hb := X.1.2.1
  have hown := X.1.2.2.2.1
  have hts := X.1.2.2.2.2
  replace hl : lv_has ls 4 [(0, .ref (ad 0)), (1, .int p1)] := hl
  unfold fX9_three at h
  refine lv_iload_n hx hb dX9_three_0 rfl (lv_at hl 1 rfl) ?_
  refine lv_iconst (v := (3 : Int32)) hx hb dX9_three_1 (by decide) ?_
  refine lv_ishr hx hb dX9_three_2 ?_
  refine lv_bipush (v := (7 : Int32)) hx hb dX9_three_3 (by decide) ?_
  refine lv_iand hx hb dX9_three_5 ?_
  refine lv_topi (fun x1 ex1 => ?_)
  replace h := nm_use ex1 h
  refine lv_istore_n (lv' := [(2, .int x1), (0, .ref (ad 0)), (1, .int p1)]) hx hb dX9_three_6 rfl hl (by decide) rfl (fun ls hl => ?_)
  refine lv_iload_n hx hb dX9_three_7 rfl (lv_at hl 2 rfl) ?_
  refine lv_bipush (v := (7 : Int32)) hx hb dX9_three_8 (by decide) ?_
  refine lv_iand hx hb dX9_three_10 ?_
  by_cases c2 : (p1 &&& (7 : Int32)) ∈ ([(0 : Int32)] : List Int32)
  · replace h := if_yes h c2
    refine sw_tabK (tgt := 52) (off := 41) hx hb dX9_three_11 _ c2 (by decide +kernel) (by decide) ?_
    refine lv_aload_n hx hb dX9_three_52 rfl (lv_at hl 1 rfl) ?_
    refine lv_aload_n hx hb dX9_three_53 rfl (lv_at hl 1 rfl) ?_
    refine mg_0_6 X hP k_763 dX9_three_54 ?_
    refine lv_iconst (v := (1 : Int32)) hx hb dX9_three_57 (by decide) ?_
    refine lv_iadd hx hb dX9_three_58 ?_
    refine mp_0_6 X hP hD hS k_763 dX9_three_59 (fun H locs hP hD hS => ?_)
    refine lv_aload_n hx hb dX9_three_62 rfl (lv_at hl 1 rfl) ?_
    refine lv_iload_n hx hb dX9_three_63 rfl (lv_at hl 0 rfl) ?_
    have hq := bd2_some h; clear h; obtain ⟨r4, s5, h3, h⟩ := hq
    refine sw_vi (rest := []) m_good X (cX9_holds_m h3) calX9_holds k_874 hP hD hS 0 9 rfl rfl rfl ⟨rfl, rfl⟩ rfl hl.1 rfl (Nat.le_of_ble_eq_true rfl) dX9_three_64 (fun H locs hP hD hS => ?_)
    refine lv_if_eq (tgt := 183) hx hb dX9_three_67 (by decide) (fun c6 => ?_) (fun c6 => ?_)
    · replace h := if_yes h c6
      obtain rfl := Option.some.inj h
      exact sw_vret X hP hD hS dX9_three_183
    · replace h := if_no h c6
      refine lv_aload_n hx hb dX9_three_70 rfl (lv_at hl 1 rfl) ?_
      refine lv_aload_n hx hb dX9_three_71 rfl (lv_at hl 1 rfl) ?_
      have hq := bd2_some h; clear h; obtain ⟨r8, s9, h7, h⟩ := hq
      refine sw_vi (rest := [.ref (ad 0)]) m_good X (cX9_pop_m h7) calX9_pop k_964 hP hD hS 0 9 rfl rfl rfl ⟨rfl, rfl⟩ rfl hl.1 rfl (Nat.le_of_ble_eq_true rfl) dX9_three_72 (fun H locs hP hD hS => ?_)
      refine mp_0_5 X hP hD hS k_762 dX9_three_75 (fun H locs hP hD hS => ?_)
      refine lv_goto (tgt := 183) hx hb dX9_three_78 (by decide) ?_
      obtain rfl := Option.some.inj h
      exact sw_vret X hP hD hS dX9_three_183
  · replace h := if_no h c2
    by_cases c10 : (p1 &&& (7 : Int32)) ∈ ([(1 : Int32)] : List Int32)
    · replace h := if_yes h c10
      refine sw_tabK (tgt := 81) (off := 70) hx hb dX9_three_11 _ c10 (by decide +kernel) (by decide) ?_
      refine lv_aload_n hx hb dX9_three_81 rfl (lv_at hl 1 rfl) ?_
      refine lv_iload_n hx hb dX9_three_82 rfl (lv_at hl 0 rfl) ?_
      have hq := bd_some h; clear h; obtain ⟨s12, h11, h⟩ := hq
      refine sw_vv (rest := []) m_good X (cX9_back_m h11) calX9_back k_972 hP hD hS 0 9 rfl rfl rfl ⟨rfl, rfl⟩ rfl hl.1 rfl (Nat.le_of_ble_eq_true rfl) dX9_three_83 (fun H locs hP hD hS => ?_)
      refine lv_goto (tgt := 183) hx hb dX9_three_86 (by decide) ?_
      obtain rfl := Option.some.inj h
      exact sw_vret X hP hD hS dX9_three_183
    · replace h := if_no h c10
      by_cases c13 : (p1 &&& (7 : Int32)) ∈ ([(2 : Int32)] : List Int32)
      · replace h := if_yes h c13
        refine sw_tabK (tgt := 89) (off := 78) hx hb dX9_three_11 _ c13 (by decide +kernel) (by decide) ?_
        refine lv_aload_n hx hb dX9_three_89 rfl (lv_at hl 1 rfl) ?_
        have hq := bd2_some h; clear h; obtain ⟨r15, s16, h14, h⟩ := hq
        refine sw_vi (rest := []) m_good X (cX9_nextPair_m h14) calX9_nextPair k_886 hP hD hS 0 9 rfl rfl rfl ⟨rfl, rfl⟩ rfl hl.1 rfl (Nat.le_of_ble_eq_true rfl) dX9_three_90 (fun H locs hP hD hS => ?_)
        refine lv_istore_n (lv' := [(3, .int r15), (2, .int x1), (0, .ref (ad 0)), (1, .int p1)]) hx hb dX9_three_93 rfl hl (by decide) rfl (fun ls hl => ?_)
        refine lv_aload_n hx hb dX9_three_94 rfl (lv_at hl 2 rfl) ?_
        refine lv_aload_n hx hb dX9_three_95 rfl (lv_at hl 2 rfl) ?_
        refine lv_iload_n hx hb dX9_three_96 rfl (lv_at hl 1 rfl) ?_
        have hq := bd2_some h; clear h; obtain ⟨r18, s19, h17, h⟩ := hq
        refine sw_vi (rest := [.ref (ad 0)]) m_good X (cX9_holds_m h17) calX9_holds k_874 hP hD hS 0 9 rfl rfl rfl ⟨rfl, rfl⟩ rfl hl.1 rfl (Nat.le_of_ble_eq_true rfl) dX9_three_97 (fun H locs hP hD hS => ?_)
        have hq := bd_some h; clear h; obtain ⟨x22, h23, h⟩ := hq
        have K20 : ∀ (H : Heap) (locs : List Loc), va_P (dC, dI) vwCl (mW ad cI s19) H → va_D A (mW ad cI s19) → va_S A s.heap H locs → W p l e (sw_rm 7 149) s m args below meth c H locs 0 0 (MQ below (sw_Qv (dC, dI) vwCl [(cI, .int)] A (mW ad cI zs)) args s 0 0 A) (F0 m 111 ls [.int x22, .ref (ad 0)]) := by
          intro H locs hP hD hS
          refine mp_0_5 X hP hD hS k_762 dX9_three_111 (fun H locs hP hD hS => ?_)
          refine lv_goto (tgt := 183) hx hb dX9_three_114 (by decide) ?_
          obtain rfl := Option.some.inj h
          exact sw_vret X hP hD hS dX9_three_183
        replace h := h23
        clear h23
        refine lv_if_eq (tgt := 107) hx hb dX9_three_100 (by decide) (fun c21 => ?_) (fun c21 => ?_)
        · replace h := if_yes h c21
          refine lv_aload_n hx hb dX9_three_107 rfl (lv_at hl 2 rfl) ?_
          refine mg_0_5 X hP k_762 dX9_three_108 ?_
          obtain rfl := Option.some.inj h
          exact K20 _ _ hP hD hS
        · replace h := if_no h c21
          refine lv_iload_n hx hb dX9_three_103 rfl (lv_at hl 0 rfl) ?_
          refine lv_goto (tgt := 111) hx hb dX9_three_104 (by decide) ?_
          obtain rfl := Option.some.inj h
          exact K20 _ _ hP hD hS
      · replace h := if_no h c13
        by_cases c24 : (p1 &&& (7 : Int32)) ∈ ([(3 : Int32)] : List Int32)
        · replace h := if_yes h c24
          refine sw_tabK (tgt := 117) (off := 106) hx hb dX9_three_11 _ c24 (by decide +kernel) (by decide) ?_
          refine lv_aload_n hx hb dX9_three_117 rfl (lv_at hl 1 rfl) ?_
          refine lv_iload_n hx hb dX9_three_118 rfl (lv_at hl 0 rfl) ?_
          have hq := bd_some h; clear h; obtain ⟨s26, h25, h⟩ := hq
          refine sw_vv (rest := []) m_good X (cX9_various_m h25) calX9_various k_976 hP hD hS 0 9 rfl rfl rfl ⟨rfl, rfl⟩ rfl hl.1 rfl (Nat.le_of_ble_eq_true rfl) dX9_three_119 (fun H locs hP hD hS => ?_)
          refine lv_goto (tgt := 183) hx hb dX9_three_122 (by decide) ?_
          obtain rfl := Option.some.inj h
          exact sw_vret X hP hD hS dX9_three_183
        · replace h := if_no h c24
          by_cases c27 : (p1 &&& (7 : Int32)) ∈ ([(4 : Int32)] : List Int32)
          · replace h := if_yes h c27
            refine sw_tabK (tgt := 125) (off := 114) hx hb dX9_three_11 _ c27 (by decide +kernel) (by decide) ?_
            refine lv_aload_n hx hb dX9_three_125 rfl (lv_at hl 1 rfl) ?_
            refine lv_aload_n hx hb dX9_three_126 rfl (lv_at hl 1 rfl) ?_
            refine lv_iload_n hx hb dX9_three_127 rfl (lv_at hl 0 rfl) ?_
            have hq := bd2_some h; clear h; obtain ⟨r29, s30, h28, h⟩ := hq
            refine sw_vi (rest := [.ref (ad 0)]) m_good X (cX9_holds_m h28) calX9_holds k_874 hP hD hS 0 9 rfl rfl rfl ⟨rfl, rfl⟩ rfl hl.1 rfl (Nat.le_of_ble_eq_true rfl) dX9_three_128 (fun H locs hP hD hS => ?_)
            have hq := bd_some h; clear h; obtain ⟨s32, h31, h⟩ := hq
            refine sw_vv (rest := []) m_good X (cX9_callIf_m h31) calX9_callIf k_996 hP hD hS 0 9 rfl rfl rfl ⟨rfl, rfl⟩ rfl hl.1 rfl (Nat.le_of_ble_eq_true rfl) dX9_three_131 (fun H locs hP hD hS => ?_)
            refine lv_goto (tgt := 183) hx hb dX9_three_134 (by decide) ?_
            obtain rfl := Option.some.inj h
            exact sw_vret X hP hD hS dX9_three_183
          · replace h := if_no h c27
            by_cases c33 : (p1 &&& (7 : Int32)) ∈ ([(5 : Int32)] : List Int32)
            · replace h := if_yes h c33
              refine sw_tabK (tgt := 137) (off := 126) hx hb dX9_three_11 _ c33 (by decide +kernel) (by decide) ?_
              refine lv_aload_n hx hb dX9_three_137 rfl (lv_at hl 1 rfl) ?_
              refine lv_iload_n hx hb dX9_three_138 rfl (lv_at hl 0 rfl) ?_
              have hq := bd_some h; clear h; obtain ⟨s35, h34, h⟩ := hq
              refine sw_vv (rest := []) m_good X (cX9_ahead_m h34) calX9_ahead k_1000 hP hD hS 0 9 rfl rfl rfl ⟨rfl, rfl⟩ rfl hl.1 rfl (Nat.le_of_ble_eq_true rfl) dX9_three_139 (fun H locs hP hD hS => ?_)
              refine lv_goto (tgt := 183) hx hb dX9_three_142 (by decide) ?_
              obtain rfl := Option.some.inj h
              exact sw_vret X hP hD hS dX9_three_183
            · replace h := if_no h c33
              by_cases c36 : (p1 &&& (7 : Int32)) ∈ ([(6 : Int32)] : List Int32)
              · replace h := if_yes h c36
                refine sw_tabK (tgt := 145) (off := 134) hx hb dX9_three_11 _ c36 (by decide +kernel) (by decide) ?_
                refine lv_aload_n hx hb dX9_three_145 rfl (lv_at hl 1 rfl) ?_
                refine lv_iload_n hx hb dX9_three_146 rfl (lv_at hl 0 rfl) ?_
                refine lv_aload_n hx hb dX9_three_147 rfl (lv_at hl 1 rfl) ?_
                have hq := bd2_some h; clear h; obtain ⟨r38, s39, h37, h⟩ := hq
                refine sw_vi (rest := [.int x1, .ref (ad 0)]) m_good X (cX9_next_m h37) calX9_next k_878 hP hD hS 0 9 rfl rfl rfl ⟨rfl, rfl⟩ rfl hl.1 rfl (Nat.le_of_ble_eq_true rfl) dX9_three_148 (fun H locs hP hD hS => ?_)
                have hq := bd_some h; clear h; obtain ⟨s41, h40, h⟩ := hq
                refine sw_vv (rest := []) m_good X (cX9_reckon_m h40) calX9_reckon k_956 hP hD hS 0 9 rfl rfl rfl ⟨rfl, rfl⟩ rfl hl.1 rfl (Nat.le_of_ble_eq_true rfl) dX9_three_151 (fun H locs hP hD hS => ?_)
                refine lv_goto (tgt := 183) hx hb dX9_three_154 (by decide) ?_
                obtain rfl := Option.some.inj h
                exact sw_vret X hP hD hS dX9_three_183
              · replace h := if_no h c36
                refine sw_tabD (tgt := 157) hx hb dX9_three_11 (([(0 : Int32)] : List Int32) ++ (([(1 : Int32)] : List Int32) ++ (([(2 : Int32)] : List Int32) ++ (([(3 : Int32)] : List Int32) ++ (([(4 : Int32)] : List Int32) ++ (([(5 : Int32)] : List Int32) ++ ([(6 : Int32)] : List Int32))))))) (fun hm => (List.mem_append.mp hm).elim c2 (fun hm => (List.mem_append.mp hm).elim c10 (fun hm => (List.mem_append.mp hm).elim c13 (fun hm => (List.mem_append.mp hm).elim c24 (fun hm => (List.mem_append.mp hm).elim c27 (fun hm => (List.mem_append.mp hm).elim c33 c36)))))) (by decide +kernel) (by decide) ?_
                refine lv_aload_n hx hb dX9_three_157 rfl (lv_at hl 1 rfl) ?_
                refine lv_aload_n hx hb dX9_three_158 rfl (lv_at hl 1 rfl) ?_
                refine mg_0_6 X hP k_763 dX9_three_159 ?_
                refine lv_iconst (v := (1 : Int32)) hx hb dX9_three_162 (by decide) ?_
                refine lv_iadd hx hb dX9_three_163 ?_
                refine mp_0_6 X hP hD hS k_763 dX9_three_164 (fun H locs hP hD hS => ?_)
                refine lv_aload_n hx hb dX9_three_167 rfl (lv_at hl 1 rfl) ?_
                refine lv_aload_n hx hb dX9_three_168 rfl (lv_at hl 1 rfl) ?_
                refine mg_0_5 X hP k_762 dX9_three_169 ?_
                have hq := bd_some h; clear h; obtain ⟨s43, h42, h⟩ := hq
                refine sw_vv (rest := []) m_good X (cX9_push_m h42) calX9_push k_837 hP hD hS 0 9 rfl rfl rfl ⟨rfl, rfl⟩ rfl hl.1 rfl (Nat.le_of_ble_eq_true rfl) dX9_three_172 (fun H locs hP hD hS => ?_)
                refine lv_aload_n hx hb dX9_three_175 rfl (lv_at hl 1 rfl) ?_
                refine lv_bipush (v := (8 : Int32)) hx hb dX9_three_176 (by decide) ?_
                refine lv_iload_n hx hb dX9_three_178 rfl (lv_at hl 0 rfl) ?_
                refine lv_imul hx hb dX9_three_179 ?_
                refine mp_0_5 X hP hD hS k_762 dX9_three_180 (fun H locs hP hD hS => ?_)
                obtain rfl := Option.some.inj h
                exact sw_vret X hP hD hS dX9_three_183
theorem dX9_instruction_0 : decode cX9_instruction 0 = .ok (.aload_n 0, 1) := by decide +kernel
theorem dX9_instruction_1 : decode cX9_instruction 1 = .ok (.getfield 32, 3) := by decide +kernel
theorem dX9_instruction_4 : decode cX9_instruction 4 = .ok (.istore_n 1, 1) := by decide +kernel
theorem dX9_instruction_5 : decode cX9_instruction 5 = .ok (.aload_n 0, 1) := by decide +kernel
theorem dX9_instruction_6 : decode cX9_instruction 6 = .ok (.getfield 46, 3) := by decide +kernel
theorem dX9_instruction_9 : decode cX9_instruction 9 = .ok (.istore_n 2, 1) := by decide +kernel
theorem dX9_instruction_10 : decode cX9_instruction 10 = .ok (.aload_n 0, 1) := by decide +kernel
theorem dX9_instruction_11 : decode cX9_instruction 11 = .ok (.iconst 0, 1) := by decide +kernel
theorem dX9_instruction_12 : decode cX9_instruction 12 = .ok (.putfield 97, 3) := by decide +kernel
theorem dX9_instruction_15 : decode cX9_instruction 15 = .ok (.aload_n 0, 1) := by decide +kernel
theorem dX9_instruction_16 : decode cX9_instruction 16 = .ok (.getfield 203, 3) := by decide +kernel
theorem dX9_instruction_19 : decode cX9_instruction 19 = .ok (.ifCond .eq 29, 3) := by decide +kernel
theorem dX9_instruction_22 : decode cX9_instruction 22 = .ok (.aload_n 0, 1) := by decide +kernel
theorem dX9_instruction_23 : decode cX9_instruction 23 = .ok (.aload_n 0, 1) := by decide +kernel
theorem dX9_instruction_24 : decode cX9_instruction 24 = .ok (.getfield 32, 3) := by decide +kernel
theorem dX9_instruction_27 : decode cX9_instruction 27 = .ok (.iconst 4, 1) := by decide +kernel
theorem dX9_instruction_28 : decode cX9_instruction 28 = .ok (.iadd, 1) := by decide +kernel
theorem dX9_instruction_29 : decode cX9_instruction 29 = .ok (.putfield 32, 3) := by decide +kernel
theorem dX9_instruction_32 : decode cX9_instruction 32 = .ok (.aload_n 0, 1) := by decide +kernel
theorem dX9_instruction_33 : decode cX9_instruction 33 = .ok (.dup, 1) := by decide +kernel
theorem dX9_instruction_34 : decode cX9_instruction 34 = .ok (.getfield 206, 3) := by decide +kernel
theorem dX9_instruction_37 : decode cX9_instruction 37 = .ok (.iconst 1, 1) := by decide +kernel
theorem dX9_instruction_38 : decode cX9_instruction 38 = .ok (.iadd, 1) := by decide +kernel
theorem dX9_instruction_39 : decode cX9_instruction 39 = .ok (.putfield 206, 3) := by decide +kernel
theorem dX9_instruction_42 : decode cX9_instruction 42 = .ok (.aload_n 0, 1) := by decide +kernel
theorem dX9_instruction_43 : decode cX9_instruction 43 = .ok (.iconst 0, 1) := by decide +kernel
theorem dX9_instruction_44 : decode cX9_instruction 44 = .ok (.putfield 179, 3) := by decide +kernel
theorem dX9_instruction_47 : decode cX9_instruction 47 = .ok (.return_, 1) := by decide +kernel
theorem dX9_instruction_48 : decode cX9_instruction 48 = .ok (.aload_n 0, 1) := by decide +kernel
theorem dX9_instruction_49 : decode cX9_instruction 49 = .ok (.getfield 179, 3) := by decide +kernel
theorem dX9_instruction_52 : decode cX9_instruction 52 = .ok (.istore_n 3, 1) := by decide +kernel
theorem dX9_instruction_53 : decode cX9_instruction 53 = .ok (.aload_n 0, 1) := by decide +kernel
theorem dX9_instruction_54 : decode cX9_instruction 54 = .ok (.iconst 0, 1) := by decide +kernel
theorem dX9_instruction_55 : decode cX9_instruction 55 = .ok (.putfield 179, 3) := by decide +kernel
theorem dX9_instruction_58 : decode cX9_instruction 58 = .ok (.aload_n 0, 1) := by decide +kernel
theorem dX9_instruction_59 : decode cX9_instruction 59 = .ok (.invokevirtual 161, 3) := by decide +kernel
theorem dX9_instruction_62 : decode cX9_instruction 62 = .ok (.istore 4, 2) := by decide +kernel
theorem dX9_instruction_64 : decode cX9_instruction 64 = .ok (.iload 4, 2) := by decide +kernel
theorem dX9_instruction_66 : decode cX9_instruction 66 = .ok (.bipush 6, 2) := by decide +kernel
theorem dX9_instruction_68 : decode cX9_instruction 68 = .ok (.ishr, 1) := by decide +kernel
theorem dX9_instruction_69 : decode cX9_instruction 69 = .ok (.tableswitch 97 0 2 #[27, 36, 74], 27) := by decide +kernel
theorem dX9_instruction_96 : decode cX9_instruction 96 = .ok (.aload_n 0, 1) := by decide +kernel
theorem dX9_instruction_97 : decode cX9_instruction 97 = .ok (.iload 4, 2) := by decide +kernel
theorem dX9_instruction_99 : decode cX9_instruction 99 = .ok (.invokevirtual 209, 3) := by decide +kernel
theorem dX9_instruction_102 : decode cX9_instruction 102 = .ok (.goto 70, 3) := by decide +kernel
theorem dX9_instruction_105 : decode cX9_instruction 105 = .ok (.iload 4, 2) := by decide +kernel
theorem dX9_instruction_107 : decode cX9_instruction 107 = .ok (.bipush 118, 2) := by decide +kernel
theorem dX9_instruction_109 : decode cX9_instruction 109 = .ok (.if_icmp .ne 11, 3) := by decide +kernel
theorem dX9_instruction_112 : decode cX9_instruction 112 = .ok (.aload_n 0, 1) := by decide +kernel
theorem dX9_instruction_113 : decode cX9_instruction 113 = .ok (.iconst 1, 1) := by decide +kernel
theorem dX9_instruction_114 : decode cX9_instruction 114 = .ok (.putfield 203, 3) := by decide +kernel
theorem dX9_instruction_117 : decode cX9_instruction 117 = .ok (.goto 55, 3) := by decide +kernel
theorem dX9_instruction_120 : decode cX9_instruction 120 = .ok (.aload_n 0, 1) := by decide +kernel
theorem dX9_instruction_121 : decode cX9_instruction 121 = .ok (.iload 4, 2) := by decide +kernel
theorem dX9_instruction_123 : decode cX9_instruction 123 = .ok (.iconst 3, 1) := by decide +kernel
theorem dX9_instruction_124 : decode cX9_instruction 124 = .ok (.ishr, 1) := by decide +kernel
theorem dX9_instruction_125 : decode cX9_instruction 125 = .ok (.bipush 7, 2) := by decide +kernel
theorem dX9_instruction_127 : decode cX9_instruction 127 = .ok (.iand, 1) := by decide +kernel
theorem dX9_instruction_128 : decode cX9_instruction 128 = .ok (.aload_n 0, 1) := by decide +kernel
theorem dX9_instruction_129 : decode cX9_instruction 129 = .ok (.iload 4, 2) := by decide +kernel
theorem dX9_instruction_131 : decode cX9_instruction 131 = .ok (.bipush 7, 2) := by decide +kernel
theorem dX9_instruction_133 : decode cX9_instruction 133 = .ok (.iand, 1) := by decide +kernel
theorem dX9_instruction_134 : decode cX9_instruction 134 = .ok (.invokevirtual 101, 3) := by decide +kernel
theorem dX9_instruction_137 : decode cX9_instruction 137 = .ok (.invokevirtual 104, 3) := by decide +kernel
theorem dX9_instruction_140 : decode cX9_instruction 140 = .ok (.goto 32, 3) := by decide +kernel
theorem dX9_instruction_143 : decode cX9_instruction 143 = .ok (.aload_n 0, 1) := by decide +kernel
theorem dX9_instruction_144 : decode cX9_instruction 144 = .ok (.iload 4, 2) := by decide +kernel
theorem dX9_instruction_146 : decode cX9_instruction 146 = .ok (.iconst 3, 1) := by decide +kernel
theorem dX9_instruction_147 : decode cX9_instruction 147 = .ok (.ishr, 1) := by decide +kernel
theorem dX9_instruction_148 : decode cX9_instruction 148 = .ok (.bipush 7, 2) := by decide +kernel
theorem dX9_instruction_150 : decode cX9_instruction 150 = .ok (.iand, 1) := by decide +kernel
theorem dX9_instruction_151 : decode cX9_instruction 151 = .ok (.aload_n 0, 1) := by decide +kernel
theorem dX9_instruction_152 : decode cX9_instruction 152 = .ok (.iload 4, 2) := by decide +kernel
theorem dX9_instruction_154 : decode cX9_instruction 154 = .ok (.bipush 7, 2) := by decide +kernel
theorem dX9_instruction_156 : decode cX9_instruction 156 = .ok (.iand, 1) := by decide +kernel
theorem dX9_instruction_157 : decode cX9_instruction 157 = .ok (.invokevirtual 101, 3) := by decide +kernel
theorem dX9_instruction_160 : decode cX9_instruction 160 = .ok (.invokevirtual 155, 3) := by decide +kernel
theorem dX9_instruction_163 : decode cX9_instruction 163 = .ok (.goto 9, 3) := by decide +kernel
theorem dX9_instruction_166 : decode cX9_instruction 166 = .ok (.aload_n 0, 1) := by decide +kernel
theorem dX9_instruction_167 : decode cX9_instruction 167 = .ok (.iload 4, 2) := by decide +kernel
theorem dX9_instruction_169 : decode cX9_instruction 169 = .ok (.invokevirtual 212, 3) := by decide +kernel
theorem dX9_instruction_172 : decode cX9_instruction 172 = .ok (.aload_n 0, 1) := by decide +kernel
theorem dX9_instruction_173 : decode cX9_instruction 173 = .ok (.getfield 97, 3) := by decide +kernel
theorem dX9_instruction_176 : decode cX9_instruction 176 = .ok (.ifCond .eq 21, 3) := by decide +kernel
theorem dX9_instruction_179 : decode cX9_instruction 179 = .ok (.aload_n 0, 1) := by decide +kernel
theorem dX9_instruction_180 : decode cX9_instruction 180 = .ok (.iload_n 1, 1) := by decide +kernel
theorem dX9_instruction_181 : decode cX9_instruction 181 = .ok (.putfield 32, 3) := by decide +kernel
theorem dX9_instruction_184 : decode cX9_instruction 184 = .ok (.aload_n 0, 1) := by decide +kernel
theorem dX9_instruction_185 : decode cX9_instruction 185 = .ok (.iload_n 2, 1) := by decide +kernel
theorem dX9_instruction_186 : decode cX9_instruction 186 = .ok (.putfield 46, 3) := by decide +kernel
theorem dX9_instruction_189 : decode cX9_instruction 189 = .ok (.aload_n 0, 1) := by decide +kernel
theorem dX9_instruction_190 : decode cX9_instruction 190 = .ok (.iload_n 3, 1) := by decide +kernel
theorem dX9_instruction_191 : decode cX9_instruction 191 = .ok (.putfield 179, 3) := by decide +kernel
theorem dX9_instruction_194 : decode cX9_instruction 194 = .ok (.goto 13, 3) := by decide +kernel
theorem dX9_instruction_197 : decode cX9_instruction 197 = .ok (.aload_n 0, 1) := by decide +kernel
theorem dX9_instruction_198 : decode cX9_instruction 198 = .ok (.dup, 1) := by decide +kernel
theorem dX9_instruction_199 : decode cX9_instruction 199 = .ok (.getfield 206, 3) := by decide +kernel
theorem dX9_instruction_202 : decode cX9_instruction 202 = .ok (.iconst 1, 1) := by decide +kernel
theorem dX9_instruction_203 : decode cX9_instruction 203 = .ok (.iadd, 1) := by decide +kernel
theorem dX9_instruction_204 : decode cX9_instruction 204 = .ok (.putfield 206, 3) := by decide +kernel
theorem dX9_instruction_207 : decode cX9_instruction 207 = .ok (.return_, 1) := by decide +kernel
def fX9_instruction (s0 : zS) : Option (zS) := nm (s0.1 3) fun x1 => nm (s0.1 2) fun x2 => if ((st1 s0 7 (0 : Int32)).1 4) = (0 : Int32) then (nm ((st1 s0 7 (0 : Int32)).1 6) fun x4 => bd2 (fX9_fetch  (st1 (st1 s0 7 (0 : Int32)) 6 (0 : Int32))) fun r6 s7 => if (r6 >>> ((6 : Int32) &&& 31)) ∈ ([(0 : Int32)] : List Int32) then (bd (fX9_one r6 s7) fun s10 => if (s10.1 7) = (0 : Int32) then (some (st1 s10 9 ((s10.1 9) + (1 : Int32)))) else (gd (x4 = 0 ∨ x4 = 1) <| some (st1 (st1 (st1 s10 3 x1) 2 x2) 6 x4))) else if (r6 >>> ((6 : Int32) &&& 31)) ∈ ([(1 : Int32)] : List Int32) then (if r6 = (118 : Int32) then (if ((st1 s7 4 (1 : Int32)).1 7) = (0 : Int32) then (some (st1 (st1 s7 4 (1 : Int32)) 9 (((st1 s7 4 (1 : Int32)).1 9) + (1 : Int32)))) else (gd (x4 = 0 ∨ x4 = 1) <| some (st1 (st1 (st1 (st1 s7 4 (1 : Int32)) 3 x1) 2 x2) 6 x4))) else (bd2 (fX9_operand (r6 &&& (7 : Int32)) s7) fun r16 s17 => bd (fX9_setOperand ((r6 >>> ((3 : Int32) &&& 31)) &&& (7 : Int32)) r16 s17) fun s19 => if (s19.1 7) = (0 : Int32) then (some (st1 s19 9 ((s19.1 9) + (1 : Int32)))) else (gd (x4 = 0 ∨ x4 = 1) <| some (st1 (st1 (st1 s19 3 x1) 2 x2) 6 x4)))) else if (r6 >>> ((6 : Int32) &&& 31)) ∈ ([(2 : Int32)] : List Int32) then (bd2 (fX9_operand (r6 &&& (7 : Int32)) s7) fun r26 s27 => bd (fX9_reckon ((r6 >>> ((3 : Int32) &&& 31)) &&& (7 : Int32)) r26 s27) fun s29 => if (s29.1 7) = (0 : Int32) then (some (st1 s29 9 ((s29.1 9) + (1 : Int32)))) else (gd (x4 = 0 ∨ x4 = 1) <| some (st1 (st1 (st1 s29 3 x1) 2 x2) 6 x4))) else (bd (fX9_three r6 s7) fun s33 => if (s33.1 7) = (0 : Int32) then (some (st1 s33 9 ((s33.1 9) + (1 : Int32)))) else (gd (x4 = 0 ∨ x4 = 1) <| some (st1 (st1 (st1 s33 3 x1) 2 x2) 6 x4)))) else (some (st1 (st1 (st1 (st1 s0 7 (0 : Int32)) 3 (((st1 s0 7 (0 : Int32)).1 3) + (4 : Int32))) 9 (((st1 (st1 s0 7 (0 : Int32)) 3 (((st1 s0 7 (0 : Int32)).1 3) + (4 : Int32))).1 9) + (1 : Int32))) 6 (0 : Int32)))
set_option maxHeartbeats 4000000 in
set_option maxRecDepth 100000 in
theorem cX9_instruction_m {l : Launch} {dC : Nat → ClassId} {dI : Nat → Nat → Nat} {ad : Nat → Nat} {cI : ClassId} {s0 : zS} {zs : zS} (h : fX9_instruction  s0 = some zs) : sw_Mv l yX9_instruction (sw_ws yX9_instruction cX9_instruction 5 none) (sw_rm 8 172) (dC, dI) vwCl [(cI, .int)] mF [.ref (ad 0)] (mW ad cI s0) (mW ad cI zs) := by
  intro sz
  refine sw_of (cc := cX9_instruction) (maxL := 5) (ret := none) (by decide) rfl (Nat.le_of_ble_eq_true rfl) ?_
  intro p e s m args below meth c A ls hAe hsz X _ hP hD hS hl
  rw [hAe]
  have hx := X.1.1
  have hb := X.1.2.1
  have hown := X.1.2.2.2.1
  have hts := X.1.2.2.2.2
  replace hl : lv_has ls 5 [(0, .ref (ad 0))] := hl
  unfold fX9_instruction at h
  refine lv_aload_n hx hb dX9_instruction_0 rfl (lv_at hl 0 rfl) ?_
  refine mg_0_6 X hP k_763 dX9_instruction_1 ?_
  refine lv_topi (fun x1 ex1 => ?_)
  replace h := nm_use ex1 h
  refine lv_istore_n (lv' := [(1, .int x1), (0, .ref (ad 0))]) hx hb dX9_instruction_4 rfl hl (by decide) rfl (fun ls hl => ?_)
  refine lv_aload_n hx hb dX9_instruction_5 rfl (lv_at hl 1 rfl) ?_
  refine mg_0_5 X hP k_762 dX9_instruction_6 ?_
  refine lv_topi (fun x2 ex2 => ?_)
  replace h := nm_use ex2 h
  refine lv_istore_n (lv' := [(2, .int x2), (1, .int x1), (0, .ref (ad 0))]) hx hb dX9_instruction_9 rfl hl (by decide) rfl (fun ls hl => ?_)
  refine lv_aload_n hx hb dX9_instruction_10 rfl (lv_at hl 2 rfl) ?_
  refine lv_iconst (v := (0 : Int32)) hx hb dX9_instruction_11 (by decide) ?_
  refine mp_0_10 X hP hD hS k_767 (by decide) dX9_instruction_12 (fun H locs hP hD hS => ?_)
  refine lv_aload_n hx hb dX9_instruction_15 rfl (lv_at hl 2 rfl) ?_
  refine mg_0_7 X hP k_764 dX9_instruction_16 ?_
  refine lv_if_eq (tgt := 48) hx hb dX9_instruction_19 (by decide) (fun c3 => ?_) (fun c3 => ?_)
  · replace h := if_yes h c3
    refine lv_aload_n hx hb dX9_instruction_48 rfl (lv_at hl 2 rfl) ?_
    refine mg_0_9 X hP k_766 dX9_instruction_49 ?_
    refine lv_topi (fun x4 ex4 => ?_)
    replace h := nm_use ex4 h
    refine lv_istore_n (lv' := [(3, .int x4), (2, .int x2), (1, .int x1), (0, .ref (ad 0))]) hx hb dX9_instruction_52 rfl hl (by decide) rfl (fun ls hl => ?_)
    refine lv_aload_n hx hb dX9_instruction_53 rfl (lv_at hl 3 rfl) ?_
    refine lv_iconst (v := (0 : Int32)) hx hb dX9_instruction_54 (by decide) ?_
    refine mp_0_9 X hP hD hS k_766 (by decide) dX9_instruction_55 (fun H locs hP hD hS => ?_)
    refine lv_aload_n hx hb dX9_instruction_58 rfl (lv_at hl 3 rfl) ?_
    have hq := bd2_some h; clear h; obtain ⟨r6, s7, h5, h⟩ := hq
    refine sw_vi (rest := []) m_good X (cX9_fetch_m h5) calX9_fetch k_858 hP hD hS 0 9 rfl rfl rfl ⟨rfl, rfl⟩ rfl hl.1 rfl (Nat.le_of_ble_eq_true rfl) dX9_instruction_59 (fun H locs hP hD hS => ?_)
    refine lv_istore (lv' := [(4, .int r6), (3, .int x4), (2, .int x2), (1, .int x1), (0, .ref (ad 0))]) hx hb dX9_instruction_62 hl (by decide) rfl (fun ls hl => ?_)
    refine lv_iload hx hb dX9_instruction_64 (lv_at hl 0 rfl) ?_
    refine lv_bipush (v := (6 : Int32)) hx hb dX9_instruction_66 (by decide) ?_
    refine lv_ishr hx hb dX9_instruction_68 ?_
    by_cases c8 : (r6 >>> ((6 : Int32) &&& 31)) ∈ ([(0 : Int32)] : List Int32)
    · replace h := if_yes h c8
      refine sw_tabK (tgt := 96) (off := 27) hx hb dX9_instruction_69 _ c8 (by decide +kernel) (by decide) ?_
      refine lv_aload_n hx hb dX9_instruction_96 rfl (lv_at hl 4 rfl) ?_
      refine lv_iload hx hb dX9_instruction_97 (lv_at hl 0 rfl) ?_
      have hq := bd_some h; clear h; obtain ⟨s10, h9, h⟩ := hq
      refine sw_vv (rest := []) m_good X (cX9_one_m h9) calX9_one k_862 hP hD hS 0 9 rfl rfl rfl ⟨rfl, rfl⟩ rfl hl.1 rfl (Nat.le_of_ble_eq_true rfl) dX9_instruction_99 (fun H locs hP hD hS => ?_)
      refine lv_goto (tgt := 172) hx hb dX9_instruction_102 (by decide) ?_
      refine lv_aload_n hx hb dX9_instruction_172 rfl (lv_at hl 4 rfl) ?_
      refine mg_0_10 X hP k_767 dX9_instruction_173 ?_
      refine lv_if_eq (tgt := 197) hx hb dX9_instruction_176 (by decide) (fun c11 => ?_) (fun c11 => ?_)
      · replace h := if_yes h c11
        refine lv_aload_n hx hb dX9_instruction_197 rfl (lv_at hl 4 rfl) ?_
        refine lv_dup hx hb dX9_instruction_198 rfl ?_
        refine mg_0_12 X hP k_769 dX9_instruction_199 ?_
        refine lv_iconst (v := (1 : Int32)) hx hb dX9_instruction_202 (by decide) ?_
        refine lv_iadd hx hb dX9_instruction_203 ?_
        refine mp_0_12 X hP hD hS k_769 dX9_instruction_204 (fun H locs hP hD hS => ?_)
        obtain rfl := Option.some.inj h
        exact sw_vret X hP hD hS dX9_instruction_207
      · replace h := if_no h c11
        refine lv_aload_n hx hb dX9_instruction_179 rfl (lv_at hl 4 rfl) ?_
        refine lv_iload_n hx hb dX9_instruction_180 rfl (lv_at hl 3 rfl) ?_
        refine mp_0_6 X hP hD hS k_763 dX9_instruction_181 (fun H locs hP hD hS => ?_)
        refine lv_aload_n hx hb dX9_instruction_184 rfl (lv_at hl 4 rfl) ?_
        refine lv_iload_n hx hb dX9_instruction_185 rfl (lv_at hl 2 rfl) ?_
        refine mp_0_5 X hP hD hS k_762 dX9_instruction_186 (fun H locs hP hD hS => ?_)
        refine lv_aload_n hx hb dX9_instruction_189 rfl (lv_at hl 4 rfl) ?_
        refine lv_iload_n hx hb dX9_instruction_190 rfl (lv_at hl 1 rfl) ?_
        have hq := gd_some h; clear h; obtain ⟨c12, h⟩ := hq
        refine mp_0_9 X hP hD hS k_766 c12 dX9_instruction_191 (fun H locs hP hD hS => ?_)
        refine lv_goto (tgt := 207) hx hb dX9_instruction_194 (by decide) ?_
        obtain rfl := Option.some.inj h
        exact sw_vret X hP hD hS dX9_instruction_207
    · replace h := if_no h c8
      by_cases c13 : (r6 >>> ((6 : Int32) &&& 31)) ∈ ([(1 : Int32)] : List Int32)
      · replace h := if_yes h c13
        refine sw_tabK (tgt := 105) (off := 36) hx hb dX9_instruction_69 _ c13 (by decide +kernel) (by decide) ?_
        refine lv_iload hx hb dX9_instruction_105 (lv_at hl 0 rfl) ?_
        refine lv_bipush (v := (118 : Int32)) hx hb dX9_instruction_107 (by decide) ?_
        refine lv_icmp_ne (tgt := 120) hx hb dX9_instruction_109 (by decide) (fun c14 => ?_) (fun c14 => ?_)
        · replace h := if_no h c14
          refine lv_aload_n hx hb dX9_instruction_120 rfl (lv_at hl 4 rfl) ?_
          refine lv_iload hx hb dX9_instruction_121 (lv_at hl 0 rfl) ?_
          refine lv_iconst (v := (3 : Int32)) hx hb dX9_instruction_123 (by decide) ?_
          refine lv_ishr hx hb dX9_instruction_124 ?_
          refine lv_bipush (v := (7 : Int32)) hx hb dX9_instruction_125 (by decide) ?_
          refine lv_iand hx hb dX9_instruction_127 ?_
          refine lv_aload_n hx hb dX9_instruction_128 rfl (lv_at hl 4 rfl) ?_
          refine lv_iload hx hb dX9_instruction_129 (lv_at hl 0 rfl) ?_
          refine lv_bipush (v := (7 : Int32)) hx hb dX9_instruction_131 (by decide) ?_
          refine lv_iand hx hb dX9_instruction_133 ?_
          have hq := bd2_some h; clear h; obtain ⟨r16, s17, h15, h⟩ := hq
          refine sw_vi (rest := [.int ((r6 >>> ((3 : Int32) &&& 31)) &&& (7 : Int32)), .ref (ad 0)]) m_good X (cX9_operand_m h15) calX9_operand k_918 hP hD hS 0 9 rfl rfl rfl ⟨rfl, rfl⟩ rfl hl.1 rfl (Nat.le_of_ble_eq_true rfl) dX9_instruction_134 (fun H locs hP hD hS => ?_)
          have hq := bd_some h; clear h; obtain ⟨s19, h18, h⟩ := hq
          refine sw_vv (rest := []) m_good X (cX9_setOperand_m h18) calX9_setOperand k_933 hP hD hS 0 9 rfl rfl rfl ⟨rfl, rfl⟩ rfl hl.1 rfl (Nat.le_of_ble_eq_true rfl) dX9_instruction_137 (fun H locs hP hD hS => ?_)
          refine lv_goto (tgt := 172) hx hb dX9_instruction_140 (by decide) ?_
          refine lv_aload_n hx hb dX9_instruction_172 rfl (lv_at hl 4 rfl) ?_
          refine mg_0_10 X hP k_767 dX9_instruction_173 ?_
          refine lv_if_eq (tgt := 197) hx hb dX9_instruction_176 (by decide) (fun c20 => ?_) (fun c20 => ?_)
          · replace h := if_yes h c20
            refine lv_aload_n hx hb dX9_instruction_197 rfl (lv_at hl 4 rfl) ?_
            refine lv_dup hx hb dX9_instruction_198 rfl ?_
            refine mg_0_12 X hP k_769 dX9_instruction_199 ?_
            refine lv_iconst (v := (1 : Int32)) hx hb dX9_instruction_202 (by decide) ?_
            refine lv_iadd hx hb dX9_instruction_203 ?_
            refine mp_0_12 X hP hD hS k_769 dX9_instruction_204 (fun H locs hP hD hS => ?_)
            obtain rfl := Option.some.inj h
            exact sw_vret X hP hD hS dX9_instruction_207
          · replace h := if_no h c20
            refine lv_aload_n hx hb dX9_instruction_179 rfl (lv_at hl 4 rfl) ?_
            refine lv_iload_n hx hb dX9_instruction_180 rfl (lv_at hl 3 rfl) ?_
            refine mp_0_6 X hP hD hS k_763 dX9_instruction_181 (fun H locs hP hD hS => ?_)
            refine lv_aload_n hx hb dX9_instruction_184 rfl (lv_at hl 4 rfl) ?_
            refine lv_iload_n hx hb dX9_instruction_185 rfl (lv_at hl 2 rfl) ?_
            refine mp_0_5 X hP hD hS k_762 dX9_instruction_186 (fun H locs hP hD hS => ?_)
            refine lv_aload_n hx hb dX9_instruction_189 rfl (lv_at hl 4 rfl) ?_
            refine lv_iload_n hx hb dX9_instruction_190 rfl (lv_at hl 1 rfl) ?_
            have hq := gd_some h; clear h; obtain ⟨c21, h⟩ := hq
            refine mp_0_9 X hP hD hS k_766 c21 dX9_instruction_191 (fun H locs hP hD hS => ?_)
            refine lv_goto (tgt := 207) hx hb dX9_instruction_194 (by decide) ?_
            obtain rfl := Option.some.inj h
            exact sw_vret X hP hD hS dX9_instruction_207
        · replace h := if_yes h c14
          refine lv_aload_n hx hb dX9_instruction_112 rfl (lv_at hl 4 rfl) ?_
          refine lv_iconst (v := (1 : Int32)) hx hb dX9_instruction_113 (by decide) ?_
          refine mp_0_7 X hP hD hS k_764 (by decide) dX9_instruction_114 (fun H locs hP hD hS => ?_)
          refine lv_goto (tgt := 172) hx hb dX9_instruction_117 (by decide) ?_
          refine lv_aload_n hx hb dX9_instruction_172 rfl (lv_at hl 4 rfl) ?_
          refine mg_0_10 X hP k_767 dX9_instruction_173 ?_
          refine lv_if_eq (tgt := 197) hx hb dX9_instruction_176 (by decide) (fun c22 => ?_) (fun c22 => ?_)
          · replace h := if_yes h c22
            refine lv_aload_n hx hb dX9_instruction_197 rfl (lv_at hl 4 rfl) ?_
            refine lv_dup hx hb dX9_instruction_198 rfl ?_
            refine mg_0_12 X hP k_769 dX9_instruction_199 ?_
            refine lv_iconst (v := (1 : Int32)) hx hb dX9_instruction_202 (by decide) ?_
            refine lv_iadd hx hb dX9_instruction_203 ?_
            refine mp_0_12 X hP hD hS k_769 dX9_instruction_204 (fun H locs hP hD hS => ?_)
            obtain rfl := Option.some.inj h
            exact sw_vret X hP hD hS dX9_instruction_207
          · replace h := if_no h c22
            refine lv_aload_n hx hb dX9_instruction_179 rfl (lv_at hl 4 rfl) ?_
            refine lv_iload_n hx hb dX9_instruction_180 rfl (lv_at hl 3 rfl) ?_
            refine mp_0_6 X hP hD hS k_763 dX9_instruction_181 (fun H locs hP hD hS => ?_)
            refine lv_aload_n hx hb dX9_instruction_184 rfl (lv_at hl 4 rfl) ?_
            refine lv_iload_n hx hb dX9_instruction_185 rfl (lv_at hl 2 rfl) ?_
            refine mp_0_5 X hP hD hS k_762 dX9_instruction_186 (fun H locs hP hD hS => ?_)
            refine lv_aload_n hx hb dX9_instruction_189 rfl (lv_at hl 4 rfl) ?_
            refine lv_iload_n hx hb dX9_instruction_190 rfl (lv_at hl 1 rfl) ?_
            have hq := gd_some h; clear h; obtain ⟨c23, h⟩ := hq
            refine mp_0_9 X hP hD hS k_766 c23 dX9_instruction_191 (fun H locs hP hD hS => ?_)
            refine lv_goto (tgt := 207) hx hb dX9_instruction_194 (by decide) ?_
            obtain rfl := Option.some.inj h
            exact sw_vret X hP hD hS dX9_instruction_207
      · replace h := if_no h c13
        by_cases c24 : (r6 >>> ((6 : Int32) &&& 31)) ∈ ([(2 : Int32)] : List Int32)
        · replace h := if_yes h c24
          refine sw_tabK (tgt := 143) (off := 74) hx hb dX9_instruction_69 _ c24 (by decide +kernel) (by decide) ?_
          refine lv_aload_n hx hb dX9_instruction_143 rfl (lv_at hl 4 rfl) ?_
          refine lv_iload hx hb dX9_instruction_144 (lv_at hl 0 rfl) ?_
          refine lv_iconst (v := (3 : Int32)) hx hb dX9_instruction_146 (by decide) ?_
          refine lv_ishr hx hb dX9_instruction_147 ?_
          refine lv_bipush (v := (7 : Int32)) hx hb dX9_instruction_148 (by decide) ?_
          refine lv_iand hx hb dX9_instruction_150 ?_
          refine lv_aload_n hx hb dX9_instruction_151 rfl (lv_at hl 4 rfl) ?_
          refine lv_iload hx hb dX9_instruction_152 (lv_at hl 0 rfl) ?_
          refine lv_bipush (v := (7 : Int32)) hx hb dX9_instruction_154 (by decide) ?_
          refine lv_iand hx hb dX9_instruction_156 ?_
          have hq := bd2_some h; clear h; obtain ⟨r26, s27, h25, h⟩ := hq
          refine sw_vi (rest := [.int ((r6 >>> ((3 : Int32) &&& 31)) &&& (7 : Int32)), .ref (ad 0)]) m_good X (cX9_operand_m h25) calX9_operand k_918 hP hD hS 0 9 rfl rfl rfl ⟨rfl, rfl⟩ rfl hl.1 rfl (Nat.le_of_ble_eq_true rfl) dX9_instruction_157 (fun H locs hP hD hS => ?_)
          have hq := bd_some h; clear h; obtain ⟨s29, h28, h⟩ := hq
          refine sw_vv (rest := []) m_good X (cX9_reckon_m h28) calX9_reckon k_956 hP hD hS 0 9 rfl rfl rfl ⟨rfl, rfl⟩ rfl hl.1 rfl (Nat.le_of_ble_eq_true rfl) dX9_instruction_160 (fun H locs hP hD hS => ?_)
          refine lv_goto (tgt := 172) hx hb dX9_instruction_163 (by decide) ?_
          refine lv_aload_n hx hb dX9_instruction_172 rfl (lv_at hl 4 rfl) ?_
          refine mg_0_10 X hP k_767 dX9_instruction_173 ?_
          refine lv_if_eq (tgt := 197) hx hb dX9_instruction_176 (by decide) (fun c30 => ?_) (fun c30 => ?_)
          · replace h := if_yes h c30
            refine lv_aload_n hx hb dX9_instruction_197 rfl (lv_at hl 4 rfl) ?_
            refine lv_dup hx hb dX9_instruction_198 rfl ?_
            refine mg_0_12 X hP k_769 dX9_instruction_199 ?_
            refine lv_iconst (v := (1 : Int32)) hx hb dX9_instruction_202 (by decide) ?_
            refine lv_iadd hx hb dX9_instruction_203 ?_
            refine mp_0_12 X hP hD hS k_769 dX9_instruction_204 (fun H locs hP hD hS => ?_)
            obtain rfl := Option.some.inj h
            exact sw_vret X hP hD hS dX9_instruction_207
          · replace h := if_no h c30
            refine lv_aload_n hx hb dX9_instruction_179 rfl (lv_at hl 4 rfl) ?_
            refine lv_iload_n hx hb dX9_instruction_180 rfl (lv_at hl 3 rfl) ?_
            refine mp_0_6 X hP hD hS k_763 dX9_instruction_181 (fun H locs hP hD hS => ?_)
            refine lv_aload_n hx hb dX9_instruction_184 rfl (lv_at hl 4 rfl) ?_
            refine lv_iload_n hx hb dX9_instruction_185 rfl (lv_at hl 2 rfl) ?_
            refine mp_0_5 X hP hD hS k_762 dX9_instruction_186 (fun H locs hP hD hS => ?_)
            refine lv_aload_n hx hb dX9_instruction_189 rfl (lv_at hl 4 rfl) ?_
            refine lv_iload_n hx hb dX9_instruction_190 rfl (lv_at hl 1 rfl) ?_
            have hq := gd_some h; clear h; obtain ⟨c31, h⟩ := hq
            refine mp_0_9 X hP hD hS k_766 c31 dX9_instruction_191 (fun H locs hP hD hS => ?_)
            refine lv_goto (tgt := 207) hx hb dX9_instruction_194 (by decide) ?_
            obtain rfl := Option.some.inj h
            exact sw_vret X hP hD hS dX9_instruction_207
        · replace h := if_no h c24
          refine sw_tabD (tgt := 166) hx hb dX9_instruction_69 (([(0 : Int32)] : List Int32) ++ (([(1 : Int32)] : List Int32) ++ ([(2 : Int32)] : List Int32))) (fun hm => (List.mem_append.mp hm).elim c8 (fun hm => (List.mem_append.mp hm).elim c13 c24)) (by decide +kernel) (by decide) ?_
          refine lv_aload_n hx hb dX9_instruction_166 rfl (lv_at hl 4 rfl) ?_
          refine lv_iload hx hb dX9_instruction_167 (lv_at hl 0 rfl) ?_
          have hq := bd_some h; clear h; obtain ⟨s33, h32, h⟩ := hq
          refine sw_vv (rest := []) m_good X (cX9_three_m h32) calX9_three k_960 hP hD hS 0 9 rfl rfl rfl ⟨rfl, rfl⟩ rfl hl.1 rfl (Nat.le_of_ble_eq_true rfl) dX9_instruction_169 (fun H locs hP hD hS => ?_)
          refine lv_aload_n hx hb dX9_instruction_172 rfl (lv_at hl 4 rfl) ?_
          refine mg_0_10 X hP k_767 dX9_instruction_173 ?_
          refine lv_if_eq (tgt := 197) hx hb dX9_instruction_176 (by decide) (fun c34 => ?_) (fun c34 => ?_)
          · replace h := if_yes h c34
            refine lv_aload_n hx hb dX9_instruction_197 rfl (lv_at hl 4 rfl) ?_
            refine lv_dup hx hb dX9_instruction_198 rfl ?_
            refine mg_0_12 X hP k_769 dX9_instruction_199 ?_
            refine lv_iconst (v := (1 : Int32)) hx hb dX9_instruction_202 (by decide) ?_
            refine lv_iadd hx hb dX9_instruction_203 ?_
            refine mp_0_12 X hP hD hS k_769 dX9_instruction_204 (fun H locs hP hD hS => ?_)
            obtain rfl := Option.some.inj h
            exact sw_vret X hP hD hS dX9_instruction_207
          · replace h := if_no h c34
            refine lv_aload_n hx hb dX9_instruction_179 rfl (lv_at hl 4 rfl) ?_
            refine lv_iload_n hx hb dX9_instruction_180 rfl (lv_at hl 3 rfl) ?_
            refine mp_0_6 X hP hD hS k_763 dX9_instruction_181 (fun H locs hP hD hS => ?_)
            refine lv_aload_n hx hb dX9_instruction_184 rfl (lv_at hl 4 rfl) ?_
            refine lv_iload_n hx hb dX9_instruction_185 rfl (lv_at hl 2 rfl) ?_
            refine mp_0_5 X hP hD hS k_762 dX9_instruction_186 (fun H locs hP hD hS => ?_)
            refine lv_aload_n hx hb dX9_instruction_189 rfl (lv_at hl 4 rfl) ?_
            refine lv_iload_n hx hb dX9_instruction_190 rfl (lv_at hl 1 rfl) ?_
            have hq := gd_some h; clear h; obtain ⟨c35, h⟩ := hq
            refine mp_0_9 X hP hD hS k_766 c35 dX9_instruction_191 (fun H locs hP hD hS => ?_)
            refine lv_goto (tgt := 207) hx hb dX9_instruction_194 (by decide) ?_
            obtain rfl := Option.some.inj h
            exact sw_vret X hP hD hS dX9_instruction_207
  · replace h := if_no h c3
    refine lv_aload_n hx hb dX9_instruction_22 rfl (lv_at hl 2 rfl) ?_
    refine lv_aload_n hx hb dX9_instruction_23 rfl (lv_at hl 2 rfl) ?_
    refine mg_0_6 X hP k_763 dX9_instruction_24 ?_
    refine lv_iconst (v := (4 : Int32)) hx hb dX9_instruction_27 (by decide) ?_
    refine lv_iadd hx hb dX9_instruction_28 ?_
    refine mp_0_6 X hP hD hS k_763 dX9_instruction_29 (fun H locs hP hD hS => ?_)
    refine lv_aload_n hx hb dX9_instruction_32 rfl (lv_at hl 2 rfl) ?_
    refine lv_dup hx hb dX9_instruction_33 rfl ?_
    refine mg_0_12 X hP k_769 dX9_instruction_34 ?_
    refine lv_iconst (v := (1 : Int32)) hx hb dX9_instruction_37 (by decide) ?_
    refine lv_iadd hx hb dX9_instruction_38 ?_
    refine mp_0_12 X hP hD hS k_769 dX9_instruction_39 (fun H locs hP hD hS => ?_)
    refine lv_aload_n hx hb dX9_instruction_42 rfl (lv_at hl 2 rfl) ?_
    refine lv_iconst (v := (0 : Int32)) hx hb dX9_instruction_43 (by decide) ?_
    refine mp_0_9 X hP hD hS k_766 (by decide) dX9_instruction_44 (fun H locs hP hD hS => ?_)
    obtain rfl := Option.some.inj h
    exact sw_vret X hP hD hS dX9_instruction_47
theorem dX9_interrupt_0 : decode cX9_interrupt 0 = .ok (.aload_n 0, 1) := by decide +kernel
theorem dX9_interrupt_1 : decode cX9_interrupt 1 = .ok (.iconst 0, 1) := by decide +kernel
theorem dX9_interrupt_2 : decode cX9_interrupt 2 = .ok (.putfield 176, 3) := by decide +kernel
theorem dX9_interrupt_5 : decode cX9_interrupt 5 = .ok (.aload_n 0, 1) := by decide +kernel
theorem dX9_interrupt_6 : decode cX9_interrupt 6 = .ok (.iconst 0, 1) := by decide +kernel
theorem dX9_interrupt_7 : decode cX9_interrupt 7 = .ok (.putfield 203, 3) := by decide +kernel
theorem dX9_interrupt_10 : decode cX9_interrupt 10 = .ok (.aload_n 0, 1) := by decide +kernel
theorem dX9_interrupt_11 : decode cX9_interrupt 11 = .ok (.dup, 1) := by decide +kernel
theorem dX9_interrupt_12 : decode cX9_interrupt 12 = .ok (.getfield 215, 3) := by decide +kernel
theorem dX9_interrupt_15 : decode cX9_interrupt 15 = .ok (.iconst 1, 1) := by decide +kernel
theorem dX9_interrupt_16 : decode cX9_interrupt 16 = .ok (.iadd, 1) := by decide +kernel
theorem dX9_interrupt_17 : decode cX9_interrupt 17 = .ok (.putfield 215, 3) := by decide +kernel
theorem dX9_interrupt_20 : decode cX9_interrupt 20 = .ok (.aload_n 0, 1) := by decide +kernel
theorem dX9_interrupt_21 : decode cX9_interrupt 21 = .ok (.aload_n 0, 1) := by decide +kernel
theorem dX9_interrupt_22 : decode cX9_interrupt 22 = .ok (.getfield 32, 3) := by decide +kernel
theorem dX9_interrupt_25 : decode cX9_interrupt 25 = .ok (.bipush 7, 2) := by decide +kernel
theorem dX9_interrupt_27 : decode cX9_interrupt 27 = .ok (.iadd, 1) := by decide +kernel
theorem dX9_interrupt_28 : decode cX9_interrupt 28 = .ok (.putfield 32, 3) := by decide +kernel
theorem dX9_interrupt_31 : decode cX9_interrupt 31 = .ok (.aload_n 0, 1) := by decide +kernel
theorem dX9_interrupt_32 : decode cX9_interrupt 32 = .ok (.aload_n 0, 1) := by decide +kernel
theorem dX9_interrupt_33 : decode cX9_interrupt 33 = .ok (.getfield 46, 3) := by decide +kernel
theorem dX9_interrupt_36 : decode cX9_interrupt 36 = .ok (.invokevirtual 158, 3) := by decide +kernel
theorem dX9_interrupt_39 : decode cX9_interrupt 39 = .ok (.aload_n 0, 1) := by decide +kernel
theorem dX9_interrupt_40 : decode cX9_interrupt 40 = .ok (.bipush 56, 2) := by decide +kernel
theorem dX9_interrupt_42 : decode cX9_interrupt 42 = .ok (.putfield 46, 3) := by decide +kernel
theorem dX9_interrupt_45 : decode cX9_interrupt 45 = .ok (.return_, 1) := by decide +kernel
def fX9_interrupt (s0 : zS) : Option (zS) := bd (fX9_push ((st1 (st1 (st1 (st1 s0 5 (0 : Int32)) 4 (0 : Int32)) 8 (((st1 (st1 s0 5 (0 : Int32)) 4 (0 : Int32)).1 8) + (1 : Int32))) 3 (((st1 (st1 (st1 s0 5 (0 : Int32)) 4 (0 : Int32)) 8 (((st1 (st1 s0 5 (0 : Int32)) 4 (0 : Int32)).1 8) + (1 : Int32))).1 3) + (7 : Int32))).1 2) (st1 (st1 (st1 (st1 s0 5 (0 : Int32)) 4 (0 : Int32)) 8 (((st1 (st1 s0 5 (0 : Int32)) 4 (0 : Int32)).1 8) + (1 : Int32))) 3 (((st1 (st1 (st1 s0 5 (0 : Int32)) 4 (0 : Int32)) 8 (((st1 (st1 s0 5 (0 : Int32)) 4 (0 : Int32)).1 8) + (1 : Int32))).1 3) + (7 : Int32)))) fun s2 => some (st1 s2 2 (56 : Int32))
set_option maxHeartbeats 4000000 in
set_option maxRecDepth 100000 in
theorem cX9_interrupt_m {l : Launch} {dC : Nat → ClassId} {dI : Nat → Nat → Nat} {ad : Nat → Nat} {cI : ClassId} {s0 : zS} {zs : zS} (h : fX9_interrupt  s0 = some zs) : sw_Mv l yX9_interrupt (sw_ws yX9_interrupt cX9_interrupt 1 none) (sw_rm 4 86) (dC, dI) vwCl [(cI, .int)] mF [.ref (ad 0)] (mW ad cI s0) (mW ad cI zs) := by
  intro sz
  refine sw_of (cc := cX9_interrupt) (maxL := 1) (ret := none) (by decide) rfl (Nat.le_of_ble_eq_true rfl) ?_
  intro p e s m args below meth c A ls hAe hsz X _ hP hD hS hl
  rw [hAe]
  have hx := X.1.1
  have hb := X.1.2.1
  have hown := X.1.2.2.2.1
  have hts := X.1.2.2.2.2
  replace hl : lv_has ls 1 [(0, .ref (ad 0))] := hl
  unfold fX9_interrupt at h
  refine lv_aload_n hx hb dX9_interrupt_0 rfl (lv_at hl 0 rfl) ?_
  refine lv_iconst (v := (0 : Int32)) hx hb dX9_interrupt_1 (by decide) ?_
  refine mp_0_8 X hP hD hS k_765 (by decide) dX9_interrupt_2 (fun H locs hP hD hS => ?_)
  refine lv_aload_n hx hb dX9_interrupt_5 rfl (lv_at hl 0 rfl) ?_
  refine lv_iconst (v := (0 : Int32)) hx hb dX9_interrupt_6 (by decide) ?_
  refine mp_0_7 X hP hD hS k_764 (by decide) dX9_interrupt_7 (fun H locs hP hD hS => ?_)
  refine lv_aload_n hx hb dX9_interrupt_10 rfl (lv_at hl 0 rfl) ?_
  refine lv_dup hx hb dX9_interrupt_11 rfl ?_
  refine mg_0_11 X hP k_768 dX9_interrupt_12 ?_
  refine lv_iconst (v := (1 : Int32)) hx hb dX9_interrupt_15 (by decide) ?_
  refine lv_iadd hx hb dX9_interrupt_16 ?_
  refine mp_0_11 X hP hD hS k_768 dX9_interrupt_17 (fun H locs hP hD hS => ?_)
  refine lv_aload_n hx hb dX9_interrupt_20 rfl (lv_at hl 0 rfl) ?_
  refine lv_aload_n hx hb dX9_interrupt_21 rfl (lv_at hl 0 rfl) ?_
  refine mg_0_6 X hP k_763 dX9_interrupt_22 ?_
  refine lv_bipush (v := (7 : Int32)) hx hb dX9_interrupt_25 (by decide) ?_
  refine lv_iadd hx hb dX9_interrupt_27 ?_
  refine mp_0_6 X hP hD hS k_763 dX9_interrupt_28 (fun H locs hP hD hS => ?_)
  refine lv_aload_n hx hb dX9_interrupt_31 rfl (lv_at hl 0 rfl) ?_
  refine lv_aload_n hx hb dX9_interrupt_32 rfl (lv_at hl 0 rfl) ?_
  refine mg_0_5 X hP k_762 dX9_interrupt_33 ?_
  have hq := bd_some h; clear h; obtain ⟨s2, h1, h⟩ := hq
  refine sw_vv (rest := []) m_good X (cX9_push_m h1) calX9_push k_837 hP hD hS 0 9 rfl rfl rfl ⟨rfl, rfl⟩ rfl hl.1 rfl (Nat.le_of_ble_eq_true rfl) dX9_interrupt_36 (fun H locs hP hD hS => ?_)
  refine lv_aload_n hx hb dX9_interrupt_39 rfl (lv_at hl 0 rfl) ?_
  refine lv_bipush (v := (56 : Int32)) hx hb dX9_interrupt_40 (by decide) ?_
  refine mp_0_5 X hP hD hS k_762 dX9_interrupt_42 (fun H locs hP hD hS => ?_)
  obtain rfl := Option.some.inj h
  exact sw_vret X hP hD hS dX9_interrupt_45
theorem dX9_run_0 : decode cX9_run 0 = .ok (.aload_n 0, 1) := by decide +kernel
theorem dX9_run_1 : decode cX9_run 1 = .ok (.iload_n 1, 1) := by decide +kernel
theorem dX9_run_2 : decode cX9_run 2 = .ok (.iconst 1, 1) := by decide +kernel
theorem dX9_run_3 : decode cX9_run 3 = .ok (.sipush 20000, 3) := by decide +kernel
theorem dX9_run_6 : decode cX9_run 6 = .ok (.invokestatic 35, 3) := by decide +kernel
theorem dX9_run_9 : decode cX9_run 9 = .ok (.ifCond .eq 7, 3) := by decide +kernel
theorem dX9_run_12 : decode cX9_run 12 = .ok (.iconst 0, 1) := by decide +kernel
theorem dX9_run_13 : decode cX9_run 13 = .ok (.goto 4, 3) := by decide +kernel
theorem dX9_run_16 : decode cX9_run 16 = .ok (.iconst 1, 1) := by decide +kernel
theorem dX9_run_17 : decode cX9_run 17 = .ok (.invokevirtual 218, 3) := by decide +kernel
theorem dX9_run_20 : decode cX9_run 20 = .ok (.ifCond .eq 5, 3) := by decide +kernel
theorem dX9_run_23 : decode cX9_run 23 = .ok (.iconst 0, 1) := by decide +kernel
theorem dX9_run_24 : decode cX9_run 24 = .ok (.ireturn, 1) := by decide +kernel
theorem dX9_run_25 : decode cX9_run 25 = .ok (.aload_n 0, 1) := by decide +kernel
theorem dX9_run_26 : decode cX9_run 26 = .ok (.getfield 32, 3) := by decide +kernel
theorem dX9_run_29 : decode cX9_run 29 = .ok (.iload_n 1, 1) := by decide +kernel
theorem dX9_run_30 : decode cX9_run 30 = .ok (.iadd, 1) := by decide +kernel
theorem dX9_run_31 : decode cX9_run 31 = .ok (.istore_n 2, 1) := by decide +kernel
theorem dX9_run_32 : decode cX9_run 32 = .ok (.aload_n 0, 1) := by decide +kernel
theorem dX9_run_33 : decode cX9_run 33 = .ok (.iconst 0, 1) := by decide +kernel
theorem dX9_run_34 : decode cX9_run 34 = .ok (.putfield 97, 3) := by decide +kernel
theorem dX9_run_37 : decode cX9_run 37 = .ok (.aload_n 0, 1) := by decide +kernel
theorem dX9_run_38 : decode cX9_run 38 = .ok (.getfield 32, 3) := by decide +kernel
theorem dX9_run_41 : decode cX9_run 41 = .ok (.iload_n 2, 1) := by decide +kernel
theorem dX9_run_42 : decode cX9_run 42 = .ok (.if_icmp .ge 51, 3) := by decide +kernel
theorem dX9_run_45 : decode cX9_run 45 = .ok (.aload_n 0, 1) := by decide +kernel
theorem dX9_run_46 : decode cX9_run 46 = .ok (.getfield 97, 3) := by decide +kernel
theorem dX9_run_49 : decode cX9_run 49 = .ok (.ifCond .ne 44, 3) := by decide +kernel
theorem dX9_run_52 : decode cX9_run 52 = .ok (.aload_n 0, 1) := by decide +kernel
theorem dX9_run_53 : decode cX9_run 53 = .ok (.getfield 176, 3) := by decide +kernel
theorem dX9_run_56 : decode cX9_run 56 = .ok (.ifCond .eq 30, 3) := by decide +kernel
theorem dX9_run_59 : decode cX9_run 59 = .ok (.aload_n 0, 1) := by decide +kernel
theorem dX9_run_60 : decode cX9_run 60 = .ok (.getfield 32, 3) := by decide +kernel
theorem dX9_run_63 : decode cX9_run 63 = .ok (.sipush 4000, 3) := by decide +kernel
theorem dX9_run_66 : decode cX9_run 66 = .ok (.irem, 1) := by decide +kernel
theorem dX9_run_67 : decode cX9_run 67 = .ok (.bipush 32, 2) := by decide +kernel
theorem dX9_run_69 : decode cX9_run 69 = .ok (.if_icmp .ge 17, 3) := by decide +kernel
theorem dX9_run_72 : decode cX9_run 72 = .ok (.aload_n 0, 1) := by decide +kernel
theorem dX9_run_73 : decode cX9_run 73 = .ok (.getfield 179, 3) := by decide +kernel
theorem dX9_run_76 : decode cX9_run 76 = .ok (.ifCond .ne 10, 3) := by decide +kernel
theorem dX9_run_79 : decode cX9_run 79 = .ok (.aload_n 0, 1) := by decide +kernel
theorem dX9_run_80 : decode cX9_run 80 = .ok (.invokevirtual 221, 3) := by decide +kernel
theorem dX9_run_83 : decode cX9_run 83 = .ok (.goto (-46), 3) := by decide +kernel
theorem dX9_run_86 : decode cX9_run 86 = .ok (.aload_n 0, 1) := by decide +kernel
theorem dX9_run_87 : decode cX9_run 87 = .ok (.invokevirtual 224, 3) := by decide +kernel
theorem dX9_run_90 : decode cX9_run 90 = .ok (.goto (-53), 3) := by decide +kernel
theorem dX9_run_93 : decode cX9_run 93 = .ok (.aload_n 0, 1) := by decide +kernel
theorem dX9_run_94 : decode cX9_run 94 = .ok (.getfield 97, 3) := by decide +kernel
theorem dX9_run_97 : decode cX9_run 97 = .ok (.ifCond .ne 7, 3) := by decide +kernel
theorem dX9_run_100 : decode cX9_run 100 = .ok (.iconst 1, 1) := by decide +kernel
theorem dX9_run_101 : decode cX9_run 101 = .ok (.goto 4, 3) := by decide +kernel
theorem dX9_run_104 : decode cX9_run 104 = .ok (.iconst 0, 1) := by decide +kernel
theorem dX9_run_105 : decode cX9_run 105 = .ok (.ireturn, 1) := by decide +kernel
def fX9_run_L37 : Nat → Int32 → Int32 → zS → Option (Int32 × zS)
  | 0, _, _, _ => none
  | n + 1, v1, v2, s0 => if v2 ≤ (s0.1 3) then (if (s0.1 7) = (0 : Int32) then (some ((1 : Int32), s0)) else (some ((0 : Int32), s0))) else (if (s0.1 7) = (0 : Int32) then (if (s0.1 5) = (0 : Int32) then (bd (fX9_instruction  s0) fun s18 => fX9_run_L37 n v1 v2 s18) else (if (32 : Int32) ≤ ((s0.1 3) - (s0.1 3) / (4000 : Int32) * (4000 : Int32)) then (bd (fX9_instruction  s0) fun s21 => fX9_run_L37 n v1 v2 s21) else (if (s0.1 6) = (0 : Int32) then (bd (fX9_interrupt  s0) fun s26 => fX9_run_L37 n v1 v2 s26) else (bd (fX9_instruction  s0) fun s24 => fX9_run_L37 n v1 v2 s24)))) else (if (s0.1 7) = (0 : Int32) then (some ((1 : Int32), s0)) else (some ((0 : Int32), s0))))
set_option maxHeartbeats 4000000 in
set_option maxRecDepth 100000 in
theorem cX9_run_lp37 {l : Launch} {dC : Nat → ClassId} {dI : Nat → Nat → Nat} {ad : Nat → Nat} {cI : ClassId} {zr : Int32} {zs : zS} {p : Program} {e : Env} {s : State} {m : MethodId} {args : Array Value} {below : List Frame} {meth : Method} {c : Code} {A : Nat → Prop} (X : sw_X p s m args meth c cX9_run 3 RX9 (some .boolean) (sw_ws yX9_run cX9_run 3 (some .boolean)) (dC, dI) vwCl [(cI, .int)] mF A) : ∀ (n : Nat) {v1 v2 : Int32} {s0 : zS} {H : Heap} {locs : List Loc} {ls : Array Slot}, fX9_run_L37 n v1 v2 s0 = some (zr, zs) → va_P (dC, dI) vwCl (mW ad cI s0) H → va_D A (mW ad cI s0) → va_S A s.heap H locs → lv_has ls 3 [(0, .ref (ad 0)), (1, .int v1), (2, .int v2)] → W p l e (sw_rm 9 196) s m args below meth c H locs 0 0 (MQ below (sw_Qi (dC, dI) vwCl [(cI, .int)] A (mW ad cI zs) zr) args s 0 0 A) (F0 m 37 ls []) := by
  have hx := X.1.1
  have hb := X.1.2.1
  have hown := X.1.2.2.2.1
  have hts := X.1.2.2.2.2
  intro n
  induction n with
  | zero =>
    intro v1 v2 s0 H locs ls h
    rw [fX9_run_L37] at h
    exact absurd h (fun h9 => by cases h9)
  | succ n ih =>
    intro v1 v2 s0 H locs ls h hP hD hS hl
    rw [fX9_run_L37] at h
    refine lv_aload_n hx hb dX9_run_37 rfl (lv_at hl 0 rfl) ?_
    refine mg_0_6 X hP k_763 dX9_run_38 ?_
    refine lv_iload_n hx hb dX9_run_41 rfl (lv_at hl 2 rfl) ?_
    refine lv_icmp_ge (tgt := 93) hx hb dX9_run_42 (by decide) (fun c12 => ?_) (fun c12 => ?_)
    · replace h := if_yes h c12
      refine lv_aload_n hx hb dX9_run_93 rfl (lv_at hl 0 rfl) ?_
      refine mg_0_10 X hP k_767 dX9_run_94 ?_
      refine lv_if_ne (tgt := 104) hx hb dX9_run_97 (by decide) (fun c13 => ?_) (fun c13 => ?_)
      · replace h := if_no h c13
        refine lv_iconst (v := (0 : Int32)) hx hb dX9_run_104 (by decide) ?_
        obtain ⟨rfl, rfl⟩ := Prod.mk.inj (Option.some.inj h)
        exact sw_bret X (bz_n (by decide)) hP hD hS dX9_run_105
      · replace h := if_yes h c13
        refine lv_iconst (v := (1 : Int32)) hx hb dX9_run_100 (by decide) ?_
        refine lv_goto (tgt := 105) hx hb dX9_run_101 (by decide) ?_
        obtain ⟨rfl, rfl⟩ := Prod.mk.inj (Option.some.inj h)
        exact sw_bret X (bz_n (by decide)) hP hD hS dX9_run_105
    · replace h := if_no h c12
      refine lv_aload_n hx hb dX9_run_45 rfl (lv_at hl 0 rfl) ?_
      refine mg_0_10 X hP k_767 dX9_run_46 ?_
      refine lv_if_ne (tgt := 93) hx hb dX9_run_49 (by decide) (fun c14 => ?_) (fun c14 => ?_)
      · replace h := if_no h c14
        refine lv_aload_n hx hb dX9_run_93 rfl (lv_at hl 0 rfl) ?_
        refine mg_0_10 X hP k_767 dX9_run_94 ?_
        refine lv_if_ne (tgt := 104) hx hb dX9_run_97 (by decide) (fun c15 => ?_) (fun c15 => ?_)
        · replace h := if_no h c15
          refine lv_iconst (v := (0 : Int32)) hx hb dX9_run_104 (by decide) ?_
          obtain ⟨rfl, rfl⟩ := Prod.mk.inj (Option.some.inj h)
          exact sw_bret X (bz_n (by decide)) hP hD hS dX9_run_105
        · replace h := if_yes h c15
          refine lv_iconst (v := (1 : Int32)) hx hb dX9_run_100 (by decide) ?_
          refine lv_goto (tgt := 105) hx hb dX9_run_101 (by decide) ?_
          obtain ⟨rfl, rfl⟩ := Prod.mk.inj (Option.some.inj h)
          exact sw_bret X (bz_n (by decide)) hP hD hS dX9_run_105
      · replace h := if_yes h c14
        refine lv_aload_n hx hb dX9_run_52 rfl (lv_at hl 0 rfl) ?_
        refine mg_0_8 X hP k_765 dX9_run_53 ?_
        refine lv_if_eq (tgt := 86) hx hb dX9_run_56 (by decide) (fun c16 => ?_) (fun c16 => ?_)
        · replace h := if_yes h c16
          refine lv_aload_n hx hb dX9_run_86 rfl (lv_at hl 0 rfl) ?_
          have hq := bd_some h; clear h; obtain ⟨s18, h17, h⟩ := hq
          refine sw_vv (rest := []) m_good X (cX9_instruction_m h17) calX9_instruction k_854 hP hD hS 0 9 rfl rfl rfl ⟨rfl, rfl⟩ rfl hl.1 rfl (Nat.le_of_ble_eq_true rfl) dX9_run_87 (fun H locs hP hD hS => ?_)
          refine lv_goto (tgt := 37) hx hb dX9_run_90 (by decide) ?_
          exact ih  h hP hD hS (lv_sub hl [0, 1, 2] rfl)
        · replace h := if_no h c16
          refine lv_aload_n hx hb dX9_run_59 rfl (lv_at hl 0 rfl) ?_
          refine mg_0_6 X hP k_763 dX9_run_60 ?_
          refine lv_sipush (v := (4000 : Int32)) hx hb dX9_run_63 (by decide) ?_
          refine lv_irem hx hb dX9_run_66 (by decide) ?_
          refine lv_bipush (v := (32 : Int32)) hx hb dX9_run_67 (by decide) ?_
          refine lv_icmp_ge (tgt := 86) hx hb dX9_run_69 (by decide) (fun c19 => ?_) (fun c19 => ?_)
          · replace h := if_yes h c19
            refine lv_aload_n hx hb dX9_run_86 rfl (lv_at hl 0 rfl) ?_
            have hq := bd_some h; clear h; obtain ⟨s21, h20, h⟩ := hq
            refine sw_vv (rest := []) m_good X (cX9_instruction_m h20) calX9_instruction k_854 hP hD hS 0 9 rfl rfl rfl ⟨rfl, rfl⟩ rfl hl.1 rfl (Nat.le_of_ble_eq_true rfl) dX9_run_87 (fun H locs hP hD hS => ?_)
            refine lv_goto (tgt := 37) hx hb dX9_run_90 (by decide) ?_
            exact ih  h hP hD hS (lv_sub hl [0, 1, 2] rfl)
          · replace h := if_no h c19
            refine lv_aload_n hx hb dX9_run_72 rfl (lv_at hl 0 rfl) ?_
            refine mg_0_9 X hP k_766 dX9_run_73 ?_
            refine lv_if_ne (tgt := 86) hx hb dX9_run_76 (by decide) (fun c22 => ?_) (fun c22 => ?_)
            · replace h := if_no h c22
              refine lv_aload_n hx hb dX9_run_86 rfl (lv_at hl 0 rfl) ?_
              have hq := bd_some h; clear h; obtain ⟨s24, h23, h⟩ := hq
              refine sw_vv (rest := []) m_good X (cX9_instruction_m h23) calX9_instruction k_854 hP hD hS 0 9 rfl rfl rfl ⟨rfl, rfl⟩ rfl hl.1 rfl (Nat.le_of_ble_eq_true rfl) dX9_run_87 (fun H locs hP hD hS => ?_)
              refine lv_goto (tgt := 37) hx hb dX9_run_90 (by decide) ?_
              exact ih  h hP hD hS (lv_sub hl [0, 1, 2] rfl)
            · replace h := if_yes h c22
              refine lv_aload_n hx hb dX9_run_79 rfl (lv_at hl 0 rfl) ?_
              have hq := bd_some h; clear h; obtain ⟨s26, h25, h⟩ := hq
              refine sw_vv (rest := []) m_good X (cX9_interrupt_m h25) calX9_interrupt k_833 hP hD hS 0 9 rfl rfl rfl ⟨rfl, rfl⟩ rfl hl.1 rfl (Nat.le_of_ble_eq_true rfl) dX9_run_80 (fun H locs hP hD hS => ?_)
              refine lv_goto (tgt := 37) hx hb dX9_run_83 (by decide) ?_
              exact ih  h hP hD hS (lv_sub hl [0, 1, 2] rfl)
def fX9_run (p1 : Int32) (s0 : zS) : Option (Int32 × zS) := bd (fX9_isIn p1 (1 : Int32) (20000 : Int32)) fun r2 => bd (if r2 = (0 : Int32) then (some (1 : Int32)) else (some (0 : Int32))) fun x5 => bd2 (fX9_refused x5 s0) fun r8 s9 => if r8 = (0 : Int32) then (nm ((s9.1 3) + p1) fun x11 => fX9_run_L37 20001 p1 x11 (st1 s9 7 (0 : Int32))) else (some ((0 : Int32), s9))
set_option maxHeartbeats 4000000 in
set_option maxRecDepth 100000 in
theorem cX9_run_m {l : Launch} {dC : Nat → ClassId} {dI : Nat → Nat → Nat} {ad : Nat → Nat} {cI : ClassId} {p1 : Int32} {s0 : zS} {zr : Int32} {zs : zS} (h : fX9_run p1 s0 = some (zr, zs)) : sw_Mi l yX9_run (sw_ws yX9_run cX9_run 3 (some .boolean)) (sw_rm 9 196) (dC, dI) vwCl [(cI, .int)] mF [.ref (ad 0), .int p1] (mW ad cI s0) (mW ad cI zs) zr := by
  intro sz
  refine sw_of (cc := cX9_run) (maxL := 3) (ret := (some .boolean)) (by decide) rfl (Nat.le_of_ble_eq_true rfl) ?_
  intro p e s m args below meth c A ls hAe hsz X _ hP hD hS hl
  rw [hAe]
  have hx := X.1.1
  have hb := X.1.2.1
  have hown := X.1.2.2.2.1
  have hts := X.1.2.2.2.2
  replace hl : lv_has ls 3 [(0, .ref (ad 0)), (1, .int p1)] := hl
  unfold fX9_run at h
  refine lv_aload_n hx hb dX9_run_0 rfl (lv_at hl 0 rfl) ?_
  refine lv_iload_n hx hb dX9_run_1 rfl (lv_at hl 1 rfl) ?_
  refine lv_iconst (v := (1 : Int32)) hx hb dX9_run_2 (by decide) ?_
  refine lv_sipush (v := (20000 : Int32)) hx hb dX9_run_3 (by decide) ?_
  have hq := bd_some h; clear h; obtain ⟨r2, h1, h⟩ := hq
  refine sw_si (rest := [.ref (ad 0)]) m_good X (cX9_isIn_m h1) calX9_isIn k_826 hP hD hS ⟨rfl, rfl⟩ rfl hl.1 rfl (Nat.le_of_ble_eq_true rfl) dX9_run_6 (fun H locs hP hD hS => ?_)
  have hq := bd_some h; clear h; obtain ⟨x5, h6, h⟩ := hq
  have K3 : ∀ (H : Heap) (locs : List Loc), va_P (dC, dI) vwCl (mW ad cI s0) H → va_D A (mW ad cI s0) → va_S A s.heap H locs → W p l e (sw_rm 9 196) s m args below meth c H locs 0 0 (MQ below (sw_Qi (dC, dI) vwCl [(cI, .int)] A (mW ad cI zs) zr) args s 0 0 A) (F0 m 17 ls [.int x5, .ref (ad 0)]) := by
    intro H locs hP hD hS
    have hq := bd2_some h; clear h; obtain ⟨r8, s9, h7, h⟩ := hq
    refine sw_vi (rest := []) m_good X (cX9_refused_m h7) calX9_refused k_829 hP hD hS 0 9 rfl rfl rfl ⟨rfl, rfl⟩ rfl hl.1 rfl (Nat.le_of_ble_eq_true rfl) dX9_run_17 (fun H locs hP hD hS => ?_)
    refine lv_if_eq (tgt := 25) hx hb dX9_run_20 (by decide) (fun c10 => ?_) (fun c10 => ?_)
    · replace h := if_yes h c10
      refine lv_aload_n hx hb dX9_run_25 rfl (lv_at hl 0 rfl) ?_
      refine mg_0_6 X hP k_763 dX9_run_26 ?_
      refine lv_iload_n hx hb dX9_run_29 rfl (lv_at hl 1 rfl) ?_
      refine lv_iadd hx hb dX9_run_30 ?_
      refine lv_topi (fun x11 ex11 => ?_)
      replace h := nm_use ex11 h
      refine lv_istore_n (lv' := [(2, .int x11), (0, .ref (ad 0)), (1, .int p1)]) hx hb dX9_run_31 rfl hl (by decide) rfl (fun ls hl => ?_)
      refine lv_aload_n hx hb dX9_run_32 rfl (lv_at hl 1 rfl) ?_
      refine lv_iconst (v := (0 : Int32)) hx hb dX9_run_33 (by decide) ?_
      refine mp_0_10 X hP hD hS k_767 (by decide) dX9_run_34 (fun H locs hP hD hS => ?_)
      exact cX9_run_lp37 X 20001 h hP hD hS (lv_sub hl [1, 2, 0] rfl)
    · replace h := if_no h c10
      refine lv_iconst (v := (0 : Int32)) hx hb dX9_run_23 (by decide) ?_
      obtain ⟨rfl, rfl⟩ := Prod.mk.inj (Option.some.inj h)
      exact sw_bret X (bz_n (by decide)) hP hD hS dX9_run_24
  replace h := h6
  clear h6
  refine lv_if_eq (tgt := 16) hx hb dX9_run_9 (by decide) (fun c4 => ?_) (fun c4 => ?_)
  · replace h := if_yes h c4
    refine lv_iconst (v := (1 : Int32)) hx hb dX9_run_16 (by decide) ?_
    obtain rfl := Option.some.inj h
    exact K3 _ _ hP hD hS
  · replace h := if_no h c4
    refine lv_iconst (v := (0 : Int32)) hx hb dX9_run_12 (by decide) ?_
    refine lv_goto (tgt := 17) hx hb dX9_run_13 (by decide) ?_
    obtain rfl := Option.some.inj h
    exact K3 _ _ hP hD hS
theorem dX9_poke_0 : decode cX9_poke 0 = .ok (.aload_n 0, 1) := by decide +kernel
theorem dX9_poke_1 : decode cX9_poke 1 = .ok (.iload_n 1, 1) := by decide +kernel
theorem dX9_poke_2 : decode cX9_poke 2 = .ok (.iconst 0, 1) := by decide +kernel
theorem dX9_poke_3 : decode cX9_poke 3 = .ok (.sipush 4095, 3) := by decide +kernel
theorem dX9_poke_6 : decode cX9_poke 6 = .ok (.invokestatic 35, 3) := by decide +kernel
theorem dX9_poke_9 : decode cX9_poke 9 = .ok (.ifCond .eq 16, 3) := by decide +kernel
theorem dX9_poke_12 : decode cX9_poke 12 = .ok (.iload_n 3, 1) := by decide +kernel
theorem dX9_poke_13 : decode cX9_poke 13 = .ok (.iconst 1, 1) := by decide +kernel
theorem dX9_poke_14 : decode cX9_poke 14 = .ok (.iconst 4, 1) := by decide +kernel
theorem dX9_poke_15 : decode cX9_poke 15 = .ok (.invokestatic 35, 3) := by decide +kernel
theorem dX9_poke_18 : decode cX9_poke 18 = .ok (.ifCond .eq 7, 3) := by decide +kernel
theorem dX9_poke_21 : decode cX9_poke 21 = .ok (.iconst 0, 1) := by decide +kernel
theorem dX9_poke_22 : decode cX9_poke 22 = .ok (.goto 4, 3) := by decide +kernel
theorem dX9_poke_25 : decode cX9_poke 25 = .ok (.iconst 1, 1) := by decide +kernel
theorem dX9_poke_26 : decode cX9_poke 26 = .ok (.invokevirtual 218, 3) := by decide +kernel
theorem dX9_poke_29 : decode cX9_poke 29 = .ok (.ifCond .eq 5, 3) := by decide +kernel
theorem dX9_poke_32 : decode cX9_poke 32 = .ok (.iconst 0, 1) := by decide +kernel
theorem dX9_poke_33 : decode cX9_poke 33 = .ok (.ireturn, 1) := by decide +kernel
theorem dX9_poke_34 : decode cX9_poke 34 = .ok (.iconst 0, 1) := by decide +kernel
theorem dX9_poke_35 : decode cX9_poke 35 = .ok (.istore 4, 2) := by decide +kernel
theorem dX9_poke_37 : decode cX9_poke 37 = .ok (.iload 4, 2) := by decide +kernel
theorem dX9_poke_39 : decode cX9_poke 39 = .ok (.iload_n 3, 1) := by decide +kernel
theorem dX9_poke_40 : decode cX9_poke 40 = .ok (.if_icmp .ge 36, 3) := by decide +kernel
theorem dX9_poke_43 : decode cX9_poke 43 = .ok (.aload_n 0, 1) := by decide +kernel
theorem dX9_poke_44 : decode cX9_poke 44 = .ok (.getfield 7, 3) := by decide +kernel
theorem dX9_poke_47 : decode cX9_poke 47 = .ok (.iload_n 1, 1) := by decide +kernel
theorem dX9_poke_48 : decode cX9_poke 48 = .ok (.iload 4, 2) := by decide +kernel
theorem dX9_poke_50 : decode cX9_poke 50 = .ok (.iadd, 1) := by decide +kernel
theorem dX9_poke_51 : decode cX9_poke 51 = .ok (.sipush 4095, 3) := by decide +kernel
theorem dX9_poke_54 : decode cX9_poke 54 = .ok (.iand, 1) := by decide +kernel
theorem dX9_poke_55 : decode cX9_poke 55 = .ok (.iload_n 2, 1) := by decide +kernel
theorem dX9_poke_56 : decode cX9_poke 56 = .ok (.bipush 24, 2) := by decide +kernel
theorem dX9_poke_58 : decode cX9_poke 58 = .ok (.bipush 8, 2) := by decide +kernel
theorem dX9_poke_60 : decode cX9_poke 60 = .ok (.iload 4, 2) := by decide +kernel
theorem dX9_poke_62 : decode cX9_poke 62 = .ok (.imul, 1) := by decide +kernel
theorem dX9_poke_63 : decode cX9_poke 63 = .ok (.isub, 1) := by decide +kernel
theorem dX9_poke_64 : decode cX9_poke 64 = .ok (.ishr, 1) := by decide +kernel
theorem dX9_poke_65 : decode cX9_poke 65 = .ok (.sipush 255, 3) := by decide +kernel
theorem dX9_poke_68 : decode cX9_poke 68 = .ok (.iand, 1) := by decide +kernel
theorem dX9_poke_69 : decode cX9_poke 69 = .ok (.iastore, 1) := by decide +kernel
theorem dX9_poke_70 : decode cX9_poke 70 = .ok (.iinc 4 1, 3) := by decide +kernel
theorem dX9_poke_73 : decode cX9_poke 73 = .ok (.goto (-36), 3) := by decide +kernel
theorem dX9_poke_76 : decode cX9_poke 76 = .ok (.iload_n 1, 1) := by decide +kernel
theorem dX9_poke_77 : decode cX9_poke 77 = .ok (.iload_n 3, 1) := by decide +kernel
theorem dX9_poke_78 : decode cX9_poke 78 = .ok (.iadd, 1) := by decide +kernel
theorem dX9_poke_79 : decode cX9_poke 79 = .ok (.sipush 4095, 3) := by decide +kernel
theorem dX9_poke_82 : decode cX9_poke 82 = .ok (.iand, 1) := by decide +kernel
theorem dX9_poke_83 : decode cX9_poke 83 = .ok (.ireturn, 1) := by decide +kernel
def fX9_poke_L37 : Nat → Int32 → Int32 → Int32 → Int32 → zS → Option (Int32 × zS)
  | 0, _, _, _, _, _ => none
  | n + 1, v1, v2, v3, v4, s0 => if v3 ≤ v4 then (some (((v1 + v3) &&& (4095 : Int32)), s0)) else (gd (0 ≤ ((v1 + v4) &&& (4095 : Int32)) ∧ ((v1 + v4) &&& (4095 : Int32)) < 4096) <| nm (v4 + (1 : Int32)) fun x19 => fX9_poke_L37 n v1 v2 v3 x19 (st2 s0 0 (((v1 + v4) &&& (4095 : Int32)).toNatClampNeg) ((v2 >>> (((24 : Int32) - ((8 : Int32) * v4)) &&& 31)) &&& (255 : Int32))))
set_option maxHeartbeats 4000000 in
set_option maxRecDepth 100000 in
theorem cX9_poke_lp37 {l : Launch} {dC : Nat → ClassId} {dI : Nat → Nat → Nat} {ad : Nat → Nat} {cI : ClassId} {zr : Int32} {zs : zS} {p : Program} {e : Env} {s : State} {m : MethodId} {args : Array Value} {below : List Frame} {meth : Method} {c : Code} {A : Nat → Prop} (X : sw_X p s m args meth c cX9_poke 5 RX9 (some .int) (sw_ws yX9_poke cX9_poke 5 (some .int)) (dC, dI) vwCl [(cI, .int)] mF A) : ∀ (n : Nat) {v1 v2 v3 v4 : Int32} {s0 : zS} {H : Heap} {locs : List Loc} {ls : Array Slot}, fX9_poke_L37 n v1 v2 v3 v4 s0 = some (zr, zs) → va_P (dC, dI) vwCl (mW ad cI s0) H → va_D A (mW ad cI s0) → va_S A s.heap H locs → lv_has ls 5 [(0, .ref (ad 0)), (1, .int v1), (2, .int v2), (3, .int v3), (4, .int v4)] → W p l e (sw_rm 1 22) s m args below meth c H locs 0 0 (MQ below (sw_Qi (dC, dI) vwCl [(cI, .int)] A (mW ad cI zs) zr) args s 0 0 A) (F0 m 37 ls []) := by
  have hx := X.1.1
  have hb := X.1.2.1
  have hown := X.1.2.2.2.1
  have hts := X.1.2.2.2.2
  intro n
  induction n with
  | zero =>
    intro v1 v2 v3 v4 s0 H locs ls h
    rw [fX9_poke_L37] at h
    exact absurd h (fun h9 => by cases h9)
  | succ n ih =>
    intro v1 v2 v3 v4 s0 H locs ls h hP hD hS hl
    rw [fX9_poke_L37] at h
    refine lv_iload hx hb dX9_poke_37 (lv_at hl 4 rfl) ?_
    refine lv_iload_n hx hb dX9_poke_39 rfl (lv_at hl 3 rfl) ?_
    refine lv_icmp_ge (tgt := 76) hx hb dX9_poke_40 (by decide) (fun c17 => ?_) (fun c17 => ?_)
    · replace h := if_yes h c17
      refine lv_iload_n hx hb dX9_poke_76 rfl (lv_at hl 1 rfl) ?_
      refine lv_iload_n hx hb dX9_poke_77 rfl (lv_at hl 3 rfl) ?_
      refine lv_iadd hx hb dX9_poke_78 ?_
      refine lv_sipush (v := (4095 : Int32)) hx hb dX9_poke_79 (by decide) ?_
      refine lv_iand hx hb dX9_poke_82 ?_
      obtain ⟨rfl, rfl⟩ := Prod.mk.inj (Option.some.inj h)
      exact sw_iret X hP hD hS dX9_poke_83
    · replace h := if_no h c17
      refine lv_aload_n hx hb dX9_poke_43 rfl (lv_at hl 0 rfl) ?_
      refine mg_0_1 X hP k_758 dX9_poke_44 ?_
      refine lv_iload_n hx hb dX9_poke_47 rfl (lv_at hl 1 rfl) ?_
      refine lv_iload hx hb dX9_poke_48 (lv_at hl 4 rfl) ?_
      refine lv_iadd hx hb dX9_poke_50 ?_
      refine lv_sipush (v := (4095 : Int32)) hx hb dX9_poke_51 (by decide) ?_
      refine lv_iand hx hb dX9_poke_54 ?_
      refine lv_iload_n hx hb dX9_poke_55 rfl (lv_at hl 2 rfl) ?_
      refine lv_bipush (v := (24 : Int32)) hx hb dX9_poke_56 (by decide) ?_
      refine lv_bipush (v := (8 : Int32)) hx hb dX9_poke_58 (by decide) ?_
      refine lv_iload hx hb dX9_poke_60 (lv_at hl 4 rfl) ?_
      refine lv_imul hx hb dX9_poke_62 ?_
      refine lv_isub hx hb dX9_poke_63 ?_
      refine lv_ishr hx hb dX9_poke_64 ?_
      refine lv_sipush (v := (255 : Int32)) hx hb dX9_poke_65 (by decide) ?_
      refine lv_iand hx hb dX9_poke_68 ?_
      have hq := gd_some h; clear h; obtain ⟨c18, h⟩ := hq
      refine mb_0 X hP hD hS (vin_in c18 (by decide)) dX9_poke_69 (fun H locs hP hD hS => ?_)
      obtain ⟨x19, ex19⟩ : ∃ y : Int32, y = v4 + (1 : Int32) := ⟨_, rfl⟩
      replace h := nm_use ex19 h
      refine lv_iinc (v := x19) (lv' := [(4, .int x19), (0, .ref (ad 0)), (1, .int v1), (2, .int v2), (3, .int v3)]) hx hb dX9_poke_70 hl (k := 4) rfl (by rw [ex19]; rfl) (by decide) rfl (fun ls hl => ?_)
      refine lv_goto (tgt := 37) hx hb dX9_poke_73 (by decide) ?_
      exact ih  h hP hD hS (lv_sub hl [1, 2, 3, 4, 0] rfl)
def fX9_poke (p1 p2 p3 : Int32) (s0 : zS) : Option (Int32 × zS) := bd (fX9_isIn p1 (0 : Int32) (4095 : Int32)) fun r2 => bd (if r2 = (0 : Int32) then (some (1 : Int32)) else (bd (fX9_isIn p3 (1 : Int32) (4 : Int32)) fun r6 => bd (if r6 = (0 : Int32) then (some (1 : Int32)) else (some (0 : Int32))) fun x9 => some x9)) fun x11 => bd2 (fX9_refused x11 s0) fun r14 s15 => if r14 = (0 : Int32) then (fX9_poke_L37 20001 p1 p2 p3 (0 : Int32) s15) else (some ((0 : Int32), s15))
set_option maxHeartbeats 4000000 in
set_option maxRecDepth 100000 in
theorem cX9_poke_m {l : Launch} {dC : Nat → ClassId} {dI : Nat → Nat → Nat} {ad : Nat → Nat} {cI : ClassId} {p1 p2 p3 : Int32} {s0 : zS} {zr : Int32} {zs : zS} (h : fX9_poke p1 p2 p3 s0 = some (zr, zs)) : sw_Mi l yX9_poke (sw_ws yX9_poke cX9_poke 5 (some .int)) (sw_rm 1 22) (dC, dI) vwCl [(cI, .int)] mF [.ref (ad 0), .int p1, .int p2, .int p3] (mW ad cI s0) (mW ad cI zs) zr := by
  intro sz
  refine sw_of (cc := cX9_poke) (maxL := 5) (ret := (some .int)) (by decide) rfl (Nat.le_of_ble_eq_true rfl) ?_
  intro p e s m args below meth c A ls hAe hsz X _ hP hD hS hl
  rw [hAe]
  have hx := X.1.1
  have hb := X.1.2.1
  have hown := X.1.2.2.2.1
  have hts := X.1.2.2.2.2
  replace hl : lv_has ls 5 [(0, .ref (ad 0)), (1, .int p1), (2, .int p2), (3, .int p3)] := hl
  unfold fX9_poke at h
  refine lv_aload_n hx hb dX9_poke_0 rfl (lv_at hl 0 rfl) ?_
  refine lv_iload_n hx hb dX9_poke_1 rfl (lv_at hl 1 rfl) ?_
  refine lv_iconst (v := (0 : Int32)) hx hb dX9_poke_2 (by decide) ?_
  refine lv_sipush (v := (4095 : Int32)) hx hb dX9_poke_3 (by decide) ?_
  have hq := bd_some h; clear h; obtain ⟨r2, h1, h⟩ := hq
  refine sw_si (rest := [.ref (ad 0)]) m_good X (cX9_isIn_m h1) calX9_isIn k_826 hP hD hS ⟨rfl, rfl⟩ rfl hl.1 rfl (Nat.le_of_ble_eq_true rfl) dX9_poke_6 (fun H locs hP hD hS => ?_)
  have hq := bd_some h; clear h; obtain ⟨x11, h12, h⟩ := hq
  have K3 : ∀ (H : Heap) (locs : List Loc), va_P (dC, dI) vwCl (mW ad cI s0) H → va_D A (mW ad cI s0) → va_S A s.heap H locs → W p l e (sw_rm 1 22) s m args below meth c H locs 0 0 (MQ below (sw_Qi (dC, dI) vwCl [(cI, .int)] A (mW ad cI zs) zr) args s 0 0 A) (F0 m 26 ls [.int x11, .ref (ad 0)]) := by
    intro H locs hP hD hS
    have hq := bd2_some h; clear h; obtain ⟨r14, s15, h13, h⟩ := hq
    refine sw_vi (rest := []) m_good X (cX9_refused_m h13) calX9_refused k_829 hP hD hS 0 9 rfl rfl rfl ⟨rfl, rfl⟩ rfl hl.1 rfl (Nat.le_of_ble_eq_true rfl) dX9_poke_26 (fun H locs hP hD hS => ?_)
    refine lv_if_eq (tgt := 34) hx hb dX9_poke_29 (by decide) (fun c16 => ?_) (fun c16 => ?_)
    · replace h := if_yes h c16
      refine lv_iconst (v := (0 : Int32)) hx hb dX9_poke_34 (by decide) ?_
      refine lv_istore (lv' := [(4, .int (0 : Int32)), (0, .ref (ad 0)), (1, .int p1), (2, .int p2), (3, .int p3)]) hx hb dX9_poke_35 hl (by decide) rfl (fun ls hl => ?_)
      exact cX9_poke_lp37 X 20001 h hP hD hS (lv_sub hl [1, 2, 3, 4, 0] rfl)
    · replace h := if_no h c16
      refine lv_iconst (v := (0 : Int32)) hx hb dX9_poke_32 (by decide) ?_
      obtain ⟨rfl, rfl⟩ := Prod.mk.inj (Option.some.inj h)
      exact sw_iret X hP hD hS dX9_poke_33
  replace h := h12
  clear h12
  refine lv_if_eq (tgt := 25) hx hb dX9_poke_9 (by decide) (fun c4 => ?_) (fun c4 => ?_)
  · replace h := if_yes h c4
    refine lv_iconst (v := (1 : Int32)) hx hb dX9_poke_25 (by decide) ?_
    obtain rfl := Option.some.inj h
    exact K3 _ _ hP hD hS
  · replace h := if_no h c4
    refine lv_iload_n hx hb dX9_poke_12 rfl (lv_at hl 3 rfl) ?_
    refine lv_iconst (v := (1 : Int32)) hx hb dX9_poke_13 (by decide) ?_
    refine lv_iconst (v := (4 : Int32)) hx hb dX9_poke_14 (by decide) ?_
    have hq := bd_some h; clear h; obtain ⟨r6, h5, h⟩ := hq
    refine sw_si (rest := [.ref (ad 0)]) m_good X (cX9_isIn_m h5) calX9_isIn k_826 hP hD hS ⟨rfl, rfl⟩ rfl hl.1 rfl (Nat.le_of_ble_eq_true rfl) dX9_poke_15 (fun H locs hP hD hS => ?_)
    have hq := bd_some h; clear h; obtain ⟨x9, h10, h⟩ := hq
    have K7 : ∀ (H : Heap) (locs : List Loc), va_P (dC, dI) vwCl (mW ad cI s0) H → va_D A (mW ad cI s0) → va_S A s.heap H locs → W p l e (sw_rm 1 22) s m args below meth c H locs 0 0 (MQ below (sw_Qi (dC, dI) vwCl [(cI, .int)] A (mW ad cI zs) zr) args s 0 0 A) (F0 m 26 ls [.int x9, .ref (ad 0)]) := by
      intro H locs hP hD hS
      obtain rfl := Option.some.inj h
      exact K3 _ _ hP hD hS
    replace h := h10
    clear h10
    refine lv_if_eq (tgt := 25) hx hb dX9_poke_18 (by decide) (fun c8 => ?_) (fun c8 => ?_)
    · replace h := if_yes h c8
      refine lv_iconst (v := (1 : Int32)) hx hb dX9_poke_25 (by decide) ?_
      obtain rfl := Option.some.inj h
      exact K7 _ _ hP hD hS
    · replace h := if_no h c8
      refine lv_iconst (v := (0 : Int32)) hx hb dX9_poke_21 (by decide) ?_
      refine lv_goto (tgt := 26) hx hb dX9_poke_22 (by decide) ?_
      obtain rfl := Option.some.inj h
      exact K7 _ _ hP hD hS
