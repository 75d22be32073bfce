theorem dX9_various_0 : decode cX9_various 0 = .ok (.iload_n 1, 1) := by decide +kernel
theorem dX9_various_1 : decode cX9_various 1 = .ok (.tableswitch 175 0 5 #[39, 50, 61, 72, 83, 151], 39) := by decide +kernel
theorem dX9_various_40 : decode cX9_various 40 = .ok (.aload_n 0, 1) := by decide +kernel
theorem dX9_various_41 : decode cX9_various 41 = .ok (.aload_n 0, 1) := by decide +kernel
theorem dX9_various_42 : decode cX9_various 42 = .ok (.invokevirtual 110, 3) := by decide +kernel
theorem dX9_various_45 : decode cX9_various 45 = .ok (.putfield 46, 3) := by decide +kernel
theorem dX9_various_48 : decode cX9_various 48 = .ok (.goto 158, 3) := by decide +kernel
theorem dX9_various_51 : decode cX9_various 51 = .ok (.aload_n 0, 1) := by decide +kernel
theorem dX9_various_52 : decode cX9_various 52 = .ok (.aload_n 0, 1) := by decide +kernel
theorem dX9_various_53 : decode cX9_various 53 = .ok (.invokevirtual 161, 3) := by decide +kernel
theorem dX9_various_56 : decode cX9_various 56 = .ok (.invokevirtual 167, 3) := by decide +kernel
theorem dX9_various_59 : decode cX9_various 59 = .ok (.goto 147, 3) := by decide +kernel
theorem dX9_various_62 : decode cX9_various 62 = .ok (.aload_n 0, 1) := by decide +kernel
theorem dX9_various_63 : decode cX9_various 63 = .ok (.aload_n 0, 1) := by decide +kernel
theorem dX9_various_64 : decode cX9_various 64 = .ok (.invokevirtual 54, 3) := by decide +kernel
theorem dX9_various_67 : decode cX9_various 67 = .ok (.invokevirtual 170, 3) := by decide +kernel
theorem dX9_various_70 : decode cX9_various 70 = .ok (.goto 136, 3) := by decide +kernel
theorem dX9_various_73 : decode cX9_various 73 = .ok (.aload_n 0, 1) := by decide +kernel
theorem dX9_various_74 : decode cX9_various 74 = .ok (.aload_n 0, 1) := by decide +kernel
theorem dX9_various_75 : decode cX9_various 75 = .ok (.invokevirtual 54, 3) := by decide +kernel
theorem dX9_various_78 : decode cX9_various 78 = .ok (.invokevirtual 173, 3) := by decide +kernel
theorem dX9_various_81 : decode cX9_various 81 = .ok (.goto 125, 3) := by decide +kernel
theorem dX9_various_84 : decode cX9_various 84 = .ok (.aload_n 0, 1) := by decide +kernel
theorem dX9_various_85 : decode cX9_various 85 = .ok (.aload_n 0, 1) := by decide +kernel
theorem dX9_various_86 : decode cX9_various 86 = .ok (.getfield 58, 3) := by decide +kernel
theorem dX9_various_89 : decode cX9_various 89 = .ok (.invokevirtual 65, 3) := by decide +kernel
theorem dX9_various_92 : decode cX9_various 92 = .ok (.istore_n 2, 1) := by decide +kernel
theorem dX9_various_93 : decode cX9_various 93 = .ok (.aload_n 0, 1) := by decide +kernel
theorem dX9_various_94 : decode cX9_various 94 = .ok (.aload_n 0, 1) := by decide +kernel
theorem dX9_various_95 : decode cX9_various 95 = .ok (.getfield 32, 3) := by decide +kernel
theorem dX9_various_98 : decode cX9_various 98 = .ok (.iconst 1, 1) := by decide +kernel
theorem dX9_various_99 : decode cX9_various 99 = .ok (.iadd, 1) := by decide +kernel
theorem dX9_various_100 : decode cX9_various 100 = .ok (.putfield 32, 3) := by decide +kernel
theorem dX9_various_103 : decode cX9_various 103 = .ok (.aload_n 0, 1) := by decide +kernel
theorem dX9_various_104 : decode cX9_various 104 = .ok (.aload_n 0, 1) := by decide +kernel
theorem dX9_various_105 : decode cX9_various 105 = .ok (.getfield 58, 3) := by decide +kernel
theorem dX9_various_108 : decode cX9_various 108 = .ok (.aload_n 0, 1) := by decide +kernel
theorem dX9_various_109 : decode cX9_various 109 = .ok (.getfield 13, 3) := by decide +kernel
theorem dX9_various_112 : decode cX9_various 112 = .ok (.iconst 5, 1) := by decide +kernel
theorem dX9_various_113 : decode cX9_various 113 = .ok (.iaload, 1) := by decide +kernel
theorem dX9_various_114 : decode cX9_various 114 = .ok (.invokevirtual 61, 3) := by decide +kernel
theorem dX9_various_117 : decode cX9_various 117 = .ok (.aload_n 0, 1) := by decide +kernel
theorem dX9_various_118 : decode cX9_various 118 = .ok (.aload_n 0, 1) := by decide +kernel
theorem dX9_various_119 : decode cX9_various 119 = .ok (.getfield 58, 3) := by decide +kernel
theorem dX9_various_122 : decode cX9_various 122 = .ok (.iconst 1, 1) := by decide +kernel
theorem dX9_various_123 : decode cX9_various 123 = .ok (.iadd, 1) := by decide +kernel
theorem dX9_various_124 : decode cX9_various 124 = .ok (.aload_n 0, 1) := by decide +kernel
theorem dX9_various_125 : decode cX9_various 125 = .ok (.getfield 13, 3) := by decide +kernel
theorem dX9_various_128 : decode cX9_various 128 = .ok (.iconst 4, 1) := by decide +kernel
theorem dX9_various_129 : decode cX9_various 129 = .ok (.iaload, 1) := by decide +kernel
theorem dX9_various_130 : decode cX9_various 130 = .ok (.invokevirtual 61, 3) := by decide +kernel
theorem dX9_various_133 : decode cX9_various 133 = .ok (.aload_n 0, 1) := by decide +kernel
theorem dX9_various_134 : decode cX9_various 134 = .ok (.aload_n 0, 1) := by decide +kernel
theorem dX9_various_135 : decode cX9_various 135 = .ok (.getfield 32, 3) := by decide +kernel
theorem dX9_various_138 : decode cX9_various 138 = .ok (.iconst 2, 1) := by decide +kernel
theorem dX9_various_139 : decode cX9_various 139 = .ok (.iadd, 1) := by decide +kernel
theorem dX9_various_140 : decode cX9_various 140 = .ok (.putfield 32, 3) := by decide +kernel
theorem dX9_various_143 : decode cX9_various 143 = .ok (.aload_n 0, 1) := by decide +kernel
theorem dX9_various_144 : decode cX9_various 144 = .ok (.iconst 2, 1) := by decide +kernel
theorem dX9_various_145 : decode cX9_various 145 = .ok (.iload_n 2, 1) := by decide +kernel
theorem dX9_various_146 : decode cX9_various 146 = .ok (.invokevirtual 90, 3) := by decide +kernel
theorem dX9_various_149 : decode cX9_various 149 = .ok (.goto 57, 3) := by decide +kernel
theorem dX9_various_152 : decode cX9_various 152 = .ok (.aload_n 0, 1) := by decide +kernel
theorem dX9_various_153 : decode cX9_various 153 = .ok (.iconst 1, 1) := by decide +kernel
theorem dX9_various_154 : decode cX9_various 154 = .ok (.invokevirtual 68, 3) := by decide +kernel
theorem dX9_various_157 : decode cX9_various 157 = .ok (.istore_n 3, 1) := by decide +kernel
theorem dX9_various_158 : decode cX9_various 158 = .ok (.aload_n 0, 1) := by decide +kernel
theorem dX9_various_159 : decode cX9_various 159 = .ok (.iconst 1, 1) := by decide +kernel
theorem dX9_various_160 : decode cX9_various 160 = .ok (.aload_n 0, 1) := by decide +kernel
theorem dX9_various_161 : decode cX9_various 161 = .ok (.invokevirtual 71, 3) := by decide +kernel
theorem dX9_various_164 : decode cX9_various 164 = .ok (.invokevirtual 90, 3) := by decide +kernel
theorem dX9_various_167 : decode cX9_various 167 = .ok (.aload_n 0, 1) := by decide +kernel
theorem dX9_various_168 : decode cX9_various 168 = .ok (.iconst 2, 1) := by decide +kernel
theorem dX9_various_169 : decode cX9_various 169 = .ok (.iload_n 3, 1) := by decide +kernel
theorem dX9_various_170 : decode cX9_various 170 = .ok (.invokevirtual 90, 3) := by decide +kernel
theorem dX9_various_173 : decode cX9_various 173 = .ok (.goto 33, 3) := by decide +kernel
theorem dX9_various_176 : decode cX9_various 176 = .ok (.aload_n 0, 1) := by decide +kernel
theorem dX9_various_177 : decode cX9_various 177 = .ok (.iload_n 1, 1) := by decide +kernel
theorem dX9_various_178 : decode cX9_various 178 = .ok (.bipush 7, 2) := by decide +kernel
theorem dX9_various_180 : decode cX9_various 180 = .ok (.if_icmp .ne 7, 3) := by decide +kernel
theorem dX9_various_183 : decode cX9_various 183 = .ok (.iconst 1, 1) := by decide +kernel
theorem dX9_various_184 : decode cX9_various 184 = .ok (.goto 4, 3) := by decide +kernel
theorem dX9_various_187 : decode cX9_various 187 = .ok (.iconst 0, 1) := by decide +kernel
theorem dX9_various_188 : decode cX9_various 188 = .ok (.putfield 176, 3) := by decide +kernel
theorem dX9_various_191 : decode cX9_various 191 = .ok (.aload_n 0, 1) := by decide +kernel
theorem dX9_various_192 : decode cX9_various 192 = .ok (.iload_n 1, 1) := by decide +kernel
theorem dX9_various_193 : decode cX9_various 193 = .ok (.bipush 7, 2) := by decide +kernel
theorem dX9_various_195 : decode cX9_various 195 = .ok (.if_icmp .ne 7, 3) := by decide +kernel
theorem dX9_various_198 : decode cX9_various 198 = .ok (.iconst 1, 1) := by decide +kernel
theorem dX9_various_199 : decode cX9_various 199 = .ok (.goto 4, 3) := by decide +kernel
theorem dX9_various_202 : decode cX9_various 202 = .ok (.iconst 0, 1) := by decide +kernel
theorem dX9_various_203 : decode cX9_various 203 = .ok (.putfield 179, 3) := by decide +kernel
theorem dX9_various_206 : decode cX9_various 206 = .ok (.return_, 1) := by decide +kernel
def fX9_various (p1 : Int32) (s0 : zS) : Option (zS) := if p1 ∈ ([(0 : Int32)] : List Int32) then (bd2 (fX9_nextPair  s0) fun r3 s4 => some (st1 s4 2 r3)) else if p1 ∈ ([(1 : Int32)] : List Int32) then (bd2 (fX9_fetch  s0) fun r7 s8 => bd (fX9_bits r7 s8) fun s10 => some s10) else if p1 ∈ ([(2 : Int32)] : List Int32) then (bd2 (fX9_next  s0) fun r13 s14 => bd (fX9_send r13 s14) fun s16 => some s16) else if p1 ∈ ([(3 : Int32)] : List Int32) then (bd2 (fX9_next  s0) fun r19 s20 => bd (fX9_receive r19 s20) fun s22 => some s22) else if p1 ∈ ([(4 : Int32)] : List Int32) then (bd2 (fX9_readPair (s0.1 1) s0) fun r25 s26 => bd (fX9_write ((st1 s26 3 ((s26.1 3) + (1 : Int32))).1 1) ((st1 s26 3 ((s26.1 3) + (1 : Int32))).2 1 ((5 : Int32).toNatClampNeg)) (st1 s26 3 ((s26.1 3) + (1 : Int32)))) fun s28 => bd (fX9_write ((s28.1 1) + (1 : Int32)) (s28.2 1 ((4 : Int32).toNatClampNeg)) s28) fun s30 => bd (fX9_setPair (2 : Int32) r25 (st1 s30 3 ((s30.1 3) + (2 : Int32)))) fun s32 => some s32) else if p1 ∈ ([(5 : Int32)] : List Int32) then (bd2 (fX9_pair (1 : Int32) s0) fun r35 s36 => bd2 (fX9_hl  s36) fun r38 s39 => bd (fX9_setPair (1 : Int32) r38 s39) fun s41 => bd (fX9_setPair (2 : Int32) r35 s41) fun s43 => some s43) else (bd (if p1 = (7 : Int32) then (some (1 : Int32)) else (some (0 : Int32))) fun x46 => gd (x46 = 0 ∨ x46 = 1) <| bd (if p1 = (7 : Int32) then (some (1 : Int32)) else (some (0 : Int32))) fun x51 => gd (x51 = 0 ∨ x51 = 1) <| some (st1 (st1 s0 5 x46) 6 x51))
set_option maxHeartbeats 4000000 in
set_option maxRecDepth 100000 in
theorem cX9_various_m {l : Launch} {dC : Nat → ClassId} {dI : Nat → Nat → Nat} {ad : Nat → Nat} {cI : ClassId} {p1 : Int32} {s0 : zS} {zs : zS} (h : fX9_various p1 s0 = some zs) : sw_Mv l yX9_various (sw_ws yX9_various cX9_various 4 none) (sw_rm 5 112) (dC, dI) vwCl [(cI, .int)] mF [.ref (ad 0), .int p1] (mW ad cI s0) (mW ad cI zs) := by
  intro sz
  refine sw_of (cc := cX9_various) (maxL := 4) (ret := none) (by decide) rfl (Nat.le_of_ble_eq_true rfl) ?_
  intro p e s m args below meth c A ls hAe hsz X _ hP hD hS hl
  rw [hAe]
  have hx := X.1.1
  have hb := X.1.2.1
  have hown := X.1.2.2.2.1
  have hts := X.1.2.2.2.2
  replace hl : lv_has ls 4 [(0, .ref (ad 0)), (1, .int p1)] := hl
  unfold fX9_various at h
  refine lv_iload_n hx hb dX9_various_0 rfl (lv_at hl 1 rfl) ?_
  by_cases c1 : p1 ∈ ([(0 : Int32)] : List Int32)
  · replace h := if_yes h c1
    refine sw_tabK (tgt := 40) (off := 39) hx hb dX9_various_1 _ c1 (by decide +kernel) (by decide) ?_
    refine lv_aload_n hx hb dX9_various_40 rfl (lv_at hl 0 rfl) ?_
    refine lv_aload_n hx hb dX9_various_41 rfl (lv_at hl 0 rfl) ?_
    have hq := bd2_some h; clear h; obtain ⟨r3, s4, h2, h⟩ := hq
    refine sw_vi (rest := [.ref (ad 0)]) m_good X (cX9_nextPair_m h2) calX9_nextPair k_886 hP hD hS 0 9 rfl rfl rfl ⟨rfl, rfl⟩ rfl hl.1 rfl (Nat.le_of_ble_eq_true rfl) dX9_various_42 (fun H locs hP hD hS => ?_)
    refine mp_0_5 X hP hD hS k_762 dX9_various_45 (fun H locs hP hD hS => ?_)
    refine lv_goto (tgt := 206) hx hb dX9_various_48 (by decide) ?_
    obtain rfl := Option.some.inj h
    exact sw_vret X hP hD hS dX9_various_206
  · replace h := if_no h c1
    by_cases c5 : p1 ∈ ([(1 : Int32)] : List Int32)
    · replace h := if_yes h c5
      refine sw_tabK (tgt := 51) (off := 50) hx hb dX9_various_1 _ c5 (by decide +kernel) (by decide) ?_
      refine lv_aload_n hx hb dX9_various_51 rfl (lv_at hl 0 rfl) ?_
      refine lv_aload_n hx hb dX9_various_52 rfl (lv_at hl 0 rfl) ?_
      have hq := bd2_some h; clear h; obtain ⟨r7, s8, h6, h⟩ := hq
      refine sw_vi (rest := [.ref (ad 0)]) m_good X (cX9_fetch_m h6) calX9_fetch k_858 hP hD hS 0 9 rfl rfl rfl ⟨rfl, rfl⟩ rfl hl.1 rfl (Nat.le_of_ble_eq_true rfl) dX9_various_53 (fun H locs hP hD hS => ?_)
      have hq := bd_some h; clear h; obtain ⟨s10, h9, h⟩ := hq
      refine sw_vv (rest := []) m_good X (cX9_bits_m h9) calX9_bits k_980 hP hD hS 0 9 rfl rfl rfl ⟨rfl, rfl⟩ rfl hl.1 rfl (Nat.le_of_ble_eq_true rfl) dX9_various_56 (fun H locs hP hD hS => ?_)
      refine lv_goto (tgt := 206) hx hb dX9_various_59 (by decide) ?_
      obtain rfl := Option.some.inj h
      exact sw_vret X hP hD hS dX9_various_206
    · replace h := if_no h c5
      by_cases c11 : p1 ∈ ([(2 : Int32)] : List Int32)
      · replace h := if_yes h c11
        refine sw_tabK (tgt := 62) (off := 61) hx hb dX9_various_1 _ c11 (by decide +kernel) (by decide) ?_
        refine lv_aload_n hx hb dX9_various_62 rfl (lv_at hl 0 rfl) ?_
        refine lv_aload_n hx hb dX9_various_63 rfl (lv_at hl 0 rfl) ?_
        have hq := bd2_some h; clear h; obtain ⟨r13, s14, h12, h⟩ := hq
        refine sw_vi (rest := [.ref (ad 0)]) m_good X (cX9_next_m h12) calX9_next k_878 hP hD hS 0 9 rfl rfl rfl ⟨rfl, rfl⟩ rfl hl.1 rfl (Nat.le_of_ble_eq_true rfl) dX9_various_64 (fun H locs hP hD hS => ?_)
        have hq := bd_some h; clear h; obtain ⟨s16, h15, h⟩ := hq
        refine sw_vv (rest := []) m_good X (cX9_send_m h15) calX9_send k_984 hP hD hS 0 9 rfl rfl rfl ⟨rfl, rfl⟩ rfl hl.1 rfl (Nat.le_of_ble_eq_true rfl) dX9_various_67 (fun H locs hP hD hS => ?_)
        refine lv_goto (tgt := 206) hx hb dX9_various_70 (by decide) ?_
        obtain rfl := Option.some.inj h
        exact sw_vret X hP hD hS dX9_various_206
      · replace h := if_no h c11
        by_cases c17 : p1 ∈ ([(3 : Int32)] : List Int32)
        · replace h := if_yes h c17
          refine sw_tabK (tgt := 73) (off := 72) hx hb dX9_various_1 _ c17 (by decide +kernel) (by decide) ?_
          refine lv_aload_n hx hb dX9_various_73 rfl (lv_at hl 0 rfl) ?_
          refine lv_aload_n hx hb dX9_various_74 rfl (lv_at hl 0 rfl) ?_
          have hq := bd2_some h; clear h; obtain ⟨r19, s20, h18, h⟩ := hq
          refine sw_vi (rest := [.ref (ad 0)]) m_good X (cX9_next_m h18) calX9_next k_878 hP hD hS 0 9 rfl rfl rfl ⟨rfl, rfl⟩ rfl hl.1 rfl (Nat.le_of_ble_eq_true rfl) dX9_various_75 (fun H locs hP hD hS => ?_)
          have hq := bd_some h; clear h; obtain ⟨s22, h21, h⟩ := hq
          refine sw_vv (rest := []) m_good X (cX9_receive_m h21) calX9_receive k_992 hP hD hS 0 9 rfl rfl rfl ⟨rfl, rfl⟩ rfl hl.1 rfl (Nat.le_of_ble_eq_true rfl) dX9_various_78 (fun H locs hP hD hS => ?_)
          refine lv_goto (tgt := 206) hx hb dX9_various_81 (by decide) ?_
          obtain rfl := Option.some.inj h
          exact sw_vret X hP hD hS dX9_various_206
        · replace h := if_no h c17
          by_cases c23 : p1 ∈ ([(4 : Int32)] : List Int32)
          · replace h := if_yes h c23
            refine sw_tabK (tgt := 84) (off := 83) hx hb dX9_various_1 _ c23 (by decide +kernel) (by decide) ?_
            refine lv_aload_n hx hb dX9_various_84 rfl (lv_at hl 0 rfl) ?_
            refine lv_aload_n hx hb dX9_various_85 rfl (lv_at hl 0 rfl) ?_
            refine mg_0_4 X hP k_761 dX9_various_86 ?_
            have hq := bd2_some h; clear h; obtain ⟨r25, s26, h24, h⟩ := hq
            refine sw_vi (rest := []) m_good X (cX9_readPair_m h24) calX9_readPair k_968 hP hD hS 0 9 rfl rfl rfl ⟨rfl, rfl⟩ rfl hl.1 rfl (Nat.le_of_ble_eq_true rfl) dX9_various_89 (fun H locs hP hD hS => ?_)
            refine lv_istore_n (lv' := [(2, .int r25), (0, .ref (ad 0)), (1, .int p1)]) hx hb dX9_various_92 rfl hl (by decide) rfl (fun ls hl => ?_)
            refine lv_aload_n hx hb dX9_various_93 rfl (lv_at hl 1 rfl) ?_
            refine lv_aload_n hx hb dX9_various_94 rfl (lv_at hl 1 rfl) ?_
            refine mg_0_6 X hP k_763 dX9_various_95 ?_
            refine lv_iconst (v := (1 : Int32)) hx hb dX9_various_98 (by decide) ?_
            refine lv_iadd hx hb dX9_various_99 ?_
            refine mp_0_6 X hP hD hS k_763 dX9_various_100 (fun H locs hP hD hS => ?_)
            refine lv_aload_n hx hb dX9_various_103 rfl (lv_at hl 1 rfl) ?_
            refine lv_aload_n hx hb dX9_various_104 rfl (lv_at hl 1 rfl) ?_
            refine mg_0_4 X hP k_761 dX9_various_105 ?_
            refine lv_aload_n hx hb dX9_various_108 rfl (lv_at hl 1 rfl) ?_
            refine mg_0_2 X hP k_759 dX9_various_109 ?_
            refine lv_iconst (v := (5 : Int32)) hx hb dX9_various_112 (by decide) ?_
            refine ml_1 X hP (vin_in (i := (5 : Int32)) (n := 8) (by decide) (by decide)) dX9_various_113 ?_
            have hq := bd_some h; clear h; obtain ⟨s28, h27, h⟩ := hq
            refine sw_vv (rest := []) m_good X (cX9_write_m h27) calX9_write k_842 hP hD hS 0 9 rfl rfl rfl ⟨rfl, rfl⟩ rfl hl.1 rfl (Nat.le_of_ble_eq_true rfl) dX9_various_114 (fun H locs hP hD hS => ?_)
            refine lv_aload_n hx hb dX9_various_117 rfl (lv_at hl 1 rfl) ?_
            refine lv_aload_n hx hb dX9_various_118 rfl (lv_at hl 1 rfl) ?_
            refine mg_0_4 X hP k_761 dX9_various_119 ?_
            refine lv_iconst (v := (1 : Int32)) hx hb dX9_various_122 (by decide) ?_
            refine lv_iadd hx hb dX9_various_123 ?_
            refine lv_aload_n hx hb dX9_various_124 rfl (lv_at hl 1 rfl) ?_
            refine mg_0_2 X hP k_759 dX9_various_125 ?_
            refine lv_iconst (v := (4 : Int32)) hx hb dX9_various_128 (by decide) ?_
            refine ml_1 X hP (vin_in (i := (4 : Int32)) (n := 8) (by decide) (by decide)) dX9_various_129 ?_
            have hq := bd_some h; clear h; obtain ⟨s30, h29, h⟩ := hq
            refine sw_vv (rest := []) m_good X (cX9_write_m h29) calX9_write k_842 hP hD hS 0 9 rfl rfl rfl ⟨rfl, rfl⟩ rfl hl.1 rfl (Nat.le_of_ble_eq_true rfl) dX9_various_130 (fun H locs hP hD hS => ?_)
            refine lv_aload_n hx hb dX9_various_133 rfl (lv_at hl 1 rfl) ?_
            refine lv_aload_n hx hb dX9_various_134 rfl (lv_at hl 1 rfl) ?_
            refine mg_0_6 X hP k_763 dX9_various_135 ?_
            refine lv_iconst (v := (2 : Int32)) hx hb dX9_various_138 (by decide) ?_
            refine lv_iadd hx hb dX9_various_139 ?_
            refine mp_0_6 X hP hD hS k_763 dX9_various_140 (fun H locs hP hD hS => ?_)
            refine lv_aload_n hx hb dX9_various_143 rfl (lv_at hl 1 rfl) ?_
            refine lv_iconst (v := (2 : Int32)) hx hb dX9_various_144 (by decide) ?_
            refine lv_iload_n hx hb dX9_various_145 rfl (lv_at hl 0 rfl) ?_
            have hq := bd_some h; clear h; obtain ⟨s32, h31, h⟩ := hq
            refine sw_vv (rest := []) m_good X (cX9_setPair_m h31) calX9_setPair k_890 hP hD hS 0 9 rfl rfl rfl ⟨rfl, rfl⟩ rfl hl.1 rfl (Nat.le_of_ble_eq_true rfl) dX9_various_146 (fun H locs hP hD hS => ?_)
            refine lv_goto (tgt := 206) hx hb dX9_various_149 (by decide) ?_
            obtain rfl := Option.some.inj h
            exact sw_vret X hP hD hS dX9_various_206
          · replace h := if_no h c23
            by_cases c33 : p1 ∈ ([(5 : Int32)] : List Int32)
            · replace h := if_yes h c33
              refine sw_tabK (tgt := 152) (off := 151) hx hb dX9_various_1 _ c33 (by decide +kernel) (by decide) ?_
              refine lv_aload_n hx hb dX9_various_152 rfl (lv_at hl 0 rfl) ?_
              refine lv_iconst (v := (1 : Int32)) hx hb dX9_various_153 (by decide) ?_
              have hq := bd2_some h; clear h; obtain ⟨r35, s36, h34, h⟩ := hq
              refine sw_vi (rest := []) m_good X (cX9_pair_m h34) calX9_pair k_902 hP hD hS 0 9 rfl rfl rfl ⟨rfl, rfl⟩ rfl hl.1 rfl (Nat.le_of_ble_eq_true rfl) dX9_various_154 (fun H locs hP hD hS => ?_)
              refine lv_istore_n (lv' := [(3, .int r35), (0, .ref (ad 0)), (1, .int p1)]) hx hb dX9_various_157 rfl hl (by decide) rfl (fun ls hl => ?_)
              refine lv_aload_n hx hb dX9_various_158 rfl (lv_at hl 1 rfl) ?_
              refine lv_iconst (v := (1 : Int32)) hx hb dX9_various_159 (by decide) ?_
              refine lv_aload_n hx hb dX9_various_160 rfl (lv_at hl 1 rfl) ?_
              have hq := bd2_some h; clear h; obtain ⟨r38, s39, h37, h⟩ := hq
              refine sw_vi (rest := [.int (1 : Int32), .ref (ad 0)]) m_good X (cX9_hl_m h37) calX9_hl k_898 hP hD hS 0 9 rfl rfl rfl ⟨rfl, rfl⟩ rfl hl.1 rfl (Nat.le_of_ble_eq_true rfl) dX9_various_161 (fun H locs hP hD hS => ?_)
              have hq := bd_some h; clear h; obtain ⟨s41, h40, h⟩ := hq
              refine sw_vv (rest := []) m_good X (cX9_setPair_m h40) calX9_setPair k_890 hP hD hS 0 9 rfl rfl rfl ⟨rfl, rfl⟩ rfl hl.1 rfl (Nat.le_of_ble_eq_true rfl) dX9_various_164 (fun H locs hP hD hS => ?_)
              refine lv_aload_n hx hb dX9_various_167 rfl (lv_at hl 1 rfl) ?_
              refine lv_iconst (v := (2 : Int32)) hx hb dX9_various_168 (by decide) ?_
              refine lv_iload_n hx hb dX9_various_169 rfl (lv_at hl 0 rfl) ?_
              have hq := bd_some h; clear h; obtain ⟨s43, h42, h⟩ := hq
              refine sw_vv (rest := []) m_good X (cX9_setPair_m h42) calX9_setPair k_890 hP hD hS 0 9 rfl rfl rfl ⟨rfl, rfl⟩ rfl hl.1 rfl (Nat.le_of_ble_eq_true rfl) dX9_various_170 (fun H locs hP hD hS => ?_)
              refine lv_goto (tgt := 206) hx hb dX9_various_173 (by decide) ?_
              obtain rfl := Option.some.inj h
              exact sw_vret X hP hD hS dX9_various_206
            · replace h := if_no h c33
              refine sw_tabD (tgt := 176) hx hb dX9_various_1 (([(0 : Int32)] : List Int32) ++ (([(1 : Int32)] : List Int32) ++ (([(2 : Int32)] : List Int32) ++ (([(3 : Int32)] : List Int32) ++ (([(4 : Int32)] : List Int32) ++ ([(5 : Int32)] : List Int32)))))) (fun hm => (List.mem_append.mp hm).elim c1 (fun hm => (List.mem_append.mp hm).elim c5 (fun hm => (List.mem_append.mp hm).elim c11 (fun hm => (List.mem_append.mp hm).elim c17 (fun hm => (List.mem_append.mp hm).elim c23 c33))))) (by decide +kernel) (by decide) ?_
              refine lv_aload_n hx hb dX9_various_176 rfl (lv_at hl 0 rfl) ?_
              refine lv_iload_n hx hb dX9_various_177 rfl (lv_at hl 1 rfl) ?_
              refine lv_bipush (v := (7 : Int32)) hx hb dX9_various_178 (by decide) ?_
              have hq := bd_some h; clear h; obtain ⟨x46, h47, h⟩ := hq
              have K44 : ∀ (H : Heap) (locs : List Loc), va_P (dC, dI) vwCl (mW ad cI s0) H → va_D A (mW ad cI s0) → va_S A s.heap H locs → W p l e (sw_rm 5 112) s m args below meth c H locs 0 0 (MQ below (sw_Qv (dC, dI) vwCl [(cI, .int)] A (mW ad cI zs)) args s 0 0 A) (F0 m 188 ls [.int x46, .ref (ad 0)]) := by
                intro H locs hP hD hS
                have hq := gd_some h; clear h; obtain ⟨c48, h⟩ := hq
                refine mp_0_8 X hP hD hS k_765 c48 dX9_various_188 (fun H locs hP hD hS => ?_)
                refine lv_aload_n hx hb dX9_various_191 rfl (lv_at hl 0 rfl) ?_
                refine lv_iload_n hx hb dX9_various_192 rfl (lv_at hl 1 rfl) ?_
                refine lv_bipush (v := (7 : Int32)) hx hb dX9_various_193 (by decide) ?_
                have hq := bd_some h; clear h; obtain ⟨x51, h52, h⟩ := hq
                have K49 : ∀ (H : Heap) (locs : List Loc), va_P (dC, dI) vwCl (mW ad cI (st1 s0 5 x46)) H → va_D A (mW ad cI (st1 s0 5 x46)) → va_S A s.heap H locs → W p l e (sw_rm 5 112) s m args below meth c H locs 0 0 (MQ below (sw_Qv (dC, dI) vwCl [(cI, .int)] A (mW ad cI zs)) args s 0 0 A) (F0 m 203 ls [.int x51, .ref (ad 0)]) := by
                  intro H locs hP hD hS
                  have hq := gd_some h; clear h; obtain ⟨c53, h⟩ := hq
                  refine mp_0_9 X hP hD hS k_766 c53 dX9_various_203 (fun H locs hP hD hS => ?_)
                  obtain rfl := Option.some.inj h
                  exact sw_vret X hP hD hS dX9_various_206
                replace h := h52
                clear h52
                refine lv_icmp_ne (tgt := 202) hx hb dX9_various_195 (by decide) (fun c50 => ?_) (fun c50 => ?_)
                · replace h := if_no h c50
                  refine lv_iconst (v := (0 : Int32)) hx hb dX9_various_202 (by decide) ?_
                  obtain rfl := Option.some.inj h
                  exact K49 _ _ hP hD hS
                · replace h := if_yes h c50
                  refine lv_iconst (v := (1 : Int32)) hx hb dX9_various_198 (by decide) ?_
                  refine lv_goto (tgt := 203) hx hb dX9_various_199 (by decide) ?_
                  obtain rfl := Option.some.inj h
                  exact K49 _ _ hP hD hS
              replace h := h47
              clear h47
              refine lv_icmp_ne (tgt := 187) hx hb dX9_various_180 (by decide) (fun c45 => ?_) (fun c45 => ?_)
              · replace h := if_no h c45
                refine lv_iconst (v := (0 : Int32)) hx hb dX9_various_187 (by decide) ?_
                obtain rfl := Option.some.inj h
                exact K44 _ _ hP hD hS
              · replace h := if_yes h c45
                refine lv_iconst (v := (1 : Int32)) hx hb dX9_various_183 (by decide) ?_
                refine lv_goto (tgt := 188) hx hb dX9_various_184 (by decide) ?_
                obtain rfl := Option.some.inj h
                exact K44 _ _ hP hD hS
theorem dX9_callIf_0 : decode cX9_callIf 0 = .ok (.aload_n 0, 1) := by decide +kernel
theorem dX9_callIf_1 : decode cX9_callIf 1 = .ok (.invokevirtual 110, 3) := by decide +kernel
theorem dX9_callIf_4 : decode cX9_callIf 4 = .ok (.istore_n 2, 1) := by decide +kernel
theorem dX9_callIf_5 : decode cX9_callIf 5 = .ok (.iload_n 1, 1) := by decide +kernel
theorem dX9_callIf_6 : decode cX9_callIf 6 = .ok (.ifCond .eq 26, 3) := by decide +kernel
theorem dX9_callIf_9 : decode cX9_callIf 9 = .ok (.aload_n 0, 1) := by decide +kernel
theorem dX9_callIf_10 : decode cX9_callIf 10 = .ok (.aload_n 0, 1) := by decide +kernel
theorem dX9_callIf_11 : decode cX9_callIf 11 = .ok (.getfield 32, 3) := by decide +kernel
theorem dX9_callIf_14 : decode cX9_callIf 14 = .ok (.iconst 1, 1) := by decide +kernel
theorem dX9_callIf_15 : decode cX9_callIf 15 = .ok (.iadd, 1) := by decide +kernel
theorem dX9_callIf_16 : decode cX9_callIf 16 = .ok (.putfield 32, 3) := by decide +kernel
theorem dX9_callIf_19 : decode cX9_callIf 19 = .ok (.aload_n 0, 1) := by decide +kernel
theorem dX9_callIf_20 : decode cX9_callIf 20 = .ok (.aload_n 0, 1) := by decide +kernel
theorem dX9_callIf_21 : decode cX9_callIf 21 = .ok (.getfield 46, 3) := by decide +kernel
theorem dX9_callIf_24 : decode cX9_callIf 24 = .ok (.invokevirtual 158, 3) := by decide +kernel
theorem dX9_callIf_27 : decode cX9_callIf 27 = .ok (.aload_n 0, 1) := by decide +kernel
theorem dX9_callIf_28 : decode cX9_callIf 28 = .ok (.iload_n 2, 1) := by decide +kernel
theorem dX9_callIf_29 : decode cX9_callIf 29 = .ok (.putfield 46, 3) := by decide +kernel
theorem dX9_callIf_32 : decode cX9_callIf 32 = .ok (.return_, 1) := by decide +kernel
def fX9_callIf (p1 : Int32) (s0 : zS) : Option (zS) := bd2 (fX9_nextPair  s0) fun r2 s3 => if p1 = (0 : Int32) then (some s3) else (bd (fX9_push ((st1 s3 3 ((s3.1 3) + (1 : Int32))).1 2) (st1 s3 3 ((s3.1 3) + (1 : Int32)))) fun s6 => some (st1 s6 2 r2))
set_option maxHeartbeats 4000000 in
set_option maxRecDepth 100000 in
theorem cX9_callIf_m {l : Launch} {dC : Nat → ClassId} {dI : Nat → Nat → Nat} {ad : Nat → Nat} {cI : ClassId} {p1 : Int32} {s0 : zS} {zs : zS} (h : fX9_callIf p1 s0 = some zs) : sw_Mv l yX9_callIf (sw_ws yX9_callIf cX9_callIf 3 none) (sw_rm 5 106) (dC, dI) vwCl [(cI, .int)] mF [.ref (ad 0), .int p1] (mW ad cI s0) (mW ad cI zs) := by
  intro sz
  refine sw_of (cc := cX9_callIf) (maxL := 3) (ret := none) (by decide) rfl (Nat.le_of_ble_eq_true rfl) ?_
  intro p e s m args below meth c A ls hAe hsz X _ hP hD hS hl
  rw [hAe]
  have hx := X.1.1
  have hb := X.1.2.1
  have hown := X.1.2.2.2.1
  have hts := X.1.2.2.2.2
  replace hl : lv_has ls 3 [(0, .ref (ad 0)), (1, .int p1)] := hl
  unfold fX9_callIf at h
  refine lv_aload_n hx hb dX9_callIf_0 rfl (lv_at hl 0 rfl) ?_
  have hq := bd2_some h; clear h; obtain ⟨r2, s3, h1, h⟩ := hq
  refine sw_vi (rest := []) m_good X (cX9_nextPair_m h1) calX9_nextPair k_886 hP hD hS 0 9 rfl rfl rfl ⟨rfl, rfl⟩ rfl hl.1 rfl (Nat.le_of_ble_eq_true rfl) dX9_callIf_1 (fun H locs hP hD hS => ?_)
  refine lv_istore_n (lv' := [(2, .int r2), (0, .ref (ad 0)), (1, .int p1)]) hx hb dX9_callIf_4 rfl hl (by decide) rfl (fun ls hl => ?_)
  refine lv_iload_n hx hb dX9_callIf_5 rfl (lv_at hl 2 rfl) ?_
  refine lv_if_eq (tgt := 32) hx hb dX9_callIf_6 (by decide) (fun c4 => ?_) (fun c4 => ?_)
  · replace h := if_yes h c4
    obtain rfl := Option.some.inj h
    exact sw_vret X hP hD hS dX9_callIf_32
  · replace h := if_no h c4
    refine lv_aload_n hx hb dX9_callIf_9 rfl (lv_at hl 1 rfl) ?_
    refine lv_aload_n hx hb dX9_callIf_10 rfl (lv_at hl 1 rfl) ?_
    refine mg_0_6 X hP k_763 dX9_callIf_11 ?_
    refine lv_iconst (v := (1 : Int32)) hx hb dX9_callIf_14 (by decide) ?_
    refine lv_iadd hx hb dX9_callIf_15 ?_
    refine mp_0_6 X hP hD hS k_763 dX9_callIf_16 (fun H locs hP hD hS => ?_)
    refine lv_aload_n hx hb dX9_callIf_19 rfl (lv_at hl 1 rfl) ?_
    refine lv_aload_n hx hb dX9_callIf_20 rfl (lv_at hl 1 rfl) ?_
    refine mg_0_5 X hP k_762 dX9_callIf_21 ?_
    have hq := bd_some h; clear h; obtain ⟨s6, h5, h⟩ := hq
    refine sw_vv (rest := []) m_good X (cX9_push_m h5) calX9_push k_837 hP hD hS 0 9 rfl rfl rfl ⟨rfl, rfl⟩ rfl hl.1 rfl (Nat.le_of_ble_eq_true rfl) dX9_callIf_24 (fun H locs hP hD hS => ?_)
    refine lv_aload_n hx hb dX9_callIf_27 rfl (lv_at hl 1 rfl) ?_
    refine lv_iload_n hx hb dX9_callIf_28 rfl (lv_at hl 0 rfl) ?_
    refine mp_0_5 X hP hD hS k_762 dX9_callIf_29 (fun H locs hP hD hS => ?_)
    obtain rfl := Option.some.inj h
    exact sw_vret X hP hD hS dX9_callIf_32
theorem dX9_move_0 : decode cX9_move 0 = .ok (.aload_n 0, 1) := by decide +kernel
theorem dX9_move_1 : decode cX9_move 1 = .ok (.aload_n 0, 1) := by decide +kernel
theorem dX9_move_2 : decode cX9_move 2 = .ok (.invokevirtual 71, 3) := by decide +kernel
theorem dX9_move_5 : decode cX9_move 5 = .ok (.invokevirtual 50, 3) := by decide +kernel
theorem dX9_move_8 : decode cX9_move 8 = .ok (.istore_n 2, 1) := by decide +kernel
theorem dX9_move_9 : decode cX9_move 9 = .ok (.aload_n 0, 1) := by decide +kernel
theorem dX9_move_10 : decode cX9_move 10 = .ok (.aload_n 0, 1) := by decide +kernel
theorem dX9_move_11 : decode cX9_move 11 = .ok (.iconst 1, 1) := by decide +kernel
theorem dX9_move_12 : decode cX9_move 12 = .ok (.invokevirtual 68, 3) := by decide +kernel
theorem dX9_move_15 : decode cX9_move 15 = .ok (.iload_n 2, 1) := by decide +kernel
theorem dX9_move_16 : decode cX9_move 16 = .ok (.invokevirtual 61, 3) := by decide +kernel
theorem dX9_move_19 : decode cX9_move 19 = .ok (.aload_n 0, 1) := by decide +kernel
theorem dX9_move_20 : decode cX9_move 20 = .ok (.aload_n 0, 1) := by decide +kernel
theorem dX9_move_21 : decode cX9_move 21 = .ok (.getfield 32, 3) := by decide +kernel
theorem dX9_move_24 : decode cX9_move 24 = .ok (.iconst 2, 1) := by decide +kernel
theorem dX9_move_25 : decode cX9_move 25 = .ok (.iadd, 1) := by decide +kernel
theorem dX9_move_26 : decode cX9_move 26 = .ok (.putfield 32, 3) := by decide +kernel
theorem dX9_move_29 : decode cX9_move 29 = .ok (.aload_n 0, 1) := by decide +kernel
theorem dX9_move_30 : decode cX9_move 30 = .ok (.iconst 2, 1) := by decide +kernel
theorem dX9_move_31 : decode cX9_move 31 = .ok (.aload_n 0, 1) := by decide +kernel
theorem dX9_move_32 : decode cX9_move 32 = .ok (.invokevirtual 71, 3) := by decide +kernel
theorem dX9_move_35 : decode cX9_move 35 = .ok (.iconst 1, 1) := by decide +kernel
theorem dX9_move_36 : decode cX9_move 36 = .ok (.iadd, 1) := by decide +kernel
theorem dX9_move_37 : decode cX9_move 37 = .ok (.ldc 49, 2) := by decide +kernel
theorem dX9_move_39 : decode cX9_move 39 = .ok (.iand, 1) := by decide +kernel
theorem dX9_move_40 : decode cX9_move 40 = .ok (.invokevirtual 90, 3) := by decide +kernel
theorem dX9_move_43 : decode cX9_move 43 = .ok (.aload_n 0, 1) := by decide +kernel
theorem dX9_move_44 : decode cX9_move 44 = .ok (.iconst 1, 1) := by decide +kernel
theorem dX9_move_45 : decode cX9_move 45 = .ok (.aload_n 0, 1) := by decide +kernel
theorem dX9_move_46 : decode cX9_move 46 = .ok (.iconst 1, 1) := by decide +kernel
theorem dX9_move_47 : decode cX9_move 47 = .ok (.invokevirtual 68, 3) := by decide +kernel
theorem dX9_move_50 : decode cX9_move 50 = .ok (.iconst 1, 1) := by decide +kernel
theorem dX9_move_51 : decode cX9_move 51 = .ok (.iadd, 1) := by decide +kernel
theorem dX9_move_52 : decode cX9_move 52 = .ok (.ldc 49, 2) := by decide +kernel
theorem dX9_move_54 : decode cX9_move 54 = .ok (.iand, 1) := by decide +kernel
theorem dX9_move_55 : decode cX9_move 55 = .ok (.invokevirtual 90, 3) := by decide +kernel
theorem dX9_move_58 : decode cX9_move 58 = .ok (.aload_n 0, 1) := by decide +kernel
theorem dX9_move_59 : decode cX9_move 59 = .ok (.iconst 0, 1) := by decide +kernel
theorem dX9_move_60 : decode cX9_move 60 = .ok (.invokevirtual 68, 3) := by decide +kernel
theorem dX9_move_63 : decode cX9_move 63 = .ok (.iconst 1, 1) := by decide +kernel
theorem dX9_move_64 : decode cX9_move 64 = .ok (.isub, 1) := by decide +kernel
theorem dX9_move_65 : decode cX9_move 65 = .ok (.ldc 49, 2) := by decide +kernel
theorem dX9_move_67 : decode cX9_move 67 = .ok (.iand, 1) := by decide +kernel
theorem dX9_move_68 : decode cX9_move 68 = .ok (.istore_n 3, 1) := by decide +kernel
theorem dX9_move_69 : decode cX9_move 69 = .ok (.aload_n 0, 1) := by decide +kernel
theorem dX9_move_70 : decode cX9_move 70 = .ok (.iconst 0, 1) := by decide +kernel
theorem dX9_move_71 : decode cX9_move 71 = .ok (.iload_n 3, 1) := by decide +kernel
theorem dX9_move_72 : decode cX9_move 72 = .ok (.invokevirtual 90, 3) := by decide +kernel
theorem dX9_move_75 : decode cX9_move 75 = .ok (.aload_n 0, 1) := by decide +kernel
theorem dX9_move_76 : decode cX9_move 76 = .ok (.getfield 13, 3) := by decide +kernel
theorem dX9_move_79 : decode cX9_move 79 = .ok (.bipush 6, 2) := by decide +kernel
theorem dX9_move_81 : decode cX9_move 81 = .ok (.aload_n 0, 1) := by decide +kernel
theorem dX9_move_82 : decode cX9_move 82 = .ok (.getfield 13, 3) := by decide +kernel
theorem dX9_move_85 : decode cX9_move 85 = .ok (.bipush 6, 2) := by decide +kernel
theorem dX9_move_87 : decode cX9_move 87 = .ok (.iaload, 1) := by decide +kernel
theorem dX9_move_88 : decode cX9_move 88 = .ok (.sipush 193, 3) := by decide +kernel
theorem dX9_move_91 : decode cX9_move 91 = .ok (.iand, 1) := by decide +kernel
theorem dX9_move_92 : decode cX9_move 92 = .ok (.iload_n 3, 1) := by decide +kernel
theorem dX9_move_93 : decode cX9_move 93 = .ok (.ifCond .eq 7, 3) := by decide +kernel
theorem dX9_move_96 : decode cX9_move 96 = .ok (.iconst 4, 1) := by decide +kernel
theorem dX9_move_97 : decode cX9_move 97 = .ok (.goto 4, 3) := by decide +kernel
theorem dX9_move_100 : decode cX9_move 100 = .ok (.iconst 0, 1) := by decide +kernel
theorem dX9_move_101 : decode cX9_move 101 = .ok (.ior, 1) := by decide +kernel
theorem dX9_move_102 : decode cX9_move 102 = .ok (.iastore, 1) := by decide +kernel
theorem dX9_move_103 : decode cX9_move 103 = .ok (.iload_n 1, 1) := by decide +kernel
theorem dX9_move_104 : decode cX9_move 104 = .ok (.ifCond .eq 30, 3) := by decide +kernel
theorem dX9_move_107 : decode cX9_move 107 = .ok (.iload_n 3, 1) := by decide +kernel
theorem dX9_move_108 : decode cX9_move 108 = .ok (.ifCond .eq 26, 3) := by decide +kernel
theorem dX9_move_111 : decode cX9_move 111 = .ok (.aload_n 0, 1) := by decide +kernel
theorem dX9_move_112 : decode cX9_move 112 = .ok (.aload_n 0, 1) := by decide +kernel
theorem dX9_move_113 : decode cX9_move 113 = .ok (.getfield 32, 3) := by decide +kernel
theorem dX9_move_116 : decode cX9_move 116 = .ok (.iconst 5, 1) := by decide +kernel
theorem dX9_move_117 : decode cX9_move 117 = .ok (.iadd, 1) := by decide +kernel
theorem dX9_move_118 : decode cX9_move 118 = .ok (.putfield 32, 3) := by decide +kernel
theorem dX9_move_121 : decode cX9_move 121 = .ok (.aload_n 0, 1) := by decide +kernel
theorem dX9_move_122 : decode cX9_move 122 = .ok (.aload_n 0, 1) := by decide +kernel
theorem dX9_move_123 : decode cX9_move 123 = .ok (.getfield 46, 3) := by decide +kernel
theorem dX9_move_126 : decode cX9_move 126 = .ok (.iconst 2, 1) := by decide +kernel
theorem dX9_move_127 : decode cX9_move 127 = .ok (.isub, 1) := by decide +kernel
theorem dX9_move_128 : decode cX9_move 128 = .ok (.ldc 49, 2) := by decide +kernel
theorem dX9_move_130 : decode cX9_move 130 = .ok (.iand, 1) := by decide +kernel
theorem dX9_move_131 : decode cX9_move 131 = .ok (.putfield 46, 3) := by decide +kernel
theorem dX9_move_134 : decode cX9_move 134 = .ok (.return_, 1) := by decide +kernel
def fX9_move (p1 : Int32) (s0 : zS) : Option (zS) := bd2 (fX9_hl  s0) fun r2 s3 => bd2 (fX9_read r2 s3) fun r5 s6 => bd2 (fX9_pair (1 : Int32) s6) fun r8 s9 => bd (fX9_write r8 r5 s9) fun s11 => bd2 (fX9_hl  (st1 s11 3 ((s11.1 3) + (2 : Int32)))) fun r13 s14 => bd (fX9_setPair (2 : Int32) ((r13 + (1 : Int32)) &&& (65535 : Int32)) s14) fun s16 => bd2 (fX9_pair (1 : Int32) s16) fun r18 s19 => bd (fX9_setPair (1 : Int32) ((r18 + (1 : Int32)) &&& (65535 : Int32)) s19) fun s21 => bd2 (fX9_pair (0 : Int32) s21) fun r23 s24 => nm ((r23 - (1 : Int32)) &&& (65535 : Int32)) fun x25 => bd (fX9_setPair (0 : Int32) x25 s24) fun s27 => bd (if x25 = (0 : Int32) then (some (0 : Int32)) else (some (4 : Int32))) fun x30 => if p1 = (0 : Int32) then (some (st2 s27 1 ((6 : Int32).toNatClampNeg) (((s27.2 1 ((6 : Int32).toNatClampNeg)) &&& (193 : Int32)) ||| x30))) else (if x25 = (0 : Int32) then (some (st2 s27 1 ((6 : Int32).toNatClampNeg) (((s27.2 1 ((6 : Int32).toNatClampNeg)) &&& (193 : Int32)) ||| x30))) else (some (st1 (st1 (st2 s27 1 ((6 : Int32).toNatClampNeg) (((s27.2 1 ((6 : Int32).toNatClampNeg)) &&& (193 : Int32)) ||| x30)) 3 (((st2 s27 1 ((6 : Int32).toNatClampNeg) (((s27.2 1 ((6 : Int32).toNatClampNeg)) &&& (193 : Int32)) ||| x30)).1 3) + (5 : Int32))) 2 ((((st1 (st2 s27 1 ((6 : Int32).toNatClampNeg) (((s27.2 1 ((6 : Int32).toNatClampNeg)) &&& (193 : Int32)) ||| x30)) 3 (((st2 s27 1 ((6 : Int32).toNatClampNeg) (((s27.2 1 ((6 : Int32).toNatClampNeg)) &&& (193 : Int32)) ||| x30)).1 3) + (5 : Int32))).1 2) - (2 : Int32)) &&& (65535 : Int32)))))
set_option maxHeartbeats 4000000 in
set_option maxRecDepth 100000 in
theorem cX9_move_m {l : Launch} {dC : Nat → ClassId} {dI : Nat → Nat → Nat} {ad : Nat → Nat} {cI : ClassId} {p1 : Int32} {s0 : zS} {zs : zS} (h : fX9_move p1 s0 = some zs) : sw_Mv l yX9_move (sw_ws yX9_move cX9_move 4 none) (sw_rm 3 65) (dC, dI) vwCl [(cI, .int)] mF [.ref (ad 0), .int p1] (mW ad cI s0) (mW ad cI zs) := by
  intro sz
  refine sw_of (cc := cX9_move) (maxL := 4) (ret := none) (by decide) rfl (Nat.le_of_ble_eq_true rfl) ?_
  intro p e s m args below meth c A ls hAe hsz X _ hP hD hS hl
  rw [hAe]
  have hx := X.1.1
  have hb := X.1.2.1
  have hown := X.1.2.2.2.1
  have hts := X.1.2.2.2.2
  replace hl : lv_has ls 4 [(0, .ref (ad 0)), (1, .int p1)] := hl
  unfold fX9_move at h
  refine lv_aload_n hx hb dX9_move_0 rfl (lv_at hl 0 rfl) ?_
  refine lv_aload_n hx hb dX9_move_1 rfl (lv_at hl 0 rfl) ?_
  have hq := bd2_some h; clear h; obtain ⟨r2, s3, h1, h⟩ := hq
  refine sw_vi (rest := [.ref (ad 0)]) m_good X (cX9_hl_m h1) calX9_hl k_898 hP hD hS 0 9 rfl rfl rfl ⟨rfl, rfl⟩ rfl hl.1 rfl (Nat.le_of_ble_eq_true rfl) dX9_move_2 (fun H locs hP hD hS => ?_)
  have hq := bd2_some h; clear h; obtain ⟨r5, s6, h4, h⟩ := hq
  refine sw_vi (rest := []) m_good X (cX9_read_m h4) calX9_read k_882 hP hD hS 0 9 rfl rfl rfl ⟨rfl, rfl⟩ rfl hl.1 rfl (Nat.le_of_ble_eq_true rfl) dX9_move_5 (fun H locs hP hD hS => ?_)
  refine lv_istore_n (lv' := [(2, .int r5), (0, .ref (ad 0)), (1, .int p1)]) hx hb dX9_move_8 rfl hl (by decide) rfl (fun ls hl => ?_)
  refine lv_aload_n hx hb dX9_move_9 rfl (lv_at hl 1 rfl) ?_
  refine lv_aload_n hx hb dX9_move_10 rfl (lv_at hl 1 rfl) ?_
  refine lv_iconst (v := (1 : Int32)) hx hb dX9_move_11 (by decide) ?_
  have hq := bd2_some h; clear h; obtain ⟨r8, s9, h7, h⟩ := hq
  refine sw_vi (rest := [.ref (ad 0)]) m_good X (cX9_pair_m h7) calX9_pair k_902 hP hD hS 0 9 rfl rfl rfl ⟨rfl, rfl⟩ rfl hl.1 rfl (Nat.le_of_ble_eq_true rfl) dX9_move_12 (fun H locs hP hD hS => ?_)
  refine lv_iload_n hx hb dX9_move_15 rfl (lv_at hl 0 rfl) ?_
  have hq := bd_some h; clear h; obtain ⟨s11, h10, h⟩ := hq
  refine sw_vv (rest := []) m_good X (cX9_write_m h10) calX9_write k_842 hP hD hS 0 9 rfl rfl rfl ⟨rfl, rfl⟩ rfl hl.1 rfl (Nat.le_of_ble_eq_true rfl) dX9_move_16 (fun H locs hP hD hS => ?_)
  refine lv_aload_n hx hb dX9_move_19 rfl (lv_at hl 1 rfl) ?_
  refine lv_aload_n hx hb dX9_move_20 rfl (lv_at hl 1 rfl) ?_
  refine mg_0_6 X hP k_763 dX9_move_21 ?_
  refine lv_iconst (v := (2 : Int32)) hx hb dX9_move_24 (by decide) ?_
  refine lv_iadd hx hb dX9_move_25 ?_
  refine mp_0_6 X hP hD hS k_763 dX9_move_26 (fun H locs hP hD hS => ?_)
  refine lv_aload_n hx hb dX9_move_29 rfl (lv_at hl 1 rfl) ?_
  refine lv_iconst (v := (2 : Int32)) hx hb dX9_move_30 (by decide) ?_
  refine lv_aload_n hx hb dX9_move_31 rfl (lv_at hl 1 rfl) ?_
  have hq := bd2_some h; clear h; obtain ⟨r13, s14, h12, h⟩ := hq
  refine sw_vi (rest := [.int (2 : Int32), .ref (ad 0)]) m_good X (cX9_hl_m h12) calX9_hl k_898 hP hD hS 0 9 rfl rfl rfl ⟨rfl, rfl⟩ rfl hl.1 rfl (Nat.le_of_ble_eq_true rfl) dX9_move_32 (fun H locs hP hD hS => ?_)
  refine lv_iconst (v := (1 : Int32)) hx hb dX9_move_35 (by decide) ?_
  refine lv_iadd hx hb dX9_move_36 ?_
  refine lv_ldc (v := 65535) hx hb hown (hts _ (List.mem_cons_of_mem _ k_841)) dX9_move_37 ?_
  refine lv_iand hx hb dX9_move_39 ?_
  have hq := bd_some h; clear h; obtain ⟨s16, h15, h⟩ := hq
  refine sw_vv (rest := []) m_good X (cX9_setPair_m h15) calX9_setPair k_890 hP hD hS 0 9 rfl rfl rfl ⟨rfl, rfl⟩ rfl hl.1 rfl (Nat.le_of_ble_eq_true rfl) dX9_move_40 (fun H locs hP hD hS => ?_)
  refine lv_aload_n hx hb dX9_move_43 rfl (lv_at hl 1 rfl) ?_
  refine lv_iconst (v := (1 : Int32)) hx hb dX9_move_44 (by decide) ?_
  refine lv_aload_n hx hb dX9_move_45 rfl (lv_at hl 1 rfl) ?_
  refine lv_iconst (v := (1 : Int32)) hx hb dX9_move_46 (by decide) ?_
  have hq := bd2_some h; clear h; obtain ⟨r18, s19, h17, h⟩ := hq
  refine sw_vi (rest := [.int (1 : Int32), .ref (ad 0)]) m_good X (cX9_pair_m h17) calX9_pair k_902 hP hD hS 0 9 rfl rfl rfl ⟨rfl, rfl⟩ rfl hl.1 rfl (Nat.le_of_ble_eq_true rfl) dX9_move_47 (fun H locs hP hD hS => ?_)
  refine lv_iconst (v := (1 : Int32)) hx hb dX9_move_50 (by decide) ?_
  refine lv_iadd hx hb dX9_move_51 ?_
  refine lv_ldc (v := 65535) hx hb hown (hts _ (List.mem_cons_of_mem _ k_841)) dX9_move_52 ?_
  refine lv_iand hx hb dX9_move_54 ?_
  have hq := bd_some h; clear h; obtain ⟨s21, h20, h⟩ := hq
  refine sw_vv (rest := []) m_good X (cX9_setPair_m h20) calX9_setPair k_890 hP hD hS 0 9 rfl rfl rfl ⟨rfl, rfl⟩ rfl hl.1 rfl (Nat.le_of_ble_eq_true rfl) dX9_move_55 (fun H locs hP hD hS => ?_)
  refine lv_aload_n hx hb dX9_move_58 rfl (lv_at hl 1 rfl) ?_
  refine lv_iconst (v := (0 : Int32)) hx hb dX9_move_59 (by decide) ?_
  have hq := bd2_some h; clear h; obtain ⟨r23, s24, h22, h⟩ := hq
  refine sw_vi (rest := []) m_good X (cX9_pair_m h22) calX9_pair k_902 hP hD hS 0 9 rfl rfl rfl ⟨rfl, rfl⟩ rfl hl.1 rfl (Nat.le_of_ble_eq_true rfl) dX9_move_60 (fun H locs hP hD hS => ?_)
  refine lv_iconst (v := (1 : Int32)) hx hb dX9_move_63 (by decide) ?_
  refine lv_isub hx hb dX9_move_64 ?_
  refine lv_ldc (v := 65535) hx hb hown (hts _ (List.mem_cons_of_mem _ k_841)) dX9_move_65 ?_
  refine lv_iand hx hb dX9_move_67 ?_
  refine lv_topi (fun x25 ex25 => ?_)
  replace h := nm_use ex25 h
  refine lv_istore_n (lv' := [(3, .int x25), (2, .int r5), (0, .ref (ad 0)), (1, .int p1)]) hx hb dX9_move_68 rfl hl (by decide) rfl (fun ls hl => ?_)
  refine lv_aload_n hx hb dX9_move_69 rfl (lv_at hl 2 rfl) ?_
  refine lv_iconst (v := (0 : Int32)) hx hb dX9_move_70 (by decide) ?_
  refine lv_iload_n hx hb dX9_move_71 rfl (lv_at hl 0 rfl) ?_
  have hq := bd_some h; clear h; obtain ⟨s27, h26, h⟩ := hq
  refine sw_vv (rest := []) m_good X (cX9_setPair_m h26) calX9_setPair k_890 hP hD hS 0 9 rfl rfl rfl ⟨rfl, rfl⟩ rfl hl.1 rfl (Nat.le_of_ble_eq_true rfl) dX9_move_72 (fun H locs hP hD hS => ?_)
  refine lv_aload_n hx hb dX9_move_75 rfl (lv_at hl 2 rfl) ?_
  refine mg_0_2 X hP k_759 dX9_move_76 ?_
  refine lv_bipush (v := (6 : Int32)) hx hb dX9_move_79 (by decide) ?_
  refine lv_aload_n hx hb dX9_move_81 rfl (lv_at hl 2 rfl) ?_
  refine mg_0_2 X hP k_759 dX9_move_82 ?_
  refine lv_bipush (v := (6 : Int32)) hx hb dX9_move_85 (by decide) ?_
  refine ml_1 X hP (vin_in (i := (6 : Int32)) (n := 8) (by decide) (by decide)) dX9_move_87 ?_
  refine lv_sipush (v := (193 : Int32)) hx hb dX9_move_88 (by decide) ?_
  refine lv_iand hx hb dX9_move_91 ?_
  refine lv_iload_n hx hb dX9_move_92 rfl (lv_at hl 0 rfl) ?_
  have hq := bd_some h; clear h; obtain ⟨x30, h31, h⟩ := hq
  have K28 : ∀ (H : Heap) (locs : List Loc), va_P (dC, dI) vwCl (mW ad cI s27) H → va_D A (mW ad cI s27) → va_S A s.heap H locs → W p l e (sw_rm 3 65) s m args below meth c H locs 0 0 (MQ below (sw_Qv (dC, dI) vwCl [(cI, .int)] A (mW ad cI zs)) args s 0 0 A) (F0 m 101 ls [.int x30, .int ((s27.2 1 ((6 : Int32).toNatClampNeg)) &&& (193 : Int32)), .int (6 : Int32), .ref (ad 2)]) := by
    intro H locs hP hD hS
    refine lv_ior hx hb dX9_move_101 ?_
    refine mb_1 X hP hD hS (vin_in (i := (6 : Int32)) (n := 8) (by decide) (by decide)) dX9_move_102 (fun H locs hP hD hS => ?_)
    refine lv_iload_n hx hb dX9_move_103 rfl (lv_at hl 3 rfl) ?_
    refine lv_if_eq (tgt := 134) hx hb dX9_move_104 (by decide) (fun c32 => ?_) (fun c32 => ?_)
    · replace h := if_yes h c32
      obtain rfl := Option.some.inj h
      exact sw_vret X hP hD hS dX9_move_134
    · replace h := if_no h c32
      refine lv_iload_n hx hb dX9_move_107 rfl (lv_at hl 0 rfl) ?_
      refine lv_if_eq (tgt := 134) hx hb dX9_move_108 (by decide) (fun c33 => ?_) (fun c33 => ?_)
      · replace h := if_yes h c33
        obtain rfl := Option.some.inj h
        exact sw_vret X hP hD hS dX9_move_134
      · replace h := if_no h c33
        refine lv_aload_n hx hb dX9_move_111 rfl (lv_at hl 2 rfl) ?_
        refine lv_aload_n hx hb dX9_move_112 rfl (lv_at hl 2 rfl) ?_
        refine mg_0_6 X hP k_763 dX9_move_113 ?_
        refine lv_iconst (v := (5 : Int32)) hx hb dX9_move_116 (by decide) ?_
        refine lv_iadd hx hb dX9_move_117 ?_
        refine mp_0_6 X hP hD hS k_763 dX9_move_118 (fun H locs hP hD hS => ?_)
        refine lv_aload_n hx hb dX9_move_121 rfl (lv_at hl 2 rfl) ?_
        refine lv_aload_n hx hb dX9_move_122 rfl (lv_at hl 2 rfl) ?_
        refine mg_0_5 X hP k_762 dX9_move_123 ?_
        refine lv_iconst (v := (2 : Int32)) hx hb dX9_move_126 (by decide) ?_
        refine lv_isub hx hb dX9_move_127 ?_
        refine lv_ldc (v := 65535) hx hb hown (hts _ (List.mem_cons_of_mem _ k_841)) dX9_move_128 ?_
        refine lv_iand hx hb dX9_move_130 ?_
        refine mp_0_5 X hP hD hS k_762 dX9_move_131 (fun H locs hP hD hS => ?_)
        obtain rfl := Option.some.inj h
        exact sw_vret X hP hD hS dX9_move_134
  replace h := h31
  clear h31
  refine lv_if_eq (tgt := 100) hx hb dX9_move_93 (by decide) (fun c29 => ?_) (fun c29 => ?_)
  · replace h := if_yes h c29
    refine lv_iconst (v := (0 : Int32)) hx hb dX9_move_100 (by decide) ?_
    obtain rfl := Option.some.inj h
    exact K28 _ _ hP hD hS
  · replace h := if_no h c29
    refine lv_iconst (v := (4 : Int32)) hx hb dX9_move_96 (by decide) ?_
    refine lv_goto (tgt := 101) hx hb dX9_move_97 (by decide) ?_
    obtain rfl := Option.some.inj h
    exact K28 _ _ hP hD hS
theorem dX9_extended_0 : decode cX9_extended 0 = .ok (.iload_n 1, 1) := by decide +kernel
theorem dX9_extended_1 : decode cX9_extended 1 = .ok (.bipush 68, 2) := by decide +kernel
theorem dX9_extended_3 : decode cX9_extended 3 = .ok (.if_icmp .ne 28, 3) := by decide +kernel
theorem dX9_extended_6 : decode cX9_extended 6 = .ok (.aload_n 0, 1) := by decide +kernel
theorem dX9_extended_7 : decode cX9_extended 7 = .ok (.getfield 13, 3) := by decide +kernel
theorem dX9_extended_10 : decode cX9_extended 10 = .ok (.bipush 7, 2) := by decide +kernel
theorem dX9_extended_12 : decode cX9_extended 12 = .ok (.iaload, 1) := by decide +kernel
theorem dX9_extended_13 : decode cX9_extended 13 = .ok (.istore_n 2, 1) := by decide +kernel
theorem dX9_extended_14 : decode cX9_extended 14 = .ok (.aload_n 0, 1) := by decide +kernel
theorem dX9_extended_15 : decode cX9_extended 15 = .ok (.getfield 13, 3) := by decide +kernel
theorem dX9_extended_18 : decode cX9_extended 18 = .ok (.bipush 7, 2) := by decide +kernel
theorem dX9_extended_20 : decode cX9_extended 20 = .ok (.aload_n 0, 1) := by decide +kernel
theorem dX9_extended_21 : decode cX9_extended 21 = .ok (.iconst 0, 1) := by decide +kernel
theorem dX9_extended_22 : decode cX9_extended 22 = .ok (.iload_n 2, 1) := by decide +kernel
theorem dX9_extended_23 : decode cX9_extended 23 = .ok (.iconst 0, 1) := by decide +kernel
theorem dX9_extended_24 : decode cX9_extended 24 = .ok (.invokevirtual 84, 3) := by decide +kernel
theorem dX9_extended_27 : decode cX9_extended 27 = .ok (.iastore, 1) := by decide +kernel
theorem dX9_extended_28 : decode cX9_extended 28 = .ok (.goto 75, 3) := by decide +kernel
theorem dX9_extended_31 : decode cX9_extended 31 = .ok (.iload_n 1, 1) := by decide +kernel
theorem dX9_extended_32 : decode cX9_extended 32 = .ok (.sipush 199, 3) := by decide +kernel
theorem dX9_extended_35 : decode cX9_extended 35 = .ok (.iand, 1) := by decide +kernel
theorem dX9_extended_36 : decode cX9_extended 36 = .ok (.bipush 66, 2) := by decide +kernel
theorem dX9_extended_38 : decode cX9_extended 38 = .ok (.if_icmp .ne 27, 3) := by decide +kernel
theorem dX9_extended_41 : decode cX9_extended 41 = .ok (.aload_n 0, 1) := by decide +kernel
theorem dX9_extended_42 : decode cX9_extended 42 = .ok (.iload_n 1, 1) := by decide +kernel
theorem dX9_extended_43 : decode cX9_extended 43 = .ok (.iconst 4, 1) := by decide +kernel
theorem dX9_extended_44 : decode cX9_extended 44 = .ok (.ishr, 1) := by decide +kernel
theorem dX9_extended_45 : decode cX9_extended 45 = .ok (.iconst 3, 1) := by decide +kernel
theorem dX9_extended_46 : decode cX9_extended 46 = .ok (.iand, 1) := by decide +kernel
theorem dX9_extended_47 : decode cX9_extended 47 = .ok (.iload_n 1, 1) := by decide +kernel
theorem dX9_extended_48 : decode cX9_extended 48 = .ok (.bipush 8, 2) := by decide +kernel
theorem dX9_extended_50 : decode cX9_extended 50 = .ok (.iand, 1) := by decide +kernel
theorem dX9_extended_51 : decode cX9_extended 51 = .ok (.ifCond .ne 7, 3) := by decide +kernel
theorem dX9_extended_54 : decode cX9_extended 54 = .ok (.iconst 1, 1) := by decide +kernel
theorem dX9_extended_55 : decode cX9_extended 55 = .ok (.goto 4, 3) := by decide +kernel
theorem dX9_extended_58 : decode cX9_extended 58 = .ok (.iconst 0, 1) := by decide +kernel
theorem dX9_extended_59 : decode cX9_extended 59 = .ok (.invokevirtual 182, 3) := by decide +kernel
theorem dX9_extended_62 : decode cX9_extended 62 = .ok (.goto 41, 3) := by decide +kernel
theorem dX9_extended_65 : decode cX9_extended 65 = .ok (.iload_n 1, 1) := by decide +kernel
theorem dX9_extended_66 : decode cX9_extended 66 = .ok (.sipush 160, 3) := by decide +kernel
theorem dX9_extended_69 : decode cX9_extended 69 = .ok (.if_icmp .eq 10, 3) := by decide +kernel
theorem dX9_extended_72 : decode cX9_extended 72 = .ok (.iload_n 1, 1) := by decide +kernel
theorem dX9_extended_73 : decode cX9_extended 73 = .ok (.sipush 176, 3) := by decide +kernel
theorem dX9_extended_76 : decode cX9_extended 76 = .ok (.if_icmp .ne 22, 3) := by decide +kernel
theorem dX9_extended_79 : decode cX9_extended 79 = .ok (.aload_n 0, 1) := by decide +kernel
theorem dX9_extended_80 : decode cX9_extended 80 = .ok (.iload_n 1, 1) := by decide +kernel
theorem dX9_extended_81 : decode cX9_extended 81 = .ok (.sipush 176, 3) := by decide +kernel
theorem dX9_extended_84 : decode cX9_extended 84 = .ok (.if_icmp .ne 7, 3) := by decide +kernel
theorem dX9_extended_87 : decode cX9_extended 87 = .ok (.iconst 1, 1) := by decide +kernel
theorem dX9_extended_88 : decode cX9_extended 88 = .ok (.goto 4, 3) := by decide +kernel
theorem dX9_extended_91 : decode cX9_extended 91 = .ok (.iconst 0, 1) := by decide +kernel
theorem dX9_extended_92 : decode cX9_extended 92 = .ok (.invokevirtual 185, 3) := by decide +kernel
theorem dX9_extended_95 : decode cX9_extended 95 = .ok (.goto 8, 3) := by decide +kernel
theorem dX9_extended_98 : decode cX9_extended 98 = .ok (.aload_n 0, 1) := by decide +kernel
theorem dX9_extended_99 : decode cX9_extended 99 = .ok (.iconst 1, 1) := by decide +kernel
theorem dX9_extended_100 : decode cX9_extended 100 = .ok (.putfield 97, 3) := by decide +kernel
theorem dX9_extended_103 : decode cX9_extended 103 = .ok (.return_, 1) := by decide +kernel
def fX9_extended (p1 : Int32) (s0 : zS) : Option (zS) := if p1 = (68 : Int32) then (nm (s0.2 1 ((7 : Int32).toNatClampNeg)) fun x23 => bd2 (fX9_minus (0 : Int32) x23 (0 : Int32) s0) fun r25 s26 => some (st2 s26 1 ((7 : Int32).toNatClampNeg) r25)) else (if (p1 &&& (199 : Int32)) = (66 : Int32) then (bd (if (p1 &&& (8 : Int32)) = (0 : Int32) then (some (1 : Int32)) else (some (0 : Int32))) fun x19 => bd (fX9_addPairWithCarry ((p1 >>> ((4 : Int32) &&& 31)) &&& (3 : Int32)) x19 s0) fun s22 => some s22) else (if p1 = (160 : Int32) then (bd (if p1 = (176 : Int32) then (some (1 : Int32)) else (some (0 : Int32))) fun x6 => bd (fX9_move x6 s0) fun s9 => some s9) else (if p1 = (176 : Int32) then (bd (if p1 = (176 : Int32) then (some (1 : Int32)) else (some (0 : Int32))) fun x13 => bd (fX9_move x13 s0) fun s16 => some s16) else (some (st1 s0 7 (1 : Int32))))))
set_option maxHeartbeats 4000000 in
set_option maxRecDepth 100000 in
theorem cX9_extended_m {l : Launch} {dC : Nat → ClassId} {dI : Nat → Nat → Nat} {ad : Nat → Nat} {cI : ClassId} {p1 : Int32} {s0 : zS} {zs : zS} (h : fX9_extended p1 s0 = some zs) : sw_Mv l yX9_extended (sw_ws yX9_extended cX9_extended 3 none) (sw_rm 4 88) (dC, dI) vwCl [(cI, .int)] mF [.ref (ad 0), .int p1] (mW ad cI s0) (mW ad cI zs) := by
  intro sz
  refine sw_of (cc := cX9_extended) (maxL := 3) (ret := none) (by decide) rfl (Nat.le_of_ble_eq_true rfl) ?_
  intro p e s m args below meth c A ls hAe hsz X _ hP hD hS hl
  rw [hAe]
  have hx := X.1.1
  have hb := X.1.2.1
  have hown := X.1.2.2.2.1
  have hts := X.1.2.2.2.2
  replace hl : lv_has ls 3 [(0, .ref (ad 0)), (1, .int p1)] := hl
  unfold fX9_extended at h
  refine lv_iload_n hx hb dX9_extended_0 rfl (lv_at hl 1 rfl) ?_
  refine lv_bipush (v := (68 : Int32)) hx hb dX9_extended_1 (by decide) ?_
  refine lv_icmp_ne (tgt := 31) hx hb dX9_extended_3 (by decide) (fun c1 => ?_) (fun c1 => ?_)
  · replace h := if_no h c1
    refine lv_iload_n hx hb dX9_extended_31 rfl (lv_at hl 1 rfl) ?_
    refine lv_sipush (v := (199 : Int32)) hx hb dX9_extended_32 (by decide) ?_
    refine lv_iand hx hb dX9_extended_35 ?_
    refine lv_bipush (v := (66 : Int32)) hx hb dX9_extended_36 (by decide) ?_
    refine lv_icmp_ne (tgt := 65) hx hb dX9_extended_38 (by decide) (fun c2 => ?_) (fun c2 => ?_)
    · replace h := if_no h c2
      refine lv_iload_n hx hb dX9_extended_65 rfl (lv_at hl 1 rfl) ?_
      refine lv_sipush (v := (160 : Int32)) hx hb dX9_extended_66 (by decide) ?_
      refine lv_icmp_eq (tgt := 79) hx hb dX9_extended_69 (by decide) (fun c3 => ?_) (fun c3 => ?_)
      · replace h := if_yes h c3
        refine lv_aload_n hx hb dX9_extended_79 rfl (lv_at hl 0 rfl) ?_
        refine lv_iload_n hx hb dX9_extended_80 rfl (lv_at hl 1 rfl) ?_
        refine lv_sipush (v := (176 : Int32)) hx hb dX9_extended_81 (by decide) ?_
        have hq := bd_some h; clear h; obtain ⟨x6, h7, h⟩ := hq
        have K4 : ∀ (H : Heap) (locs : List Loc), va_P (dC, dI) vwCl (mW ad cI s0) H → va_D A (mW ad cI s0) → va_S A s.heap H locs → W p l e (sw_rm 4 88) s m args below meth c H locs 0 0 (MQ below (sw_Qv (dC, dI) vwCl [(cI, .int)] A (mW ad cI zs)) args s 0 0 A) (F0 m 92 ls [.int x6, .ref (ad 0)]) := by
          intro H locs hP hD hS
          have hq := bd_some h; clear h; obtain ⟨s9, h8, h⟩ := hq
          refine sw_vv (rest := []) m_good X (cX9_move_m h8) calX9_move k_1012 hP hD hS 0 9 rfl rfl rfl ⟨rfl, rfl⟩ rfl hl.1 rfl (Nat.le_of_ble_eq_true rfl) dX9_extended_92 (fun H locs hP hD hS => ?_)
          refine lv_goto (tgt := 103) hx hb dX9_extended_95 (by decide) ?_
          obtain rfl := Option.some.inj h
          exact sw_vret X hP hD hS dX9_extended_103
        replace h := h7
        clear h7
        refine lv_icmp_ne (tgt := 91) hx hb dX9_extended_84 (by decide) (fun c5 => ?_) (fun c5 => ?_)
        · replace h := if_no h c5
          refine lv_iconst (v := (0 : Int32)) hx hb dX9_extended_91 (by decide) ?_
          obtain rfl := Option.some.inj h
          exact K4 _ _ hP hD hS
        · replace h := if_yes h c5
          refine lv_iconst (v := (1 : Int32)) hx hb dX9_extended_87 (by decide) ?_
          refine lv_goto (tgt := 92) hx hb dX9_extended_88 (by decide) ?_
          obtain rfl := Option.some.inj h
          exact K4 _ _ hP hD hS
      · replace h := if_no h c3
        refine lv_iload_n hx hb dX9_extended_72 rfl (lv_at hl 1 rfl) ?_
        refine lv_sipush (v := (176 : Int32)) hx hb dX9_extended_73 (by decide) ?_
        refine lv_icmp_ne (tgt := 98) hx hb dX9_extended_76 (by decide) (fun c10 => ?_) (fun c10 => ?_)
        · replace h := if_no h c10
          refine lv_aload_n hx hb dX9_extended_98 rfl (lv_at hl 0 rfl) ?_
          refine lv_iconst (v := (1 : Int32)) hx hb dX9_extended_99 (by decide) ?_
          refine mp_0_10 X hP hD hS k_767 (by decide) dX9_extended_100 (fun H locs hP hD hS => ?_)
          obtain rfl := Option.some.inj h
          exact sw_vret X hP hD hS dX9_extended_103
        · replace h := if_yes h c10
          refine lv_aload_n hx hb dX9_extended_79 rfl (lv_at hl 0 rfl) ?_
          refine lv_iload_n hx hb dX9_extended_80 rfl (lv_at hl 1 rfl) ?_
          refine lv_sipush (v := (176 : Int32)) hx hb dX9_extended_81 (by decide) ?_
          have hq := bd_some h; clear h; obtain ⟨x13, h14, h⟩ := hq
          have K11 : ∀ (H : Heap) (locs : List Loc), va_P (dC, dI) vwCl (mW ad cI s0) H → va_D A (mW ad cI s0) → va_S A s.heap H locs → W p l e (sw_rm 4 88) s m args below meth c H locs 0 0 (MQ below (sw_Qv (dC, dI) vwCl [(cI, .int)] A (mW ad cI zs)) args s 0 0 A) (F0 m 92 ls [.int x13, .ref (ad 0)]) := by
            intro H locs hP hD hS
            have hq := bd_some h; clear h; obtain ⟨s16, h15, h⟩ := hq
            refine sw_vv (rest := []) m_good X (cX9_move_m h15) calX9_move k_1012 hP hD hS 0 9 rfl rfl rfl ⟨rfl, rfl⟩ rfl hl.1 rfl (Nat.le_of_ble_eq_true rfl) dX9_extended_92 (fun H locs hP hD hS => ?_)
            refine lv_goto (tgt := 103) hx hb dX9_extended_95 (by decide) ?_
            obtain rfl := Option.some.inj h
            exact sw_vret X hP hD hS dX9_extended_103
          replace h := h14
          clear h14
          refine lv_icmp_ne (tgt := 91) hx hb dX9_extended_84 (by decide) (fun c12 => ?_) (fun c12 => ?_)
          · replace h := if_no h c12
            refine lv_iconst (v := (0 : Int32)) hx hb dX9_extended_91 (by decide) ?_
            obtain rfl := Option.some.inj h
            exact K11 _ _ hP hD hS
          · replace h := if_yes h c12
            refine lv_iconst (v := (1 : Int32)) hx hb dX9_extended_87 (by decide) ?_
            refine lv_goto (tgt := 92) hx hb dX9_extended_88 (by decide) ?_
            obtain rfl := Option.some.inj h
            exact K11 _ _ hP hD hS
    · replace h := if_yes h c2
      refine lv_aload_n hx hb dX9_extended_41 rfl (lv_at hl 0 rfl) ?_
      refine lv_iload_n hx hb dX9_extended_42 rfl (lv_at hl 1 rfl) ?_
      refine lv_iconst (v := (4 : Int32)) hx hb dX9_extended_43 (by decide) ?_
      refine lv_ishr hx hb dX9_extended_44 ?_
      refine lv_iconst (v := (3 : Int32)) hx hb dX9_extended_45 (by decide) ?_
      refine lv_iand hx hb dX9_extended_46 ?_
      refine lv_iload_n hx hb dX9_extended_47 rfl (lv_at hl 1 rfl) ?_
      refine lv_bipush (v := (8 : Int32)) hx hb dX9_extended_48 (by decide) ?_
      refine lv_iand hx hb dX9_extended_50 ?_
      have hq := bd_some h; clear h; obtain ⟨x19, h20, h⟩ := hq
      have K17 : ∀ (H : Heap) (locs : List Loc), va_P (dC, dI) vwCl (mW ad cI s0) H → va_D A (mW ad cI s0) → va_S A s.heap H locs → W p l e (sw_rm 4 88) s m args below meth c H locs 0 0 (MQ below (sw_Qv (dC, dI) vwCl [(cI, .int)] A (mW ad cI zs)) args s 0 0 A) (F0 m 59 ls [.int x19, .int ((p1 >>> ((4 : Int32) &&& 31)) &&& (3 : Int32)), .ref (ad 0)]) := by
        intro H locs hP hD hS
        have hq := bd_some h; clear h; obtain ⟨s22, h21, h⟩ := hq
        refine sw_vv (rest := []) m_good X (cX9_addPairWithCarry_m h21) calX9_addPairWithCarry k_1008 hP hD hS 0 9 rfl rfl rfl ⟨rfl, rfl⟩ rfl hl.1 rfl (Nat.le_of_ble_eq_true rfl) dX9_extended_59 (fun H locs hP hD hS => ?_)
        refine lv_goto (tgt := 103) hx hb dX9_extended_62 (by decide) ?_
        obtain rfl := Option.some.inj h
        exact sw_vret X hP hD hS dX9_extended_103
      replace h := h20
      clear h20
      refine lv_if_ne (tgt := 58) hx hb dX9_extended_51 (by decide) (fun c18 => ?_) (fun c18 => ?_)
      · replace h := if_no h c18
        refine lv_iconst (v := (0 : Int32)) hx hb dX9_extended_58 (by decide) ?_
        obtain rfl := Option.some.inj h
        exact K17 _ _ hP hD hS
      · replace h := if_yes h c18
        refine lv_iconst (v := (1 : Int32)) hx hb dX9_extended_54 (by decide) ?_
        refine lv_goto (tgt := 59) hx hb dX9_extended_55 (by decide) ?_
        obtain rfl := Option.some.inj h
        exact K17 _ _ hP hD hS
  · replace h := if_yes h c1
    refine lv_aload_n hx hb dX9_extended_6 rfl (lv_at hl 0 rfl) ?_
    refine mg_0_2 X hP k_759 dX9_extended_7 ?_
    refine lv_bipush (v := (7 : Int32)) hx hb dX9_extended_10 (by decide) ?_
    refine ml_1 X hP (vin_in (i := (7 : Int32)) (n := 8) (by decide) (by decide)) dX9_extended_12 ?_
    refine lv_topi (fun x23 ex23 => ?_)
    replace h := nm_use ex23 h
    refine lv_istore_n (lv' := [(2, .int x23), (0, .ref (ad 0)), (1, .int p1)]) hx hb dX9_extended_13 rfl hl (by decide) rfl (fun ls hl => ?_)
    refine lv_aload_n hx hb dX9_extended_14 rfl (lv_at hl 1 rfl) ?_
    refine mg_0_2 X hP k_759 dX9_extended_15 ?_
    refine lv_bipush (v := (7 : Int32)) hx hb dX9_extended_18 (by decide) ?_
    refine lv_aload_n hx hb dX9_extended_20 rfl (lv_at hl 1 rfl) ?_
    refine lv_iconst (v := (0 : Int32)) hx hb dX9_extended_21 (by decide) ?_
    refine lv_iload_n hx hb dX9_extended_22 rfl (lv_at hl 0 rfl) ?_
    refine lv_iconst (v := (0 : Int32)) hx hb dX9_extended_23 (by decide) ?_
    have hq := bd2_some h; clear h; obtain ⟨r25, s26, h24, h⟩ := hq
    refine sw_vi (rest := [.int (7 : Int32), .ref (ad 2)]) m_good X (cX9_minus_m h24) calX9_minus k_922 hP hD hS 0 9 rfl rfl rfl ⟨rfl, rfl⟩ rfl hl.1 rfl (Nat.le_of_ble_eq_true rfl) dX9_extended_24 (fun H locs hP hD hS => ?_)
    refine mb_1 X hP hD hS (vin_in (i := (7 : Int32)) (n := 8) (by decide) (by decide)) dX9_extended_27 (fun H locs hP hD hS => ?_)
    refine lv_goto (tgt := 103) hx hb dX9_extended_28 (by decide) ?_
    obtain rfl := Option.some.inj h
    exact sw_vret X hP hD hS dX9_extended_103
theorem dX9_ahead_0 : decode cX9_ahead 0 = .ok (.iload_n 1, 1) := by decide +kernel
theorem dX9_ahead_1 : decode cX9_ahead 1 = .ok (.tableswitch 121 0 6 #[43, 102, 43, 121, 43, 110, 67], 43) := by decide +kernel
theorem dX9_ahead_44 : decode cX9_ahead 44 = .ok (.aload_n 0, 1) := by decide +kernel
theorem dX9_ahead_45 : decode cX9_ahead 45 = .ok (.aload_n 0, 1) := by decide +kernel
theorem dX9_ahead_46 : decode cX9_ahead 46 = .ok (.getfield 32, 3) := by decide +kernel
theorem dX9_ahead_49 : decode cX9_ahead 49 = .ok (.iconst 1, 1) := by decide +kernel
theorem dX9_ahead_50 : decode cX9_ahead 50 = .ok (.iadd, 1) := by decide +kernel
theorem dX9_ahead_51 : decode cX9_ahead 51 = .ok (.putfield 32, 3) := by decide +kernel
theorem dX9_ahead_54 : decode cX9_ahead 54 = .ok (.aload_n 0, 1) := by decide +kernel
theorem dX9_ahead_55 : decode cX9_ahead 55 = .ok (.aload_n 0, 1) := by decide +kernel
theorem dX9_ahead_56 : decode cX9_ahead 56 = .ok (.iload_n 1, 1) := by decide +kernel
theorem dX9_ahead_57 : decode cX9_ahead 57 = .ok (.iconst 2, 1) := by decide +kernel
theorem dX9_ahead_58 : decode cX9_ahead 58 = .ok (.idiv, 1) := by decide +kernel
theorem dX9_ahead_59 : decode cX9_ahead 59 = .ok (.invokevirtual 68, 3) := by decide +kernel
theorem dX9_ahead_62 : decode cX9_ahead 62 = .ok (.invokevirtual 158, 3) := by decide +kernel
theorem dX9_ahead_65 : decode cX9_ahead 65 = .ok (.goto 62, 3) := by decide +kernel
theorem dX9_ahead_68 : decode cX9_ahead 68 = .ok (.aload_n 0, 1) := by decide +kernel
theorem dX9_ahead_69 : decode cX9_ahead 69 = .ok (.aload_n 0, 1) := by decide +kernel
theorem dX9_ahead_70 : decode cX9_ahead 70 = .ok (.getfield 32, 3) := by decide +kernel
theorem dX9_ahead_73 : decode cX9_ahead 73 = .ok (.iconst 1, 1) := by decide +kernel
theorem dX9_ahead_74 : decode cX9_ahead 74 = .ok (.iadd, 1) := by decide +kernel
theorem dX9_ahead_75 : decode cX9_ahead 75 = .ok (.putfield 32, 3) := by decide +kernel
theorem dX9_ahead_78 : decode cX9_ahead 78 = .ok (.aload_n 0, 1) := by decide +kernel
theorem dX9_ahead_79 : decode cX9_ahead 79 = .ok (.aload_n 0, 1) := by decide +kernel
theorem dX9_ahead_80 : decode cX9_ahead 80 = .ok (.getfield 13, 3) := by decide +kernel
theorem dX9_ahead_83 : decode cX9_ahead 83 = .ok (.bipush 7, 2) := by decide +kernel
theorem dX9_ahead_85 : decode cX9_ahead 85 = .ok (.iaload, 1) := by decide +kernel
theorem dX9_ahead_86 : decode cX9_ahead 86 = .ok (.bipush 8, 2) := by decide +kernel
theorem dX9_ahead_88 : decode cX9_ahead 88 = .ok (.ishl, 1) := by decide +kernel
theorem dX9_ahead_89 : decode cX9_ahead 89 = .ok (.aload_n 0, 1) := by decide +kernel
theorem dX9_ahead_90 : decode cX9_ahead 90 = .ok (.getfield 13, 3) := by decide +kernel
theorem dX9_ahead_93 : decode cX9_ahead 93 = .ok (.bipush 6, 2) := by decide +kernel
theorem dX9_ahead_95 : decode cX9_ahead 95 = .ok (.iaload, 1) := by decide +kernel
theorem dX9_ahead_96 : decode cX9_ahead 96 = .ok (.ior, 1) := by decide +kernel
theorem dX9_ahead_97 : decode cX9_ahead 97 = .ok (.invokevirtual 158, 3) := by decide +kernel
theorem dX9_ahead_100 : decode cX9_ahead 100 = .ok (.goto 27, 3) := by decide +kernel
theorem dX9_ahead_103 : decode cX9_ahead 103 = .ok (.aload_n 0, 1) := by decide +kernel
theorem dX9_ahead_104 : decode cX9_ahead 104 = .ok (.iconst 1, 1) := by decide +kernel
theorem dX9_ahead_105 : decode cX9_ahead 105 = .ok (.invokevirtual 148, 3) := by decide +kernel
theorem dX9_ahead_108 : decode cX9_ahead 108 = .ok (.goto 19, 3) := by decide +kernel
theorem dX9_ahead_111 : decode cX9_ahead 111 = .ok (.aload_n 0, 1) := by decide +kernel
theorem dX9_ahead_112 : decode cX9_ahead 112 = .ok (.aload_n 0, 1) := by decide +kernel
theorem dX9_ahead_113 : decode cX9_ahead 113 = .ok (.invokevirtual 161, 3) := by decide +kernel
theorem dX9_ahead_116 : decode cX9_ahead 116 = .ok (.invokevirtual 164, 3) := by decide +kernel
theorem dX9_ahead_119 : decode cX9_ahead 119 = .ok (.goto 8, 3) := by decide +kernel
theorem dX9_ahead_122 : decode cX9_ahead 122 = .ok (.aload_n 0, 1) := by decide +kernel
theorem dX9_ahead_123 : decode cX9_ahead 123 = .ok (.iconst 1, 1) := by decide +kernel
theorem dX9_ahead_124 : decode cX9_ahead 124 = .ok (.putfield 97, 3) := by decide +kernel
theorem dX9_ahead_127 : decode cX9_ahead 127 = .ok (.return_, 1) := by decide +kernel
def fX9_ahead (p1 : Int32) (s0 : zS) : Option (zS) := if p1 ∈ ([(0 : Int32), (2 : Int32), (4 : Int32)] : List Int32) then (bd2 (fX9_pair (p1 / (2 : Int32)) (st1 s0 3 ((s0.1 3) + (1 : Int32)))) fun r3 s4 => bd (fX9_push r3 s4) fun s6 => some s6) else if p1 ∈ ([(1 : Int32)] : List Int32) then (bd (fX9_callIf (1 : Int32) s0) fun s9 => some s9) else if p1 ∈ ([(5 : Int32)] : List Int32) then (bd2 (fX9_fetch  s0) fun r12 s13 => bd (fX9_extended r12 s13) fun s15 => some s15) else if p1 ∈ ([(6 : Int32)] : List Int32) then (bd (fX9_push ((((st1 s0 3 ((s0.1 3) + (1 : Int32))).2 1 ((7 : Int32).toNatClampNeg)) <<< ((8 : Int32) &&& 31)) ||| ((st1 s0 3 ((s0.1 3) + (1 : Int32))).2 1 ((6 : Int32).toNatClampNeg))) (st1 s0 3 ((s0.1 3) + (1 : Int32)))) fun s18 => some s18) else (some (st1 s0 7 (1 : Int32)))
set_option maxHeartbeats 4000000 in
set_option maxRecDepth 100000 in
theorem cX9_ahead_m {l : Launch} {dC : Nat → ClassId} {dI : Nat → Nat → Nat} {ad : Nat → Nat} {cI : ClassId} {p1 : Int32} {s0 : zS} {zs : zS} (h : fX9_ahead p1 s0 = some zs) : sw_Mv l yX9_ahead (sw_ws yX9_ahead cX9_ahead 2 none) (sw_rm 6 128) (dC, dI) vwCl [(cI, .int)] mF [.ref (ad 0), .int p1] (mW ad cI s0) (mW ad cI zs) := by
  intro sz
  refine sw_of (cc := cX9_ahead) (maxL := 2) (ret := none) (by decide) rfl (Nat.le_of_ble_eq_true rfl) ?_
  intro p e s m args below meth c A ls hAe hsz X _ hP hD hS hl
  rw [hAe]
  have hx := X.1.1
  have hb := X.1.2.1
  have hown := X.1.2.2.2.1
  have hts := X.1.2.2.2.2
  replace hl : lv_has ls 2 [(0, .ref (ad 0)), (1, .int p1)] := hl
  unfold fX9_ahead at h
  refine lv_iload_n hx hb dX9_ahead_0 rfl (lv_at hl 1 rfl) ?_
  by_cases c1 : p1 ∈ ([(0 : Int32), (2 : Int32), (4 : Int32)] : List Int32)
  · replace h := if_yes h c1
    refine sw_tabK (tgt := 44) (off := 43) hx hb dX9_ahead_1 _ c1 (by decide +kernel) (by decide) ?_
    refine lv_aload_n hx hb dX9_ahead_44 rfl (lv_at hl 0 rfl) ?_
    refine lv_aload_n hx hb dX9_ahead_45 rfl (lv_at hl 0 rfl) ?_
    refine mg_0_6 X hP k_763 dX9_ahead_46 ?_
    refine lv_iconst (v := (1 : Int32)) hx hb dX9_ahead_49 (by decide) ?_
    refine lv_iadd hx hb dX9_ahead_50 ?_
    refine mp_0_6 X hP hD hS k_763 dX9_ahead_51 (fun H locs hP hD hS => ?_)
    refine lv_aload_n hx hb dX9_ahead_54 rfl (lv_at hl 0 rfl) ?_
    refine lv_aload_n hx hb dX9_ahead_55 rfl (lv_at hl 0 rfl) ?_
    refine lv_iload_n hx hb dX9_ahead_56 rfl (lv_at hl 1 rfl) ?_
    refine lv_iconst (v := (2 : Int32)) hx hb dX9_ahead_57 (by decide) ?_
    refine lv_idiv hx hb dX9_ahead_58 (by decide) ?_
    have hq := bd2_some h; clear h; obtain ⟨r3, s4, h2, h⟩ := hq
    refine sw_vi (rest := [.ref (ad 0)]) m_good X (cX9_pair_m h2) calX9_pair k_902 hP hD hS 0 9 rfl rfl rfl ⟨rfl, rfl⟩ rfl hl.1 rfl (Nat.le_of_ble_eq_true rfl) dX9_ahead_59 (fun H locs hP hD hS => ?_)
    have hq := bd_some h; clear h; obtain ⟨s6, h5, h⟩ := hq
    refine sw_vv (rest := []) m_good X (cX9_push_m h5) calX9_push k_837 hP hD hS 0 9 rfl rfl rfl ⟨rfl, rfl⟩ rfl hl.1 rfl (Nat.le_of_ble_eq_true rfl) dX9_ahead_62 (fun H locs hP hD hS => ?_)
    refine lv_goto (tgt := 127) hx hb dX9_ahead_65 (by decide) ?_
    obtain rfl := Option.some.inj h
    exact sw_vret X hP hD hS dX9_ahead_127
  · replace h := if_no h c1
    by_cases c7 : p1 ∈ ([(1 : Int32)] : List Int32)
    · replace h := if_yes h c7
      refine sw_tabK (tgt := 103) (off := 102) hx hb dX9_ahead_1 _ c7 (by decide +kernel) (by decide) ?_
      refine lv_aload_n hx hb dX9_ahead_103 rfl (lv_at hl 0 rfl) ?_
      refine lv_iconst (v := (1 : Int32)) hx hb dX9_ahead_104 (by decide) ?_
      have hq := bd_some h; clear h; obtain ⟨s9, h8, h⟩ := hq
      refine sw_vv (rest := []) m_good X (cX9_callIf_m h8) calX9_callIf k_996 hP hD hS 0 9 rfl rfl rfl ⟨rfl, rfl⟩ rfl hl.1 rfl (Nat.le_of_ble_eq_true rfl) dX9_ahead_105 (fun H locs hP hD hS => ?_)
      refine lv_goto (tgt := 127) hx hb dX9_ahead_108 (by decide) ?_
      obtain rfl := Option.some.inj h
      exact sw_vret X hP hD hS dX9_ahead_127
    · replace h := if_no h c7
      by_cases c10 : p1 ∈ ([(5 : Int32)] : List Int32)
      · replace h := if_yes h c10
        refine sw_tabK (tgt := 111) (off := 110) hx hb dX9_ahead_1 _ c10 (by decide +kernel) (by decide) ?_
        refine lv_aload_n hx hb dX9_ahead_111 rfl (lv_at hl 0 rfl) ?_
        refine lv_aload_n hx hb dX9_ahead_112 rfl (lv_at hl 0 rfl) ?_
        have hq := bd2_some h; clear h; obtain ⟨r12, s13, h11, h⟩ := hq
        refine sw_vi (rest := [.ref (ad 0)]) m_good X (cX9_fetch_m h11) calX9_fetch k_858 hP hD hS 0 9 rfl rfl rfl ⟨rfl, rfl⟩ rfl hl.1 rfl (Nat.le_of_ble_eq_true rfl) dX9_ahead_113 (fun H locs hP hD hS => ?_)
        have hq := bd_some h; clear h; obtain ⟨s15, h14, h⟩ := hq
        refine sw_vv (rest := []) m_good X (cX9_extended_m h14) calX9_extended k_1004 hP hD hS 0 9 rfl rfl rfl ⟨rfl, rfl⟩ rfl hl.1 rfl (Nat.le_of_ble_eq_true rfl) dX9_ahead_116 (fun H locs hP hD hS => ?_)
        refine lv_goto (tgt := 127) hx hb dX9_ahead_119 (by decide) ?_
        obtain rfl := Option.some.inj h
        exact sw_vret X hP hD hS dX9_ahead_127
      · replace h := if_no h c10
        by_cases c16 : p1 ∈ ([(6 : Int32)] : List Int32)
        · replace h := if_yes h c16
          refine sw_tabK (tgt := 68) (off := 67) hx hb dX9_ahead_1 _ c16 (by decide +kernel) (by decide) ?_
          refine lv_aload_n hx hb dX9_ahead_68 rfl (lv_at hl 0 rfl) ?_
          refine lv_aload_n hx hb dX9_ahead_69 rfl (lv_at hl 0 rfl) ?_
          refine mg_0_6 X hP k_763 dX9_ahead_70 ?_
          refine lv_iconst (v := (1 : Int32)) hx hb dX9_ahead_73 (by decide) ?_
          refine lv_iadd hx hb dX9_ahead_74 ?_
          refine mp_0_6 X hP hD hS k_763 dX9_ahead_75 (fun H locs hP hD hS => ?_)
          refine lv_aload_n hx hb dX9_ahead_78 rfl (lv_at hl 0 rfl) ?_
          refine lv_aload_n hx hb dX9_ahead_79 rfl (lv_at hl 0 rfl) ?_
          refine mg_0_2 X hP k_759 dX9_ahead_80 ?_
          refine lv_bipush (v := (7 : Int32)) hx hb dX9_ahead_83 (by decide) ?_
          refine ml_1 X hP (vin_in (i := (7 : Int32)) (n := 8) (by decide) (by decide)) dX9_ahead_85 ?_
          refine lv_bipush (v := (8 : Int32)) hx hb dX9_ahead_86 (by decide) ?_
          refine lv_ishl hx hb dX9_ahead_88 ?_
          refine lv_aload_n hx hb dX9_ahead_89 rfl (lv_at hl 0 rfl) ?_
          refine mg_0_2 X hP k_759 dX9_ahead_90 ?_
          refine lv_bipush (v := (6 : Int32)) hx hb dX9_ahead_93 (by decide) ?_
          refine ml_1 X hP (vin_in (i := (6 : Int32)) (n := 8) (by decide) (by decide)) dX9_ahead_95 ?_
          refine lv_ior hx hb dX9_ahead_96 ?_
          have hq := bd_some h; clear h; obtain ⟨s18, h17, h⟩ := hq
          refine sw_vv (rest := []) m_good X (cX9_push_m h17) calX9_push k_837 hP hD hS 0 9 rfl rfl rfl ⟨rfl, rfl⟩ rfl hl.1 rfl (Nat.le_of_ble_eq_true rfl) dX9_ahead_97 (fun H locs hP hD hS => ?_)
          refine lv_goto (tgt := 127) hx hb dX9_ahead_100 (by decide) ?_
          obtain rfl := Option.some.inj h
          exact sw_vret X hP hD hS dX9_ahead_127
        · replace h := if_no h c16
          refine sw_tabD (tgt := 122) hx hb dX9_ahead_1 (([(0 : Int32), (2 : Int32), (4 : Int32)] : List Int32) ++ (([(1 : Int32)] : List Int32) ++ (([(5 : Int32)] : List Int32) ++ ([(6 : Int32)] : List Int32)))) (fun hm => (List.mem_append.mp hm).elim c1 (fun hm => (List.mem_append.mp hm).elim c7 (fun hm => (List.mem_append.mp hm).elim c10 c16))) (by decide +kernel) (by decide) ?_
          refine lv_aload_n hx hb dX9_ahead_122 rfl (lv_at hl 0 rfl) ?_
          refine lv_iconst (v := (1 : Int32)) hx hb dX9_ahead_123 (by decide) ?_
          refine mp_0_10 X hP hD hS k_767 (by decide) dX9_ahead_124 (fun H locs hP hD hS => ?_)
          obtain rfl := Option.some.inj h
          exact sw_vret X hP hD hS dX9_ahead_127
