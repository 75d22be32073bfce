theorem dX5_loadByAddress_0 : decode cX5_loadByAddress 0 = .ok (.iload_n 1, 1) := by decide +kernel
theorem dX5_loadByAddress_1 : decode cX5_loadByAddress 1 = .ok (.tableswitch 167 0 6 #[43, 58, 73, 88, 103, 128, 153], 43) := by decide +kernel
theorem dX5_loadByAddress_44 : decode cX5_loadByAddress 44 = .ok (.aload_n 0, 1) := by decide +kernel
theorem dX5_loadByAddress_45 : decode cX5_loadByAddress 45 = .ok (.aload_n 0, 1) := by decide +kernel
theorem dX5_loadByAddress_46 : decode cX5_loadByAddress 46 = .ok (.getfield 21, 3) := by decide +kernel
theorem dX5_loadByAddress_49 : decode cX5_loadByAddress 49 = .ok (.iconst 1, 1) := by decide +kernel
theorem dX5_loadByAddress_50 : decode cX5_loadByAddress 50 = .ok (.invokevirtual 106, 3) := by decide +kernel
theorem dX5_loadByAddress_53 : decode cX5_loadByAddress 53 = .ok (.invokevirtual 182, 3) := by decide +kernel
theorem dX5_loadByAddress_56 : decode cX5_loadByAddress 56 = .ok (.goto 123, 3) := by decide +kernel
theorem dX5_loadByAddress_59 : decode cX5_loadByAddress 59 = .ok (.aload_n 0, 1) := by decide +kernel
theorem dX5_loadByAddress_60 : decode cX5_loadByAddress 60 = .ok (.aload_n 0, 1) := by decide +kernel
theorem dX5_loadByAddress_61 : decode cX5_loadByAddress 61 = .ok (.getfield 21, 3) := by decide +kernel
theorem dX5_loadByAddress_64 : decode cX5_loadByAddress 64 = .ok (.iconst 1, 1) := by decide +kernel
theorem dX5_loadByAddress_65 : decode cX5_loadByAddress 65 = .ok (.invokevirtual 106, 3) := by decide +kernel
theorem dX5_loadByAddress_68 : decode cX5_loadByAddress 68 = .ok (.invokevirtual 185, 3) := by decide +kernel
theorem dX5_loadByAddress_71 : decode cX5_loadByAddress 71 = .ok (.goto 108, 3) := by decide +kernel
theorem dX5_loadByAddress_74 : decode cX5_loadByAddress 74 = .ok (.aload_n 0, 1) := by decide +kernel
theorem dX5_loadByAddress_75 : decode cX5_loadByAddress 75 = .ok (.aload_n 0, 1) := by decide +kernel
theorem dX5_loadByAddress_76 : decode cX5_loadByAddress 76 = .ok (.getfield 21, 3) := by decide +kernel
theorem dX5_loadByAddress_79 : decode cX5_loadByAddress 79 = .ok (.iconst 2, 1) := by decide +kernel
theorem dX5_loadByAddress_80 : decode cX5_loadByAddress 80 = .ok (.invokevirtual 106, 3) := by decide +kernel
theorem dX5_loadByAddress_83 : decode cX5_loadByAddress 83 = .ok (.invokevirtual 182, 3) := by decide +kernel
theorem dX5_loadByAddress_86 : decode cX5_loadByAddress 86 = .ok (.goto 93, 3) := by decide +kernel
theorem dX5_loadByAddress_89 : decode cX5_loadByAddress 89 = .ok (.aload_n 0, 1) := by decide +kernel
theorem dX5_loadByAddress_90 : decode cX5_loadByAddress 90 = .ok (.aload_n 0, 1) := by decide +kernel
theorem dX5_loadByAddress_91 : decode cX5_loadByAddress 91 = .ok (.getfield 21, 3) := by decide +kernel
theorem dX5_loadByAddress_94 : decode cX5_loadByAddress 94 = .ok (.iconst 2, 1) := by decide +kernel
theorem dX5_loadByAddress_95 : decode cX5_loadByAddress 95 = .ok (.invokevirtual 106, 3) := by decide +kernel
theorem dX5_loadByAddress_98 : decode cX5_loadByAddress 98 = .ok (.invokevirtual 185, 3) := by decide +kernel
theorem dX5_loadByAddress_101 : decode cX5_loadByAddress 101 = .ok (.goto 78, 3) := by decide +kernel
theorem dX5_loadByAddress_104 : decode cX5_loadByAddress 104 = .ok (.aload_n 0, 1) := by decide +kernel
theorem dX5_loadByAddress_105 : decode cX5_loadByAddress 105 = .ok (.getfield 39, 3) := by decide +kernel
theorem dX5_loadByAddress_108 : decode cX5_loadByAddress 108 = .ok (.aload_n 0, 1) := by decide +kernel
theorem dX5_loadByAddress_109 : decode cX5_loadByAddress 109 = .ok (.getfield 39, 3) := by decide +kernel
theorem dX5_loadByAddress_112 : decode cX5_loadByAddress 112 = .ok (.invokevirtual 176, 3) := by decide +kernel
theorem dX5_loadByAddress_115 : decode cX5_loadByAddress 115 = .ok (.aload_n 0, 1) := by decide +kernel
theorem dX5_loadByAddress_116 : decode cX5_loadByAddress 116 = .ok (.getfield 21, 3) := by decide +kernel
theorem dX5_loadByAddress_119 : decode cX5_loadByAddress 119 = .ok (.iconst 3, 1) := by decide +kernel
theorem dX5_loadByAddress_120 : decode cX5_loadByAddress 120 = .ok (.invokevirtual 106, 3) := by decide +kernel
theorem dX5_loadByAddress_123 : decode cX5_loadByAddress 123 = .ok (.invokevirtual 188, 3) := by decide +kernel
theorem dX5_loadByAddress_126 : decode cX5_loadByAddress 126 = .ok (.goto 53, 3) := by decide +kernel
theorem dX5_loadByAddress_129 : decode cX5_loadByAddress 129 = .ok (.aload_n 0, 1) := by decide +kernel
theorem dX5_loadByAddress_130 : decode cX5_loadByAddress 130 = .ok (.getfield 21, 3) := by decide +kernel
theorem dX5_loadByAddress_133 : decode cX5_loadByAddress 133 = .ok (.iconst 3, 1) := by decide +kernel
theorem dX5_loadByAddress_134 : decode cX5_loadByAddress 134 = .ok (.aload_n 0, 1) := by decide +kernel
theorem dX5_loadByAddress_135 : decode cX5_loadByAddress 135 = .ok (.getfield 39, 3) := by decide +kernel
theorem dX5_loadByAddress_138 : decode cX5_loadByAddress 138 = .ok (.aload_n 0, 1) := by decide +kernel
theorem dX5_loadByAddress_139 : decode cX5_loadByAddress 139 = .ok (.getfield 39, 3) := by decide +kernel
theorem dX5_loadByAddress_142 : decode cX5_loadByAddress 142 = .ok (.invokevirtual 176, 3) := by decide +kernel
theorem dX5_loadByAddress_145 : decode cX5_loadByAddress 145 = .ok (.invokevirtual 191, 3) := by decide +kernel
theorem dX5_loadByAddress_148 : decode cX5_loadByAddress 148 = .ok (.invokevirtual 112, 3) := by decide +kernel
theorem dX5_loadByAddress_151 : decode cX5_loadByAddress 151 = .ok (.goto 28, 3) := by decide +kernel
theorem dX5_loadByAddress_154 : decode cX5_loadByAddress 154 = .ok (.aload_n 0, 1) := by decide +kernel
theorem dX5_loadByAddress_155 : decode cX5_loadByAddress 155 = .ok (.aload_n 0, 1) := by decide +kernel
theorem dX5_loadByAddress_156 : decode cX5_loadByAddress 156 = .ok (.getfield 39, 3) := by decide +kernel
theorem dX5_loadByAddress_159 : decode cX5_loadByAddress 159 = .ok (.invokevirtual 176, 3) := by decide +kernel
theorem dX5_loadByAddress_162 : decode cX5_loadByAddress 162 = .ok (.invokevirtual 182, 3) := by decide +kernel
theorem dX5_loadByAddress_165 : decode cX5_loadByAddress 165 = .ok (.goto 14, 3) := by decide +kernel
theorem dX5_loadByAddress_168 : decode cX5_loadByAddress 168 = .ok (.aload_n 0, 1) := by decide +kernel
theorem dX5_loadByAddress_169 : decode cX5_loadByAddress 169 = .ok (.aload_n 0, 1) := by decide +kernel
theorem dX5_loadByAddress_170 : decode cX5_loadByAddress 170 = .ok (.getfield 39, 3) := by decide +kernel
theorem dX5_loadByAddress_173 : decode cX5_loadByAddress 173 = .ok (.invokevirtual 176, 3) := by decide +kernel
theorem dX5_loadByAddress_176 : decode cX5_loadByAddress 176 = .ok (.invokevirtual 185, 3) := by decide +kernel
theorem dX5_loadByAddress_179 : decode cX5_loadByAddress 179 = .ok (.return_, 1) := by decide +kernel
def fX5_loadByAddress (p1 : Int32) (s0 : zS) : Option (zS) := if p1 ∈ ([(0 : Int32)] : List Int32) then (bd2 (fX6_pair (1 : Int32) s0) fun r3 s4 => bd (fX5_storeA r3 s4) fun s6 => some s6) else if p1 ∈ ([(1 : Int32)] : List Int32) then (bd2 (fX6_pair (1 : Int32) s0) fun r9 s10 => bd (fX5_loadA r9 s10) fun s12 => some s12) else if p1 ∈ ([(2 : Int32)] : List Int32) then (bd2 (fX6_pair (2 : Int32) s0) fun r15 s16 => bd (fX5_storeA r15 s16) fun s18 => some s18) else if p1 ∈ ([(3 : Int32)] : List Int32) then (bd2 (fX6_pair (2 : Int32) s0) fun r21 s22 => bd (fX5_loadA r21 s22) fun s24 => some s24) else if p1 ∈ ([(4 : Int32)] : List Int32) then (bd2 (fX3_nextPair  s0) fun r27 s28 => bd2 (fX6_pair (3 : Int32) s28) fun r30 s31 => bd (fX3_writePair r27 r30 s31) fun s33 => some s33) else if p1 ∈ ([(5 : Int32)] : List Int32) then (bd2 (fX3_nextPair  s0) fun r36 s37 => bd2 (fX3_readPair r36 s37) fun r39 s40 => bd (fX6_load (3 : Int32) r39 s40) fun s42 => some s42) else if p1 ∈ ([(6 : Int32)] : List Int32) then (bd2 (fX3_nextPair  s0) fun r45 s46 => bd (fX5_storeA r45 s46) fun s48 => some s48) else (bd2 (fX3_nextPair  s0) fun r50 s51 => bd (fX5_loadA r50 s51) fun s53 => some s53)
set_option maxHeartbeats 4000000 in
set_option maxRecDepth 100000 in
theorem cX5_loadByAddress_m {l : Launch} {dC : Nat → ClassId} {dI : Nat → Nat → Nat} {ad : Nat → Nat} {cI : ClassId} {p1 : Int32} {s0 : zS} {zs : zS} (h : fX5_loadByAddress p1 s0 = some zs) : sw_Mv l yX5_loadByAddress (sw_ws yX5_loadByAddress cX5_loadByAddress 2 none) (sw_rm 3 67) (dC, dI) vwCl [(cI, .int)] cF [.ref (ad 5), .int p1] (cW ad cI s0) (cW ad cI zs) := by
  intro sz
  refine sw_of (cc := cX5_loadByAddress) (maxL := 2) (ret := none) (by decide) rfl (Nat.le_of_ble_eq_true rfl) ?_
  intro p e s m args below meth c A ls hAe hsz X _ hP hD hS hl
  rw [hAe]
  have hx := X.1.1
  have hb := X.1.2.1
  have hown := X.1.2.2.2.1
  have hts := X.1.2.2.2.2
  replace hl : lv_has ls 2 [(0, .ref (ad 5)), (1, .int p1)] := hl
  unfold fX5_loadByAddress at h
  refine lv_iload_n hx hb dX5_loadByAddress_0 rfl (lv_at hl 1 rfl) ?_
  by_cases c1 : p1 ∈ ([(0 : Int32)] : List Int32)
  · replace h := if_yes h c1
    refine sw_tabK (tgt := 44) (off := 43) hx hb dX5_loadByAddress_1 _ c1 (by decide +kernel) (by decide) ?_
    refine lv_aload_n hx hb dX5_loadByAddress_44 rfl (lv_at hl 0 rfl) ?_
    refine lv_aload_n hx hb dX5_loadByAddress_45 rfl (lv_at hl 0 rfl) ?_
    refine cg_5_3 X hP k_142 dX5_loadByAddress_46 ?_
    refine lv_iconst (v := (1 : Int32)) hx hb dX5_loadByAddress_49 (by decide) ?_
    have hq := bd2_some h; clear h; obtain ⟨r3, s4, h2, h⟩ := hq
    refine sw_vi (rest := [.ref (ad 5)]) c_good X (cX6_pair_m h2) calX6_pair k_385 hP hD hS 4 6 rfl rfl rfl ⟨rfl, rfl⟩ rfl hl.1 rfl (Nat.le_of_ble_eq_true rfl) dX5_loadByAddress_50 (fun H locs hP hD hS => ?_)
    have hq := bd_some h; clear h; obtain ⟨s6, h5, h⟩ := hq
    refine sw_vv (rest := []) c_good X (cX5_storeA_m h5) calX5_storeA k_510 hP hD hS 5 5 rfl rfl rfl ⟨rfl, rfl⟩ rfl hl.1 rfl (Nat.le_of_ble_eq_true rfl) dX5_loadByAddress_53 (fun H locs hP hD hS => ?_)
    refine lv_goto (tgt := 179) hx hb dX5_loadByAddress_56 (by decide) ?_
    obtain rfl := Option.some.inj h
    exact sw_vret X hP hD hS dX5_loadByAddress_179
  · replace h := if_no h c1
    by_cases c7 : p1 ∈ ([(1 : Int32)] : List Int32)
    · replace h := if_yes h c7
      refine sw_tabK (tgt := 59) (off := 58) hx hb dX5_loadByAddress_1 _ c7 (by decide +kernel) (by decide) ?_
      refine lv_aload_n hx hb dX5_loadByAddress_59 rfl (lv_at hl 0 rfl) ?_
      refine lv_aload_n hx hb dX5_loadByAddress_60 rfl (lv_at hl 0 rfl) ?_
      refine cg_5_3 X hP k_142 dX5_loadByAddress_61 ?_
      refine lv_iconst (v := (1 : Int32)) hx hb dX5_loadByAddress_64 (by decide) ?_
      have hq := bd2_some h; clear h; obtain ⟨r9, s10, h8, h⟩ := hq
      refine sw_vi (rest := [.ref (ad 5)]) c_good X (cX6_pair_m h8) calX6_pair k_385 hP hD hS 4 6 rfl rfl rfl ⟨rfl, rfl⟩ rfl hl.1 rfl (Nat.le_of_ble_eq_true rfl) dX5_loadByAddress_65 (fun H locs hP hD hS => ?_)
      have hq := bd_some h; clear h; obtain ⟨s12, h11, h⟩ := hq
      refine sw_vv (rest := []) c_good X (cX5_loadA_m h11) calX5_loadA k_515 hP hD hS 5 5 rfl rfl rfl ⟨rfl, rfl⟩ rfl hl.1 rfl (Nat.le_of_ble_eq_true rfl) dX5_loadByAddress_68 (fun H locs hP hD hS => ?_)
      refine lv_goto (tgt := 179) hx hb dX5_loadByAddress_71 (by decide) ?_
      obtain rfl := Option.some.inj h
      exact sw_vret X hP hD hS dX5_loadByAddress_179
    · replace h := if_no h c7
      by_cases c13 : p1 ∈ ([(2 : Int32)] : List Int32)
      · replace h := if_yes h c13
        refine sw_tabK (tgt := 74) (off := 73) hx hb dX5_loadByAddress_1 _ c13 (by decide +kernel) (by decide) ?_
        refine lv_aload_n hx hb dX5_loadByAddress_74 rfl (lv_at hl 0 rfl) ?_
        refine lv_aload_n hx hb dX5_loadByAddress_75 rfl (lv_at hl 0 rfl) ?_
        refine cg_5_3 X hP k_142 dX5_loadByAddress_76 ?_
        refine lv_iconst (v := (2 : Int32)) hx hb dX5_loadByAddress_79 (by decide) ?_
        have hq := bd2_some h; clear h; obtain ⟨r15, s16, h14, h⟩ := hq
        refine sw_vi (rest := [.ref (ad 5)]) c_good X (cX6_pair_m h14) calX6_pair k_385 hP hD hS 4 6 rfl rfl rfl ⟨rfl, rfl⟩ rfl hl.1 rfl (Nat.le_of_ble_eq_true rfl) dX5_loadByAddress_80 (fun H locs hP hD hS => ?_)
        have hq := bd_some h; clear h; obtain ⟨s18, h17, h⟩ := hq
        refine sw_vv (rest := []) c_good X (cX5_storeA_m h17) calX5_storeA k_510 hP hD hS 5 5 rfl rfl rfl ⟨rfl, rfl⟩ rfl hl.1 rfl (Nat.le_of_ble_eq_true rfl) dX5_loadByAddress_83 (fun H locs hP hD hS => ?_)
        refine lv_goto (tgt := 179) hx hb dX5_loadByAddress_86 (by decide) ?_
        obtain rfl := Option.some.inj h
        exact sw_vret X hP hD hS dX5_loadByAddress_179
      · replace h := if_no h c13
        by_cases c19 : p1 ∈ ([(3 : Int32)] : List Int32)
        · replace h := if_yes h c19
          refine sw_tabK (tgt := 89) (off := 88) hx hb dX5_loadByAddress_1 _ c19 (by decide +kernel) (by decide) ?_
          refine lv_aload_n hx hb dX5_loadByAddress_89 rfl (lv_at hl 0 rfl) ?_
          refine lv_aload_n hx hb dX5_loadByAddress_90 rfl (lv_at hl 0 rfl) ?_
          refine cg_5_3 X hP k_142 dX5_loadByAddress_91 ?_
          refine lv_iconst (v := (2 : Int32)) hx hb dX5_loadByAddress_94 (by decide) ?_
          have hq := bd2_some h; clear h; obtain ⟨r21, s22, h20, h⟩ := hq
          refine sw_vi (rest := [.ref (ad 5)]) c_good X (cX6_pair_m h20) calX6_pair k_385 hP hD hS 4 6 rfl rfl rfl ⟨rfl, rfl⟩ rfl hl.1 rfl (Nat.le_of_ble_eq_true rfl) dX5_loadByAddress_95 (fun H locs hP hD hS => ?_)
          have hq := bd_some h; clear h; obtain ⟨s24, h23, h⟩ := hq
          refine sw_vv (rest := []) c_good X (cX5_loadA_m h23) calX5_loadA k_515 hP hD hS 5 5 rfl rfl rfl ⟨rfl, rfl⟩ rfl hl.1 rfl (Nat.le_of_ble_eq_true rfl) dX5_loadByAddress_98 (fun H locs hP hD hS => ?_)
          refine lv_goto (tgt := 179) hx hb dX5_loadByAddress_101 (by decide) ?_
          obtain rfl := Option.some.inj h
          exact sw_vret X hP hD hS dX5_loadByAddress_179
        · replace h := if_no h c19
          by_cases c25 : p1 ∈ ([(4 : Int32)] : List Int32)
          · replace h := if_yes h c25
            refine sw_tabK (tgt := 104) (off := 103) hx hb dX5_loadByAddress_1 _ c25 (by decide +kernel) (by decide) ?_
            refine lv_aload_n hx hb dX5_loadByAddress_104 rfl (lv_at hl 0 rfl) ?_
            refine cg_5_5 X hP k_144 dX5_loadByAddress_105 ?_
            refine lv_aload_n hx hb dX5_loadByAddress_108 rfl (lv_at hl 0 rfl) ?_
            refine cg_5_5 X hP k_144 dX5_loadByAddress_109 ?_
            have hq := bd2_some h; clear h; obtain ⟨r27, s28, h26, h⟩ := hq
            refine sw_vi (rest := [.ref (ad 7)]) c_good X (cX3_nextPair_m h26) calX3_nextPair k_491 hP hD hS 7 3 rfl rfl rfl ⟨rfl, rfl⟩ rfl hl.1 rfl (Nat.le_of_ble_eq_true rfl) dX5_loadByAddress_112 (fun H locs hP hD hS => ?_)
            refine lv_aload_n hx hb dX5_loadByAddress_115 rfl (lv_at hl 0 rfl) ?_
            refine cg_5_3 X hP k_142 dX5_loadByAddress_116 ?_
            refine lv_iconst (v := (3 : Int32)) hx hb dX5_loadByAddress_119 (by decide) ?_
            have hq := bd2_some h; clear h; obtain ⟨r30, s31, h29, h⟩ := hq
            refine sw_vi (rest := [.int r27, .ref (ad 7)]) c_good X (cX6_pair_m h29) calX6_pair k_385 hP hD hS 4 6 rfl rfl rfl ⟨rfl, rfl⟩ rfl hl.1 rfl (Nat.le_of_ble_eq_true rfl) dX5_loadByAddress_120 (fun H locs hP hD hS => ?_)
            have hq := bd_some h; clear h; obtain ⟨s33, h32, h⟩ := hq
            refine sw_vv (rest := []) c_good X (cX3_writePair_m h32) calX3_writePair k_520 hP hD hS 7 3 rfl rfl rfl ⟨rfl, rfl⟩ rfl hl.1 rfl (Nat.le_of_ble_eq_true rfl) dX5_loadByAddress_123 (fun H locs hP hD hS => ?_)
            refine lv_goto (tgt := 179) hx hb dX5_loadByAddress_126 (by decide) ?_
            obtain rfl := Option.some.inj h
            exact sw_vret X hP hD hS dX5_loadByAddress_179
          · replace h := if_no h c25
            by_cases c34 : p1 ∈ ([(5 : Int32)] : List Int32)
            · replace h := if_yes h c34
              refine sw_tabK (tgt := 129) (off := 128) hx hb dX5_loadByAddress_1 _ c34 (by decide +kernel) (by decide) ?_
              refine lv_aload_n hx hb dX5_loadByAddress_129 rfl (lv_at hl 0 rfl) ?_
              refine cg_5_3 X hP k_142 dX5_loadByAddress_130 ?_
              refine lv_iconst (v := (3 : Int32)) hx hb dX5_loadByAddress_133 (by decide) ?_
              refine lv_aload_n hx hb dX5_loadByAddress_134 rfl (lv_at hl 0 rfl) ?_
              refine cg_5_5 X hP k_144 dX5_loadByAddress_135 ?_
              refine lv_aload_n hx hb dX5_loadByAddress_138 rfl (lv_at hl 0 rfl) ?_
              refine cg_5_5 X hP k_144 dX5_loadByAddress_139 ?_
              have hq := bd2_some h; clear h; obtain ⟨r36, s37, h35, h⟩ := hq
              refine sw_vi (rest := [.ref (ad 7), .int (3 : Int32), .ref (ad 4)]) c_good X (cX3_nextPair_m h35) calX3_nextPair k_491 hP hD hS 7 3 rfl rfl rfl ⟨rfl, rfl⟩ rfl hl.1 rfl (Nat.le_of_ble_eq_true rfl) dX5_loadByAddress_142 (fun H locs hP hD hS => ?_)
              have hq := bd2_some h; clear h; obtain ⟨r39, s40, h38, h⟩ := hq
              refine sw_vi (rest := [.int (3 : Int32), .ref (ad 4)]) c_good X (cX3_readPair_m h38) calX3_readPair k_524 hP hD hS 7 3 rfl rfl rfl ⟨rfl, rfl⟩ rfl hl.1 rfl (Nat.le_of_ble_eq_true rfl) dX5_loadByAddress_145 (fun H locs hP hD hS => ?_)
              have hq := bd_some h; clear h; obtain ⟨s42, h41, h⟩ := hq
              refine sw_vv (rest := []) c_good X (cX6_load_m h41) calX6_load k_412 hP hD hS 4 6 rfl rfl rfl ⟨rfl, rfl⟩ rfl hl.1 rfl (Nat.le_of_ble_eq_true rfl) dX5_loadByAddress_148 (fun H locs hP hD hS => ?_)
              refine lv_goto (tgt := 179) hx hb dX5_loadByAddress_151 (by decide) ?_
              obtain rfl := Option.some.inj h
              exact sw_vret X hP hD hS dX5_loadByAddress_179
            · replace h := if_no h c34
              by_cases c43 : p1 ∈ ([(6 : Int32)] : List Int32)
              · replace h := if_yes h c43
                refine sw_tabK (tgt := 154) (off := 153) hx hb dX5_loadByAddress_1 _ c43 (by decide +kernel) (by decide) ?_
                refine lv_aload_n hx hb dX5_loadByAddress_154 rfl (lv_at hl 0 rfl) ?_
                refine lv_aload_n hx hb dX5_loadByAddress_155 rfl (lv_at hl 0 rfl) ?_
                refine cg_5_5 X hP k_144 dX5_loadByAddress_156 ?_
                have hq := bd2_some h; clear h; obtain ⟨r45, s46, h44, h⟩ := hq
                refine sw_vi (rest := [.ref (ad 5)]) c_good X (cX3_nextPair_m h44) calX3_nextPair k_491 hP hD hS 7 3 rfl rfl rfl ⟨rfl, rfl⟩ rfl hl.1 rfl (Nat.le_of_ble_eq_true rfl) dX5_loadByAddress_159 (fun H locs hP hD hS => ?_)
                have hq := bd_some h; clear h; obtain ⟨s48, h47, h⟩ := hq
                refine sw_vv (rest := []) c_good X (cX5_storeA_m h47) calX5_storeA k_510 hP hD hS 5 5 rfl rfl rfl ⟨rfl, rfl⟩ rfl hl.1 rfl (Nat.le_of_ble_eq_true rfl) dX5_loadByAddress_162 (fun H locs hP hD hS => ?_)
                refine lv_goto (tgt := 179) hx hb dX5_loadByAddress_165 (by decide) ?_
                obtain rfl := Option.some.inj h
                exact sw_vret X hP hD hS dX5_loadByAddress_179
              · replace h := if_no h c43
                refine sw_tabD (tgt := 168) hx hb dX5_loadByAddress_1 (([(0 : Int32)] : List Int32) ++ (([(1 : Int32)] : List Int32) ++ (([(2 : Int32)] : List Int32) ++ (([(3 : Int32)] : List Int32) ++ (([(4 : Int32)] : List Int32) ++ (([(5 : Int32)] : List Int32) ++ ([(6 : Int32)] : List Int32))))))) (fun hm => (List.mem_append.mp hm).elim c1 (fun hm => (List.mem_append.mp hm).elim c7 (fun hm => (List.mem_append.mp hm).elim c13 (fun hm => (List.mem_append.mp hm).elim c19 (fun hm => (List.mem_append.mp hm).elim c25 (fun hm => (List.mem_append.mp hm).elim c34 c43)))))) (by decide +kernel) (by decide) ?_
                refine lv_aload_n hx hb dX5_loadByAddress_168 rfl (lv_at hl 0 rfl) ?_
                refine lv_aload_n hx hb dX5_loadByAddress_169 rfl (lv_at hl 0 rfl) ?_
                refine cg_5_5 X hP k_144 dX5_loadByAddress_170 ?_
                have hq := bd2_some h; clear h; obtain ⟨r50, s51, h49, h⟩ := hq
                refine sw_vi (rest := [.ref (ad 5)]) c_good X (cX3_nextPair_m h49) calX3_nextPair k_491 hP hD hS 7 3 rfl rfl rfl ⟨rfl, rfl⟩ rfl hl.1 rfl (Nat.le_of_ble_eq_true rfl) dX5_loadByAddress_173 (fun H locs hP hD hS => ?_)
                have hq := bd_some h; clear h; obtain ⟨s53, h52, h⟩ := hq
                refine sw_vv (rest := []) c_good X (cX5_loadA_m h52) calX5_loadA k_515 hP hD hS 5 5 rfl rfl rfl ⟨rfl, rfl⟩ rfl hl.1 rfl (Nat.le_of_ble_eq_true rfl) dX5_loadByAddress_176 (fun H locs hP hD hS => ?_)
                obtain rfl := Option.some.inj h
                exact sw_vret X hP hD hS dX5_loadByAddress_179
theorem dX5_stepPair_0 : decode cX5_stepPair 0 = .ok (.aload_n 0, 1) := by decide +kernel
theorem dX5_stepPair_1 : decode cX5_stepPair 1 = .ok (.getfield 7, 3) := by decide +kernel
theorem dX5_stepPair_4 : decode cX5_stepPair 4 = .ok (.iconst 2, 1) := by decide +kernel
theorem dX5_stepPair_5 : decode cX5_stepPair 5 = .ok (.invokevirtual 69, 3) := by decide +kernel
theorem dX5_stepPair_8 : decode cX5_stepPair 8 = .ok (.aload_n 0, 1) := by decide +kernel
theorem dX5_stepPair_9 : decode cX5_stepPair 9 = .ok (.getfield 21, 3) := by decide +kernel
theorem dX5_stepPair_12 : decode cX5_stepPair 12 = .ok (.iload_n 1, 1) := by decide +kernel
theorem dX5_stepPair_13 : decode cX5_stepPair 13 = .ok (.iconst 1, 1) := by decide +kernel
theorem dX5_stepPair_14 : decode cX5_stepPair 14 = .ok (.ishr, 1) := by decide +kernel
theorem dX5_stepPair_15 : decode cX5_stepPair 15 = .ok (.invokestatic 173, 3) := by decide +kernel
theorem dX5_stepPair_18 : decode cX5_stepPair 18 = .ok (.iload_n 1, 1) := by decide +kernel
theorem dX5_stepPair_19 : decode cX5_stepPair 19 = .ok (.iconst 1, 1) := by decide +kernel
theorem dX5_stepPair_20 : decode cX5_stepPair 20 = .ok (.iand, 1) := by decide +kernel
theorem dX5_stepPair_21 : decode cX5_stepPair 21 = .ok (.ifCond .ne 7, 3) := by decide +kernel
theorem dX5_stepPair_24 : decode cX5_stepPair 24 = .ok (.iconst 1, 1) := by decide +kernel
theorem dX5_stepPair_25 : decode cX5_stepPair 25 = .ok (.goto 4, 3) := by decide +kernel
theorem dX5_stepPair_28 : decode cX5_stepPair 28 = .ok (.iconst (-1), 1) := by decide +kernel
theorem dX5_stepPair_29 : decode cX5_stepPair 29 = .ok (.invokevirtual 170, 3) := by decide +kernel
theorem dX5_stepPair_32 : decode cX5_stepPair 32 = .ok (.return_, 1) := by decide +kernel
def fX5_stepPair (p1 : Int32) (s0 : zS) : Option (zS) := bd (fX1_pass (2 : Int32) s0) fun s2 => bd (fX3_pairOf (p1 >>> ((1 : Int32) &&& 31))) fun r4 => bd (if (p1 &&& (1 : Int32)) = (0 : Int32) then (some (1 : Int32)) else (some (-1 : Int32))) fun x7 => bd (fX6_move r4 x7 s2) fun s10 => some s10
set_option maxHeartbeats 4000000 in
set_option maxRecDepth 100000 in
theorem cX5_stepPair_m {l : Launch} {dC : Nat → ClassId} {dI : Nat → Nat → Nat} {ad : Nat → Nat} {cI : ClassId} {p1 : Int32} {s0 : zS} {zs : zS} (h : fX5_stepPair p1 s0 = some zs) : sw_Mv l yX5_stepPair (sw_ws yX5_stepPair cX5_stepPair 2 none) (sw_rm 2 45) (dC, dI) vwCl [(cI, .int)] cF [.ref (ad 5), .int p1] (cW ad cI s0) (cW ad cI zs) := by
  intro sz
  refine sw_of (cc := cX5_stepPair) (maxL := 2) (ret := none) (by decide) rfl (Nat.le_of_ble_eq_true rfl) ?_
  intro p e s m args below meth c A ls hAe hsz X _ hP hD hS hl
  rw [hAe]
  have hx := X.1.1
  have hb := X.1.2.1
  have hown := X.1.2.2.2.1
  have hts := X.1.2.2.2.2
  replace hl : lv_has ls 2 [(0, .ref (ad 5)), (1, .int p1)] := hl
  unfold fX5_stepPair at h
  refine lv_aload_n hx hb dX5_stepPair_0 rfl (lv_at hl 0 rfl) ?_
  refine cg_5_0 X hP k_139 dX5_stepPair_1 ?_
  refine lv_iconst (v := (2 : Int32)) hx hb dX5_stepPair_4 (by decide) ?_
  have hq := bd_some h; clear h; obtain ⟨s2, h1, h⟩ := hq
  refine sw_vv (rest := []) c_good X (cX1_pass_m h1) calX1_pass k_381 hP hD hS 1 1 rfl rfl rfl ⟨rfl, rfl⟩ rfl hl.1 rfl (Nat.le_of_ble_eq_true rfl) dX5_stepPair_5 (fun H locs hP hD hS => ?_)
  refine lv_aload_n hx hb dX5_stepPair_8 rfl (lv_at hl 0 rfl) ?_
  refine cg_5_3 X hP k_142 dX5_stepPair_9 ?_
  refine lv_iload_n hx hb dX5_stepPair_12 rfl (lv_at hl 1 rfl) ?_
  refine lv_iconst (v := (1 : Int32)) hx hb dX5_stepPair_13 (by decide) ?_
  refine lv_ishr hx hb dX5_stepPair_14 ?_
  have hq := bd_some h; clear h; obtain ⟨r4, h3, h⟩ := hq
  refine sw_si (rest := [.ref (ad 4)]) c_good X (cX3_pairOf_m h3) calX3_pairOf k_488 hP hD hS ⟨rfl, rfl⟩ rfl hl.1 rfl (Nat.le_of_ble_eq_true rfl) dX5_stepPair_15 (fun H locs hP hD hS => ?_)
  refine lv_iload_n hx hb dX5_stepPair_18 rfl (lv_at hl 1 rfl) ?_
  refine lv_iconst (v := (1 : Int32)) hx hb dX5_stepPair_19 (by decide) ?_
  refine lv_iand hx hb dX5_stepPair_20 ?_
  have hq := bd_some h; clear h; obtain ⟨x7, h8, h⟩ := hq
  have K5 : ∀ (H : Heap) (locs : List Loc), va_P (dC, dI) vwCl (cW ad cI s2) H → va_D A (cW ad cI s2) → va_S A s.heap H locs → W p l e (sw_rm 2 45) s m args below meth c H locs 0 0 (MQ below (sw_Qv (dC, dI) vwCl [(cI, .int)] A (cW ad cI zs)) args s 0 0 A) (F0 m 29 ls [.int x7, .int r4, .ref (ad 4)]) := by
    intro H locs hP hD hS
    have hq := bd_some h; clear h; obtain ⟨s10, h9, h⟩ := hq
    refine sw_vv (rest := []) c_good X (cX6_move_m h9) calX6_move k_473 hP hD hS 4 6 rfl rfl rfl ⟨rfl, rfl⟩ rfl hl.1 rfl (Nat.le_of_ble_eq_true rfl) dX5_stepPair_29 (fun H locs hP hD hS => ?_)
    obtain rfl := Option.some.inj h
    exact sw_vret X hP hD hS dX5_stepPair_32
  replace h := h8
  clear h8
  refine lv_if_ne (tgt := 28) hx hb dX5_stepPair_21 (by decide) (fun c6 => ?_) (fun c6 => ?_)
  · replace h := if_no h c6
    refine lv_iconst (v := (-1 : Int32)) hx hb dX5_stepPair_28 (by decide) ?_
    obtain rfl := Option.some.inj h
    exact K5 _ _ hP hD hS
  · replace h := if_yes h c6
    refine lv_iconst (v := (1 : Int32)) hx hb dX5_stepPair_24 (by decide) ?_
    refine lv_goto (tgt := 29) hx hb dX5_stepPair_25 (by decide) ?_
    obtain rfl := Option.some.inj h
    exact K5 _ _ hP hD hS
theorem dX5_stepOperand_0 : decode cX5_stepOperand 0 = .ok (.aload_n 0, 1) := by decide +kernel
theorem dX5_stepOperand_1 : decode cX5_stepOperand 1 = .ok (.getfield 39, 3) := by decide +kernel
theorem dX5_stepOperand_4 : decode cX5_stepOperand 4 = .ok (.iload_n 1, 1) := by decide +kernel
theorem dX5_stepOperand_5 : decode cX5_stepOperand 5 = .ok (.invokevirtual 84, 3) := by decide +kernel
theorem dX5_stepOperand_8 : decode cX5_stepOperand 8 = .ok (.istore_n 3, 1) := by decide +kernel
theorem dX5_stepOperand_9 : decode cX5_stepOperand 9 = .ok (.iload_n 2, 1) := by decide +kernel
theorem dX5_stepOperand_10 : decode cX5_stepOperand 10 = .ok (.ifCond .eq 14, 3) := by decide +kernel
theorem dX5_stepOperand_13 : decode cX5_stepOperand 13 = .ok (.aload_n 0, 1) := by decide +kernel
theorem dX5_stepOperand_14 : decode cX5_stepOperand 14 = .ok (.getfield 30, 3) := by decide +kernel
theorem dX5_stepOperand_17 : decode cX5_stepOperand 17 = .ok (.iload_n 3, 1) := by decide +kernel
theorem dX5_stepOperand_18 : decode cX5_stepOperand 18 = .ok (.invokevirtual 200, 3) := by decide +kernel
theorem dX5_stepOperand_21 : decode cX5_stepOperand 21 = .ok (.goto 11, 3) := by decide +kernel
theorem dX5_stepOperand_24 : decode cX5_stepOperand 24 = .ok (.aload_n 0, 1) := by decide +kernel
theorem dX5_stepOperand_25 : decode cX5_stepOperand 25 = .ok (.getfield 30, 3) := by decide +kernel
theorem dX5_stepOperand_28 : decode cX5_stepOperand 28 = .ok (.iload_n 3, 1) := by decide +kernel
theorem dX5_stepOperand_29 : decode cX5_stepOperand 29 = .ok (.invokevirtual 203, 3) := by decide +kernel
theorem dX5_stepOperand_32 : decode cX5_stepOperand 32 = .ok (.istore 4, 2) := by decide +kernel
theorem dX5_stepOperand_34 : decode cX5_stepOperand 34 = .ok (.iload_n 1, 1) := by decide +kernel
theorem dX5_stepOperand_35 : decode cX5_stepOperand 35 = .ok (.invokestatic 124, 3) := by decide +kernel
theorem dX5_stepOperand_38 : decode cX5_stepOperand 38 = .ok (.ifCond .eq 11, 3) := by decide +kernel
theorem dX5_stepOperand_41 : decode cX5_stepOperand 41 = .ok (.aload_n 0, 1) := by decide +kernel
theorem dX5_stepOperand_42 : decode cX5_stepOperand 42 = .ok (.getfield 7, 3) := by decide +kernel
theorem dX5_stepOperand_45 : decode cX5_stepOperand 45 = .ok (.iconst 1, 1) := by decide +kernel
theorem dX5_stepOperand_46 : decode cX5_stepOperand 46 = .ok (.invokevirtual 69, 3) := by decide +kernel
theorem dX5_stepOperand_49 : decode cX5_stepOperand 49 = .ok (.aload_n 0, 1) := by decide +kernel
theorem dX5_stepOperand_50 : decode cX5_stepOperand 50 = .ok (.getfield 39, 3) := by decide +kernel
theorem dX5_stepOperand_53 : decode cX5_stepOperand 53 = .ok (.iload_n 1, 1) := by decide +kernel
theorem dX5_stepOperand_54 : decode cX5_stepOperand 54 = .ok (.iload 4, 2) := by decide +kernel
theorem dX5_stepOperand_56 : decode cX5_stepOperand 56 = .ok (.invokevirtual 127, 3) := by decide +kernel
theorem dX5_stepOperand_59 : decode cX5_stepOperand 59 = .ok (.return_, 1) := by decide +kernel
def fX5_stepOperand (p1 p2 : Int32) (s0 : zS) : Option (zS) := bd2 (fX3_value p1 s0) fun r2 s3 => if p2 = (0 : Int32) then (bd2 (fX0_oneLess r2 s3) fun r6 s7 => bd (fX3_isAtHl p1) fun r9 => if r9 = (0 : Int32) then (bd (fX3_store p1 r6 s7) fun s12 => some s12) else (bd (fX1_pass (1 : Int32) s7) fun s14 => bd (fX3_store p1 r6 s14) fun s16 => some s16)) else (bd2 (fX0_oneMore r2 s3) fun r18 s19 => bd (fX3_isAtHl p1) fun r21 => if r21 = (0 : Int32) then (bd (fX3_store p1 r18 s19) fun s24 => some s24) else (bd (fX1_pass (1 : Int32) s19) fun s26 => bd (fX3_store p1 r18 s26) fun s28 => some s28))
set_option maxHeartbeats 4000000 in
set_option maxRecDepth 100000 in
theorem cX5_stepOperand_m {l : Launch} {dC : Nat → ClassId} {dI : Nat → Nat → Nat} {ad : Nat → Nat} {cI : ClassId} {p1 p2 : Int32} {s0 : zS} {zs : zS} (h : fX5_stepOperand p1 p2 s0 = some zs) : sw_Mv l yX5_stepOperand (sw_ws yX5_stepOperand cX5_stepOperand 5 none) (sw_rm 3 67) (dC, dI) vwCl [(cI, .int)] cF [.ref (ad 5), .int p1, .int p2] (cW ad cI s0) (cW ad cI zs) := by
  intro sz
  refine sw_of (cc := cX5_stepOperand) (maxL := 5) (ret := none) (by decide) rfl (Nat.le_of_ble_eq_true rfl) ?_
  intro p e s m args below meth c A ls hAe hsz X _ hP hD hS hl
  rw [hAe]
  have hx := X.1.1
  have hb := X.1.2.1
  have hown := X.1.2.2.2.1
  have hts := X.1.2.2.2.2
  replace hl : lv_has ls 5 [(0, .ref (ad 5)), (1, .int p1), (2, .int p2)] := hl
  unfold fX5_stepOperand at h
  refine lv_aload_n hx hb dX5_stepOperand_0 rfl (lv_at hl 0 rfl) ?_
  refine cg_5_5 X hP k_144 dX5_stepOperand_1 ?_
  refine lv_iload_n hx hb dX5_stepOperand_4 rfl (lv_at hl 1 rfl) ?_
  have hq := bd2_some h; clear h; obtain ⟨r2, s3, h1, h⟩ := hq
  refine sw_vi (rest := []) c_good X (cX3_value_m h1) calX3_value k_536 hP hD hS 7 3 rfl rfl rfl ⟨rfl, rfl⟩ rfl hl.1 rfl (Nat.le_of_ble_eq_true rfl) dX5_stepOperand_5 (fun H locs hP hD hS => ?_)
  refine lv_istore_n (lv' := [(3, .int r2), (0, .ref (ad 5)), (1, .int p1), (2, .int p2)]) hx hb dX5_stepOperand_8 rfl hl (by decide) rfl (fun ls hl => ?_)
  refine lv_iload_n hx hb dX5_stepOperand_9 rfl (lv_at hl 3 rfl) ?_
  refine lv_if_eq (tgt := 24) hx hb dX5_stepOperand_10 (by decide) (fun c4 => ?_) (fun c4 => ?_)
  · replace h := if_yes h c4
    refine lv_aload_n hx hb dX5_stepOperand_24 rfl (lv_at hl 1 rfl) ?_
    refine cg_5_4 X hP k_143 dX5_stepOperand_25 ?_
    refine lv_iload_n hx hb dX5_stepOperand_28 rfl (lv_at hl 0 rfl) ?_
    have hq := bd2_some h; clear h; obtain ⟨r6, s7, h5, h⟩ := hq
    refine sw_vi (rest := []) c_good X (cX0_oneLess_m h5) calX0_oneLess k_551 hP hD hS 6 0 rfl rfl rfl ⟨rfl, rfl⟩ rfl hl.1 rfl (Nat.le_of_ble_eq_true rfl) dX5_stepOperand_29 (fun H locs hP hD hS => ?_)
    refine lv_istore (lv' := [(4, .int r6), (3, .int r2), (0, .ref (ad 5)), (1, .int p1), (2, .int p2)]) hx hb dX5_stepOperand_32 hl (by decide) rfl (fun ls hl => ?_)
    refine lv_iload_n hx hb dX5_stepOperand_34 rfl (lv_at hl 3 rfl) ?_
    have hq := bd_some h; clear h; obtain ⟨r9, h8, h⟩ := hq
    refine sw_si (rest := []) c_good X (cX3_isAtHl_m h8) calX3_isAtHl k_555 hP hD hS ⟨rfl, rfl⟩ rfl hl.1 rfl (Nat.le_of_ble_eq_true rfl) dX5_stepOperand_35 (fun H locs hP hD hS => ?_)
    refine lv_if_eq (tgt := 49) hx hb dX5_stepOperand_38 (by decide) (fun c10 => ?_) (fun c10 => ?_)
    · replace h := if_yes h c10
      refine lv_aload_n hx hb dX5_stepOperand_49 rfl (lv_at hl 2 rfl) ?_
      refine cg_5_5 X hP k_144 dX5_stepOperand_50 ?_
      refine lv_iload_n hx hb dX5_stepOperand_53 rfl (lv_at hl 3 rfl) ?_
      refine lv_iload hx hb dX5_stepOperand_54 (lv_at hl 0 rfl) ?_
      have hq := bd_some h; clear h; obtain ⟨s12, h11, h⟩ := hq
      refine sw_vv (rest := []) c_good X (cX3_store_m h11) calX3_store k_556 hP hD hS 7 3 rfl rfl rfl ⟨rfl, rfl⟩ rfl hl.1 rfl (Nat.le_of_ble_eq_true rfl) dX5_stepOperand_56 (fun H locs hP hD hS => ?_)
      obtain rfl := Option.some.inj h
      exact sw_vret X hP hD hS dX5_stepOperand_59
    · replace h := if_no h c10
      refine lv_aload_n hx hb dX5_stepOperand_41 rfl (lv_at hl 2 rfl) ?_
      refine cg_5_0 X hP k_139 dX5_stepOperand_42 ?_
      refine lv_iconst (v := (1 : Int32)) hx hb dX5_stepOperand_45 (by decide) ?_
      have hq := bd_some h; clear h; obtain ⟨s14, h13, h⟩ := hq
      refine sw_vv (rest := []) c_good X (cX1_pass_m h13) calX1_pass k_381 hP hD hS 1 1 rfl rfl rfl ⟨rfl, rfl⟩ rfl hl.1 rfl (Nat.le_of_ble_eq_true rfl) dX5_stepOperand_46 (fun H locs hP hD hS => ?_)
      refine lv_aload_n hx hb dX5_stepOperand_49 rfl (lv_at hl 2 rfl) ?_
      refine cg_5_5 X hP k_144 dX5_stepOperand_50 ?_
      refine lv_iload_n hx hb dX5_stepOperand_53 rfl (lv_at hl 3 rfl) ?_
      refine lv_iload hx hb dX5_stepOperand_54 (lv_at hl 0 rfl) ?_
      have hq := bd_some h; clear h; obtain ⟨s16, h15, h⟩ := hq
      refine sw_vv (rest := []) c_good X (cX3_store_m h15) calX3_store k_556 hP hD hS 7 3 rfl rfl rfl ⟨rfl, rfl⟩ rfl hl.1 rfl (Nat.le_of_ble_eq_true rfl) dX5_stepOperand_56 (fun H locs hP hD hS => ?_)
      obtain rfl := Option.some.inj h
      exact sw_vret X hP hD hS dX5_stepOperand_59
  · replace h := if_no h c4
    refine lv_aload_n hx hb dX5_stepOperand_13 rfl (lv_at hl 1 rfl) ?_
    refine cg_5_4 X hP k_143 dX5_stepOperand_14 ?_
    refine lv_iload_n hx hb dX5_stepOperand_17 rfl (lv_at hl 0 rfl) ?_
    have hq := bd2_some h; clear h; obtain ⟨r18, s19, h17, h⟩ := hq
    refine sw_vi (rest := []) c_good X (cX0_oneMore_m h17) calX0_oneMore k_544 hP hD hS 6 0 rfl rfl rfl ⟨rfl, rfl⟩ rfl hl.1 rfl (Nat.le_of_ble_eq_true rfl) dX5_stepOperand_18 (fun H locs hP hD hS => ?_)
    refine lv_goto (tgt := 32) hx hb dX5_stepOperand_21 (by decide) ?_
    refine lv_istore (lv' := [(4, .int r18), (3, .int r2), (0, .ref (ad 5)), (1, .int p1), (2, .int p2)]) hx hb dX5_stepOperand_32 hl (by decide) rfl (fun ls hl => ?_)
    refine lv_iload_n hx hb dX5_stepOperand_34 rfl (lv_at hl 3 rfl) ?_
    have hq := bd_some h; clear h; obtain ⟨r21, h20, h⟩ := hq
    refine sw_si (rest := []) c_good X (cX3_isAtHl_m h20) calX3_isAtHl k_555 hP hD hS ⟨rfl, rfl⟩ rfl hl.1 rfl (Nat.le_of_ble_eq_true rfl) dX5_stepOperand_35 (fun H locs hP hD hS => ?_)
    refine lv_if_eq (tgt := 49) hx hb dX5_stepOperand_38 (by decide) (fun c22 => ?_) (fun c22 => ?_)
    · replace h := if_yes h c22
      refine lv_aload_n hx hb dX5_stepOperand_49 rfl (lv_at hl 2 rfl) ?_
      refine cg_5_5 X hP k_144 dX5_stepOperand_50 ?_
      refine lv_iload_n hx hb dX5_stepOperand_53 rfl (lv_at hl 3 rfl) ?_
      refine lv_iload hx hb dX5_stepOperand_54 (lv_at hl 0 rfl) ?_
      have hq := bd_some h; clear h; obtain ⟨s24, h23, h⟩ := hq
      refine sw_vv (rest := []) c_good X (cX3_store_m h23) calX3_store k_556 hP hD hS 7 3 rfl rfl rfl ⟨rfl, rfl⟩ rfl hl.1 rfl (Nat.le_of_ble_eq_true rfl) dX5_stepOperand_56 (fun H locs hP hD hS => ?_)
      obtain rfl := Option.some.inj h
      exact sw_vret X hP hD hS dX5_stepOperand_59
    · replace h := if_no h c22
      refine lv_aload_n hx hb dX5_stepOperand_41 rfl (lv_at hl 2 rfl) ?_
      refine cg_5_0 X hP k_139 dX5_stepOperand_42 ?_
      refine lv_iconst (v := (1 : Int32)) hx hb dX5_stepOperand_45 (by decide) ?_
      have hq := bd_some h; clear h; obtain ⟨s26, h25, h⟩ := hq
      refine sw_vv (rest := []) c_good X (cX1_pass_m h25) calX1_pass k_381 hP hD hS 1 1 rfl rfl rfl ⟨rfl, rfl⟩ rfl hl.1 rfl (Nat.le_of_ble_eq_true rfl) dX5_stepOperand_46 (fun H locs hP hD hS => ?_)
      refine lv_aload_n hx hb dX5_stepOperand_49 rfl (lv_at hl 2 rfl) ?_
      refine cg_5_5 X hP k_144 dX5_stepOperand_50 ?_
      refine lv_iload_n hx hb dX5_stepOperand_53 rfl (lv_at hl 3 rfl) ?_
      refine lv_iload hx hb dX5_stepOperand_54 (lv_at hl 0 rfl) ?_
      have hq := bd_some h; clear h; obtain ⟨s28, h27, h⟩ := hq
      refine sw_vv (rest := []) c_good X (cX3_store_m h27) calX3_store k_556 hP hD hS 7 3 rfl rfl rfl ⟨rfl, rfl⟩ rfl hl.1 rfl (Nat.le_of_ble_eq_true rfl) dX5_stepOperand_56 (fun H locs hP hD hS => ?_)
      obtain rfl := Option.some.inj h
      exact sw_vret X hP hD hS dX5_stepOperand_59
theorem dX5_changeA_0 : decode cX5_changeA 0 = .ok (.iload_n 1, 1) := by decide +kernel
theorem dX5_changeA_1 : decode cX5_changeA 1 = .ok (.tableswitch 71 4 7 #[31, 41, 51, 61], 31) := by decide +kernel
theorem dX5_changeA_32 : decode cX5_changeA 32 = .ok (.aload_n 0, 1) := by decide +kernel
theorem dX5_changeA_33 : decode cX5_changeA 33 = .ok (.getfield 30, 3) := by decide +kernel
theorem dX5_changeA_36 : decode cX5_changeA 36 = .ok (.invokevirtual 206, 3) := by decide +kernel
theorem dX5_changeA_39 : decode cX5_changeA 39 = .ok (.goto 41, 3) := by decide +kernel
theorem dX5_changeA_42 : decode cX5_changeA 42 = .ok (.aload_n 0, 1) := by decide +kernel
theorem dX5_changeA_43 : decode cX5_changeA 43 = .ok (.getfield 30, 3) := by decide +kernel
theorem dX5_changeA_46 : decode cX5_changeA 46 = .ok (.invokevirtual 209, 3) := by decide +kernel
theorem dX5_changeA_49 : decode cX5_changeA 49 = .ok (.goto 31, 3) := by decide +kernel
theorem dX5_changeA_52 : decode cX5_changeA 52 = .ok (.aload_n 0, 1) := by decide +kernel
theorem dX5_changeA_53 : decode cX5_changeA 53 = .ok (.getfield 30, 3) := by decide +kernel
theorem dX5_changeA_56 : decode cX5_changeA 56 = .ok (.invokevirtual 212, 3) := by decide +kernel
theorem dX5_changeA_59 : decode cX5_changeA 59 = .ok (.goto 21, 3) := by decide +kernel
theorem dX5_changeA_62 : decode cX5_changeA 62 = .ok (.aload_n 0, 1) := by decide +kernel
theorem dX5_changeA_63 : decode cX5_changeA 63 = .ok (.getfield 30, 3) := by decide +kernel
theorem dX5_changeA_66 : decode cX5_changeA 66 = .ok (.invokevirtual 215, 3) := by decide +kernel
theorem dX5_changeA_69 : decode cX5_changeA 69 = .ok (.goto 11, 3) := by decide +kernel
theorem dX5_changeA_72 : decode cX5_changeA 72 = .ok (.aload_n 0, 1) := by decide +kernel
theorem dX5_changeA_73 : decode cX5_changeA 73 = .ok (.getfield 30, 3) := by decide +kernel
theorem dX5_changeA_76 : decode cX5_changeA 76 = .ok (.iload_n 1, 1) := by decide +kernel
theorem dX5_changeA_77 : decode cX5_changeA 77 = .ok (.invokevirtual 218, 3) := by decide +kernel
theorem dX5_changeA_80 : decode cX5_changeA 80 = .ok (.return_, 1) := by decide +kernel
def fX5_changeA (p1 : Int32) (s0 : zS) : Option (zS) := if p1 ∈ ([(4 : Int32)] : List Int32) then (bd (fX0_adjustDecimal  s0) fun s3 => some s3) else if p1 ∈ ([(5 : Int32)] : List Int32) then (bd (fX0_turnRoundA  s0) fun s6 => some s6) else if p1 ∈ ([(6 : Int32)] : List Int32) then (bd (fX0_setCarry  s0) fun s9 => some s9) else if p1 ∈ ([(7 : Int32)] : List Int32) then (bd (fX0_turnRoundCarry  s0) fun s12 => some s12) else (bd (fX0_shiftA p1 s0) fun s14 => some s14)
set_option maxHeartbeats 4000000 in
set_option maxRecDepth 100000 in
theorem cX5_changeA_m {l : Launch} {dC : Nat → ClassId} {dI : Nat → Nat → Nat} {ad : Nat → Nat} {cI : ClassId} {p1 : Int32} {s0 : zS} {zs : zS} (h : fX5_changeA p1 s0 = some zs) : sw_Mv l yX5_changeA (sw_ws yX5_changeA cX5_changeA 2 none) (sw_rm 3 70) (dC, dI) vwCl [(cI, .int)] cF [.ref (ad 5), .int p1] (cW ad cI s0) (cW ad cI zs) := by
  intro sz
  refine sw_of (cc := cX5_changeA) (maxL := 2) (ret := none) (by decide) rfl (Nat.le_of_ble_eq_true rfl) ?_
  intro p e s m args below meth c A ls hAe hsz X _ hP hD hS hl
  rw [hAe]
  have hx := X.1.1
  have hb := X.1.2.1
  have hown := X.1.2.2.2.1
  have hts := X.1.2.2.2.2
  replace hl : lv_has ls 2 [(0, .ref (ad 5)), (1, .int p1)] := hl
  unfold fX5_changeA at h
  refine lv_iload_n hx hb dX5_changeA_0 rfl (lv_at hl 1 rfl) ?_
  by_cases c1 : p1 ∈ ([(4 : Int32)] : List Int32)
  · replace h := if_yes h c1
    refine sw_tabK (tgt := 32) (off := 31) hx hb dX5_changeA_1 _ c1 (by decide +kernel) (by decide) ?_
    refine lv_aload_n hx hb dX5_changeA_32 rfl (lv_at hl 0 rfl) ?_
    refine cg_5_4 X hP k_143 dX5_changeA_33 ?_
    have hq := bd_some h; clear h; obtain ⟨s3, h2, h⟩ := hq
    refine sw_vv (rest := []) c_good X (cX0_adjustDecimal_m h2) calX0_adjustDecimal k_565 hP hD hS 6 0 rfl rfl rfl ⟨rfl, rfl⟩ rfl hl.1 rfl (Nat.le_of_ble_eq_true rfl) dX5_changeA_36 (fun H locs hP hD hS => ?_)
    refine lv_goto (tgt := 80) hx hb dX5_changeA_39 (by decide) ?_
    obtain rfl := Option.some.inj h
    exact sw_vret X hP hD hS dX5_changeA_80
  · replace h := if_no h c1
    by_cases c4 : p1 ∈ ([(5 : Int32)] : List Int32)
    · replace h := if_yes h c4
      refine sw_tabK (tgt := 42) (off := 41) hx hb dX5_changeA_1 _ c4 (by decide +kernel) (by decide) ?_
      refine lv_aload_n hx hb dX5_changeA_42 rfl (lv_at hl 0 rfl) ?_
      refine cg_5_4 X hP k_143 dX5_changeA_43 ?_
      have hq := bd_some h; clear h; obtain ⟨s6, h5, h⟩ := hq
      refine sw_vv (rest := []) c_good X (cX0_turnRoundA_m h5) calX0_turnRoundA k_580 hP hD hS 6 0 rfl rfl rfl ⟨rfl, rfl⟩ rfl hl.1 rfl (Nat.le_of_ble_eq_true rfl) dX5_changeA_46 (fun H locs hP hD hS => ?_)
      refine lv_goto (tgt := 80) hx hb dX5_changeA_49 (by decide) ?_
      obtain rfl := Option.some.inj h
      exact sw_vret X hP hD hS dX5_changeA_80
    · replace h := if_no h c4
      by_cases c7 : p1 ∈ ([(6 : Int32)] : List Int32)
      · replace h := if_yes h c7
        refine sw_tabK (tgt := 52) (off := 51) hx hb dX5_changeA_1 _ c7 (by decide +kernel) (by decide) ?_
        refine lv_aload_n hx hb dX5_changeA_52 rfl (lv_at hl 0 rfl) ?_
        refine cg_5_4 X hP k_143 dX5_changeA_53 ?_
        have hq := bd_some h; clear h; obtain ⟨s9, h8, h⟩ := hq
        refine sw_vv (rest := []) c_good X (cX0_setCarry_m h8) calX0_setCarry k_584 hP hD hS 6 0 rfl rfl rfl ⟨rfl, rfl⟩ rfl hl.1 rfl (Nat.le_of_ble_eq_true rfl) dX5_changeA_56 (fun H locs hP hD hS => ?_)
        refine lv_goto (tgt := 80) hx hb dX5_changeA_59 (by decide) ?_
        obtain rfl := Option.some.inj h
        exact sw_vret X hP hD hS dX5_changeA_80
      · replace h := if_no h c7
        by_cases c10 : p1 ∈ ([(7 : Int32)] : List Int32)
        · replace h := if_yes h c10
          refine sw_tabK (tgt := 62) (off := 61) hx hb dX5_changeA_1 _ c10 (by decide +kernel) (by decide) ?_
          refine lv_aload_n hx hb dX5_changeA_62 rfl (lv_at hl 0 rfl) ?_
          refine cg_5_4 X hP k_143 dX5_changeA_63 ?_
          have hq := bd_some h; clear h; obtain ⟨s12, h11, h⟩ := hq
          refine sw_vv (rest := []) c_good X (cX0_turnRoundCarry_m h11) calX0_turnRoundCarry k_588 hP hD hS 6 0 rfl rfl rfl ⟨rfl, rfl⟩ rfl hl.1 rfl (Nat.le_of_ble_eq_true rfl) dX5_changeA_66 (fun H locs hP hD hS => ?_)
          refine lv_goto (tgt := 80) hx hb dX5_changeA_69 (by decide) ?_
          obtain rfl := Option.some.inj h
          exact sw_vret X hP hD hS dX5_changeA_80
        · replace h := if_no h c10
          refine sw_tabD (tgt := 72) hx hb dX5_changeA_1 (([(4 : Int32)] : List Int32) ++ (([(5 : Int32)] : List Int32) ++ (([(6 : Int32)] : List Int32) ++ ([(7 : Int32)] : List Int32)))) (fun hm => (List.mem_append.mp hm).elim c1 (fun hm => (List.mem_append.mp hm).elim c4 (fun hm => (List.mem_append.mp hm).elim c7 c10))) (by decide +kernel) (by decide) ?_
          refine lv_aload_n hx hb dX5_changeA_72 rfl (lv_at hl 0 rfl) ?_
          refine cg_5_4 X hP k_143 dX5_changeA_73 ?_
          refine lv_iload_n hx hb dX5_changeA_76 rfl (lv_at hl 1 rfl) ?_
          have hq := bd_some h; clear h; obtain ⟨s14, h13, h⟩ := hq
          refine sw_vv (rest := []) c_good X (cX0_shiftA_m h13) calX0_shiftA k_592 hP hD hS 6 0 rfl rfl rfl ⟨rfl, rfl⟩ rfl hl.1 rfl (Nat.le_of_ble_eq_true rfl) dX5_changeA_77 (fun H locs hP hD hS => ?_)
          obtain rfl := Option.some.inj h
          exact sw_vret X hP hD hS dX5_changeA_80
theorem dX5_executeFirstQuarter_0 : decode cX5_executeFirstQuarter 0 = .ok (.iload_n 2, 1) := by decide +kernel
theorem dX5_executeFirstQuarter_1 : decode cX5_executeFirstQuarter 1 = .ok (.tableswitch 111 0 6 #[43, 51, 59, 67, 75, 84, 93], 43) := by decide +kernel
theorem dX5_executeFirstQuarter_44 : decode cX5_executeFirstQuarter 44 = .ok (.aload_n 0, 1) := by decide +kernel
theorem dX5_executeFirstQuarter_45 : decode cX5_executeFirstQuarter 45 = .ok (.iload_n 1, 1) := by decide +kernel
theorem dX5_executeFirstQuarter_46 : decode cX5_executeFirstQuarter 46 = .ok (.invokevirtual 130, 3) := by decide +kernel
theorem dX5_executeFirstQuarter_49 : decode cX5_executeFirstQuarter 49 = .ok (.goto 68, 3) := by decide +kernel
theorem dX5_executeFirstQuarter_52 : decode cX5_executeFirstQuarter 52 = .ok (.aload_n 0, 1) := by decide +kernel
theorem dX5_executeFirstQuarter_53 : decode cX5_executeFirstQuarter 53 = .ok (.iload_n 1, 1) := by decide +kernel
theorem dX5_executeFirstQuarter_54 : decode cX5_executeFirstQuarter 54 = .ok (.invokevirtual 133, 3) := by decide +kernel
theorem dX5_executeFirstQuarter_57 : decode cX5_executeFirstQuarter 57 = .ok (.goto 60, 3) := by decide +kernel
theorem dX5_executeFirstQuarter_60 : decode cX5_executeFirstQuarter 60 = .ok (.aload_n 0, 1) := by decide +kernel
theorem dX5_executeFirstQuarter_61 : decode cX5_executeFirstQuarter 61 = .ok (.iload_n 1, 1) := by decide +kernel
theorem dX5_executeFirstQuarter_62 : decode cX5_executeFirstQuarter 62 = .ok (.invokevirtual 136, 3) := by decide +kernel
theorem dX5_executeFirstQuarter_65 : decode cX5_executeFirstQuarter 65 = .ok (.goto 52, 3) := by decide +kernel
theorem dX5_executeFirstQuarter_68 : decode cX5_executeFirstQuarter 68 = .ok (.aload_n 0, 1) := by decide +kernel
theorem dX5_executeFirstQuarter_69 : decode cX5_executeFirstQuarter 69 = .ok (.iload_n 1, 1) := by decide +kernel
theorem dX5_executeFirstQuarter_70 : decode cX5_executeFirstQuarter 70 = .ok (.invokevirtual 139, 3) := by decide +kernel
theorem dX5_executeFirstQuarter_73 : decode cX5_executeFirstQuarter 73 = .ok (.goto 44, 3) := by decide +kernel
theorem dX5_executeFirstQuarter_76 : decode cX5_executeFirstQuarter 76 = .ok (.aload_n 0, 1) := by decide +kernel
theorem dX5_executeFirstQuarter_77 : decode cX5_executeFirstQuarter 77 = .ok (.iload_n 1, 1) := by decide +kernel
theorem dX5_executeFirstQuarter_78 : decode cX5_executeFirstQuarter 78 = .ok (.iconst 1, 1) := by decide +kernel
theorem dX5_executeFirstQuarter_79 : decode cX5_executeFirstQuarter 79 = .ok (.invokevirtual 142, 3) := by decide +kernel
theorem dX5_executeFirstQuarter_82 : decode cX5_executeFirstQuarter 82 = .ok (.goto 35, 3) := by decide +kernel
theorem dX5_executeFirstQuarter_85 : decode cX5_executeFirstQuarter 85 = .ok (.aload_n 0, 1) := by decide +kernel
theorem dX5_executeFirstQuarter_86 : decode cX5_executeFirstQuarter 86 = .ok (.iload_n 1, 1) := by decide +kernel
theorem dX5_executeFirstQuarter_87 : decode cX5_executeFirstQuarter 87 = .ok (.iconst 0, 1) := by decide +kernel
theorem dX5_executeFirstQuarter_88 : decode cX5_executeFirstQuarter 88 = .ok (.invokevirtual 142, 3) := by decide +kernel
theorem dX5_executeFirstQuarter_91 : decode cX5_executeFirstQuarter 91 = .ok (.goto 26, 3) := by decide +kernel
theorem dX5_executeFirstQuarter_94 : decode cX5_executeFirstQuarter 94 = .ok (.aload_n 0, 1) := by decide +kernel
theorem dX5_executeFirstQuarter_95 : decode cX5_executeFirstQuarter 95 = .ok (.getfield 39, 3) := by decide +kernel
theorem dX5_executeFirstQuarter_98 : decode cX5_executeFirstQuarter 98 = .ok (.iload_n 1, 1) := by decide +kernel
theorem dX5_executeFirstQuarter_99 : decode cX5_executeFirstQuarter 99 = .ok (.aload_n 0, 1) := by decide +kernel
theorem dX5_executeFirstQuarter_100 : decode cX5_executeFirstQuarter 100 = .ok (.getfield 39, 3) := by decide +kernel
theorem dX5_executeFirstQuarter_103 : decode cX5_executeFirstQuarter 103 = .ok (.invokevirtual 146, 3) := by decide +kernel
theorem dX5_executeFirstQuarter_106 : decode cX5_executeFirstQuarter 106 = .ok (.invokevirtual 127, 3) := by decide +kernel
theorem dX5_executeFirstQuarter_109 : decode cX5_executeFirstQuarter 109 = .ok (.goto 8, 3) := by decide +kernel
theorem dX5_executeFirstQuarter_112 : decode cX5_executeFirstQuarter 112 = .ok (.aload_n 0, 1) := by decide +kernel
theorem dX5_executeFirstQuarter_113 : decode cX5_executeFirstQuarter 113 = .ok (.iload_n 1, 1) := by decide +kernel
theorem dX5_executeFirstQuarter_114 : decode cX5_executeFirstQuarter 114 = .ok (.invokevirtual 149, 3) := by decide +kernel
theorem dX5_executeFirstQuarter_117 : decode cX5_executeFirstQuarter 117 = .ok (.return_, 1) := by decide +kernel
def fX5_executeFirstQuarter (p1 p2 : Int32) (s0 : zS) : Option (zS) := if p2 ∈ ([(0 : Int32)] : List Int32) then (bd (fX5_jumpNear p1 s0) fun s3 => some s3) else if p2 ∈ ([(1 : Int32)] : List Int32) then (bd (fX5_loadPairOrAdd p1 s0) fun s6 => some s6) else if p2 ∈ ([(2 : Int32)] : List Int32) then (bd (fX5_loadByAddress p1 s0) fun s9 => some s9) else if p2 ∈ ([(3 : Int32)] : List Int32) then (bd (fX5_stepPair p1 s0) fun s12 => some s12) else if p2 ∈ ([(4 : Int32)] : List Int32) then (bd (fX5_stepOperand p1 (1 : Int32) s0) fun s15 => some s15) else if p2 ∈ ([(5 : Int32)] : List Int32) then (bd (fX5_stepOperand p1 (0 : Int32) s0) fun s18 => some s18) else if p2 ∈ ([(6 : Int32)] : List Int32) then (bd2 (fX3_next  s0) fun r21 s22 => bd (fX3_store p1 r21 s22) fun s24 => some s24) else (bd (fX5_changeA p1 s0) fun s26 => some s26)
set_option maxHeartbeats 4000000 in
set_option maxRecDepth 100000 in
theorem cX5_executeFirstQuarter_m {l : Launch} {dC : Nat → ClassId} {dI : Nat → Nat → Nat} {ad : Nat → Nat} {cI : ClassId} {p1 p2 : Int32} {s0 : zS} {zs : zS} (h : fX5_executeFirstQuarter p1 p2 s0 = some zs) : sw_Mv l yX5_executeFirstQuarter (sw_ws yX5_executeFirstQuarter cX5_executeFirstQuarter 3 none) (sw_rm 4 91) (dC, dI) vwCl [(cI, .int)] cF [.ref (ad 5), .int p1, .int p2] (cW ad cI s0) (cW ad cI zs) := by
  intro sz
  refine sw_of (cc := cX5_executeFirstQuarter) (maxL := 3) (ret := none) (by decide) rfl (Nat.le_of_ble_eq_true rfl) ?_
  intro p e s m args below meth c A ls hAe hsz X _ hP hD hS hl
  rw [hAe]
  have hx := X.1.1
  have hb := X.1.2.1
  have hown := X.1.2.2.2.1
  have hts := X.1.2.2.2.2
  replace hl : lv_has ls 3 [(0, .ref (ad 5)), (1, .int p1), (2, .int p2)] := hl
  unfold fX5_executeFirstQuarter at h
  refine lv_iload_n hx hb dX5_executeFirstQuarter_0 rfl (lv_at hl 2 rfl) ?_
  by_cases c1 : p2 ∈ ([(0 : Int32)] : List Int32)
  · replace h := if_yes h c1
    refine sw_tabK (tgt := 44) (off := 43) hx hb dX5_executeFirstQuarter_1 _ c1 (by decide +kernel) (by decide) ?_
    refine lv_aload_n hx hb dX5_executeFirstQuarter_44 rfl (lv_at hl 0 rfl) ?_
    refine lv_iload_n hx hb dX5_executeFirstQuarter_45 rfl (lv_at hl 1 rfl) ?_
    have hq := bd_some h; clear h; obtain ⟨s3, h2, h⟩ := hq
    refine sw_vv (rest := []) c_good X (cX5_jumpNear_m h2) calX5_jumpNear k_434 hP hD hS 5 5 rfl rfl rfl ⟨rfl, rfl⟩ rfl hl.1 rfl (Nat.le_of_ble_eq_true rfl) dX5_executeFirstQuarter_46 (fun H locs hP hD hS => ?_)
    refine lv_goto (tgt := 117) hx hb dX5_executeFirstQuarter_49 (by decide) ?_
    obtain rfl := Option.some.inj h
    exact sw_vret X hP hD hS dX5_executeFirstQuarter_117
  · replace h := if_no h c1
    by_cases c4 : p2 ∈ ([(1 : Int32)] : List Int32)
    · replace h := if_yes h c4
      refine sw_tabK (tgt := 52) (off := 51) hx hb dX5_executeFirstQuarter_1 _ c4 (by decide +kernel) (by decide) ?_
      refine lv_aload_n hx hb dX5_executeFirstQuarter_52 rfl (lv_at hl 0 rfl) ?_
      refine lv_iload_n hx hb dX5_executeFirstQuarter_53 rfl (lv_at hl 1 rfl) ?_
      have hq := bd_some h; clear h; obtain ⟨s6, h5, h⟩ := hq
      refine sw_vv (rest := []) c_good X (cX5_loadPairOrAdd_m h5) calX5_loadPairOrAdd k_484 hP hD hS 5 5 rfl rfl rfl ⟨rfl, rfl⟩ rfl hl.1 rfl (Nat.le_of_ble_eq_true rfl) dX5_executeFirstQuarter_54 (fun H locs hP hD hS => ?_)
      refine lv_goto (tgt := 117) hx hb dX5_executeFirstQuarter_57 (by decide) ?_
      obtain rfl := Option.some.inj h
      exact sw_vret X hP hD hS dX5_executeFirstQuarter_117
    · replace h := if_no h c4
      by_cases c7 : p2 ∈ ([(2 : Int32)] : List Int32)
      · replace h := if_yes h c7
        refine sw_tabK (tgt := 60) (off := 59) hx hb dX5_executeFirstQuarter_1 _ c7 (by decide +kernel) (by decide) ?_
        refine lv_aload_n hx hb dX5_executeFirstQuarter_60 rfl (lv_at hl 0 rfl) ?_
        refine lv_iload_n hx hb dX5_executeFirstQuarter_61 rfl (lv_at hl 1 rfl) ?_
        have hq := bd_some h; clear h; obtain ⟨s9, h8, h⟩ := hq
        refine sw_vv (rest := []) c_good X (cX5_loadByAddress_m h8) calX5_loadByAddress k_506 hP hD hS 5 5 rfl rfl rfl ⟨rfl, rfl⟩ rfl hl.1 rfl (Nat.le_of_ble_eq_true rfl) dX5_executeFirstQuarter_62 (fun H locs hP hD hS => ?_)
        refine lv_goto (tgt := 117) hx hb dX5_executeFirstQuarter_65 (by decide) ?_
        obtain rfl := Option.some.inj h
        exact sw_vret X hP hD hS dX5_executeFirstQuarter_117
      · replace h := if_no h c7
        by_cases c10 : p2 ∈ ([(3 : Int32)] : List Int32)
        · replace h := if_yes h c10
          refine sw_tabK (tgt := 68) (off := 67) hx hb dX5_executeFirstQuarter_1 _ c10 (by decide +kernel) (by decide) ?_
          refine lv_aload_n hx hb dX5_executeFirstQuarter_68 rfl (lv_at hl 0 rfl) ?_
          refine lv_iload_n hx hb dX5_executeFirstQuarter_69 rfl (lv_at hl 1 rfl) ?_
          have hq := bd_some h; clear h; obtain ⟨s12, h11, h⟩ := hq
          refine sw_vv (rest := []) c_good X (cX5_stepPair_m h11) calX5_stepPair k_528 hP hD hS 5 5 rfl rfl rfl ⟨rfl, rfl⟩ rfl hl.1 rfl (Nat.le_of_ble_eq_true rfl) dX5_executeFirstQuarter_70 (fun H locs hP hD hS => ?_)
          refine lv_goto (tgt := 117) hx hb dX5_executeFirstQuarter_73 (by decide) ?_
          obtain rfl := Option.some.inj h
          exact sw_vret X hP hD hS dX5_executeFirstQuarter_117
        · replace h := if_no h c10
          by_cases c13 : p2 ∈ ([(4 : Int32)] : List Int32)
          · replace h := if_yes h c13
            refine sw_tabK (tgt := 76) (off := 75) hx hb dX5_executeFirstQuarter_1 _ c13 (by decide +kernel) (by decide) ?_
            refine lv_aload_n hx hb dX5_executeFirstQuarter_76 rfl (lv_at hl 0 rfl) ?_
            refine lv_iload_n hx hb dX5_executeFirstQuarter_77 rfl (lv_at hl 1 rfl) ?_
            refine lv_iconst (v := (1 : Int32)) hx hb dX5_executeFirstQuarter_78 (by decide) ?_
            have hq := bd_some h; clear h; obtain ⟨s15, h14, h⟩ := hq
            refine sw_vv (rest := []) c_good X (cX5_stepOperand_m h14) calX5_stepOperand k_532 hP hD hS 5 5 rfl rfl rfl ⟨rfl, rfl⟩ rfl hl.1 rfl (Nat.le_of_ble_eq_true rfl) dX5_executeFirstQuarter_79 (fun H locs hP hD hS => ?_)
            refine lv_goto (tgt := 117) hx hb dX5_executeFirstQuarter_82 (by decide) ?_
            obtain rfl := Option.some.inj h
            exact sw_vret X hP hD hS dX5_executeFirstQuarter_117
          · replace h := if_no h c13
            by_cases c16 : p2 ∈ ([(5 : Int32)] : List Int32)
            · replace h := if_yes h c16
              refine sw_tabK (tgt := 85) (off := 84) hx hb dX5_executeFirstQuarter_1 _ c16 (by decide +kernel) (by decide) ?_
              refine lv_aload_n hx hb dX5_executeFirstQuarter_85 rfl (lv_at hl 0 rfl) ?_
              refine lv_iload_n hx hb dX5_executeFirstQuarter_86 rfl (lv_at hl 1 rfl) ?_
              refine lv_iconst (v := (0 : Int32)) hx hb dX5_executeFirstQuarter_87 (by decide) ?_
              have hq := bd_some h; clear h; obtain ⟨s18, h17, h⟩ := hq
              refine sw_vv (rest := []) c_good X (cX5_stepOperand_m h17) calX5_stepOperand k_532 hP hD hS 5 5 rfl rfl rfl ⟨rfl, rfl⟩ rfl hl.1 rfl (Nat.le_of_ble_eq_true rfl) dX5_executeFirstQuarter_88 (fun H locs hP hD hS => ?_)
              refine lv_goto (tgt := 117) hx hb dX5_executeFirstQuarter_91 (by decide) ?_
              obtain rfl := Option.some.inj h
              exact sw_vret X hP hD hS dX5_executeFirstQuarter_117
            · replace h := if_no h c16
              by_cases c19 : p2 ∈ ([(6 : Int32)] : List Int32)
              · replace h := if_yes h c19
                refine sw_tabK (tgt := 94) (off := 93) hx hb dX5_executeFirstQuarter_1 _ c19 (by decide +kernel) (by decide) ?_
                refine lv_aload_n hx hb dX5_executeFirstQuarter_94 rfl (lv_at hl 0 rfl) ?_
                refine cg_5_5 X hP k_144 dX5_executeFirstQuarter_95 ?_
                refine lv_iload_n hx hb dX5_executeFirstQuarter_98 rfl (lv_at hl 1 rfl) ?_
                refine lv_aload_n hx hb dX5_executeFirstQuarter_99 rfl (lv_at hl 0 rfl) ?_
                refine cg_5_5 X hP k_144 dX5_executeFirstQuarter_100 ?_
                have hq := bd2_some h; clear h; obtain ⟨r21, s22, h20, h⟩ := hq
                refine sw_vi (rest := [.int p1, .ref (ad 7)]) c_good X (cX3_next_m h20) calX3_next k_442 hP hD hS 7 3 rfl rfl rfl ⟨rfl, rfl⟩ rfl hl.1 rfl (Nat.le_of_ble_eq_true rfl) dX5_executeFirstQuarter_103 (fun H locs hP hD hS => ?_)
                have hq := bd_some h; clear h; obtain ⟨s24, h23, h⟩ := hq
                refine sw_vv (rest := []) c_good X (cX3_store_m h23) calX3_store k_556 hP hD hS 7 3 rfl rfl rfl ⟨rfl, rfl⟩ rfl hl.1 rfl (Nat.le_of_ble_eq_true rfl) dX5_executeFirstQuarter_106 (fun H locs hP hD hS => ?_)
                refine lv_goto (tgt := 117) hx hb dX5_executeFirstQuarter_109 (by decide) ?_
                obtain rfl := Option.some.inj h
                exact sw_vret X hP hD hS dX5_executeFirstQuarter_117
              · replace h := if_no h c19
                refine sw_tabD (tgt := 112) hx hb dX5_executeFirstQuarter_1 (([(0 : Int32)] : List Int32) ++ (([(1 : Int32)] : List Int32) ++ (([(2 : Int32)] : List Int32) ++ (([(3 : Int32)] : List Int32) ++ (([(4 : Int32)] : List Int32) ++ (([(5 : Int32)] : List Int32) ++ ([(6 : Int32)] : List Int32))))))) (fun hm => (List.mem_append.mp hm).elim c1 (fun hm => (List.mem_append.mp hm).elim c4 (fun hm => (List.mem_append.mp hm).elim c7 (fun hm => (List.mem_append.mp hm).elim c10 (fun hm => (List.mem_append.mp hm).elim c13 (fun hm => (List.mem_append.mp hm).elim c16 c19)))))) (by decide +kernel) (by decide) ?_
                refine lv_aload_n hx hb dX5_executeFirstQuarter_112 rfl (lv_at hl 0 rfl) ?_
                refine lv_iload_n hx hb dX5_executeFirstQuarter_113 rfl (lv_at hl 1 rfl) ?_
                have hq := bd_some h; clear h; obtain ⟨s26, h25, h⟩ := hq
                refine sw_vv (rest := []) c_good X (cX5_changeA_m h25) calX5_changeA k_561 hP hD hS 5 5 rfl rfl rfl ⟨rfl, rfl⟩ rfl hl.1 rfl (Nat.le_of_ble_eq_true rfl) dX5_executeFirstQuarter_114 (fun H locs hP hD hS => ?_)
                obtain rfl := Option.some.inj h
                exact sw_vret X hP hD hS dX5_executeFirstQuarter_117
theorem dX5_loadOrHalt_0 : decode cX5_loadOrHalt 0 = .ok (.iload_n 1, 1) := by decide +kernel
theorem dX5_loadOrHalt_1 : decode cX5_loadOrHalt 1 = .ok (.invokestatic 124, 3) := by decide +kernel
theorem dX5_loadOrHalt_4 : decode cX5_loadOrHalt 4 = .ok (.ifCond .eq 18, 3) := by decide +kernel
theorem dX5_loadOrHalt_7 : decode cX5_loadOrHalt 7 = .ok (.iload_n 2, 1) := by decide +kernel
theorem dX5_loadOrHalt_8 : decode cX5_loadOrHalt 8 = .ok (.invokestatic 124, 3) := by decide +kernel
theorem dX5_loadOrHalt_11 : decode cX5_loadOrHalt 11 = .ok (.ifCond .eq 11, 3) := by decide +kernel
theorem dX5_loadOrHalt_14 : decode cX5_loadOrHalt 14 = .ok (.aload_n 0, 1) := by decide +kernel
theorem dX5_loadOrHalt_15 : decode cX5_loadOrHalt 15 = .ok (.iconst 1, 1) := by decide +kernel
theorem dX5_loadOrHalt_16 : decode cX5_loadOrHalt 16 = .ok (.putfield 59, 3) := by decide +kernel
theorem dX5_loadOrHalt_19 : decode cX5_loadOrHalt 19 = .ok (.goto 19, 3) := by decide +kernel
theorem dX5_loadOrHalt_22 : decode cX5_loadOrHalt 22 = .ok (.aload_n 0, 1) := by decide +kernel
theorem dX5_loadOrHalt_23 : decode cX5_loadOrHalt 23 = .ok (.getfield 39, 3) := by decide +kernel
theorem dX5_loadOrHalt_26 : decode cX5_loadOrHalt 26 = .ok (.iload_n 1, 1) := by decide +kernel
theorem dX5_loadOrHalt_27 : decode cX5_loadOrHalt 27 = .ok (.aload_n 0, 1) := by decide +kernel
theorem dX5_loadOrHalt_28 : decode cX5_loadOrHalt 28 = .ok (.getfield 39, 3) := by decide +kernel
theorem dX5_loadOrHalt_31 : decode cX5_loadOrHalt 31 = .ok (.iload_n 2, 1) := by decide +kernel
theorem dX5_loadOrHalt_32 : decode cX5_loadOrHalt 32 = .ok (.invokevirtual 84, 3) := by decide +kernel
theorem dX5_loadOrHalt_35 : decode cX5_loadOrHalt 35 = .ok (.invokevirtual 127, 3) := by decide +kernel
theorem dX5_loadOrHalt_38 : decode cX5_loadOrHalt 38 = .ok (.return_, 1) := by decide +kernel
def fX5_loadOrHalt (p1 p2 : Int32) (s0 : zS) : Option (zS) := bd (fX3_isAtHl p1) fun r2 => if r2 = (0 : Int32) then (bd2 (fX3_value p2 s0) fun r5 s6 => bd (fX3_store p1 r5 s6) fun s8 => some s8) else (bd (fX3_isAtHl p2) fun r10 => if r10 = (0 : Int32) then (bd2 (fX3_value p2 s0) fun r13 s14 => bd (fX3_store p1 r13 s14) fun s16 => some s16) else (some (st1 s0 4 (1 : Int32))))
set_option maxHeartbeats 4000000 in
set_option maxRecDepth 100000 in
theorem cX5_loadOrHalt_m {l : Launch} {dC : Nat → ClassId} {dI : Nat → Nat → Nat} {ad : Nat → Nat} {cI : ClassId} {p1 p2 : Int32} {s0 : zS} {zs : zS} (h : fX5_loadOrHalt p1 p2 s0 = some zs) : sw_Mv l yX5_loadOrHalt (sw_ws yX5_loadOrHalt cX5_loadOrHalt 3 none) (sw_rm 3 67) (dC, dI) vwCl [(cI, .int)] cF [.ref (ad 5), .int p1, .int p2] (cW ad cI s0) (cW ad cI zs) := by
  intro sz
  refine sw_of (cc := cX5_loadOrHalt) (maxL := 3) (ret := none) (by decide) rfl (Nat.le_of_ble_eq_true rfl) ?_
  intro p e s m args below meth c A ls hAe hsz X _ hP hD hS hl
  rw [hAe]
  have hx := X.1.1
  have hb := X.1.2.1
  have hown := X.1.2.2.2.1
  have hts := X.1.2.2.2.2
  replace hl : lv_has ls 3 [(0, .ref (ad 5)), (1, .int p1), (2, .int p2)] := hl
  unfold fX5_loadOrHalt at h
  refine lv_iload_n hx hb dX5_loadOrHalt_0 rfl (lv_at hl 1 rfl) ?_
  have hq := bd_some h; clear h; obtain ⟨r2, h1, h⟩ := hq
  refine sw_si (rest := []) c_good X (cX3_isAtHl_m h1) calX3_isAtHl k_555 hP hD hS ⟨rfl, rfl⟩ rfl hl.1 rfl (Nat.le_of_ble_eq_true rfl) dX5_loadOrHalt_1 (fun H locs hP hD hS => ?_)
  refine lv_if_eq (tgt := 22) hx hb dX5_loadOrHalt_4 (by decide) (fun c3 => ?_) (fun c3 => ?_)
  · replace h := if_yes h c3
    refine lv_aload_n hx hb dX5_loadOrHalt_22 rfl (lv_at hl 0 rfl) ?_
    refine cg_5_5 X hP k_144 dX5_loadOrHalt_23 ?_
    refine lv_iload_n hx hb dX5_loadOrHalt_26 rfl (lv_at hl 1 rfl) ?_
    refine lv_aload_n hx hb dX5_loadOrHalt_27 rfl (lv_at hl 0 rfl) ?_
    refine cg_5_5 X hP k_144 dX5_loadOrHalt_28 ?_
    refine lv_iload_n hx hb dX5_loadOrHalt_31 rfl (lv_at hl 2 rfl) ?_
    have hq := bd2_some h; clear h; obtain ⟨r5, s6, h4, h⟩ := hq
    refine sw_vi (rest := [.int p1, .ref (ad 7)]) c_good X (cX3_value_m h4) calX3_value k_536 hP hD hS 7 3 rfl rfl rfl ⟨rfl, rfl⟩ rfl hl.1 rfl (Nat.le_of_ble_eq_true rfl) dX5_loadOrHalt_32 (fun H locs hP hD hS => ?_)
    have hq := bd_some h; clear h; obtain ⟨s8, h7, h⟩ := hq
    refine sw_vv (rest := []) c_good X (cX3_store_m h7) calX3_store k_556 hP hD hS 7 3 rfl rfl rfl ⟨rfl, rfl⟩ rfl hl.1 rfl (Nat.le_of_ble_eq_true rfl) dX5_loadOrHalt_35 (fun H locs hP hD hS => ?_)
    obtain rfl := Option.some.inj h
    exact sw_vret X hP hD hS dX5_loadOrHalt_38
  · replace h := if_no h c3
    refine lv_iload_n hx hb dX5_loadOrHalt_7 rfl (lv_at hl 2 rfl) ?_
    have hq := bd_some h; clear h; obtain ⟨r10, h9, h⟩ := hq
    refine sw_si (rest := []) c_good X (cX3_isAtHl_m h9) calX3_isAtHl k_555 hP hD hS ⟨rfl, rfl⟩ rfl hl.1 rfl (Nat.le_of_ble_eq_true rfl) dX5_loadOrHalt_8 (fun H locs hP hD hS => ?_)
    refine lv_if_eq (tgt := 22) hx hb dX5_loadOrHalt_11 (by decide) (fun c11 => ?_) (fun c11 => ?_)
    · replace h := if_yes h c11
      refine lv_aload_n hx hb dX5_loadOrHalt_22 rfl (lv_at hl 0 rfl) ?_
      refine cg_5_5 X hP k_144 dX5_loadOrHalt_23 ?_
      refine lv_iload_n hx hb dX5_loadOrHalt_26 rfl (lv_at hl 1 rfl) ?_
      refine lv_aload_n hx hb dX5_loadOrHalt_27 rfl (lv_at hl 0 rfl) ?_
      refine cg_5_5 X hP k_144 dX5_loadOrHalt_28 ?_
      refine lv_iload_n hx hb dX5_loadOrHalt_31 rfl (lv_at hl 2 rfl) ?_
      have hq := bd2_some h; clear h; obtain ⟨r13, s14, h12, h⟩ := hq
      refine sw_vi (rest := [.int p1, .ref (ad 7)]) c_good X (cX3_value_m h12) calX3_value k_536 hP hD hS 7 3 rfl rfl rfl ⟨rfl, rfl⟩ rfl hl.1 rfl (Nat.le_of_ble_eq_true rfl) dX5_loadOrHalt_32 (fun H locs hP hD hS => ?_)
      have hq := bd_some h; clear h; obtain ⟨s16, h15, h⟩ := hq
      refine sw_vv (rest := []) c_good X (cX3_store_m h15) calX3_store k_556 hP hD hS 7 3 rfl rfl rfl ⟨rfl, rfl⟩ rfl hl.1 rfl (Nat.le_of_ble_eq_true rfl) dX5_loadOrHalt_35 (fun H locs hP hD hS => ?_)
      obtain rfl := Option.some.inj h
      exact sw_vret X hP hD hS dX5_loadOrHalt_38
    · replace h := if_no h c11
      refine lv_aload_n hx hb dX5_loadOrHalt_14 rfl (lv_at hl 0 rfl) ?_
      refine lv_iconst (v := (1 : Int32)) hx hb dX5_loadOrHalt_15 (by decide) ?_
      refine cp_5_6 X hP hD hS k_145 (by decide) dX5_loadOrHalt_16 (fun H locs hP hD hS => ?_)
      refine lv_goto (tgt := 38) hx hb dX5_loadOrHalt_19 (by decide) ?_
      obtain rfl := Option.some.inj h
      exact sw_vret X hP hD hS dX5_loadOrHalt_38
theorem dX5_standsAlone_0 : decode cX5_standsAlone 0 = .ok (.iload_n 1, 1) := by decide +kernel
theorem dX5_standsAlone_1 : decode cX5_standsAlone 1 = .ok (.iconst 3, 1) := by decide +kernel
theorem dX5_standsAlone_2 : decode cX5_standsAlone 2 = .ok (.if_icmp .eq 19, 3) := by decide +kernel
theorem dX5_standsAlone_5 : decode cX5_standsAlone 5 = .ok (.iload_n 0, 1) := by decide +kernel
theorem dX5_standsAlone_6 : decode cX5_standsAlone 6 = .ok (.iconst 1, 1) := by decide +kernel
theorem dX5_standsAlone_7 : decode cX5_standsAlone 7 = .ok (.iand, 1) := by decide +kernel
theorem dX5_standsAlone_8 : decode cX5_standsAlone 8 = .ok (.ifCond .eq 17, 3) := by decide +kernel
theorem dX5_standsAlone_11 : decode cX5_standsAlone 11 = .ok (.iload_n 1, 1) := by decide +kernel
theorem dX5_standsAlone_12 : decode cX5_standsAlone 12 = .ok (.iconst 1, 1) := by decide +kernel
theorem dX5_standsAlone_13 : decode cX5_standsAlone 13 = .ok (.if_icmp .eq 8, 3) := by decide +kernel
theorem dX5_standsAlone_16 : decode cX5_standsAlone 16 = .ok (.iload_n 1, 1) := by decide +kernel
theorem dX5_standsAlone_17 : decode cX5_standsAlone 17 = .ok (.iconst 5, 1) := by decide +kernel
theorem dX5_standsAlone_18 : decode cX5_standsAlone 18 = .ok (.if_icmp .ne 7, 3) := by decide +kernel
theorem dX5_standsAlone_21 : decode cX5_standsAlone 21 = .ok (.iconst 1, 1) := by decide +kernel
theorem dX5_standsAlone_22 : decode cX5_standsAlone 22 = .ok (.goto 4, 3) := by decide +kernel
theorem dX5_standsAlone_25 : decode cX5_standsAlone 25 = .ok (.iconst 0, 1) := by decide +kernel
theorem dX5_standsAlone_26 : decode cX5_standsAlone 26 = .ok (.ireturn, 1) := by decide +kernel
def fX5_standsAlone (p1 p2 : Int32) : Option (Int32) := if p2 = (3 : Int32) then (some (1 : Int32)) else (if (p1 &&& (1 : Int32)) = (0 : Int32) then (some (0 : Int32)) else (if p2 = (1 : Int32) then (some (1 : Int32)) else (if p2 = (5 : Int32) then (some (1 : Int32)) else (some (0 : Int32)))))
set_option maxHeartbeats 4000000 in
set_option maxRecDepth 100000 in
theorem cX5_standsAlone_m {l : Launch} {dC : Nat → ClassId} {dI : Nat → Nat → Nat} {cI : ClassId} {w : va_W} {p1 p2 : Int32} {zr : Int32} (h : fX5_standsAlone p1 p2 = some zr) : sw_Mi l yX5_standsAlone (sw_ws yX5_standsAlone cX5_standsAlone 2 (some .boolean)) (sw_rm 0 0) (dC, dI) vwCl [(cI, .int)] cF [.int p1, .int p2] w w zr := by
  intro sz
  refine sw_of (cc := cX5_standsAlone) (maxL := 2) (ret := (some .boolean)) (by decide) rfl (Nat.le_of_ble_eq_true rfl) ?_
  intro p e s m args below meth c A ls hAe hsz X _ hP hD hS hl
  rw [hAe]
  have hx := X.1.1
  have hb := X.1.2.1
  have hown := X.1.2.2.2.1
  have hts := X.1.2.2.2.2
  replace hl : lv_has ls 2 [(0, .int p1), (1, .int p2)] := hl
  unfold fX5_standsAlone at h
  refine lv_iload_n hx hb dX5_standsAlone_0 rfl (lv_at hl 1 rfl) ?_
  refine lv_iconst (v := (3 : Int32)) hx hb dX5_standsAlone_1 (by decide) ?_
  refine lv_icmp_eq (tgt := 21) hx hb dX5_standsAlone_2 (by decide) (fun c1 => ?_) (fun c1 => ?_)
  · replace h := if_yes h c1
    refine lv_iconst (v := (1 : Int32)) hx hb dX5_standsAlone_21 (by decide) ?_
    refine lv_goto (tgt := 26) hx hb dX5_standsAlone_22 (by decide) ?_
    obtain rfl := Option.some.inj h
    exact sw_bret X (bz_n (by decide)) hP hD hS dX5_standsAlone_26
  · replace h := if_no h c1
    refine lv_iload_n hx hb dX5_standsAlone_5 rfl (lv_at hl 0 rfl) ?_
    refine lv_iconst (v := (1 : Int32)) hx hb dX5_standsAlone_6 (by decide) ?_
    refine lv_iand hx hb dX5_standsAlone_7 ?_
    refine lv_if_eq (tgt := 25) hx hb dX5_standsAlone_8 (by decide) (fun c2 => ?_) (fun c2 => ?_)
    · replace h := if_yes h c2
      refine lv_iconst (v := (0 : Int32)) hx hb dX5_standsAlone_25 (by decide) ?_
      obtain rfl := Option.some.inj h
      exact sw_bret X (bz_n (by decide)) hP hD hS dX5_standsAlone_26
    · replace h := if_no h c2
      refine lv_iload_n hx hb dX5_standsAlone_11 rfl (lv_at hl 1 rfl) ?_
      refine lv_iconst (v := (1 : Int32)) hx hb dX5_standsAlone_12 (by decide) ?_
      refine lv_icmp_eq (tgt := 21) hx hb dX5_standsAlone_13 (by decide) (fun c3 => ?_) (fun c3 => ?_)
      · replace h := if_yes h c3
        refine lv_iconst (v := (1 : Int32)) hx hb dX5_standsAlone_21 (by decide) ?_
        refine lv_goto (tgt := 26) hx hb dX5_standsAlone_22 (by decide) ?_
        obtain rfl := Option.some.inj h
        exact sw_bret X (bz_n (by decide)) hP hD hS dX5_standsAlone_26
      · replace h := if_no h c3
        refine lv_iload_n hx hb dX5_standsAlone_16 rfl (lv_at hl 1 rfl) ?_
        refine lv_iconst (v := (5 : Int32)) hx hb dX5_standsAlone_17 (by decide) ?_
        refine lv_icmp_ne (tgt := 25) hx hb dX5_standsAlone_18 (by decide) (fun c4 => ?_) (fun c4 => ?_)
        · replace h := if_no h c4
          refine lv_iconst (v := (0 : Int32)) hx hb dX5_standsAlone_25 (by decide) ?_
          obtain rfl := Option.some.inj h
          exact sw_bret X (bz_n (by decide)) hP hD hS dX5_standsAlone_26
        · replace h := if_yes h c4
          refine lv_iconst (v := (1 : Int32)) hx hb dX5_standsAlone_21 (by decide) ?_
          refine lv_goto (tgt := 26) hx hb dX5_standsAlone_22 (by decide) ?_
          obtain rfl := Option.some.inj h
          exact sw_bret X (bz_n (by decide)) hP hD hS dX5_standsAlone_26
theorem dX5_jumpTo_0 : decode cX5_jumpTo 0 = .ok (.iload_n 2, 1) := by decide +kernel
theorem dX5_jumpTo_1 : decode cX5_jumpTo 1 = .ok (.ifCond .eq 13, 3) := by decide +kernel
theorem dX5_jumpTo_4 : decode cX5_jumpTo 4 = .ok (.aload_n 0, 1) := by decide +kernel
theorem dX5_jumpTo_5 : decode cX5_jumpTo 5 = .ok (.getfield 21, 3) := by decide +kernel
theorem dX5_jumpTo_8 : decode cX5_jumpTo 8 = .ok (.bipush 9, 2) := by decide +kernel
theorem dX5_jumpTo_10 : decode cX5_jumpTo 10 = .ok (.iload_n 1, 1) := by decide +kernel
theorem dX5_jumpTo_11 : decode cX5_jumpTo 11 = .ok (.invokevirtual 112, 3) := by decide +kernel
theorem dX5_jumpTo_14 : decode cX5_jumpTo 14 = .ok (.return_, 1) := by decide +kernel
def fX5_jumpTo (p1 p2 : Int32) (s0 : zS) : Option (zS) := if p2 = (0 : Int32) then (some s0) else (bd (fX6_load (9 : Int32) p1 s0) fun s3 => some s3)
set_option maxHeartbeats 4000000 in
set_option maxRecDepth 100000 in
theorem cX5_jumpTo_m {l : Launch} {dC : Nat → ClassId} {dI : Nat → Nat → Nat} {ad : Nat → Nat} {cI : ClassId} {p1 p2 : Int32} {s0 : zS} {zs : zS} (h : fX5_jumpTo p1 p2 s0 = some zs) : sw_Mv l yX5_jumpTo (sw_ws yX5_jumpTo cX5_jumpTo 3 none) (sw_rm 1 23) (dC, dI) vwCl [(cI, .int)] cF [.ref (ad 5), .int p1, .int p2] (cW ad cI s0) (cW ad cI zs) := by
  intro sz
  refine sw_of (cc := cX5_jumpTo) (maxL := 3) (ret := none) (by decide) rfl (Nat.le_of_ble_eq_true rfl) ?_
  intro p e s m args below meth c A ls hAe hsz X _ hP hD hS hl
  rw [hAe]
  have hx := X.1.1
  have hb := X.1.2.1
  have hown := X.1.2.2.2.1
  have hts := X.1.2.2.2.2
  replace hl : lv_has ls 3 [(0, .ref (ad 5)), (1, .int p1), (2, .int p2)] := hl
  unfold fX5_jumpTo at h
  refine lv_iload_n hx hb dX5_jumpTo_0 rfl (lv_at hl 2 rfl) ?_
  refine lv_if_eq (tgt := 14) hx hb dX5_jumpTo_1 (by decide) (fun c1 => ?_) (fun c1 => ?_)
  · replace h := if_yes h c1
    obtain rfl := Option.some.inj h
    exact sw_vret X hP hD hS dX5_jumpTo_14
  · replace h := if_no h c1
    refine lv_aload_n hx hb dX5_jumpTo_4 rfl (lv_at hl 0 rfl) ?_
    refine cg_5_3 X hP k_142 dX5_jumpTo_5 ?_
    refine lv_bipush (v := (9 : Int32)) hx hb dX5_jumpTo_8 (by decide) ?_
    refine lv_iload_n hx hb dX5_jumpTo_10 rfl (lv_at hl 1 rfl) ?_
    have hq := bd_some h; clear h; obtain ⟨s3, h2, h⟩ := hq
    refine sw_vv (rest := []) c_good X (cX6_load_m h2) calX6_load k_412 hP hD hS 4 6 rfl rfl rfl ⟨rfl, rfl⟩ rfl hl.1 rfl (Nat.le_of_ble_eq_true rfl) dX5_jumpTo_11 (fun H locs hP hD hS => ?_)
    obtain rfl := Option.some.inj h
    exact sw_vret X hP hD hS dX5_jumpTo_14
