theorem dX5_executeBits_0 : decode cX5_executeBits 0 = .ok (.iload_n 1, 1) := by decide +kernel
theorem dX5_executeBits_1 : decode cX5_executeBits 1 = .ok (.bipush 7, 2) := by decide +kernel
theorem dX5_executeBits_3 : decode cX5_executeBits 3 = .ok (.iand, 1) := by decide +kernel
theorem dX5_executeBits_4 : decode cX5_executeBits 4 = .ok (.istore_n 2, 1) := by decide +kernel
theorem dX5_executeBits_5 : decode cX5_executeBits 5 = .ok (.iload_n 1, 1) := by decide +kernel
theorem dX5_executeBits_6 : decode cX5_executeBits 6 = .ok (.iconst 3, 1) := by decide +kernel
theorem dX5_executeBits_7 : decode cX5_executeBits 7 = .ok (.ishr, 1) := by decide +kernel
theorem dX5_executeBits_8 : decode cX5_executeBits 8 = .ok (.bipush 7, 2) := by decide +kernel
theorem dX5_executeBits_10 : decode cX5_executeBits 10 = .ok (.iand, 1) := by decide +kernel
theorem dX5_executeBits_11 : decode cX5_executeBits 11 = .ok (.istore_n 3, 1) := by decide +kernel
theorem dX5_executeBits_12 : decode cX5_executeBits 12 = .ok (.aload_n 0, 1) := by decide +kernel
theorem dX5_executeBits_13 : decode cX5_executeBits 13 = .ok (.getfield 39, 3) := by decide +kernel
theorem dX5_executeBits_16 : decode cX5_executeBits 16 = .ok (.iload_n 2, 1) := by decide +kernel
theorem dX5_executeBits_17 : decode cX5_executeBits 17 = .ok (.invokevirtual 84, 3) := by decide +kernel
theorem dX5_executeBits_20 : decode cX5_executeBits 20 = .ok (.istore 4, 2) := by decide +kernel
theorem dX5_executeBits_22 : decode cX5_executeBits 22 = .ok (.iload_n 2, 1) := by decide +kernel
theorem dX5_executeBits_23 : decode cX5_executeBits 23 = .ok (.invokestatic 124, 3) := by decide +kernel
theorem dX5_executeBits_26 : decode cX5_executeBits 26 = .ok (.ifCond .eq 11, 3) := by decide +kernel
theorem dX5_executeBits_29 : decode cX5_executeBits 29 = .ok (.aload_n 0, 1) := by decide +kernel
theorem dX5_executeBits_30 : decode cX5_executeBits 30 = .ok (.getfield 7, 3) := by decide +kernel
theorem dX5_executeBits_33 : decode cX5_executeBits 33 = .ok (.iconst 1, 1) := by decide +kernel
theorem dX5_executeBits_34 : decode cX5_executeBits 34 = .ok (.invokevirtual 69, 3) := by decide +kernel
theorem dX5_executeBits_37 : decode cX5_executeBits 37 = .ok (.iload_n 1, 1) := by decide +kernel
theorem dX5_executeBits_38 : decode cX5_executeBits 38 = .ok (.bipush 6, 2) := by decide +kernel
theorem dX5_executeBits_40 : decode cX5_executeBits 40 = .ok (.ishr, 1) := by decide +kernel
theorem dX5_executeBits_41 : decode cX5_executeBits 41 = .ok (.tableswitch 80 0 2 #[27, 48, 61], 27) := by decide +kernel
theorem dX5_executeBits_68 : decode cX5_executeBits 68 = .ok (.aload_n 0, 1) := by decide +kernel
theorem dX5_executeBits_69 : decode cX5_executeBits 69 = .ok (.getfield 39, 3) := by decide +kernel
theorem dX5_executeBits_72 : decode cX5_executeBits 72 = .ok (.iload_n 2, 1) := by decide +kernel
theorem dX5_executeBits_73 : decode cX5_executeBits 73 = .ok (.aload_n 0, 1) := by decide +kernel
theorem dX5_executeBits_74 : decode cX5_executeBits 74 = .ok (.getfield 30, 3) := by decide +kernel
theorem dX5_executeBits_77 : decode cX5_executeBits 77 = .ok (.iload_n 3, 1) := by decide +kernel
theorem dX5_executeBits_78 : decode cX5_executeBits 78 = .ok (.iload 4, 2) := by decide +kernel
theorem dX5_executeBits_80 : decode cX5_executeBits 80 = .ok (.invokevirtual 270, 3) := by decide +kernel
theorem dX5_executeBits_83 : decode cX5_executeBits 83 = .ok (.invokevirtual 127, 3) := by decide +kernel
theorem dX5_executeBits_86 : decode cX5_executeBits 86 = .ok (.goto 49, 3) := by decide +kernel
theorem dX5_executeBits_89 : decode cX5_executeBits 89 = .ok (.aload_n 0, 1) := by decide +kernel
theorem dX5_executeBits_90 : decode cX5_executeBits 90 = .ok (.getfield 30, 3) := by decide +kernel
theorem dX5_executeBits_93 : decode cX5_executeBits 93 = .ok (.iload_n 3, 1) := by decide +kernel
theorem dX5_executeBits_94 : decode cX5_executeBits 94 = .ok (.iload 4, 2) := by decide +kernel
theorem dX5_executeBits_96 : decode cX5_executeBits 96 = .ok (.invokevirtual 273, 3) := by decide +kernel
theorem dX5_executeBits_99 : decode cX5_executeBits 99 = .ok (.goto 36, 3) := by decide +kernel
theorem dX5_executeBits_102 : decode cX5_executeBits 102 = .ok (.aload_n 0, 1) := by decide +kernel
theorem dX5_executeBits_103 : decode cX5_executeBits 103 = .ok (.getfield 39, 3) := by decide +kernel
theorem dX5_executeBits_106 : decode cX5_executeBits 106 = .ok (.iload_n 2, 1) := by decide +kernel
theorem dX5_executeBits_107 : decode cX5_executeBits 107 = .ok (.iload 4, 2) := by decide +kernel
theorem dX5_executeBits_109 : decode cX5_executeBits 109 = .ok (.iconst 1, 1) := by decide +kernel
theorem dX5_executeBits_110 : decode cX5_executeBits 110 = .ok (.iload_n 3, 1) := by decide +kernel
theorem dX5_executeBits_111 : decode cX5_executeBits 111 = .ok (.ishl, 1) := by decide +kernel
theorem dX5_executeBits_112 : decode cX5_executeBits 112 = .ok (.iconst (-1), 1) := by decide +kernel
theorem dX5_executeBits_113 : decode cX5_executeBits 113 = .ok (.ixor, 1) := by decide +kernel
theorem dX5_executeBits_114 : decode cX5_executeBits 114 = .ok (.iand, 1) := by decide +kernel
theorem dX5_executeBits_115 : decode cX5_executeBits 115 = .ok (.invokevirtual 127, 3) := by decide +kernel
theorem dX5_executeBits_118 : decode cX5_executeBits 118 = .ok (.goto 17, 3) := by decide +kernel
theorem dX5_executeBits_121 : decode cX5_executeBits 121 = .ok (.aload_n 0, 1) := by decide +kernel
theorem dX5_executeBits_122 : decode cX5_executeBits 122 = .ok (.getfield 39, 3) := by decide +kernel
theorem dX5_executeBits_125 : decode cX5_executeBits 125 = .ok (.iload_n 2, 1) := by decide +kernel
theorem dX5_executeBits_126 : decode cX5_executeBits 126 = .ok (.iload 4, 2) := by decide +kernel
theorem dX5_executeBits_128 : decode cX5_executeBits 128 = .ok (.iconst 1, 1) := by decide +kernel
theorem dX5_executeBits_129 : decode cX5_executeBits 129 = .ok (.iload_n 3, 1) := by decide +kernel
theorem dX5_executeBits_130 : decode cX5_executeBits 130 = .ok (.ishl, 1) := by decide +kernel
theorem dX5_executeBits_131 : decode cX5_executeBits 131 = .ok (.ior, 1) := by decide +kernel
theorem dX5_executeBits_132 : decode cX5_executeBits 132 = .ok (.invokevirtual 127, 3) := by decide +kernel
theorem dX5_executeBits_135 : decode cX5_executeBits 135 = .ok (.return_, 1) := by decide +kernel
def fX5_executeBits (p1 : Int32) (s0 : zS) : Option (zS) := nm (p1 &&& (7 : Int32)) fun x1 => nm ((p1 >>> ((3 : Int32) &&& 31)) &&& (7 : Int32)) fun x2 => bd2 (fX3_value x1 s0) fun r4 s5 => bd (fX3_isAtHl x1) fun r7 => if r7 = (0 : Int32) then (if (p1 >>> ((6 : Int32) &&& 31)) ∈ ([(0 : Int32)] : List Int32) then (bd2 (fX0_shifted x2 r4 s5) fun r11 s12 => bd (fX3_store x1 r11 s12) fun s14 => some s14) else if (p1 >>> ((6 : Int32) &&& 31)) ∈ ([(1 : Int32)] : List Int32) then (bd (fX0_testBit x2 r4 s5) fun s17 => some s17) else if (p1 >>> ((6 : Int32) &&& 31)) ∈ ([(2 : Int32)] : List Int32) then (bd (fX3_store x1 (r4 &&& (((1 : Int32) <<< (x2 &&& 31)) ^^^ (-1 : Int32))) s5) fun s20 => some s20) else (bd (fX3_store x1 (r4 ||| ((1 : Int32) <<< (x2 &&& 31))) s5) fun s22 => some s22)) else (bd (fX1_pass (1 : Int32) s5) fun s24 => if (p1 >>> ((6 : Int32) &&& 31)) ∈ ([(0 : Int32)] : List Int32) then (bd2 (fX0_shifted x2 r4 s24) fun r27 s28 => bd (fX3_store x1 r27 s28) fun s30 => some s30) else if (p1 >>> ((6 : Int32) &&& 31)) ∈ ([(1 : Int32)] : List Int32) then (bd (fX0_testBit x2 r4 s24) fun s33 => some s33) else if (p1 >>> ((6 : Int32) &&& 31)) ∈ ([(2 : Int32)] : List Int32) then (bd (fX3_store x1 (r4 &&& (((1 : Int32) <<< (x2 &&& 31)) ^^^ (-1 : Int32))) s24) fun s36 => some s36) else (bd (fX3_store x1 (r4 ||| ((1 : Int32) <<< (x2 &&& 31))) s24) fun s38 => some s38))
set_option maxHeartbeats 4000000 in
set_option maxRecDepth 100000 in
theorem cX5_executeBits_m {l : Launch} {dC : Nat → ClassId} {dI : Nat → Nat → Nat} {ad : Nat → Nat} {cI : ClassId} {p1 : Int32} {s0 : zS} {zs : zS} (h : fX5_executeBits p1 s0 = some zs) : sw_Mv l yX5_executeBits (sw_ws yX5_executeBits cX5_executeBits 5 none) (sw_rm 3 67) (dC, dI) vwCl [(cI, .int)] cF [.ref (ad 5), .int p1] (cW ad cI s0) (cW ad cI zs) := by
  intro sz
  refine sw_of (cc := cX5_executeBits) (maxL := 5) (ret := none) (by decide) rfl (Nat.le_of_ble_eq_true rfl) ?_
  intro p e s m args below meth c A ls hAe hsz X _ hP hD hS hl
  rw [hAe]
  have hx := X.1.1
  have hb := X.1.2.1
  have hown := X.1.2.2.2.1
  have hts := X.1.2.2.2.2
  replace hl : lv_has ls 5 [(0, .ref (ad 5)), (1, .int p1)] := hl
  unfold fX5_executeBits at h
  refine lv_iload_n hx hb dX5_executeBits_0 rfl (lv_at hl 1 rfl) ?_
  refine lv_bipush (v := (7 : Int32)) hx hb dX5_executeBits_1 (by decide) ?_
  refine lv_iand hx hb dX5_executeBits_3 ?_
  refine lv_topi (fun x1 ex1 => ?_)
  replace h := nm_use ex1 h
  refine lv_istore_n (lv' := [(2, .int x1), (0, .ref (ad 5)), (1, .int p1)]) hx hb dX5_executeBits_4 rfl hl (by decide) rfl (fun ls hl => ?_)
  refine lv_iload_n hx hb dX5_executeBits_5 rfl (lv_at hl 2 rfl) ?_
  refine lv_iconst (v := (3 : Int32)) hx hb dX5_executeBits_6 (by decide) ?_
  refine lv_ishr hx hb dX5_executeBits_7 ?_
  refine lv_bipush (v := (7 : Int32)) hx hb dX5_executeBits_8 (by decide) ?_
  refine lv_iand hx hb dX5_executeBits_10 ?_
  refine lv_topi (fun x2 ex2 => ?_)
  replace h := nm_use ex2 h
  refine lv_istore_n (lv' := [(3, .int x2), (2, .int x1), (0, .ref (ad 5)), (1, .int p1)]) hx hb dX5_executeBits_11 rfl hl (by decide) rfl (fun ls hl => ?_)
  refine lv_aload_n hx hb dX5_executeBits_12 rfl (lv_at hl 2 rfl) ?_
  refine cg_5_5 X hP k_144 dX5_executeBits_13 ?_
  refine lv_iload_n hx hb dX5_executeBits_16 rfl (lv_at hl 1 rfl) ?_
  have hq := bd2_some h; clear h; obtain ⟨r4, s5, h3, h⟩ := hq
  refine sw_vi (rest := []) c_good X (cX3_value_m h3) calX3_value k_536 hP hD hS 7 3 rfl rfl rfl ⟨rfl, rfl⟩ rfl hl.1 rfl (Nat.le_of_ble_eq_true rfl) dX5_executeBits_17 (fun H locs hP hD hS => ?_)
  refine lv_istore (lv' := [(4, .int r4), (3, .int x2), (2, .int x1), (0, .ref (ad 5)), (1, .int p1)]) hx hb dX5_executeBits_20 hl (by decide) rfl (fun ls hl => ?_)
  refine lv_iload_n hx hb dX5_executeBits_22 rfl (lv_at hl 2 rfl) ?_
  have hq := bd_some h; clear h; obtain ⟨r7, h6, h⟩ := hq
  refine sw_si (rest := []) c_good X (cX3_isAtHl_m h6) calX3_isAtHl k_555 hP hD hS ⟨rfl, rfl⟩ rfl hl.1 rfl (Nat.le_of_ble_eq_true rfl) dX5_executeBits_23 (fun H locs hP hD hS => ?_)
  refine lv_if_eq (tgt := 37) hx hb dX5_executeBits_26 (by decide) (fun c8 => ?_) (fun c8 => ?_)
  · replace h := if_yes h c8
    refine lv_iload_n hx hb dX5_executeBits_37 rfl (lv_at hl 4 rfl) ?_
    refine lv_bipush (v := (6 : Int32)) hx hb dX5_executeBits_38 (by decide) ?_
    refine lv_ishr hx hb dX5_executeBits_40 ?_
    by_cases c9 : (p1 >>> ((6 : Int32) &&& 31)) ∈ ([(0 : Int32)] : List Int32)
    · replace h := if_yes h c9
      refine sw_tabK (tgt := 68) (off := 27) hx hb dX5_executeBits_41 _ c9 (by decide +kernel) (by decide) ?_
      refine lv_aload_n hx hb dX5_executeBits_68 rfl (lv_at hl 3 rfl) ?_
      refine cg_5_5 X hP k_144 dX5_executeBits_69 ?_
      refine lv_iload_n hx hb dX5_executeBits_72 rfl (lv_at hl 2 rfl) ?_
      refine lv_aload_n hx hb dX5_executeBits_73 rfl (lv_at hl 3 rfl) ?_
      refine cg_5_4 X hP k_143 dX5_executeBits_74 ?_
      refine lv_iload_n hx hb dX5_executeBits_77 rfl (lv_at hl 1 rfl) ?_
      refine lv_iload hx hb dX5_executeBits_78 (lv_at hl 0 rfl) ?_
      have hq := bd2_some h; clear h; obtain ⟨r11, s12, h10, h⟩ := hq
      refine sw_vi (rest := [.int x1, .ref (ad 7)]) c_good X (cX0_shifted_m h10) calX0_shifted k_641 hP hD hS 6 0 rfl rfl rfl ⟨rfl, rfl⟩ rfl hl.1 rfl (Nat.le_of_ble_eq_true rfl) dX5_executeBits_80 (fun H locs hP hD hS => ?_)
      have hq := bd_some h; clear h; obtain ⟨s14, h13, h⟩ := hq
      refine sw_vv (rest := []) c_good X (cX3_store_m h13) calX3_store k_556 hP hD hS 7 3 rfl rfl rfl ⟨rfl, rfl⟩ rfl hl.1 rfl (Nat.le_of_ble_eq_true rfl) dX5_executeBits_83 (fun H locs hP hD hS => ?_)
      refine lv_goto (tgt := 135) hx hb dX5_executeBits_86 (by decide) ?_
      obtain rfl := Option.some.inj h
      exact sw_vret X hP hD hS dX5_executeBits_135
    · replace h := if_no h c9
      by_cases c15 : (p1 >>> ((6 : Int32) &&& 31)) ∈ ([(1 : Int32)] : List Int32)
      · replace h := if_yes h c15
        refine sw_tabK (tgt := 89) (off := 48) hx hb dX5_executeBits_41 _ c15 (by decide +kernel) (by decide) ?_
        refine lv_aload_n hx hb dX5_executeBits_89 rfl (lv_at hl 3 rfl) ?_
        refine cg_5_4 X hP k_143 dX5_executeBits_90 ?_
        refine lv_iload_n hx hb dX5_executeBits_93 rfl (lv_at hl 1 rfl) ?_
        refine lv_iload hx hb dX5_executeBits_94 (lv_at hl 0 rfl) ?_
        have hq := bd_some h; clear h; obtain ⟨s17, h16, h⟩ := hq
        refine sw_vv (rest := []) c_good X (cX0_testBit_m h16) calX0_testBit k_645 hP hD hS 6 0 rfl rfl rfl ⟨rfl, rfl⟩ rfl hl.1 rfl (Nat.le_of_ble_eq_true rfl) dX5_executeBits_96 (fun H locs hP hD hS => ?_)
        refine lv_goto (tgt := 135) hx hb dX5_executeBits_99 (by decide) ?_
        obtain rfl := Option.some.inj h
        exact sw_vret X hP hD hS dX5_executeBits_135
      · replace h := if_no h c15
        by_cases c18 : (p1 >>> ((6 : Int32) &&& 31)) ∈ ([(2 : Int32)] : List Int32)
        · replace h := if_yes h c18
          refine sw_tabK (tgt := 102) (off := 61) hx hb dX5_executeBits_41 _ c18 (by decide +kernel) (by decide) ?_
          refine lv_aload_n hx hb dX5_executeBits_102 rfl (lv_at hl 3 rfl) ?_
          refine cg_5_5 X hP k_144 dX5_executeBits_103 ?_
          refine lv_iload_n hx hb dX5_executeBits_106 rfl (lv_at hl 2 rfl) ?_
          refine lv_iload hx hb dX5_executeBits_107 (lv_at hl 0 rfl) ?_
          refine lv_iconst (v := (1 : Int32)) hx hb dX5_executeBits_109 (by decide) ?_
          refine lv_iload_n hx hb dX5_executeBits_110 rfl (lv_at hl 1 rfl) ?_
          refine lv_ishl hx hb dX5_executeBits_111 ?_
          refine lv_iconst (v := (-1 : Int32)) hx hb dX5_executeBits_112 (by decide) ?_
          refine lv_ixor hx hb dX5_executeBits_113 ?_
          refine lv_iand hx hb dX5_executeBits_114 ?_
          have hq := bd_some h; clear h; obtain ⟨s20, h19, h⟩ := hq
          refine sw_vv (rest := []) c_good X (cX3_store_m h19) calX3_store k_556 hP hD hS 7 3 rfl rfl rfl ⟨rfl, rfl⟩ rfl hl.1 rfl (Nat.le_of_ble_eq_true rfl) dX5_executeBits_115 (fun H locs hP hD hS => ?_)
          refine lv_goto (tgt := 135) hx hb dX5_executeBits_118 (by decide) ?_
          obtain rfl := Option.some.inj h
          exact sw_vret X hP hD hS dX5_executeBits_135
        · replace h := if_no h c18
          refine sw_tabD (tgt := 121) hx hb dX5_executeBits_41 (([(0 : Int32)] : List Int32) ++ (([(1 : Int32)] : List Int32) ++ ([(2 : Int32)] : List Int32))) (fun hm => (List.mem_append.mp hm).elim c9 (fun hm => (List.mem_append.mp hm).elim c15 c18)) (by decide +kernel) (by decide) ?_
          refine lv_aload_n hx hb dX5_executeBits_121 rfl (lv_at hl 3 rfl) ?_
          refine cg_5_5 X hP k_144 dX5_executeBits_122 ?_
          refine lv_iload_n hx hb dX5_executeBits_125 rfl (lv_at hl 2 rfl) ?_
          refine lv_iload hx hb dX5_executeBits_126 (lv_at hl 0 rfl) ?_
          refine lv_iconst (v := (1 : Int32)) hx hb dX5_executeBits_128 (by decide) ?_
          refine lv_iload_n hx hb dX5_executeBits_129 rfl (lv_at hl 1 rfl) ?_
          refine lv_ishl hx hb dX5_executeBits_130 ?_
          refine lv_ior hx hb dX5_executeBits_131 ?_
          have hq := bd_some h; clear h; obtain ⟨s22, h21, h⟩ := hq
          refine sw_vv (rest := []) c_good X (cX3_store_m h21) calX3_store k_556 hP hD hS 7 3 rfl rfl rfl ⟨rfl, rfl⟩ rfl hl.1 rfl (Nat.le_of_ble_eq_true rfl) dX5_executeBits_132 (fun H locs hP hD hS => ?_)
          obtain rfl := Option.some.inj h
          exact sw_vret X hP hD hS dX5_executeBits_135
  · replace h := if_no h c8
    refine lv_aload_n hx hb dX5_executeBits_29 rfl (lv_at hl 3 rfl) ?_
    refine cg_5_0 X hP k_139 dX5_executeBits_30 ?_
    refine lv_iconst (v := (1 : Int32)) hx hb dX5_executeBits_33 (by decide) ?_
    have hq := bd_some h; clear h; obtain ⟨s24, h23, h⟩ := hq
    refine sw_vv (rest := []) c_good X (cX1_pass_m h23) calX1_pass k_381 hP hD hS 1 1 rfl rfl rfl ⟨rfl, rfl⟩ rfl hl.1 rfl (Nat.le_of_ble_eq_true rfl) dX5_executeBits_34 (fun H locs hP hD hS => ?_)
    refine lv_iload_n hx hb dX5_executeBits_37 rfl (lv_at hl 4 rfl) ?_
    refine lv_bipush (v := (6 : Int32)) hx hb dX5_executeBits_38 (by decide) ?_
    refine lv_ishr hx hb dX5_executeBits_40 ?_
    by_cases c25 : (p1 >>> ((6 : Int32) &&& 31)) ∈ ([(0 : Int32)] : List Int32)
    · replace h := if_yes h c25
      refine sw_tabK (tgt := 68) (off := 27) hx hb dX5_executeBits_41 _ c25 (by decide +kernel) (by decide) ?_
      refine lv_aload_n hx hb dX5_executeBits_68 rfl (lv_at hl 3 rfl) ?_
      refine cg_5_5 X hP k_144 dX5_executeBits_69 ?_
      refine lv_iload_n hx hb dX5_executeBits_72 rfl (lv_at hl 2 rfl) ?_
      refine lv_aload_n hx hb dX5_executeBits_73 rfl (lv_at hl 3 rfl) ?_
      refine cg_5_4 X hP k_143 dX5_executeBits_74 ?_
      refine lv_iload_n hx hb dX5_executeBits_77 rfl (lv_at hl 1 rfl) ?_
      refine lv_iload hx hb dX5_executeBits_78 (lv_at hl 0 rfl) ?_
      have hq := bd2_some h; clear h; obtain ⟨r27, s28, h26, h⟩ := hq
      refine sw_vi (rest := [.int x1, .ref (ad 7)]) c_good X (cX0_shifted_m h26) calX0_shifted k_641 hP hD hS 6 0 rfl rfl rfl ⟨rfl, rfl⟩ rfl hl.1 rfl (Nat.le_of_ble_eq_true rfl) dX5_executeBits_80 (fun H locs hP hD hS => ?_)
      have hq := bd_some h; clear h; obtain ⟨s30, h29, h⟩ := hq
      refine sw_vv (rest := []) c_good X (cX3_store_m h29) calX3_store k_556 hP hD hS 7 3 rfl rfl rfl ⟨rfl, rfl⟩ rfl hl.1 rfl (Nat.le_of_ble_eq_true rfl) dX5_executeBits_83 (fun H locs hP hD hS => ?_)
      refine lv_goto (tgt := 135) hx hb dX5_executeBits_86 (by decide) ?_
      obtain rfl := Option.some.inj h
      exact sw_vret X hP hD hS dX5_executeBits_135
    · replace h := if_no h c25
      by_cases c31 : (p1 >>> ((6 : Int32) &&& 31)) ∈ ([(1 : Int32)] : List Int32)
      · replace h := if_yes h c31
        refine sw_tabK (tgt := 89) (off := 48) hx hb dX5_executeBits_41 _ c31 (by decide +kernel) (by decide) ?_
        refine lv_aload_n hx hb dX5_executeBits_89 rfl (lv_at hl 3 rfl) ?_
        refine cg_5_4 X hP k_143 dX5_executeBits_90 ?_
        refine lv_iload_n hx hb dX5_executeBits_93 rfl (lv_at hl 1 rfl) ?_
        refine lv_iload hx hb dX5_executeBits_94 (lv_at hl 0 rfl) ?_
        have hq := bd_some h; clear h; obtain ⟨s33, h32, h⟩ := hq
        refine sw_vv (rest := []) c_good X (cX0_testBit_m h32) calX0_testBit k_645 hP hD hS 6 0 rfl rfl rfl ⟨rfl, rfl⟩ rfl hl.1 rfl (Nat.le_of_ble_eq_true rfl) dX5_executeBits_96 (fun H locs hP hD hS => ?_)
        refine lv_goto (tgt := 135) hx hb dX5_executeBits_99 (by decide) ?_
        obtain rfl := Option.some.inj h
        exact sw_vret X hP hD hS dX5_executeBits_135
      · replace h := if_no h c31
        by_cases c34 : (p1 >>> ((6 : Int32) &&& 31)) ∈ ([(2 : Int32)] : List Int32)
        · replace h := if_yes h c34
          refine sw_tabK (tgt := 102) (off := 61) hx hb dX5_executeBits_41 _ c34 (by decide +kernel) (by decide) ?_
          refine lv_aload_n hx hb dX5_executeBits_102 rfl (lv_at hl 3 rfl) ?_
          refine cg_5_5 X hP k_144 dX5_executeBits_103 ?_
          refine lv_iload_n hx hb dX5_executeBits_106 rfl (lv_at hl 2 rfl) ?_
          refine lv_iload hx hb dX5_executeBits_107 (lv_at hl 0 rfl) ?_
          refine lv_iconst (v := (1 : Int32)) hx hb dX5_executeBits_109 (by decide) ?_
          refine lv_iload_n hx hb dX5_executeBits_110 rfl (lv_at hl 1 rfl) ?_
          refine lv_ishl hx hb dX5_executeBits_111 ?_
          refine lv_iconst (v := (-1 : Int32)) hx hb dX5_executeBits_112 (by decide) ?_
          refine lv_ixor hx hb dX5_executeBits_113 ?_
          refine lv_iand hx hb dX5_executeBits_114 ?_
          have hq := bd_some h; clear h; obtain ⟨s36, h35, h⟩ := hq
          refine sw_vv (rest := []) c_good X (cX3_store_m h35) calX3_store k_556 hP hD hS 7 3 rfl rfl rfl ⟨rfl, rfl⟩ rfl hl.1 rfl (Nat.le_of_ble_eq_true rfl) dX5_executeBits_115 (fun H locs hP hD hS => ?_)
          refine lv_goto (tgt := 135) hx hb dX5_executeBits_118 (by decide) ?_
          obtain rfl := Option.some.inj h
          exact sw_vret X hP hD hS dX5_executeBits_135
        · replace h := if_no h c34
          refine sw_tabD (tgt := 121) hx hb dX5_executeBits_41 (([(0 : Int32)] : List Int32) ++ (([(1 : Int32)] : List Int32) ++ ([(2 : Int32)] : List Int32))) (fun hm => (List.mem_append.mp hm).elim c25 (fun hm => (List.mem_append.mp hm).elim c31 c34)) (by decide +kernel) (by decide) ?_
          refine lv_aload_n hx hb dX5_executeBits_121 rfl (lv_at hl 3 rfl) ?_
          refine cg_5_5 X hP k_144 dX5_executeBits_122 ?_
          refine lv_iload_n hx hb dX5_executeBits_125 rfl (lv_at hl 2 rfl) ?_
          refine lv_iload hx hb dX5_executeBits_126 (lv_at hl 0 rfl) ?_
          refine lv_iconst (v := (1 : Int32)) hx hb dX5_executeBits_128 (by decide) ?_
          refine lv_iload_n hx hb dX5_executeBits_129 rfl (lv_at hl 1 rfl) ?_
          refine lv_ishl hx hb dX5_executeBits_130 ?_
          refine lv_ior hx hb dX5_executeBits_131 ?_
          have hq := bd_some h; clear h; obtain ⟨s38, h37, h⟩ := hq
          refine sw_vv (rest := []) c_good X (cX3_store_m h37) calX3_store k_556 hP hD hS 7 3 rfl rfl rfl ⟨rfl, rfl⟩ rfl hl.1 rfl (Nat.le_of_ble_eq_true rfl) dX5_executeBits_132 (fun H locs hP hD hS => ?_)
          obtain rfl := Option.some.inj h
          exact sw_vret X hP hD hS dX5_executeBits_135
theorem dX5_callTo_0 : decode cX5_callTo 0 = .ok (.iload_n 2, 1) := by decide +kernel
theorem dX5_callTo_1 : decode cX5_callTo 1 = .ok (.ifCond .eq 37, 3) := by decide +kernel
theorem dX5_callTo_4 : decode cX5_callTo 4 = .ok (.aload_n 0, 1) := by decide +kernel
theorem dX5_callTo_5 : decode cX5_callTo 5 = .ok (.getfield 7, 3) := by decide +kernel
theorem dX5_callTo_8 : decode cX5_callTo 8 = .ok (.iconst 1, 1) := by decide +kernel
theorem dX5_callTo_9 : decode cX5_callTo 9 = .ok (.invokevirtual 69, 3) := by decide +kernel
theorem dX5_callTo_12 : decode cX5_callTo 12 = .ok (.aload_n 0, 1) := by decide +kernel
theorem dX5_callTo_13 : decode cX5_callTo 13 = .ok (.getfield 39, 3) := by decide +kernel
theorem dX5_callTo_16 : decode cX5_callTo 16 = .ok (.aload_n 0, 1) := by decide +kernel
theorem dX5_callTo_17 : decode cX5_callTo 17 = .ok (.getfield 21, 3) := by decide +kernel
theorem dX5_callTo_20 : decode cX5_callTo 20 = .ok (.bipush 9, 2) := by decide +kernel
theorem dX5_callTo_22 : decode cX5_callTo 22 = .ok (.invokevirtual 106, 3) := by decide +kernel
theorem dX5_callTo_25 : decode cX5_callTo 25 = .ok (.invokevirtual 109, 3) := by decide +kernel
theorem dX5_callTo_28 : decode cX5_callTo 28 = .ok (.aload_n 0, 1) := by decide +kernel
theorem dX5_callTo_29 : decode cX5_callTo 29 = .ok (.getfield 21, 3) := by decide +kernel
theorem dX5_callTo_32 : decode cX5_callTo 32 = .ok (.bipush 9, 2) := by decide +kernel
theorem dX5_callTo_34 : decode cX5_callTo 34 = .ok (.iload_n 1, 1) := by decide +kernel
theorem dX5_callTo_35 : decode cX5_callTo 35 = .ok (.invokevirtual 112, 3) := by decide +kernel
theorem dX5_callTo_38 : decode cX5_callTo 38 = .ok (.return_, 1) := by decide +kernel
def fX5_callTo (p1 p2 : Int32) (s0 : zS) : Option (zS) := if p2 = (0 : Int32) then (some s0) else (bd (fX1_pass (1 : Int32) s0) fun s3 => bd2 (fX6_pair (9 : Int32) s3) fun r5 s6 => bd (fX3_push r5 s6) fun s8 => bd (fX6_load (9 : Int32) p1 s8) fun s10 => some s10)
set_option maxHeartbeats 4000000 in
set_option maxRecDepth 100000 in
theorem cX5_callTo_m {l : Launch} {dC : Nat → ClassId} {dI : Nat → Nat → Nat} {ad : Nat → Nat} {cI : ClassId} {p1 p2 : Int32} {s0 : zS} {zs : zS} (h : fX5_callTo p1 p2 s0 = some zs) : sw_Mv l yX5_callTo (sw_ws yX5_callTo cX5_callTo 3 none) (sw_rm 3 67) (dC, dI) vwCl [(cI, .int)] cF [.ref (ad 5), .int p1, .int p2] (cW ad cI s0) (cW ad cI zs) := by
  intro sz
  refine sw_of (cc := cX5_callTo) (maxL := 3) (ret := none) (by decide) rfl (Nat.le_of_ble_eq_true rfl) ?_
  intro p e s m args below meth c A ls hAe hsz X _ hP hD hS hl
  rw [hAe]
  have hx := X.1.1
  have hb := X.1.2.1
  have hown := X.1.2.2.2.1
  have hts := X.1.2.2.2.2
  replace hl : lv_has ls 3 [(0, .ref (ad 5)), (1, .int p1), (2, .int p2)] := hl
  unfold fX5_callTo at h
  refine lv_iload_n hx hb dX5_callTo_0 rfl (lv_at hl 2 rfl) ?_
  refine lv_if_eq (tgt := 38) hx hb dX5_callTo_1 (by decide) (fun c1 => ?_) (fun c1 => ?_)
  · replace h := if_yes h c1
    obtain rfl := Option.some.inj h
    exact sw_vret X hP hD hS dX5_callTo_38
  · replace h := if_no h c1
    refine lv_aload_n hx hb dX5_callTo_4 rfl (lv_at hl 0 rfl) ?_
    refine cg_5_0 X hP k_139 dX5_callTo_5 ?_
    refine lv_iconst (v := (1 : Int32)) hx hb dX5_callTo_8 (by decide) ?_
    have hq := bd_some h; clear h; obtain ⟨s3, h2, h⟩ := hq
    refine sw_vv (rest := []) c_good X (cX1_pass_m h2) calX1_pass k_381 hP hD hS 1 1 rfl rfl rfl ⟨rfl, rfl⟩ rfl hl.1 rfl (Nat.le_of_ble_eq_true rfl) dX5_callTo_9 (fun H locs hP hD hS => ?_)
    refine lv_aload_n hx hb dX5_callTo_12 rfl (lv_at hl 0 rfl) ?_
    refine cg_5_5 X hP k_144 dX5_callTo_13 ?_
    refine lv_aload_n hx hb dX5_callTo_16 rfl (lv_at hl 0 rfl) ?_
    refine cg_5_3 X hP k_142 dX5_callTo_17 ?_
    refine lv_bipush (v := (9 : Int32)) hx hb dX5_callTo_20 (by decide) ?_
    have hq := bd2_some h; clear h; obtain ⟨r5, s6, h4, h⟩ := hq
    refine sw_vi (rest := [.ref (ad 7)]) c_good X (cX6_pair_m h4) calX6_pair k_385 hP hD hS 4 6 rfl rfl rfl ⟨rfl, rfl⟩ rfl hl.1 rfl (Nat.le_of_ble_eq_true rfl) dX5_callTo_22 (fun H locs hP hD hS => ?_)
    have hq := bd_some h; clear h; obtain ⟨s8, h7, h⟩ := hq
    refine sw_vv (rest := []) c_good X (cX3_push_m h7) calX3_push k_386 hP hD hS 7 3 rfl rfl rfl ⟨rfl, rfl⟩ rfl hl.1 rfl (Nat.le_of_ble_eq_true rfl) dX5_callTo_25 (fun H locs hP hD hS => ?_)
    refine lv_aload_n hx hb dX5_callTo_28 rfl (lv_at hl 0 rfl) ?_
    refine cg_5_3 X hP k_142 dX5_callTo_29 ?_
    refine lv_bipush (v := (9 : Int32)) hx hb dX5_callTo_32 (by decide) ?_
    refine lv_iload_n hx hb dX5_callTo_34 rfl (lv_at hl 1 rfl) ?_
    have hq := bd_some h; clear h; obtain ⟨s10, h9, h⟩ := hq
    refine sw_vv (rest := []) c_good X (cX6_load_m h9) calX6_load k_412 hP hD hS 4 6 rfl rfl rfl ⟨rfl, rfl⟩ rfl hl.1 rfl (Nat.le_of_ble_eq_true rfl) dX5_callTo_35 (fun H locs hP hD hS => ?_)
    obtain rfl := Option.some.inj h
    exact sw_vret X hP hD hS dX5_callTo_38
theorem dX5_exchangeWithOthers_0 : decode cX5_exchangeWithOthers 0 = .ok (.aload_n 0, 1) := by decide +kernel
theorem dX5_exchangeWithOthers_1 : decode cX5_exchangeWithOthers 1 = .ok (.getfield 21, 3) := by decide +kernel
theorem dX5_exchangeWithOthers_4 : decode cX5_exchangeWithOthers 4 = .ok (.iconst 1, 1) := by decide +kernel
theorem dX5_exchangeWithOthers_5 : decode cX5_exchangeWithOthers 5 = .ok (.iconst 5, 1) := by decide +kernel
theorem dX5_exchangeWithOthers_6 : decode cX5_exchangeWithOthers 6 = .ok (.invokevirtual 152, 3) := by decide +kernel
theorem dX5_exchangeWithOthers_9 : decode cX5_exchangeWithOthers 9 = .ok (.aload_n 0, 1) := by decide +kernel
theorem dX5_exchangeWithOthers_10 : decode cX5_exchangeWithOthers 10 = .ok (.getfield 21, 3) := by decide +kernel
theorem dX5_exchangeWithOthers_13 : decode cX5_exchangeWithOthers 13 = .ok (.iconst 2, 1) := by decide +kernel
theorem dX5_exchangeWithOthers_14 : decode cX5_exchangeWithOthers 14 = .ok (.bipush 6, 2) := by decide +kernel
theorem dX5_exchangeWithOthers_16 : decode cX5_exchangeWithOthers 16 = .ok (.invokevirtual 152, 3) := by decide +kernel
theorem dX5_exchangeWithOthers_19 : decode cX5_exchangeWithOthers 19 = .ok (.aload_n 0, 1) := by decide +kernel
theorem dX5_exchangeWithOthers_20 : decode cX5_exchangeWithOthers 20 = .ok (.getfield 21, 3) := by decide +kernel
theorem dX5_exchangeWithOthers_23 : decode cX5_exchangeWithOthers 23 = .ok (.iconst 3, 1) := by decide +kernel
theorem dX5_exchangeWithOthers_24 : decode cX5_exchangeWithOthers 24 = .ok (.bipush 7, 2) := by decide +kernel
theorem dX5_exchangeWithOthers_26 : decode cX5_exchangeWithOthers 26 = .ok (.invokevirtual 152, 3) := by decide +kernel
theorem dX5_exchangeWithOthers_29 : decode cX5_exchangeWithOthers 29 = .ok (.return_, 1) := by decide +kernel
def fX5_exchangeWithOthers (s0 : zS) : Option (zS) := bd (fX6_exchange (1 : Int32) (5 : Int32) s0) fun s2 => bd (fX6_exchange (2 : Int32) (6 : Int32) s2) fun s4 => bd (fX6_exchange (3 : Int32) (7 : Int32) s4) fun s6 => some s6
set_option maxHeartbeats 4000000 in
set_option maxRecDepth 100000 in
theorem cX5_exchangeWithOthers_m {l : Launch} {dC : Nat → ClassId} {dI : Nat → Nat → Nat} {ad : Nat → Nat} {cI : ClassId} {s0 : zS} {zs : zS} (h : fX5_exchangeWithOthers  s0 = some zs) : sw_Mv l yX5_exchangeWithOthers (sw_ws yX5_exchangeWithOthers cX5_exchangeWithOthers 1 none) (sw_rm 1 23) (dC, dI) vwCl [(cI, .int)] cF [.ref (ad 5)] (cW ad cI s0) (cW ad cI zs) := by
  intro sz
  refine sw_of (cc := cX5_exchangeWithOthers) (maxL := 1) (ret := none) (by decide) rfl (Nat.le_of_ble_eq_true rfl) ?_
  intro p e s m args below meth c A ls hAe hsz X _ hP hD hS hl
  rw [hAe]
  have hx := X.1.1
  have hb := X.1.2.1
  have hown := X.1.2.2.2.1
  have hts := X.1.2.2.2.2
  replace hl : lv_has ls 1 [(0, .ref (ad 5))] := hl
  unfold fX5_exchangeWithOthers at h
  refine lv_aload_n hx hb dX5_exchangeWithOthers_0 rfl (lv_at hl 0 rfl) ?_
  refine cg_5_3 X hP k_142 dX5_exchangeWithOthers_1 ?_
  refine lv_iconst (v := (1 : Int32)) hx hb dX5_exchangeWithOthers_4 (by decide) ?_
  refine lv_iconst (v := (5 : Int32)) hx hb dX5_exchangeWithOthers_5 (by decide) ?_
  have hq := bd_some h; clear h; obtain ⟨s2, h1, h⟩ := hq
  refine sw_vv (rest := []) c_good X (cX6_exchange_m h1) calX6_exchange k_438 hP hD hS 4 6 rfl rfl rfl ⟨rfl, rfl⟩ rfl hl.1 rfl (Nat.le_of_ble_eq_true rfl) dX5_exchangeWithOthers_6 (fun H locs hP hD hS => ?_)
  refine lv_aload_n hx hb dX5_exchangeWithOthers_9 rfl (lv_at hl 0 rfl) ?_
  refine cg_5_3 X hP k_142 dX5_exchangeWithOthers_10 ?_
  refine lv_iconst (v := (2 : Int32)) hx hb dX5_exchangeWithOthers_13 (by decide) ?_
  refine lv_bipush (v := (6 : Int32)) hx hb dX5_exchangeWithOthers_14 (by decide) ?_
  have hq := bd_some h; clear h; obtain ⟨s4, h3, h⟩ := hq
  refine sw_vv (rest := []) c_good X (cX6_exchange_m h3) calX6_exchange k_438 hP hD hS 4 6 rfl rfl rfl ⟨rfl, rfl⟩ rfl hl.1 rfl (Nat.le_of_ble_eq_true rfl) dX5_exchangeWithOthers_16 (fun H locs hP hD hS => ?_)
  refine lv_aload_n hx hb dX5_exchangeWithOthers_19 rfl (lv_at hl 0 rfl) ?_
  refine cg_5_3 X hP k_142 dX5_exchangeWithOthers_20 ?_
  refine lv_iconst (v := (3 : Int32)) hx hb dX5_exchangeWithOthers_23 (by decide) ?_
  refine lv_bipush (v := (7 : Int32)) hx hb dX5_exchangeWithOthers_24 (by decide) ?_
  have hq := bd_some h; clear h; obtain ⟨s6, h5, h⟩ := hq
  refine sw_vv (rest := []) c_good X (cX6_exchange_m h5) calX6_exchange k_438 hP hD hS 4 6 rfl rfl rfl ⟨rfl, rfl⟩ rfl hl.1 rfl (Nat.le_of_ble_eq_true rfl) dX5_exchangeWithOthers_26 (fun H locs hP hD hS => ?_)
  obtain rfl := Option.some.inj h
  exact sw_vret X hP hD hS dX5_exchangeWithOthers_29
theorem dX5_inputToA_0 : decode cX5_inputToA 0 = .ok (.aload_n 0, 1) := by decide +kernel
theorem dX5_inputToA_1 : decode cX5_inputToA 1 = .ok (.getfield 39, 3) := by decide +kernel
theorem dX5_inputToA_4 : decode cX5_inputToA 4 = .ok (.invokevirtual 146, 3) := by decide +kernel
theorem dX5_inputToA_7 : decode cX5_inputToA 7 = .ok (.istore_n 1, 1) := by decide +kernel
theorem dX5_inputToA_8 : decode cX5_inputToA 8 = .ok (.aload_n 0, 1) := by decide +kernel
theorem dX5_inputToA_9 : decode cX5_inputToA 9 = .ok (.getfield 17, 3) := by decide +kernel
theorem dX5_inputToA_12 : decode cX5_inputToA 12 = .ok (.iload_n 1, 1) := by decide +kernel
theorem dX5_inputToA_13 : decode cX5_inputToA 13 = .ok (.aload_n 0, 1) := by decide +kernel
theorem dX5_inputToA_14 : decode cX5_inputToA 14 = .ok (.getfield 21, 3) := by decide +kernel
theorem dX5_inputToA_17 : decode cX5_inputToA 17 = .ok (.bipush 7, 2) := by decide +kernel
theorem dX5_inputToA_19 : decode cX5_inputToA 19 = .ok (.invokevirtual 164, 3) := by decide +kernel
theorem dX5_inputToA_22 : decode cX5_inputToA 22 = .ok (.invokevirtual 266, 3) := by decide +kernel
theorem dX5_inputToA_25 : decode cX5_inputToA 25 = .ok (.istore_n 2, 1) := by decide +kernel
theorem dX5_inputToA_26 : decode cX5_inputToA 26 = .ok (.aload_n 0, 1) := by decide +kernel
theorem dX5_inputToA_27 : decode cX5_inputToA 27 = .ok (.getfield 21, 3) := by decide +kernel
theorem dX5_inputToA_30 : decode cX5_inputToA 30 = .ok (.bipush 7, 2) := by decide +kernel
theorem dX5_inputToA_32 : decode cX5_inputToA 32 = .ok (.iload_n 2, 1) := by decide +kernel
theorem dX5_inputToA_33 : decode cX5_inputToA 33 = .ok (.invokevirtual 167, 3) := by decide +kernel
theorem dX5_inputToA_36 : decode cX5_inputToA 36 = .ok (.return_, 1) := by decide +kernel
def fX5_inputToA (s0 : zS) : Option (zS) := bd2 (fX3_next  s0) fun r2 s3 => bd2 (fX6_single (7 : Int32) s3) fun r5 s6 => bd2 (fX4_input r2 r5 s6) fun r8 s9 => bd (fX6_loadSingle (7 : Int32) r8 s9) fun s11 => some s11
set_option maxHeartbeats 4000000 in
set_option maxRecDepth 100000 in
theorem cX5_inputToA_m {l : Launch} {dC : Nat → ClassId} {dI : Nat → Nat → Nat} {ad : Nat → Nat} {cI : ClassId} {s0 : zS} {zs : zS} (h : fX5_inputToA  s0 = some zs) : sw_Mv l yX5_inputToA (sw_ws yX5_inputToA cX5_inputToA 3 none) (sw_rm 3 66) (dC, dI) vwCl [(cI, .int)] cF [.ref (ad 5)] (cW ad cI s0) (cW ad cI zs) := by
  intro sz
  refine sw_of (cc := cX5_inputToA) (maxL := 3) (ret := none) (by decide) rfl (Nat.le_of_ble_eq_true rfl) ?_
  intro p e s m args below meth c A ls hAe hsz X _ hP hD hS hl
  rw [hAe]
  have hx := X.1.1
  have hb := X.1.2.1
  have hown := X.1.2.2.2.1
  have hts := X.1.2.2.2.2
  replace hl : lv_has ls 3 [(0, .ref (ad 5))] := hl
  unfold fX5_inputToA at h
  refine lv_aload_n hx hb dX5_inputToA_0 rfl (lv_at hl 0 rfl) ?_
  refine cg_5_5 X hP k_144 dX5_inputToA_1 ?_
  have hq := bd2_some h; clear h; obtain ⟨r2, s3, h1, h⟩ := hq
  refine sw_vi (rest := []) c_good X (cX3_next_m h1) calX3_next k_442 hP hD hS 7 3 rfl rfl rfl ⟨rfl, rfl⟩ rfl hl.1 rfl (Nat.le_of_ble_eq_true rfl) dX5_inputToA_4 (fun H locs hP hD hS => ?_)
  refine lv_istore_n (lv' := [(1, .int r2), (0, .ref (ad 5))]) hx hb dX5_inputToA_7 rfl hl (by decide) rfl (fun ls hl => ?_)
  refine lv_aload_n hx hb dX5_inputToA_8 rfl (lv_at hl 1 rfl) ?_
  refine cg_5_2 X hP k_141 dX5_inputToA_9 ?_
  refine lv_iload_n hx hb dX5_inputToA_12 rfl (lv_at hl 0 rfl) ?_
  refine lv_aload_n hx hb dX5_inputToA_13 rfl (lv_at hl 1 rfl) ?_
  refine cg_5_3 X hP k_142 dX5_inputToA_14 ?_
  refine lv_bipush (v := (7 : Int32)) hx hb dX5_inputToA_17 (by decide) ?_
  have hq := bd2_some h; clear h; obtain ⟨r5, s6, h4, h⟩ := hq
  refine sw_vi (rest := [.int r2, .ref (ad 3)]) c_good X (cX6_single_m h4) calX6_single k_454 hP hD hS 4 6 rfl rfl rfl ⟨rfl, rfl⟩ rfl hl.1 rfl (Nat.le_of_ble_eq_true rfl) dX5_inputToA_19 (fun H locs hP hD hS => ?_)
  have hq := bd2_some h; clear h; obtain ⟨r8, s9, h7, h⟩ := hq
  refine sw_vi (rest := []) c_good X (cX4_input_m h7) calX4_input k_674 hP hD hS 3 4 rfl rfl rfl ⟨rfl, rfl⟩ rfl hl.1 rfl (Nat.le_of_ble_eq_true rfl) dX5_inputToA_22 (fun H locs hP hD hS => ?_)
  refine lv_istore_n (lv' := [(2, .int r8), (1, .int r2), (0, .ref (ad 5))]) hx hb dX5_inputToA_25 rfl hl (by decide) rfl (fun ls hl => ?_)
  refine lv_aload_n hx hb dX5_inputToA_26 rfl (lv_at hl 2 rfl) ?_
  refine cg_5_3 X hP k_142 dX5_inputToA_27 ?_
  refine lv_bipush (v := (7 : Int32)) hx hb dX5_inputToA_30 (by decide) ?_
  refine lv_iload_n hx hb dX5_inputToA_32 rfl (lv_at hl 0 rfl) ?_
  have hq := bd_some h; clear h; obtain ⟨s11, h10, h⟩ := hq
  refine sw_vv (rest := []) c_good X (cX6_loadSingle_m h10) calX6_loadSingle k_464 hP hD hS 4 6 rfl rfl rfl ⟨rfl, rfl⟩ rfl hl.1 rfl (Nat.le_of_ble_eq_true rfl) dX5_inputToA_33 (fun H locs hP hD hS => ?_)
  obtain rfl := Option.some.inj h
  exact sw_vret X hP hD hS dX5_inputToA_36
theorem dX5_exchangeHlWithStack_0 : decode cX5_exchangeHlWithStack 0 = .ok (.aload_n 0, 1) := by decide +kernel
theorem dX5_exchangeHlWithStack_1 : decode cX5_exchangeHlWithStack 1 = .ok (.getfield 21, 3) := by decide +kernel
theorem dX5_exchangeHlWithStack_4 : decode cX5_exchangeHlWithStack 4 = .ok (.bipush 8, 2) := by decide +kernel
theorem dX5_exchangeHlWithStack_6 : decode cX5_exchangeHlWithStack 6 = .ok (.invokevirtual 106, 3) := by decide +kernel
theorem dX5_exchangeHlWithStack_9 : decode cX5_exchangeHlWithStack 9 = .ok (.istore_n 1, 1) := by decide +kernel
theorem dX5_exchangeHlWithStack_10 : decode cX5_exchangeHlWithStack 10 = .ok (.aload_n 0, 1) := by decide +kernel
theorem dX5_exchangeHlWithStack_11 : decode cX5_exchangeHlWithStack 11 = .ok (.getfield 39, 3) := by decide +kernel
theorem dX5_exchangeHlWithStack_14 : decode cX5_exchangeHlWithStack 14 = .ok (.iload_n 1, 1) := by decide +kernel
theorem dX5_exchangeHlWithStack_15 : decode cX5_exchangeHlWithStack 15 = .ok (.invokevirtual 191, 3) := by decide +kernel
theorem dX5_exchangeHlWithStack_18 : decode cX5_exchangeHlWithStack 18 = .ok (.istore_n 2, 1) := by decide +kernel
theorem dX5_exchangeHlWithStack_19 : decode cX5_exchangeHlWithStack 19 = .ok (.aload_n 0, 1) := by decide +kernel
theorem dX5_exchangeHlWithStack_20 : decode cX5_exchangeHlWithStack 20 = .ok (.getfield 7, 3) := by decide +kernel
theorem dX5_exchangeHlWithStack_23 : decode cX5_exchangeHlWithStack 23 = .ok (.iconst 1, 1) := by decide +kernel
theorem dX5_exchangeHlWithStack_24 : decode cX5_exchangeHlWithStack 24 = .ok (.invokevirtual 69, 3) := by decide +kernel
theorem dX5_exchangeHlWithStack_27 : decode cX5_exchangeHlWithStack 27 = .ok (.aload_n 0, 1) := by decide +kernel
theorem dX5_exchangeHlWithStack_28 : decode cX5_exchangeHlWithStack 28 = .ok (.getfield 39, 3) := by decide +kernel
theorem dX5_exchangeHlWithStack_31 : decode cX5_exchangeHlWithStack 31 = .ok (.iload_n 1, 1) := by decide +kernel
theorem dX5_exchangeHlWithStack_32 : decode cX5_exchangeHlWithStack 32 = .ok (.aload_n 0, 1) := by decide +kernel
theorem dX5_exchangeHlWithStack_33 : decode cX5_exchangeHlWithStack 33 = .ok (.getfield 21, 3) := by decide +kernel
theorem dX5_exchangeHlWithStack_36 : decode cX5_exchangeHlWithStack 36 = .ok (.iconst 3, 1) := by decide +kernel
theorem dX5_exchangeHlWithStack_37 : decode cX5_exchangeHlWithStack 37 = .ok (.invokevirtual 106, 3) := by decide +kernel
theorem dX5_exchangeHlWithStack_40 : decode cX5_exchangeHlWithStack 40 = .ok (.invokevirtual 188, 3) := by decide +kernel
theorem dX5_exchangeHlWithStack_43 : decode cX5_exchangeHlWithStack 43 = .ok (.aload_n 0, 1) := by decide +kernel
theorem dX5_exchangeHlWithStack_44 : decode cX5_exchangeHlWithStack 44 = .ok (.getfield 7, 3) := by decide +kernel
theorem dX5_exchangeHlWithStack_47 : decode cX5_exchangeHlWithStack 47 = .ok (.iconst 2, 1) := by decide +kernel
theorem dX5_exchangeHlWithStack_48 : decode cX5_exchangeHlWithStack 48 = .ok (.invokevirtual 69, 3) := by decide +kernel
theorem dX5_exchangeHlWithStack_51 : decode cX5_exchangeHlWithStack 51 = .ok (.aload_n 0, 1) := by decide +kernel
theorem dX5_exchangeHlWithStack_52 : decode cX5_exchangeHlWithStack 52 = .ok (.getfield 21, 3) := by decide +kernel
theorem dX5_exchangeHlWithStack_55 : decode cX5_exchangeHlWithStack 55 = .ok (.iconst 3, 1) := by decide +kernel
theorem dX5_exchangeHlWithStack_56 : decode cX5_exchangeHlWithStack 56 = .ok (.iload_n 2, 1) := by decide +kernel
theorem dX5_exchangeHlWithStack_57 : decode cX5_exchangeHlWithStack 57 = .ok (.invokevirtual 112, 3) := by decide +kernel
theorem dX5_exchangeHlWithStack_60 : decode cX5_exchangeHlWithStack 60 = .ok (.return_, 1) := by decide +kernel
def fX5_exchangeHlWithStack (s0 : zS) : Option (zS) := bd2 (fX6_pair (8 : Int32) s0) fun r2 s3 => bd2 (fX3_readPair r2 s3) fun r5 s6 => bd (fX1_pass (1 : Int32) s6) fun s8 => bd2 (fX6_pair (3 : Int32) s8) fun r10 s11 => bd (fX3_writePair r2 r10 s11) fun s13 => bd (fX1_pass (2 : Int32) s13) fun s15 => bd (fX6_load (3 : Int32) r5 s15) fun s17 => some s17
set_option maxHeartbeats 4000000 in
set_option maxRecDepth 100000 in
theorem cX5_exchangeHlWithStack_m {l : Launch} {dC : Nat → ClassId} {dI : Nat → Nat → Nat} {ad : Nat → Nat} {cI : ClassId} {s0 : zS} {zs : zS} (h : fX5_exchangeHlWithStack  s0 = some zs) : sw_Mv l yX5_exchangeHlWithStack (sw_ws yX5_exchangeHlWithStack cX5_exchangeHlWithStack 3 none) (sw_rm 3 67) (dC, dI) vwCl [(cI, .int)] cF [.ref (ad 5)] (cW ad cI s0) (cW ad cI zs) := by
  intro sz
  refine sw_of (cc := cX5_exchangeHlWithStack) (maxL := 3) (ret := none) (by decide) rfl (Nat.le_of_ble_eq_true rfl) ?_
  intro p e s m args below meth c A ls hAe hsz X _ hP hD hS hl
  rw [hAe]
  have hx := X.1.1
  have hb := X.1.2.1
  have hown := X.1.2.2.2.1
  have hts := X.1.2.2.2.2
  replace hl : lv_has ls 3 [(0, .ref (ad 5))] := hl
  unfold fX5_exchangeHlWithStack at h
  refine lv_aload_n hx hb dX5_exchangeHlWithStack_0 rfl (lv_at hl 0 rfl) ?_
  refine cg_5_3 X hP k_142 dX5_exchangeHlWithStack_1 ?_
  refine lv_bipush (v := (8 : Int32)) hx hb dX5_exchangeHlWithStack_4 (by decide) ?_
  have hq := bd2_some h; clear h; obtain ⟨r2, s3, h1, h⟩ := hq
  refine sw_vi (rest := []) c_good X (cX6_pair_m h1) calX6_pair k_385 hP hD hS 4 6 rfl rfl rfl ⟨rfl, rfl⟩ rfl hl.1 rfl (Nat.le_of_ble_eq_true rfl) dX5_exchangeHlWithStack_6 (fun H locs hP hD hS => ?_)
  refine lv_istore_n (lv' := [(1, .int r2), (0, .ref (ad 5))]) hx hb dX5_exchangeHlWithStack_9 rfl hl (by decide) rfl (fun ls hl => ?_)
  refine lv_aload_n hx hb dX5_exchangeHlWithStack_10 rfl (lv_at hl 1 rfl) ?_
  refine cg_5_5 X hP k_144 dX5_exchangeHlWithStack_11 ?_
  refine lv_iload_n hx hb dX5_exchangeHlWithStack_14 rfl (lv_at hl 0 rfl) ?_
  have hq := bd2_some h; clear h; obtain ⟨r5, s6, h4, h⟩ := hq
  refine sw_vi (rest := []) c_good X (cX3_readPair_m h4) calX3_readPair k_524 hP hD hS 7 3 rfl rfl rfl ⟨rfl, rfl⟩ rfl hl.1 rfl (Nat.le_of_ble_eq_true rfl) dX5_exchangeHlWithStack_15 (fun H locs hP hD hS => ?_)
  refine lv_istore_n (lv' := [(2, .int r5), (1, .int r2), (0, .ref (ad 5))]) hx hb dX5_exchangeHlWithStack_18 rfl hl (by decide) rfl (fun ls hl => ?_)
  refine lv_aload_n hx hb dX5_exchangeHlWithStack_19 rfl (lv_at hl 2 rfl) ?_
  refine cg_5_0 X hP k_139 dX5_exchangeHlWithStack_20 ?_
  refine lv_iconst (v := (1 : Int32)) hx hb dX5_exchangeHlWithStack_23 (by decide) ?_
  have hq := bd_some h; clear h; obtain ⟨s8, h7, h⟩ := hq
  refine sw_vv (rest := []) c_good X (cX1_pass_m h7) calX1_pass k_381 hP hD hS 1 1 rfl rfl rfl ⟨rfl, rfl⟩ rfl hl.1 rfl (Nat.le_of_ble_eq_true rfl) dX5_exchangeHlWithStack_24 (fun H locs hP hD hS => ?_)
  refine lv_aload_n hx hb dX5_exchangeHlWithStack_27 rfl (lv_at hl 2 rfl) ?_
  refine cg_5_5 X hP k_144 dX5_exchangeHlWithStack_28 ?_
  refine lv_iload_n hx hb dX5_exchangeHlWithStack_31 rfl (lv_at hl 1 rfl) ?_
  refine lv_aload_n hx hb dX5_exchangeHlWithStack_32 rfl (lv_at hl 2 rfl) ?_
  refine cg_5_3 X hP k_142 dX5_exchangeHlWithStack_33 ?_
  refine lv_iconst (v := (3 : Int32)) hx hb dX5_exchangeHlWithStack_36 (by decide) ?_
  have hq := bd2_some h; clear h; obtain ⟨r10, s11, h9, h⟩ := hq
  refine sw_vi (rest := [.int r2, .ref (ad 7)]) c_good X (cX6_pair_m h9) calX6_pair k_385 hP hD hS 4 6 rfl rfl rfl ⟨rfl, rfl⟩ rfl hl.1 rfl (Nat.le_of_ble_eq_true rfl) dX5_exchangeHlWithStack_37 (fun H locs hP hD hS => ?_)
  have hq := bd_some h; clear h; obtain ⟨s13, h12, h⟩ := hq
  refine sw_vv (rest := []) c_good X (cX3_writePair_m h12) calX3_writePair k_520 hP hD hS 7 3 rfl rfl rfl ⟨rfl, rfl⟩ rfl hl.1 rfl (Nat.le_of_ble_eq_true rfl) dX5_exchangeHlWithStack_40 (fun H locs hP hD hS => ?_)
  refine lv_aload_n hx hb dX5_exchangeHlWithStack_43 rfl (lv_at hl 2 rfl) ?_
  refine cg_5_0 X hP k_139 dX5_exchangeHlWithStack_44 ?_
  refine lv_iconst (v := (2 : Int32)) hx hb dX5_exchangeHlWithStack_47 (by decide) ?_
  have hq := bd_some h; clear h; obtain ⟨s15, h14, h⟩ := hq
  refine sw_vv (rest := []) c_good X (cX1_pass_m h14) calX1_pass k_381 hP hD hS 1 1 rfl rfl rfl ⟨rfl, rfl⟩ rfl hl.1 rfl (Nat.le_of_ble_eq_true rfl) dX5_exchangeHlWithStack_48 (fun H locs hP hD hS => ?_)
  refine lv_aload_n hx hb dX5_exchangeHlWithStack_51 rfl (lv_at hl 2 rfl) ?_
  refine cg_5_3 X hP k_142 dX5_exchangeHlWithStack_52 ?_
  refine lv_iconst (v := (3 : Int32)) hx hb dX5_exchangeHlWithStack_55 (by decide) ?_
  refine lv_iload_n hx hb dX5_exchangeHlWithStack_56 rfl (lv_at hl 0 rfl) ?_
  have hq := bd_some h; clear h; obtain ⟨s17, h16, h⟩ := hq
  refine sw_vv (rest := []) c_good X (cX6_load_m h16) calX6_load k_412 hP hD hS 4 6 rfl rfl rfl ⟨rfl, rfl⟩ rfl hl.1 rfl (Nat.le_of_ble_eq_true rfl) dX5_exchangeHlWithStack_57 (fun H locs hP hD hS => ?_)
  obtain rfl := Option.some.inj h
  exact sw_vret X hP hD hS dX5_exchangeHlWithStack_60
theorem dX5_copyByte_0 : decode cX5_copyByte 0 = .ok (.aload_n 0, 1) := by decide +kernel
theorem dX5_copyByte_1 : decode cX5_copyByte 1 = .ok (.getfield 13, 3) := by decide +kernel
theorem dX5_copyByte_4 : decode cX5_copyByte 4 = .ok (.aload_n 0, 1) := by decide +kernel
theorem dX5_copyByte_5 : decode cX5_copyByte 5 = .ok (.getfield 21, 3) := by decide +kernel
theorem dX5_copyByte_8 : decode cX5_copyByte 8 = .ok (.iconst 3, 1) := by decide +kernel
theorem dX5_copyByte_9 : decode cX5_copyByte 9 = .ok (.invokevirtual 106, 3) := by decide +kernel
theorem dX5_copyByte_12 : decode cX5_copyByte 12 = .ok (.invokevirtual 197, 3) := by decide +kernel
theorem dX5_copyByte_15 : decode cX5_copyByte 15 = .ok (.istore_n 2, 1) := by decide +kernel
theorem dX5_copyByte_16 : decode cX5_copyByte 16 = .ok (.aload_n 0, 1) := by decide +kernel
theorem dX5_copyByte_17 : decode cX5_copyByte 17 = .ok (.getfield 13, 3) := by decide +kernel
theorem dX5_copyByte_20 : decode cX5_copyByte 20 = .ok (.aload_n 0, 1) := by decide +kernel
theorem dX5_copyByte_21 : decode cX5_copyByte 21 = .ok (.getfield 21, 3) := by decide +kernel
theorem dX5_copyByte_24 : decode cX5_copyByte 24 = .ok (.iconst 2, 1) := by decide +kernel
theorem dX5_copyByte_25 : decode cX5_copyByte 25 = .ok (.invokevirtual 106, 3) := by decide +kernel
theorem dX5_copyByte_28 : decode cX5_copyByte 28 = .ok (.iload_n 2, 1) := by decide +kernel
theorem dX5_copyByte_29 : decode cX5_copyByte 29 = .ok (.invokevirtual 194, 3) := by decide +kernel
theorem dX5_copyByte_32 : decode cX5_copyByte 32 = .ok (.aload_n 0, 1) := by decide +kernel
theorem dX5_copyByte_33 : decode cX5_copyByte 33 = .ok (.getfield 7, 3) := by decide +kernel
theorem dX5_copyByte_36 : decode cX5_copyByte 36 = .ok (.iconst 2, 1) := by decide +kernel
theorem dX5_copyByte_37 : decode cX5_copyByte 37 = .ok (.invokevirtual 69, 3) := by decide +kernel
theorem dX5_copyByte_40 : decode cX5_copyByte 40 = .ok (.aload_n 0, 1) := by decide +kernel
theorem dX5_copyByte_41 : decode cX5_copyByte 41 = .ok (.getfield 21, 3) := by decide +kernel
theorem dX5_copyByte_44 : decode cX5_copyByte 44 = .ok (.iconst 3, 1) := by decide +kernel
theorem dX5_copyByte_45 : decode cX5_copyByte 45 = .ok (.iconst 1, 1) := by decide +kernel
theorem dX5_copyByte_46 : decode cX5_copyByte 46 = .ok (.invokevirtual 170, 3) := by decide +kernel
theorem dX5_copyByte_49 : decode cX5_copyByte 49 = .ok (.aload_n 0, 1) := by decide +kernel
theorem dX5_copyByte_50 : decode cX5_copyByte 50 = .ok (.getfield 21, 3) := by decide +kernel
theorem dX5_copyByte_53 : decode cX5_copyByte 53 = .ok (.iconst 2, 1) := by decide +kernel
theorem dX5_copyByte_54 : decode cX5_copyByte 54 = .ok (.iconst 1, 1) := by decide +kernel
theorem dX5_copyByte_55 : decode cX5_copyByte 55 = .ok (.invokevirtual 170, 3) := by decide +kernel
theorem dX5_copyByte_58 : decode cX5_copyByte 58 = .ok (.aload_n 0, 1) := by decide +kernel
theorem dX5_copyByte_59 : decode cX5_copyByte 59 = .ok (.getfield 21, 3) := by decide +kernel
theorem dX5_copyByte_62 : decode cX5_copyByte 62 = .ok (.iconst 1, 1) := by decide +kernel
theorem dX5_copyByte_63 : decode cX5_copyByte 63 = .ok (.iconst (-1), 1) := by decide +kernel
theorem dX5_copyByte_64 : decode cX5_copyByte 64 = .ok (.invokevirtual 170, 3) := by decide +kernel
theorem dX5_copyByte_67 : decode cX5_copyByte 67 = .ok (.aload_n 0, 1) := by decide +kernel
theorem dX5_copyByte_68 : decode cX5_copyByte 68 = .ok (.getfield 21, 3) := by decide +kernel
theorem dX5_copyByte_71 : decode cX5_copyByte 71 = .ok (.iconst 1, 1) := by decide +kernel
theorem dX5_copyByte_72 : decode cX5_copyByte 72 = .ok (.invokevirtual 106, 3) := by decide +kernel
theorem dX5_copyByte_75 : decode cX5_copyByte 75 = .ok (.ifCond .eq 7, 3) := by decide +kernel
theorem dX5_copyByte_78 : decode cX5_copyByte 78 = .ok (.iconst 1, 1) := by decide +kernel
theorem dX5_copyByte_79 : decode cX5_copyByte 79 = .ok (.goto 4, 3) := by decide +kernel
theorem dX5_copyByte_82 : decode cX5_copyByte 82 = .ok (.iconst 0, 1) := by decide +kernel
theorem dX5_copyByte_83 : decode cX5_copyByte 83 = .ok (.istore_n 3, 1) := by decide +kernel
theorem dX5_copyByte_84 : decode cX5_copyByte 84 = .ok (.aload_n 0, 1) := by decide +kernel
theorem dX5_copyByte_85 : decode cX5_copyByte 85 = .ok (.getfield 21, 3) := by decide +kernel
theorem dX5_copyByte_88 : decode cX5_copyByte 88 = .ok (.invokevirtual 291, 3) := by decide +kernel
theorem dX5_copyByte_91 : decode cX5_copyByte 91 = .ok (.sipush 193, 3) := by decide +kernel
theorem dX5_copyByte_94 : decode cX5_copyByte 94 = .ok (.iand, 1) := by decide +kernel
theorem dX5_copyByte_95 : decode cX5_copyByte 95 = .ok (.istore 4, 2) := by decide +kernel
theorem dX5_copyByte_97 : decode cX5_copyByte 97 = .ok (.aload_n 0, 1) := by decide +kernel
theorem dX5_copyByte_98 : decode cX5_copyByte 98 = .ok (.getfield 21, 3) := by decide +kernel
theorem dX5_copyByte_101 : decode cX5_copyByte 101 = .ok (.iload 4, 2) := by decide +kernel
theorem dX5_copyByte_103 : decode cX5_copyByte 103 = .ok (.iload_n 3, 1) := by decide +kernel
theorem dX5_copyByte_104 : decode cX5_copyByte 104 = .ok (.ifCond .eq 7, 3) := by decide +kernel
theorem dX5_copyByte_107 : decode cX5_copyByte 107 = .ok (.iconst 4, 1) := by decide +kernel
theorem dX5_copyByte_108 : decode cX5_copyByte 108 = .ok (.goto 4, 3) := by decide +kernel
theorem dX5_copyByte_111 : decode cX5_copyByte 111 = .ok (.iconst 0, 1) := by decide +kernel
theorem dX5_copyByte_112 : decode cX5_copyByte 112 = .ok (.ior, 1) := by decide +kernel
theorem dX5_copyByte_113 : decode cX5_copyByte 113 = .ok (.invokevirtual 294, 3) := by decide +kernel
theorem dX5_copyByte_116 : decode cX5_copyByte 116 = .ok (.iload_n 1, 1) := by decide +kernel
theorem dX5_copyByte_117 : decode cX5_copyByte 117 = .ok (.ifCond .eq 26, 3) := by decide +kernel
theorem dX5_copyByte_120 : decode cX5_copyByte 120 = .ok (.iload_n 3, 1) := by decide +kernel
theorem dX5_copyByte_121 : decode cX5_copyByte 121 = .ok (.ifCond .eq 22, 3) := by decide +kernel
theorem dX5_copyByte_124 : decode cX5_copyByte 124 = .ok (.aload_n 0, 1) := by decide +kernel
theorem dX5_copyByte_125 : decode cX5_copyByte 125 = .ok (.getfield 7, 3) := by decide +kernel
theorem dX5_copyByte_128 : decode cX5_copyByte 128 = .ok (.iconst 5, 1) := by decide +kernel
theorem dX5_copyByte_129 : decode cX5_copyByte 129 = .ok (.invokevirtual 69, 3) := by decide +kernel
theorem dX5_copyByte_132 : decode cX5_copyByte 132 = .ok (.aload_n 0, 1) := by decide +kernel
theorem dX5_copyByte_133 : decode cX5_copyByte 133 = .ok (.getfield 21, 3) := by decide +kernel
theorem dX5_copyByte_136 : decode cX5_copyByte 136 = .ok (.bipush 9, 2) := by decide +kernel
theorem dX5_copyByte_138 : decode cX5_copyByte 138 = .ok (.bipush (-2), 2) := by decide +kernel
theorem dX5_copyByte_140 : decode cX5_copyByte 140 = .ok (.invokevirtual 170, 3) := by decide +kernel
theorem dX5_copyByte_143 : decode cX5_copyByte 143 = .ok (.return_, 1) := by decide +kernel
def fX5_copyByte (p1 : Int32) (s0 : zS) : Option (zS) := bd2 (fX6_pair (3 : Int32) s0) fun r2 s3 => bd2 (fX2_read r2 s3) fun r5 s6 => bd2 (fX6_pair (2 : Int32) s6) fun r8 s9 => bd (fX2_write r8 r5 s9) fun s11 => bd (fX1_pass (2 : Int32) s11) fun s13 => bd (fX6_move (3 : Int32) (1 : Int32) s13) fun s15 => bd (fX6_move (2 : Int32) (1 : Int32) s15) fun s17 => bd (fX6_move (1 : Int32) (-1 : Int32) s17) fun s19 => bd2 (fX6_pair (1 : Int32) s19) fun r21 s22 => bd (if r21 = (0 : Int32) then (some (0 : Int32)) else (some (1 : Int32))) fun x25 => bd2 (fX6_flags  s22) fun r28 s29 => nm (r28 &&& (193 : Int32)) fun x30 => bd (if x25 = (0 : Int32) then (some (0 : Int32)) else (some (4 : Int32))) fun x33 => bd (fX6_loadFlags (x30 ||| x33) s29) fun s36 => if p1 = (0 : Int32) then (some s36) else (if x25 = (0 : Int32) then (some s36) else (bd (fX1_pass (5 : Int32) s36) fun s40 => bd (fX6_move (9 : Int32) (-2 : Int32) s40) fun s42 => some s42))
set_option maxHeartbeats 4000000 in
set_option maxRecDepth 100000 in
theorem cX5_copyByte_m {l : Launch} {dC : Nat → ClassId} {dI : Nat → Nat → Nat} {ad : Nat → Nat} {cI : ClassId} {p1 : Int32} {s0 : zS} {zs : zS} (h : fX5_copyByte p1 s0 = some zs) : sw_Mv l yX5_copyByte (sw_ws yX5_copyByte cX5_copyByte 5 none) (sw_rm 2 45) (dC, dI) vwCl [(cI, .int)] cF [.ref (ad 5), .int p1] (cW ad cI s0) (cW ad cI zs) := by
  intro sz
  refine sw_of (cc := cX5_copyByte) (maxL := 5) (ret := none) (by decide) rfl (Nat.le_of_ble_eq_true rfl) ?_
  intro p e s m args below meth c A ls hAe hsz X _ hP hD hS hl
  rw [hAe]
  have hx := X.1.1
  have hb := X.1.2.1
  have hown := X.1.2.2.2.1
  have hts := X.1.2.2.2.2
  replace hl : lv_has ls 5 [(0, .ref (ad 5)), (1, .int p1)] := hl
  unfold fX5_copyByte at h
  refine lv_aload_n hx hb dX5_copyByte_0 rfl (lv_at hl 0 rfl) ?_
  refine cg_5_1 X hP k_140 dX5_copyByte_1 ?_
  refine lv_aload_n hx hb dX5_copyByte_4 rfl (lv_at hl 0 rfl) ?_
  refine cg_5_3 X hP k_142 dX5_copyByte_5 ?_
  refine lv_iconst (v := (3 : Int32)) hx hb dX5_copyByte_8 (by decide) ?_
  have hq := bd2_some h; clear h; obtain ⟨r2, s3, h1, h⟩ := hq
  refine sw_vi (rest := [.ref (ad 2)]) c_good X (cX6_pair_m h1) calX6_pair k_385 hP hD hS 4 6 rfl rfl rfl ⟨rfl, rfl⟩ rfl hl.1 rfl (Nat.le_of_ble_eq_true rfl) dX5_copyByte_9 (fun H locs hP hD hS => ?_)
  have hq := bd2_some h; clear h; obtain ⟨r5, s6, h4, h⟩ := hq
  refine sw_vi (rest := []) c_good X (cX2_read_m h4) calX2_read k_519 hP hD hS 2 2 rfl rfl rfl ⟨rfl, rfl⟩ rfl hl.1 rfl (Nat.le_of_ble_eq_true rfl) dX5_copyByte_12 (fun H locs hP hD hS => ?_)
  refine lv_istore_n (lv' := [(2, .int r5), (0, .ref (ad 5)), (1, .int p1)]) hx hb dX5_copyByte_15 rfl hl (by decide) rfl (fun ls hl => ?_)
  refine lv_aload_n hx hb dX5_copyByte_16 rfl (lv_at hl 1 rfl) ?_
  refine cg_5_1 X hP k_140 dX5_copyByte_17 ?_
  refine lv_aload_n hx hb dX5_copyByte_20 rfl (lv_at hl 1 rfl) ?_
  refine cg_5_3 X hP k_142 dX5_copyByte_21 ?_
  refine lv_iconst (v := (2 : Int32)) hx hb dX5_copyByte_24 (by decide) ?_
  have hq := bd2_some h; clear h; obtain ⟨r8, s9, h7, h⟩ := hq
  refine sw_vi (rest := [.ref (ad 2)]) c_good X (cX6_pair_m h7) calX6_pair k_385 hP hD hS 4 6 rfl rfl rfl ⟨rfl, rfl⟩ rfl hl.1 rfl (Nat.le_of_ble_eq_true rfl) dX5_copyByte_25 (fun H locs hP hD hS => ?_)
  refine lv_iload_n hx hb dX5_copyByte_28 rfl (lv_at hl 0 rfl) ?_
  have hq := bd_some h; clear h; obtain ⟨s11, h10, h⟩ := hq
  refine sw_vv (rest := []) c_good X (cX2_write_m h10) calX2_write k_514 hP hD hS 2 2 rfl rfl rfl ⟨rfl, rfl⟩ rfl hl.1 rfl (Nat.le_of_ble_eq_true rfl) dX5_copyByte_29 (fun H locs hP hD hS => ?_)
  refine lv_aload_n hx hb dX5_copyByte_32 rfl (lv_at hl 1 rfl) ?_
  refine cg_5_0 X hP k_139 dX5_copyByte_33 ?_
  refine lv_iconst (v := (2 : Int32)) hx hb dX5_copyByte_36 (by decide) ?_
  have hq := bd_some h; clear h; obtain ⟨s13, h12, h⟩ := hq
  refine sw_vv (rest := []) c_good X (cX1_pass_m h12) calX1_pass k_381 hP hD hS 1 1 rfl rfl rfl ⟨rfl, rfl⟩ rfl hl.1 rfl (Nat.le_of_ble_eq_true rfl) dX5_copyByte_37 (fun H locs hP hD hS => ?_)
  refine lv_aload_n hx hb dX5_copyByte_40 rfl (lv_at hl 1 rfl) ?_
  refine cg_5_3 X hP k_142 dX5_copyByte_41 ?_
  refine lv_iconst (v := (3 : Int32)) hx hb dX5_copyByte_44 (by decide) ?_
  refine lv_iconst (v := (1 : Int32)) hx hb dX5_copyByte_45 (by decide) ?_
  have hq := bd_some h; clear h; obtain ⟨s15, h14, h⟩ := hq
  refine sw_vv (rest := []) c_good X (cX6_move_m h14) calX6_move k_473 hP hD hS 4 6 rfl rfl rfl ⟨rfl, rfl⟩ rfl hl.1 rfl (Nat.le_of_ble_eq_true rfl) dX5_copyByte_46 (fun H locs hP hD hS => ?_)
  refine lv_aload_n hx hb dX5_copyByte_49 rfl (lv_at hl 1 rfl) ?_
  refine cg_5_3 X hP k_142 dX5_copyByte_50 ?_
  refine lv_iconst (v := (2 : Int32)) hx hb dX5_copyByte_53 (by decide) ?_
  refine lv_iconst (v := (1 : Int32)) hx hb dX5_copyByte_54 (by decide) ?_
  have hq := bd_some h; clear h; obtain ⟨s17, h16, h⟩ := hq
  refine sw_vv (rest := []) c_good X (cX6_move_m h16) calX6_move k_473 hP hD hS 4 6 rfl rfl rfl ⟨rfl, rfl⟩ rfl hl.1 rfl (Nat.le_of_ble_eq_true rfl) dX5_copyByte_55 (fun H locs hP hD hS => ?_)
  refine lv_aload_n hx hb dX5_copyByte_58 rfl (lv_at hl 1 rfl) ?_
  refine cg_5_3 X hP k_142 dX5_copyByte_59 ?_
  refine lv_iconst (v := (1 : Int32)) hx hb dX5_copyByte_62 (by decide) ?_
  refine lv_iconst (v := (-1 : Int32)) hx hb dX5_copyByte_63 (by decide) ?_
  have hq := bd_some h; clear h; obtain ⟨s19, h18, h⟩ := hq
  refine sw_vv (rest := []) c_good X (cX6_move_m h18) calX6_move k_473 hP hD hS 4 6 rfl rfl rfl ⟨rfl, rfl⟩ rfl hl.1 rfl (Nat.le_of_ble_eq_true rfl) dX5_copyByte_64 (fun H locs hP hD hS => ?_)
  refine lv_aload_n hx hb dX5_copyByte_67 rfl (lv_at hl 1 rfl) ?_
  refine cg_5_3 X hP k_142 dX5_copyByte_68 ?_
  refine lv_iconst (v := (1 : Int32)) hx hb dX5_copyByte_71 (by decide) ?_
  have hq := bd2_some h; clear h; obtain ⟨r21, s22, h20, h⟩ := hq
  refine sw_vi (rest := []) c_good X (cX6_pair_m h20) calX6_pair k_385 hP hD hS 4 6 rfl rfl rfl ⟨rfl, rfl⟩ rfl hl.1 rfl (Nat.le_of_ble_eq_true rfl) dX5_copyByte_72 (fun H locs hP hD hS => ?_)
  have hq := bd_some h; clear h; obtain ⟨x25, h26, h⟩ := hq
  have K23 : ∀ (H : Heap) (locs : List Loc), va_P (dC, dI) vwCl (cW ad cI s22) H → va_D A (cW ad cI s22) → va_S A s.heap H locs → W p l e (sw_rm 2 45) s m args below meth c H locs 0 0 (MQ below (sw_Qv (dC, dI) vwCl [(cI, .int)] A (cW ad cI zs)) args s 0 0 A) (F0 m 83 ls [.int x25]) := by
    intro H locs hP hD hS
    refine lv_istore_n (lv' := [(3, .int x25), (2, .int r5), (0, .ref (ad 5)), (1, .int p1)]) hx hb dX5_copyByte_83 rfl hl (by decide) rfl (fun ls hl => ?_)
    refine lv_aload_n hx hb dX5_copyByte_84 rfl (lv_at hl 2 rfl) ?_
    refine cg_5_3 X hP k_142 dX5_copyByte_85 ?_
    have hq := bd2_some h; clear h; obtain ⟨r28, s29, h27, h⟩ := hq
    refine sw_vi (rest := []) c_good X (cX6_flags_m h27) calX6_flags k_702 hP hD hS 4 6 rfl rfl rfl ⟨rfl, rfl⟩ rfl hl.1 rfl (Nat.le_of_ble_eq_true rfl) dX5_copyByte_88 (fun H locs hP hD hS => ?_)
    refine lv_sipush (v := (193 : Int32)) hx hb dX5_copyByte_91 (by decide) ?_
    refine lv_iand hx hb dX5_copyByte_94 ?_
    refine lv_topi (fun x30 ex30 => ?_)
    replace h := nm_use ex30 h
    refine lv_istore (lv' := [(4, .int x30), (3, .int x25), (2, .int r5), (0, .ref (ad 5)), (1, .int p1)]) hx hb dX5_copyByte_95 hl (by decide) rfl (fun ls hl => ?_)
    refine lv_aload_n hx hb dX5_copyByte_97 rfl (lv_at hl 3 rfl) ?_
    refine cg_5_3 X hP k_142 dX5_copyByte_98 ?_
    refine lv_iload hx hb dX5_copyByte_101 (lv_at hl 0 rfl) ?_
    refine lv_iload_n hx hb dX5_copyByte_103 rfl (lv_at hl 1 rfl) ?_
    have hq := bd_some h; clear h; obtain ⟨x33, h34, h⟩ := hq
    have K31 : ∀ (H : Heap) (locs : List Loc), va_P (dC, dI) vwCl (cW ad cI s29) H → va_D A (cW ad cI s29) → va_S A s.heap H locs → W p l e (sw_rm 2 45) s m args below meth c H locs 0 0 (MQ below (sw_Qv (dC, dI) vwCl [(cI, .int)] A (cW ad cI zs)) args s 0 0 A) (F0 m 112 ls [.int x33, .int x30, .ref (ad 4)]) := by
      intro H locs hP hD hS
      refine lv_ior hx hb dX5_copyByte_112 ?_
      have hq := bd_some h; clear h; obtain ⟨s36, h35, h⟩ := hq
      refine sw_vv (rest := []) c_good X (cX6_loadFlags_m h35) calX6_loadFlags k_703 hP hD hS 4 6 rfl rfl rfl ⟨rfl, rfl⟩ rfl hl.1 rfl (Nat.le_of_ble_eq_true rfl) dX5_copyByte_113 (fun H locs hP hD hS => ?_)
      refine lv_iload_n hx hb dX5_copyByte_116 rfl (lv_at hl 4 rfl) ?_
      refine lv_if_eq (tgt := 143) hx hb dX5_copyByte_117 (by decide) (fun c37 => ?_) (fun c37 => ?_)
      · replace h := if_yes h c37
        obtain rfl := Option.some.inj h
        exact sw_vret X hP hD hS dX5_copyByte_143
      · replace h := if_no h c37
        refine lv_iload_n hx hb dX5_copyByte_120 rfl (lv_at hl 1 rfl) ?_
        refine lv_if_eq (tgt := 143) hx hb dX5_copyByte_121 (by decide) (fun c38 => ?_) (fun c38 => ?_)
        · replace h := if_yes h c38
          obtain rfl := Option.some.inj h
          exact sw_vret X hP hD hS dX5_copyByte_143
        · replace h := if_no h c38
          refine lv_aload_n hx hb dX5_copyByte_124 rfl (lv_at hl 3 rfl) ?_
          refine cg_5_0 X hP k_139 dX5_copyByte_125 ?_
          refine lv_iconst (v := (5 : Int32)) hx hb dX5_copyByte_128 (by decide) ?_
          have hq := bd_some h; clear h; obtain ⟨s40, h39, h⟩ := hq
          refine sw_vv (rest := []) c_good X (cX1_pass_m h39) calX1_pass k_381 hP hD hS 1 1 rfl rfl rfl ⟨rfl, rfl⟩ rfl hl.1 rfl (Nat.le_of_ble_eq_true rfl) dX5_copyByte_129 (fun H locs hP hD hS => ?_)
          refine lv_aload_n hx hb dX5_copyByte_132 rfl (lv_at hl 3 rfl) ?_
          refine cg_5_3 X hP k_142 dX5_copyByte_133 ?_
          refine lv_bipush (v := (9 : Int32)) hx hb dX5_copyByte_136 (by decide) ?_
          refine lv_bipush (v := (-2 : Int32)) hx hb dX5_copyByte_138 (by decide) ?_
          have hq := bd_some h; clear h; obtain ⟨s42, h41, h⟩ := hq
          refine sw_vv (rest := []) c_good X (cX6_move_m h41) calX6_move k_473 hP hD hS 4 6 rfl rfl rfl ⟨rfl, rfl⟩ rfl hl.1 rfl (Nat.le_of_ble_eq_true rfl) dX5_copyByte_140 (fun H locs hP hD hS => ?_)
          obtain rfl := Option.some.inj h
          exact sw_vret X hP hD hS dX5_copyByte_143
    replace h := h34
    clear h34
    refine lv_if_eq (tgt := 111) hx hb dX5_copyByte_104 (by decide) (fun c32 => ?_) (fun c32 => ?_)
    · replace h := if_yes h c32
      refine lv_iconst (v := (0 : Int32)) hx hb dX5_copyByte_111 (by decide) ?_
      obtain rfl := Option.some.inj h
      exact K31 _ _ hP hD hS
    · replace h := if_no h c32
      refine lv_iconst (v := (4 : Int32)) hx hb dX5_copyByte_107 (by decide) ?_
      refine lv_goto (tgt := 112) hx hb dX5_copyByte_108 (by decide) ?_
      obtain rfl := Option.some.inj h
      exact K31 _ _ hP hD hS
  replace h := h26
  clear h26
  refine lv_if_eq (tgt := 82) hx hb dX5_copyByte_75 (by decide) (fun c24 => ?_) (fun c24 => ?_)
  · replace h := if_yes h c24
    refine lv_iconst (v := (0 : Int32)) hx hb dX5_copyByte_82 (by decide) ?_
    obtain rfl := Option.some.inj h
    exact K23 _ _ hP hD hS
  · replace h := if_no h c24
    refine lv_iconst (v := (1 : Int32)) hx hb dX5_copyByte_78 (by decide) ?_
    refine lv_goto (tgt := 83) hx hb dX5_copyByte_79 (by decide) ?_
    obtain rfl := Option.some.inj h
    exact K23 _ _ hP hD hS
theorem dX5_calculateWithHl_0 : decode cX5_calculateWithHl 0 = .ok (.aload_n 0, 1) := by decide +kernel
theorem dX5_calculateWithHl_1 : decode cX5_calculateWithHl 1 = .ok (.getfield 7, 3) := by decide +kernel
theorem dX5_calculateWithHl_4 : decode cX5_calculateWithHl 4 = .ok (.bipush 7, 2) := by decide +kernel
theorem dX5_calculateWithHl_6 : decode cX5_calculateWithHl 6 = .ok (.invokevirtual 69, 3) := by decide +kernel
theorem dX5_calculateWithHl_9 : decode cX5_calculateWithHl 9 = .ok (.aload_n 0, 1) := by decide +kernel
theorem dX5_calculateWithHl_10 : decode cX5_calculateWithHl 10 = .ok (.getfield 21, 3) := by decide +kernel
theorem dX5_calculateWithHl_13 : decode cX5_calculateWithHl 13 = .ok (.iload_n 1, 1) := by decide +kernel
theorem dX5_calculateWithHl_14 : decode cX5_calculateWithHl 14 = .ok (.iconst 1, 1) := by decide +kernel
theorem dX5_calculateWithHl_15 : decode cX5_calculateWithHl 15 = .ok (.ishr, 1) := by decide +kernel
theorem dX5_calculateWithHl_16 : decode cX5_calculateWithHl 16 = .ok (.invokestatic 173, 3) := by decide +kernel
theorem dX5_calculateWithHl_19 : decode cX5_calculateWithHl 19 = .ok (.invokevirtual 106, 3) := by decide +kernel
theorem dX5_calculateWithHl_22 : decode cX5_calculateWithHl 22 = .ok (.istore_n 2, 1) := by decide +kernel
theorem dX5_calculateWithHl_23 : decode cX5_calculateWithHl 23 = .ok (.iload_n 1, 1) := by decide +kernel
theorem dX5_calculateWithHl_24 : decode cX5_calculateWithHl 24 = .ok (.iconst 1, 1) := by decide +kernel
theorem dX5_calculateWithHl_25 : decode cX5_calculateWithHl 25 = .ok (.iand, 1) := by decide +kernel
theorem dX5_calculateWithHl_26 : decode cX5_calculateWithHl 26 = .ok (.ifCond .ne 14, 3) := by decide +kernel
theorem dX5_calculateWithHl_29 : decode cX5_calculateWithHl 29 = .ok (.aload_n 0, 1) := by decide +kernel
theorem dX5_calculateWithHl_30 : decode cX5_calculateWithHl 30 = .ok (.getfield 30, 3) := by decide +kernel
theorem dX5_calculateWithHl_33 : decode cX5_calculateWithHl 33 = .ok (.iload_n 2, 1) := by decide +kernel
theorem dX5_calculateWithHl_34 : decode cX5_calculateWithHl 34 = .ok (.invokevirtual 285, 3) := by decide +kernel
theorem dX5_calculateWithHl_37 : decode cX5_calculateWithHl 37 = .ok (.goto 11, 3) := by decide +kernel
theorem dX5_calculateWithHl_40 : decode cX5_calculateWithHl 40 = .ok (.aload_n 0, 1) := by decide +kernel
theorem dX5_calculateWithHl_41 : decode cX5_calculateWithHl 41 = .ok (.getfield 30, 3) := by decide +kernel
theorem dX5_calculateWithHl_44 : decode cX5_calculateWithHl 44 = .ok (.iload_n 2, 1) := by decide +kernel
theorem dX5_calculateWithHl_45 : decode cX5_calculateWithHl 45 = .ok (.invokevirtual 288, 3) := by decide +kernel
theorem dX5_calculateWithHl_48 : decode cX5_calculateWithHl 48 = .ok (.return_, 1) := by decide +kernel
def fX5_calculateWithHl (p1 : Int32) (s0 : zS) : Option (zS) := bd (fX1_pass (7 : Int32) s0) fun s2 => bd (fX3_pairOf (p1 >>> ((1 : Int32) &&& 31))) fun r4 => bd2 (fX6_pair r4 s2) fun r6 s7 => if (p1 &&& (1 : Int32)) = (0 : Int32) then (bd (fX0_takeFromHlWithCarry r6 s7) fun s12 => some s12) else (bd (fX0_addToHlWithCarry r6 s7) fun s10 => some s10)
set_option maxHeartbeats 4000000 in
set_option maxRecDepth 100000 in
theorem cX5_calculateWithHl_m {l : Launch} {dC : Nat → ClassId} {dI : Nat → Nat → Nat} {ad : Nat → Nat} {cI : ClassId} {p1 : Int32} {s0 : zS} {zs : zS} (h : fX5_calculateWithHl p1 s0 = some zs) : sw_Mv l yX5_calculateWithHl (sw_ws yX5_calculateWithHl cX5_calculateWithHl 3 none) (sw_rm 2 48) (dC, dI) vwCl [(cI, .int)] cF [.ref (ad 5), .int p1] (cW ad cI s0) (cW ad cI zs) := by
  intro sz
  refine sw_of (cc := cX5_calculateWithHl) (maxL := 3) (ret := none) (by decide) rfl (Nat.le_of_ble_eq_true rfl) ?_
  intro p e s m args below meth c A ls hAe hsz X _ hP hD hS hl
  rw [hAe]
  have hx := X.1.1
  have hb := X.1.2.1
  have hown := X.1.2.2.2.1
  have hts := X.1.2.2.2.2
  replace hl : lv_has ls 3 [(0, .ref (ad 5)), (1, .int p1)] := hl
  unfold fX5_calculateWithHl at h
  refine lv_aload_n hx hb dX5_calculateWithHl_0 rfl (lv_at hl 0 rfl) ?_
  refine cg_5_0 X hP k_139 dX5_calculateWithHl_1 ?_
  refine lv_bipush (v := (7 : Int32)) hx hb dX5_calculateWithHl_4 (by decide) ?_
  have hq := bd_some h; clear h; obtain ⟨s2, h1, h⟩ := hq
  refine sw_vv (rest := []) c_good X (cX1_pass_m h1) calX1_pass k_381 hP hD hS 1 1 rfl rfl rfl ⟨rfl, rfl⟩ rfl hl.1 rfl (Nat.le_of_ble_eq_true rfl) dX5_calculateWithHl_6 (fun H locs hP hD hS => ?_)
  refine lv_aload_n hx hb dX5_calculateWithHl_9 rfl (lv_at hl 0 rfl) ?_
  refine cg_5_3 X hP k_142 dX5_calculateWithHl_10 ?_
  refine lv_iload_n hx hb dX5_calculateWithHl_13 rfl (lv_at hl 1 rfl) ?_
  refine lv_iconst (v := (1 : Int32)) hx hb dX5_calculateWithHl_14 (by decide) ?_
  refine lv_ishr hx hb dX5_calculateWithHl_15 ?_
  have hq := bd_some h; clear h; obtain ⟨r4, h3, h⟩ := hq
  refine sw_si (rest := [.ref (ad 4)]) c_good X (cX3_pairOf_m h3) calX3_pairOf k_488 hP hD hS ⟨rfl, rfl⟩ rfl hl.1 rfl (Nat.le_of_ble_eq_true rfl) dX5_calculateWithHl_16 (fun H locs hP hD hS => ?_)
  have hq := bd2_some h; clear h; obtain ⟨r6, s7, h5, h⟩ := hq
  refine sw_vi (rest := []) c_good X (cX6_pair_m h5) calX6_pair k_385 hP hD hS 4 6 rfl rfl rfl ⟨rfl, rfl⟩ rfl hl.1 rfl (Nat.le_of_ble_eq_true rfl) dX5_calculateWithHl_19 (fun H locs hP hD hS => ?_)
  refine lv_istore_n (lv' := [(2, .int r6), (0, .ref (ad 5)), (1, .int p1)]) hx hb dX5_calculateWithHl_22 rfl hl (by decide) rfl (fun ls hl => ?_)
  refine lv_iload_n hx hb dX5_calculateWithHl_23 rfl (lv_at hl 2 rfl) ?_
  refine lv_iconst (v := (1 : Int32)) hx hb dX5_calculateWithHl_24 (by decide) ?_
  refine lv_iand hx hb dX5_calculateWithHl_25 ?_
  refine lv_if_ne (tgt := 40) hx hb dX5_calculateWithHl_26 (by decide) (fun c8 => ?_) (fun c8 => ?_)
  · replace h := if_no h c8
    refine lv_aload_n hx hb dX5_calculateWithHl_40 rfl (lv_at hl 1 rfl) ?_
    refine cg_5_4 X hP k_143 dX5_calculateWithHl_41 ?_
    refine lv_iload_n hx hb dX5_calculateWithHl_44 rfl (lv_at hl 0 rfl) ?_
    have hq := bd_some h; clear h; obtain ⟨s10, h9, h⟩ := hq
    refine sw_vv (rest := []) c_good X (cX0_addToHlWithCarry_m h9) calX0_addToHlWithCarry k_717 hP hD hS 6 0 rfl rfl rfl ⟨rfl, rfl⟩ rfl hl.1 rfl (Nat.le_of_ble_eq_true rfl) dX5_calculateWithHl_45 (fun H locs hP hD hS => ?_)
    obtain rfl := Option.some.inj h
    exact sw_vret X hP hD hS dX5_calculateWithHl_48
  · replace h := if_yes h c8
    refine lv_aload_n hx hb dX5_calculateWithHl_29 rfl (lv_at hl 1 rfl) ?_
    refine cg_5_4 X hP k_143 dX5_calculateWithHl_30 ?_
    refine lv_iload_n hx hb dX5_calculateWithHl_33 rfl (lv_at hl 0 rfl) ?_
    have hq := bd_some h; clear h; obtain ⟨s12, h11, h⟩ := hq
    refine sw_vv (rest := []) c_good X (cX0_takeFromHlWithCarry_m h11) calX0_takeFromHlWithCarry k_708 hP hD hS 6 0 rfl rfl rfl ⟨rfl, rfl⟩ rfl hl.1 rfl (Nat.le_of_ble_eq_true rfl) dX5_calculateWithHl_34 (fun H locs hP hD hS => ?_)
    refine lv_goto (tgt := 48) hx hb dX5_calculateWithHl_37 (by decide) ?_
    obtain rfl := Option.some.inj h
    exact sw_vret X hP hD hS dX5_calculateWithHl_48
theorem dX5_executeMore_0 : decode cX5_executeMore 0 = .ok (.iload_n 1, 1) := by decide +kernel
theorem dX5_executeMore_1 : decode cX5_executeMore 1 = .ok (.lookupswitch 61 #[(68, 35), (160, 45), (176, 53)], 35) := by decide +kernel
theorem dX5_executeMore_36 : decode cX5_executeMore 36 = .ok (.aload_n 0, 1) := by decide +kernel
theorem dX5_executeMore_37 : decode cX5_executeMore 37 = .ok (.getfield 30, 3) := by decide +kernel
theorem dX5_executeMore_40 : decode cX5_executeMore 40 = .ok (.invokevirtual 276, 3) := by decide +kernel
theorem dX5_executeMore_43 : decode cX5_executeMore 43 = .ok (.goto 29, 3) := by decide +kernel
theorem dX5_executeMore_46 : decode cX5_executeMore 46 = .ok (.aload_n 0, 1) := by decide +kernel
theorem dX5_executeMore_47 : decode cX5_executeMore 47 = .ok (.iconst 0, 1) := by decide +kernel
theorem dX5_executeMore_48 : decode cX5_executeMore 48 = .ok (.invokevirtual 279, 3) := by decide +kernel
theorem dX5_executeMore_51 : decode cX5_executeMore 51 = .ok (.goto 21, 3) := by decide +kernel
theorem dX5_executeMore_54 : decode cX5_executeMore 54 = .ok (.aload_n 0, 1) := by decide +kernel
theorem dX5_executeMore_55 : decode cX5_executeMore 55 = .ok (.iconst 1, 1) := by decide +kernel
theorem dX5_executeMore_56 : decode cX5_executeMore 56 = .ok (.invokevirtual 279, 3) := by decide +kernel
theorem dX5_executeMore_59 : decode cX5_executeMore 59 = .ok (.goto 13, 3) := by decide +kernel
theorem dX5_executeMore_62 : decode cX5_executeMore 62 = .ok (.aload_n 0, 1) := by decide +kernel
theorem dX5_executeMore_63 : decode cX5_executeMore 63 = .ok (.iload_n 1, 1) := by decide +kernel
theorem dX5_executeMore_64 : decode cX5_executeMore 64 = .ok (.iconst 3, 1) := by decide +kernel
theorem dX5_executeMore_65 : decode cX5_executeMore 65 = .ok (.ishr, 1) := by decide +kernel
theorem dX5_executeMore_66 : decode cX5_executeMore 66 = .ok (.bipush 7, 2) := by decide +kernel
theorem dX5_executeMore_68 : decode cX5_executeMore 68 = .ok (.iand, 1) := by decide +kernel
theorem dX5_executeMore_69 : decode cX5_executeMore 69 = .ok (.invokevirtual 282, 3) := by decide +kernel
theorem dX5_executeMore_72 : decode cX5_executeMore 72 = .ok (.return_, 1) := by decide +kernel
def fX5_executeMore (p1 : Int32) (s0 : zS) : Option (zS) := if p1 ∈ ([(68 : Int32)] : List Int32) then (bd (fX0_negate  s0) fun s3 => some s3) else if p1 ∈ ([(160 : Int32)] : List Int32) then (bd (fX5_copyByte (0 : Int32) s0) fun s6 => some s6) else if p1 ∈ ([(176 : Int32)] : List Int32) then (bd (fX5_copyByte (1 : Int32) s0) fun s9 => some s9) else (bd (fX5_calculateWithHl ((p1 >>> ((3 : Int32) &&& 31)) &&& (7 : Int32)) s0) fun s11 => some s11)
set_option maxHeartbeats 4000000 in
set_option maxRecDepth 100000 in
theorem cX5_executeMore_m {l : Launch} {dC : Nat → ClassId} {dI : Nat → Nat → Nat} {ad : Nat → Nat} {cI : ClassId} {p1 : Int32} {s0 : zS} {zs : zS} (h : fX5_executeMore p1 s0 = some zs) : sw_Mv l yX5_executeMore (sw_ws yX5_executeMore cX5_executeMore 2 none) (sw_rm 3 70) (dC, dI) vwCl [(cI, .int)] cF [.ref (ad 5), .int p1] (cW ad cI s0) (cW ad cI zs) := by
  intro sz
  refine sw_of (cc := cX5_executeMore) (maxL := 2) (ret := none) (by decide) rfl (Nat.le_of_ble_eq_true rfl) ?_
  intro p e s m args below meth c A ls hAe hsz X _ hP hD hS hl
  rw [hAe]
  have hx := X.1.1
  have hb := X.1.2.1
  have hown := X.1.2.2.2.1
  have hts := X.1.2.2.2.2
  replace hl : lv_has ls 2 [(0, .ref (ad 5)), (1, .int p1)] := hl
  unfold fX5_executeMore at h
  refine lv_iload_n hx hb dX5_executeMore_0 rfl (lv_at hl 1 rfl) ?_
  by_cases c1 : p1 ∈ ([(68 : Int32)] : List Int32)
  · replace h := if_yes h c1
    refine sw_lkK (tgt := 36) (off := 35) hx hb dX5_executeMore_1 (by decide) _ c1 (by decide +kernel) (by decide) ?_
    refine lv_aload_n hx hb dX5_executeMore_36 rfl (lv_at hl 0 rfl) ?_
    refine cg_5_4 X hP k_143 dX5_executeMore_37 ?_
    have hq := bd_some h; clear h; obtain ⟨s3, h2, h⟩ := hq
    refine sw_vv (rest := []) c_good X (cX0_negate_m h2) calX0_negate k_694 hP hD hS 6 0 rfl rfl rfl ⟨rfl, rfl⟩ rfl hl.1 rfl (Nat.le_of_ble_eq_true rfl) dX5_executeMore_40 (fun H locs hP hD hS => ?_)
    refine lv_goto (tgt := 72) hx hb dX5_executeMore_43 (by decide) ?_
    obtain rfl := Option.some.inj h
    exact sw_vret X hP hD hS dX5_executeMore_72
  · replace h := if_no h c1
    by_cases c4 : p1 ∈ ([(160 : Int32)] : List Int32)
    · replace h := if_yes h c4
      refine sw_lkK (tgt := 46) (off := 45) hx hb dX5_executeMore_1 (by decide) _ c4 (by decide +kernel) (by decide) ?_
      refine lv_aload_n hx hb dX5_executeMore_46 rfl (lv_at hl 0 rfl) ?_
      refine lv_iconst (v := (0 : Int32)) hx hb dX5_executeMore_47 (by decide) ?_
      have hq := bd_some h; clear h; obtain ⟨s6, h5, h⟩ := hq
      refine sw_vv (rest := []) c_good X (cX5_copyByte_m h5) calX5_copyByte k_698 hP hD hS 5 5 rfl rfl rfl ⟨rfl, rfl⟩ rfl hl.1 rfl (Nat.le_of_ble_eq_true rfl) dX5_executeMore_48 (fun H locs hP hD hS => ?_)
      refine lv_goto (tgt := 72) hx hb dX5_executeMore_51 (by decide) ?_
      obtain rfl := Option.some.inj h
      exact sw_vret X hP hD hS dX5_executeMore_72
    · replace h := if_no h c4
      by_cases c7 : p1 ∈ ([(176 : Int32)] : List Int32)
      · replace h := if_yes h c7
        refine sw_lkK (tgt := 54) (off := 53) hx hb dX5_executeMore_1 (by decide) _ c7 (by decide +kernel) (by decide) ?_
        refine lv_aload_n hx hb dX5_executeMore_54 rfl (lv_at hl 0 rfl) ?_
        refine lv_iconst (v := (1 : Int32)) hx hb dX5_executeMore_55 (by decide) ?_
        have hq := bd_some h; clear h; obtain ⟨s9, h8, h⟩ := hq
        refine sw_vv (rest := []) c_good X (cX5_copyByte_m h8) calX5_copyByte k_698 hP hD hS 5 5 rfl rfl rfl ⟨rfl, rfl⟩ rfl hl.1 rfl (Nat.le_of_ble_eq_true rfl) dX5_executeMore_56 (fun H locs hP hD hS => ?_)
        refine lv_goto (tgt := 72) hx hb dX5_executeMore_59 (by decide) ?_
        obtain rfl := Option.some.inj h
        exact sw_vret X hP hD hS dX5_executeMore_72
      · replace h := if_no h c7
        refine sw_lkD (tgt := 62) hx hb dX5_executeMore_1 (by decide) (([(68 : Int32)] : List Int32) ++ (([(160 : Int32)] : List Int32) ++ ([(176 : Int32)] : List Int32))) (fun hm => (List.mem_append.mp hm).elim c1 (fun hm => (List.mem_append.mp hm).elim c4 c7)) (by decide +kernel) (by decide) ?_
        refine lv_aload_n hx hb dX5_executeMore_62 rfl (lv_at hl 0 rfl) ?_
        refine lv_iload_n hx hb dX5_executeMore_63 rfl (lv_at hl 1 rfl) ?_
        refine lv_iconst (v := (3 : Int32)) hx hb dX5_executeMore_64 (by decide) ?_
        refine lv_ishr hx hb dX5_executeMore_65 ?_
        refine lv_bipush (v := (7 : Int32)) hx hb dX5_executeMore_66 (by decide) ?_
        refine lv_iand hx hb dX5_executeMore_68 ?_
        have hq := bd_some h; clear h; obtain ⟨s11, h10, h⟩ := hq
        refine sw_vv (rest := []) c_good X (cX5_calculateWithHl_m h10) calX5_calculateWithHl k_704 hP hD hS 5 5 rfl rfl rfl ⟨rfl, rfl⟩ rfl hl.1 rfl (Nat.le_of_ble_eq_true rfl) dX5_executeMore_69 (fun H locs hP hD hS => ?_)
        obtain rfl := Option.some.inj h
        exact sw_vret X hP hD hS dX5_executeMore_72
theorem dX5_loadStackFromHl_0 : decode cX5_loadStackFromHl 0 = .ok (.aload_n 0, 1) := by decide +kernel
theorem dX5_loadStackFromHl_1 : decode cX5_loadStackFromHl 1 = .ok (.getfield 7, 3) := by decide +kernel
theorem dX5_loadStackFromHl_4 : decode cX5_loadStackFromHl 4 = .ok (.iconst 2, 1) := by decide +kernel
theorem dX5_loadStackFromHl_5 : decode cX5_loadStackFromHl 5 = .ok (.invokevirtual 69, 3) := by decide +kernel
theorem dX5_loadStackFromHl_8 : decode cX5_loadStackFromHl 8 = .ok (.aload_n 0, 1) := by decide +kernel
theorem dX5_loadStackFromHl_9 : decode cX5_loadStackFromHl 9 = .ok (.getfield 21, 3) := by decide +kernel
theorem dX5_loadStackFromHl_12 : decode cX5_loadStackFromHl 12 = .ok (.bipush 8, 2) := by decide +kernel
theorem dX5_loadStackFromHl_14 : decode cX5_loadStackFromHl 14 = .ok (.aload_n 0, 1) := by decide +kernel
theorem dX5_loadStackFromHl_15 : decode cX5_loadStackFromHl 15 = .ok (.getfield 21, 3) := by decide +kernel
theorem dX5_loadStackFromHl_18 : decode cX5_loadStackFromHl 18 = .ok (.iconst 3, 1) := by decide +kernel
theorem dX5_loadStackFromHl_19 : decode cX5_loadStackFromHl 19 = .ok (.invokevirtual 106, 3) := by decide +kernel
theorem dX5_loadStackFromHl_22 : decode cX5_loadStackFromHl 22 = .ok (.invokevirtual 112, 3) := by decide +kernel
theorem dX5_loadStackFromHl_25 : decode cX5_loadStackFromHl 25 = .ok (.return_, 1) := by decide +kernel
def fX5_loadStackFromHl (s0 : zS) : Option (zS) := bd (fX1_pass (2 : Int32) s0) fun s2 => bd2 (fX6_pair (3 : Int32) s2) fun r4 s5 => bd (fX6_load (8 : Int32) r4 s5) fun s7 => some s7
set_option maxHeartbeats 4000000 in
set_option maxRecDepth 100000 in
theorem cX5_loadStackFromHl_m {l : Launch} {dC : Nat → ClassId} {dI : Nat → Nat → Nat} {ad : Nat → Nat} {cI : ClassId} {s0 : zS} {zs : zS} (h : fX5_loadStackFromHl  s0 = some zs) : sw_Mv l yX5_loadStackFromHl (sw_ws yX5_loadStackFromHl cX5_loadStackFromHl 1 none) (sw_rm 1 23) (dC, dI) vwCl [(cI, .int)] cF [.ref (ad 5)] (cW ad cI s0) (cW ad cI zs) := by
  intro sz
  refine sw_of (cc := cX5_loadStackFromHl) (maxL := 1) (ret := none) (by decide) rfl (Nat.le_of_ble_eq_true rfl) ?_
  intro p e s m args below meth c A ls hAe hsz X _ hP hD hS hl
  rw [hAe]
  have hx := X.1.1
  have hb := X.1.2.1
  have hown := X.1.2.2.2.1
  have hts := X.1.2.2.2.2
  replace hl : lv_has ls 1 [(0, .ref (ad 5))] := hl
  unfold fX5_loadStackFromHl at h
  refine lv_aload_n hx hb dX5_loadStackFromHl_0 rfl (lv_at hl 0 rfl) ?_
  refine cg_5_0 X hP k_139 dX5_loadStackFromHl_1 ?_
  refine lv_iconst (v := (2 : Int32)) hx hb dX5_loadStackFromHl_4 (by decide) ?_
  have hq := bd_some h; clear h; obtain ⟨s2, h1, h⟩ := hq
  refine sw_vv (rest := []) c_good X (cX1_pass_m h1) calX1_pass k_381 hP hD hS 1 1 rfl rfl rfl ⟨rfl, rfl⟩ rfl hl.1 rfl (Nat.le_of_ble_eq_true rfl) dX5_loadStackFromHl_5 (fun H locs hP hD hS => ?_)
  refine lv_aload_n hx hb dX5_loadStackFromHl_8 rfl (lv_at hl 0 rfl) ?_
  refine cg_5_3 X hP k_142 dX5_loadStackFromHl_9 ?_
  refine lv_bipush (v := (8 : Int32)) hx hb dX5_loadStackFromHl_12 (by decide) ?_
  refine lv_aload_n hx hb dX5_loadStackFromHl_14 rfl (lv_at hl 0 rfl) ?_
  refine cg_5_3 X hP k_142 dX5_loadStackFromHl_15 ?_
  refine lv_iconst (v := (3 : Int32)) hx hb dX5_loadStackFromHl_18 (by decide) ?_
  have hq := bd2_some h; clear h; obtain ⟨r4, s5, h3, h⟩ := hq
  refine sw_vi (rest := [.int (8 : Int32), .ref (ad 4)]) c_good X (cX6_pair_m h3) calX6_pair k_385 hP hD hS 4 6 rfl rfl rfl ⟨rfl, rfl⟩ rfl hl.1 rfl (Nat.le_of_ble_eq_true rfl) dX5_loadStackFromHl_19 (fun H locs hP hD hS => ?_)
  have hq := bd_some h; clear h; obtain ⟨s7, h6, h⟩ := hq
  refine sw_vv (rest := []) c_good X (cX6_load_m h6) calX6_load k_412 hP hD hS 4 6 rfl rfl rfl ⟨rfl, rfl⟩ rfl hl.1 rfl (Nat.le_of_ble_eq_true rfl) dX5_loadStackFromHl_22 (fun H locs hP hD hS => ?_)
  obtain rfl := Option.some.inj h
  exact sw_vret X hP hD hS dX5_loadStackFromHl_25
theorem dX5_turnInterruptsOn_0 : decode cX5_turnInterruptsOn 0 = .ok (.aload_n 0, 1) := by decide +kernel
theorem dX5_turnInterruptsOn_1 : decode cX5_turnInterruptsOn 1 = .ok (.iconst 1, 1) := by decide +kernel
theorem dX5_turnInterruptsOn_2 : decode cX5_turnInterruptsOn 2 = .ok (.putfield 43, 3) := by decide +kernel
theorem dX5_turnInterruptsOn_5 : decode cX5_turnInterruptsOn 5 = .ok (.aload_n 0, 1) := by decide +kernel
theorem dX5_turnInterruptsOn_6 : decode cX5_turnInterruptsOn 6 = .ok (.iconst 1, 1) := by decide +kernel
theorem dX5_turnInterruptsOn_7 : decode cX5_turnInterruptsOn 7 = .ok (.putfield 47, 3) := by decide +kernel
theorem dX5_turnInterruptsOn_10 : decode cX5_turnInterruptsOn 10 = .ok (.return_, 1) := by decide +kernel
def fX5_turnInterruptsOn (s0 : zS) : Option (zS) := some (st1 (st1 s0 5 (1 : Int32)) 6 (1 : Int32))
set_option maxHeartbeats 4000000 in
set_option maxRecDepth 100000 in
theorem cX5_turnInterruptsOn_m {l : Launch} {dC : Nat → ClassId} {dI : Nat → Nat → Nat} {ad : Nat → Nat} {cI : ClassId} {s0 : zS} {zs : zS} (h : fX5_turnInterruptsOn  s0 = some zs) : sw_Mv l yX5_turnInterruptsOn (sw_ws yX5_turnInterruptsOn cX5_turnInterruptsOn 1 none) (sw_rm 0 0) (dC, dI) vwCl [(cI, .int)] cF [.ref (ad 5)] (cW ad cI s0) (cW ad cI zs) := by
  intro sz
  refine sw_of (cc := cX5_turnInterruptsOn) (maxL := 1) (ret := none) (by decide) rfl (Nat.le_of_ble_eq_true rfl) ?_
  intro p e s m args below meth c A ls hAe hsz X _ hP hD hS hl
  rw [hAe]
  have hx := X.1.1
  have hb := X.1.2.1
  have hown := X.1.2.2.2.1
  have hts := X.1.2.2.2.2
  replace hl : lv_has ls 1 [(0, .ref (ad 5))] := hl
  unfold fX5_turnInterruptsOn at h
  refine lv_aload_n hx hb dX5_turnInterruptsOn_0 rfl (lv_at hl 0 rfl) ?_
  refine lv_iconst (v := (1 : Int32)) hx hb dX5_turnInterruptsOn_1 (by decide) ?_
  refine cp_5_7 X hP hD hS k_147 (by decide) dX5_turnInterruptsOn_2 (fun H locs hP hD hS => ?_)
  refine lv_aload_n hx hb dX5_turnInterruptsOn_5 rfl (lv_at hl 0 rfl) ?_
  refine lv_iconst (v := (1 : Int32)) hx hb dX5_turnInterruptsOn_6 (by decide) ?_
  refine cp_5_8 X hP hD hS k_149 (by decide) dX5_turnInterruptsOn_7 (fun H locs hP hD hS => ?_)
  obtain rfl := Option.some.inj h
  exact sw_vret X hP hD hS dX5_turnInterruptsOn_10
