theorem dX9_accumulator_0 : decode cX9_accumulator 0 = .ok (.aload_n 0, 1) := by decide +kernel
theorem dX9_accumulator_1 : decode cX9_accumulator 1 = .ok (.getfield 13, 3) := by decide +kernel
theorem dX9_accumulator_4 : decode cX9_accumulator 4 = .ok (.bipush 6, 2) := by decide +kernel
theorem dX9_accumulator_6 : decode cX9_accumulator 6 = .ok (.iaload, 1) := by decide +kernel
theorem dX9_accumulator_7 : decode cX9_accumulator 7 = .ok (.istore_n 2, 1) := by decide +kernel
theorem dX9_accumulator_8 : decode cX9_accumulator 8 = .ok (.iload_n 1, 1) := by decide +kernel
theorem dX9_accumulator_9 : decode cX9_accumulator 9 = .ok (.tableswitch 109 0 6 #[43, 43, 43, 43, 51, 58, 92], 43) := by decide +kernel
theorem dX9_accumulator_52 : decode cX9_accumulator 52 = .ok (.aload_n 0, 1) := by decide +kernel
theorem dX9_accumulator_53 : decode cX9_accumulator 53 = .ok (.iload_n 1, 1) := by decide +kernel
theorem dX9_accumulator_54 : decode cX9_accumulator 54 = .ok (.invokevirtual 133, 3) := by decide +kernel
theorem dX9_accumulator_57 : decode cX9_accumulator 57 = .ok (.goto 86, 3) := by decide +kernel
theorem dX9_accumulator_60 : decode cX9_accumulator 60 = .ok (.aload_n 0, 1) := by decide +kernel
theorem dX9_accumulator_61 : decode cX9_accumulator 61 = .ok (.invokevirtual 136, 3) := by decide +kernel
theorem dX9_accumulator_64 : decode cX9_accumulator 64 = .ok (.goto 79, 3) := by decide +kernel
theorem dX9_accumulator_67 : decode cX9_accumulator 67 = .ok (.aload_n 0, 1) := by decide +kernel
theorem dX9_accumulator_68 : decode cX9_accumulator 68 = .ok (.getfield 13, 3) := by decide +kernel
theorem dX9_accumulator_71 : decode cX9_accumulator 71 = .ok (.bipush 7, 2) := by decide +kernel
theorem dX9_accumulator_73 : decode cX9_accumulator 73 = .ok (.aload_n 0, 1) := by decide +kernel
theorem dX9_accumulator_74 : decode cX9_accumulator 74 = .ok (.getfield 13, 3) := by decide +kernel
theorem dX9_accumulator_77 : decode cX9_accumulator 77 = .ok (.bipush 7, 2) := by decide +kernel
theorem dX9_accumulator_79 : decode cX9_accumulator 79 = .ok (.iaload, 1) := by decide +kernel
theorem dX9_accumulator_80 : decode cX9_accumulator 80 = .ok (.sipush 255, 3) := by decide +kernel
theorem dX9_accumulator_83 : decode cX9_accumulator 83 = .ok (.ixor, 1) := by decide +kernel
theorem dX9_accumulator_84 : decode cX9_accumulator 84 = .ok (.iastore, 1) := by decide +kernel
theorem dX9_accumulator_85 : decode cX9_accumulator 85 = .ok (.aload_n 0, 1) := by decide +kernel
theorem dX9_accumulator_86 : decode cX9_accumulator 86 = .ok (.getfield 13, 3) := by decide +kernel
theorem dX9_accumulator_89 : decode cX9_accumulator 89 = .ok (.bipush 6, 2) := by decide +kernel
theorem dX9_accumulator_91 : decode cX9_accumulator 91 = .ok (.iload_n 2, 1) := by decide +kernel
theorem dX9_accumulator_92 : decode cX9_accumulator 92 = .ok (.bipush 16, 2) := by decide +kernel
theorem dX9_accumulator_94 : decode cX9_accumulator 94 = .ok (.ior, 1) := by decide +kernel
theorem dX9_accumulator_95 : decode cX9_accumulator 95 = .ok (.iconst 2, 1) := by decide +kernel
theorem dX9_accumulator_96 : decode cX9_accumulator 96 = .ok (.ior, 1) := by decide +kernel
theorem dX9_accumulator_97 : decode cX9_accumulator 97 = .ok (.iastore, 1) := by decide +kernel
theorem dX9_accumulator_98 : decode cX9_accumulator 98 = .ok (.goto 45, 3) := by decide +kernel
theorem dX9_accumulator_101 : decode cX9_accumulator 101 = .ok (.aload_n 0, 1) := by decide +kernel
theorem dX9_accumulator_102 : decode cX9_accumulator 102 = .ok (.getfield 13, 3) := by decide +kernel
theorem dX9_accumulator_105 : decode cX9_accumulator 105 = .ok (.bipush 6, 2) := by decide +kernel
theorem dX9_accumulator_107 : decode cX9_accumulator 107 = .ok (.iload_n 2, 1) := by decide +kernel
theorem dX9_accumulator_108 : decode cX9_accumulator 108 = .ok (.sipush 196, 3) := by decide +kernel
theorem dX9_accumulator_111 : decode cX9_accumulator 111 = .ok (.iand, 1) := by decide +kernel
theorem dX9_accumulator_112 : decode cX9_accumulator 112 = .ok (.iconst 1, 1) := by decide +kernel
theorem dX9_accumulator_113 : decode cX9_accumulator 113 = .ok (.ior, 1) := by decide +kernel
theorem dX9_accumulator_114 : decode cX9_accumulator 114 = .ok (.iastore, 1) := by decide +kernel
theorem dX9_accumulator_115 : decode cX9_accumulator 115 = .ok (.goto 28, 3) := by decide +kernel
theorem dX9_accumulator_118 : decode cX9_accumulator 118 = .ok (.aload_n 0, 1) := by decide +kernel
theorem dX9_accumulator_119 : decode cX9_accumulator 119 = .ok (.getfield 13, 3) := by decide +kernel
theorem dX9_accumulator_122 : decode cX9_accumulator 122 = .ok (.bipush 6, 2) := by decide +kernel
theorem dX9_accumulator_124 : decode cX9_accumulator 124 = .ok (.iload_n 2, 1) := by decide +kernel
theorem dX9_accumulator_125 : decode cX9_accumulator 125 = .ok (.sipush 196, 3) := by decide +kernel
theorem dX9_accumulator_128 : decode cX9_accumulator 128 = .ok (.iand, 1) := by decide +kernel
theorem dX9_accumulator_129 : decode cX9_accumulator 129 = .ok (.iload_n 2, 1) := by decide +kernel
theorem dX9_accumulator_130 : decode cX9_accumulator 130 = .ok (.iconst 1, 1) := by decide +kernel
theorem dX9_accumulator_131 : decode cX9_accumulator 131 = .ok (.iand, 1) := by decide +kernel
theorem dX9_accumulator_132 : decode cX9_accumulator 132 = .ok (.ifCond .eq 8, 3) := by decide +kernel
theorem dX9_accumulator_135 : decode cX9_accumulator 135 = .ok (.bipush 16, 2) := by decide +kernel
theorem dX9_accumulator_137 : decode cX9_accumulator 137 = .ok (.goto 4, 3) := by decide +kernel
theorem dX9_accumulator_140 : decode cX9_accumulator 140 = .ok (.iconst 1, 1) := by decide +kernel
theorem dX9_accumulator_141 : decode cX9_accumulator 141 = .ok (.ior, 1) := by decide +kernel
theorem dX9_accumulator_142 : decode cX9_accumulator 142 = .ok (.iastore, 1) := by decide +kernel
theorem dX9_accumulator_143 : decode cX9_accumulator 143 = .ok (.return_, 1) := by decide +kernel
def fX9_accumulator (p1 : Int32) (s0 : zS) : Option (zS) := nm (s0.2 1 ((6 : Int32).toNatClampNeg)) fun x1 => if p1 ∈ ([(0 : Int32), (1 : Int32), (2 : Int32), (3 : Int32)] : List Int32) then (bd (fX9_turnA p1 s0) fun s4 => some s4) else if p1 ∈ ([(4 : Int32)] : List Int32) then (bd (fX9_correct  s0) fun s7 => some s7) else if p1 ∈ ([(5 : Int32)] : List Int32) then (some (st2 (st2 s0 1 ((7 : Int32).toNatClampNeg) ((s0.2 1 ((7 : Int32).toNatClampNeg)) ^^^ (255 : Int32))) 1 ((6 : Int32).toNatClampNeg) ((x1 ||| (16 : Int32)) ||| (2 : Int32)))) else if p1 ∈ ([(6 : Int32)] : List Int32) then (some (st2 s0 1 ((6 : Int32).toNatClampNeg) ((x1 &&& (196 : Int32)) ||| (1 : Int32)))) else (bd (if (x1 &&& (1 : Int32)) = (0 : Int32) then (some (1 : Int32)) else (some (16 : Int32))) fun x12 => some (st2 s0 1 ((6 : Int32).toNatClampNeg) ((x1 &&& (196 : Int32)) ||| x12)))
set_option maxHeartbeats 4000000 in
set_option maxRecDepth 100000 in
theorem cX9_accumulator_m {l : Launch} {dC : Nat → ClassId} {dI : Nat → Nat → Nat} {ad : Nat → Nat} {cI : ClassId} {p1 : Int32} {s0 : zS} {zs : zS} (h : fX9_accumulator p1 s0 = some zs) : sw_Mv l yX9_accumulator (sw_ws yX9_accumulator cX9_accumulator 3 none) (sw_rm 3 64) (dC, dI) vwCl [(cI, .int)] mF [.ref (ad 0), .int p1] (mW ad cI s0) (mW ad cI zs) := by
  intro sz
  refine sw_of (cc := cX9_accumulator) (maxL := 3) (ret := none) (by decide) rfl (Nat.le_of_ble_eq_true rfl) ?_
  intro p e s m args below meth c A ls hAe hsz X _ hP hD hS hl
  rw [hAe]
  have hx := X.1.1
  have hb := X.1.2.1
  have hown := X.1.2.2.2.1
  have hts := X.1.2.2.2.2
  replace hl : lv_has ls 3 [(0, .ref (ad 0)), (1, .int p1)] := hl
  unfold fX9_accumulator at h
  refine lv_aload_n hx hb dX9_accumulator_0 rfl (lv_at hl 0 rfl) ?_
  refine mg_0_2 X hP k_759 dX9_accumulator_1 ?_
  refine lv_bipush (v := (6 : Int32)) hx hb dX9_accumulator_4 (by decide) ?_
  refine ml_1 X hP (vin_in (i := (6 : Int32)) (n := 8) (by decide) (by decide)) dX9_accumulator_6 ?_
  refine lv_topi (fun x1 ex1 => ?_)
  replace h := nm_use ex1 h
  refine lv_istore_n (lv' := [(2, .int x1), (0, .ref (ad 0)), (1, .int p1)]) hx hb dX9_accumulator_7 rfl hl (by decide) rfl (fun ls hl => ?_)
  refine lv_iload_n hx hb dX9_accumulator_8 rfl (lv_at hl 2 rfl) ?_
  by_cases c2 : p1 ∈ ([(0 : Int32), (1 : Int32), (2 : Int32), (3 : Int32)] : List Int32)
  · replace h := if_yes h c2
    refine sw_tabK (tgt := 52) (off := 43) hx hb dX9_accumulator_9 _ c2 (by decide +kernel) (by decide) ?_
    refine lv_aload_n hx hb dX9_accumulator_52 rfl (lv_at hl 1 rfl) ?_
    refine lv_iload_n hx hb dX9_accumulator_53 rfl (lv_at hl 2 rfl) ?_
    have hq := bd_some h; clear h; obtain ⟨s4, h3, h⟩ := hq
    refine sw_vv (rest := []) m_good X (cX9_turnA_m h3) calX9_turnA k_941 hP hD hS 0 9 rfl rfl rfl ⟨rfl, rfl⟩ rfl hl.1 rfl (Nat.le_of_ble_eq_true rfl) dX9_accumulator_54 (fun H locs hP hD hS => ?_)
    refine lv_goto (tgt := 143) hx hb dX9_accumulator_57 (by decide) ?_
    obtain rfl := Option.some.inj h
    exact sw_vret X hP hD hS dX9_accumulator_143
  · replace h := if_no h c2
    by_cases c5 : p1 ∈ ([(4 : Int32)] : List Int32)
    · replace h := if_yes h c5
      refine sw_tabK (tgt := 60) (off := 51) hx hb dX9_accumulator_9 _ c5 (by decide +kernel) (by decide) ?_
      refine lv_aload_n hx hb dX9_accumulator_60 rfl (lv_at hl 1 rfl) ?_
      have hq := bd_some h; clear h; obtain ⟨s7, h6, h⟩ := hq
      refine sw_vv (rest := []) m_good X (cX9_correct_m h6) calX9_correct k_949 hP hD hS 0 9 rfl rfl rfl ⟨rfl, rfl⟩ rfl hl.1 rfl (Nat.le_of_ble_eq_true rfl) dX9_accumulator_61 (fun H locs hP hD hS => ?_)
      refine lv_goto (tgt := 143) hx hb dX9_accumulator_64 (by decide) ?_
      obtain rfl := Option.some.inj h
      exact sw_vret X hP hD hS dX9_accumulator_143
    · replace h := if_no h c5
      by_cases c8 : p1 ∈ ([(5 : Int32)] : List Int32)
      · replace h := if_yes h c8
        refine sw_tabK (tgt := 67) (off := 58) hx hb dX9_accumulator_9 _ c8 (by decide +kernel) (by decide) ?_
        refine lv_aload_n hx hb dX9_accumulator_67 rfl (lv_at hl 1 rfl) ?_
        refine mg_0_2 X hP k_759 dX9_accumulator_68 ?_
        refine lv_bipush (v := (7 : Int32)) hx hb dX9_accumulator_71 (by decide) ?_
        refine lv_aload_n hx hb dX9_accumulator_73 rfl (lv_at hl 1 rfl) ?_
        refine mg_0_2 X hP k_759 dX9_accumulator_74 ?_
        refine lv_bipush (v := (7 : Int32)) hx hb dX9_accumulator_77 (by decide) ?_
        refine ml_1 X hP (vin_in (i := (7 : Int32)) (n := 8) (by decide) (by decide)) dX9_accumulator_79 ?_
        refine lv_sipush (v := (255 : Int32)) hx hb dX9_accumulator_80 (by decide) ?_
        refine lv_ixor hx hb dX9_accumulator_83 ?_
        refine mb_1 X hP hD hS (vin_in (i := (7 : Int32)) (n := 8) (by decide) (by decide)) dX9_accumulator_84 (fun H locs hP hD hS => ?_)
        refine lv_aload_n hx hb dX9_accumulator_85 rfl (lv_at hl 1 rfl) ?_
        refine mg_0_2 X hP k_759 dX9_accumulator_86 ?_
        refine lv_bipush (v := (6 : Int32)) hx hb dX9_accumulator_89 (by decide) ?_
        refine lv_iload_n hx hb dX9_accumulator_91 rfl (lv_at hl 0 rfl) ?_
        refine lv_bipush (v := (16 : Int32)) hx hb dX9_accumulator_92 (by decide) ?_
        refine lv_ior hx hb dX9_accumulator_94 ?_
        refine lv_iconst (v := (2 : Int32)) hx hb dX9_accumulator_95 (by decide) ?_
        refine lv_ior hx hb dX9_accumulator_96 ?_
        refine mb_1 X hP hD hS (vin_in (i := (6 : Int32)) (n := 8) (by decide) (by decide)) dX9_accumulator_97 (fun H locs hP hD hS => ?_)
        refine lv_goto (tgt := 143) hx hb dX9_accumulator_98 (by decide) ?_
        obtain rfl := Option.some.inj h
        exact sw_vret X hP hD hS dX9_accumulator_143
      · replace h := if_no h c8
        by_cases c9 : p1 ∈ ([(6 : Int32)] : List Int32)
        · replace h := if_yes h c9
          refine sw_tabK (tgt := 101) (off := 92) hx hb dX9_accumulator_9 _ c9 (by decide +kernel) (by decide) ?_
          refine lv_aload_n hx hb dX9_accumulator_101 rfl (lv_at hl 1 rfl) ?_
          refine mg_0_2 X hP k_759 dX9_accumulator_102 ?_
          refine lv_bipush (v := (6 : Int32)) hx hb dX9_accumulator_105 (by decide) ?_
          refine lv_iload_n hx hb dX9_accumulator_107 rfl (lv_at hl 0 rfl) ?_
          refine lv_sipush (v := (196 : Int32)) hx hb dX9_accumulator_108 (by decide) ?_
          refine lv_iand hx hb dX9_accumulator_111 ?_
          refine lv_iconst (v := (1 : Int32)) hx hb dX9_accumulator_112 (by decide) ?_
          refine lv_ior hx hb dX9_accumulator_113 ?_
          refine mb_1 X hP hD hS (vin_in (i := (6 : Int32)) (n := 8) (by decide) (by decide)) dX9_accumulator_114 (fun H locs hP hD hS => ?_)
          refine lv_goto (tgt := 143) hx hb dX9_accumulator_115 (by decide) ?_
          obtain rfl := Option.some.inj h
          exact sw_vret X hP hD hS dX9_accumulator_143
        · replace h := if_no h c9
          refine sw_tabD (tgt := 118) hx hb dX9_accumulator_9 (([(0 : Int32), (1 : Int32), (2 : Int32), (3 : Int32)] : List Int32) ++ (([(4 : Int32)] : List Int32) ++ (([(5 : Int32)] : List Int32) ++ ([(6 : Int32)] : List Int32)))) (fun hm => (List.mem_append.mp hm).elim c2 (fun hm => (List.mem_append.mp hm).elim c5 (fun hm => (List.mem_append.mp hm).elim c8 c9))) (by decide +kernel) (by decide) ?_
          refine lv_aload_n hx hb dX9_accumulator_118 rfl (lv_at hl 1 rfl) ?_
          refine mg_0_2 X hP k_759 dX9_accumulator_119 ?_
          refine lv_bipush (v := (6 : Int32)) hx hb dX9_accumulator_122 (by decide) ?_
          refine lv_iload_n hx hb dX9_accumulator_124 rfl (lv_at hl 0 rfl) ?_
          refine lv_sipush (v := (196 : Int32)) hx hb dX9_accumulator_125 (by decide) ?_
          refine lv_iand hx hb dX9_accumulator_128 ?_
          refine lv_iload_n hx hb dX9_accumulator_129 rfl (lv_at hl 0 rfl) ?_
          refine lv_iconst (v := (1 : Int32)) hx hb dX9_accumulator_130 (by decide) ?_
          refine lv_iand hx hb dX9_accumulator_131 ?_
          have hq := bd_some h; clear h; obtain ⟨x12, h13, h⟩ := hq
          have K10 : ∀ (H : Heap) (locs : List Loc), va_P (dC, dI) vwCl (mW ad cI s0) H → va_D A (mW ad cI s0) → va_S A s.heap H locs → W p l e (sw_rm 3 64) s m args below meth c H locs 0 0 (MQ below (sw_Qv (dC, dI) vwCl [(cI, .int)] A (mW ad cI zs)) args s 0 0 A) (F0 m 141 ls [.int x12, .int (x1 &&& (196 : Int32)), .int (6 : Int32), .ref (ad 2)]) := by
            intro H locs hP hD hS
            refine lv_ior hx hb dX9_accumulator_141 ?_
            refine mb_1 X hP hD hS (vin_in (i := (6 : Int32)) (n := 8) (by decide) (by decide)) dX9_accumulator_142 (fun H locs hP hD hS => ?_)
            obtain rfl := Option.some.inj h
            exact sw_vret X hP hD hS dX9_accumulator_143
          replace h := h13
          clear h13
          refine lv_if_eq (tgt := 140) hx hb dX9_accumulator_132 (by decide) (fun c11 => ?_) (fun c11 => ?_)
          · replace h := if_yes h c11
            refine lv_iconst (v := (1 : Int32)) hx hb dX9_accumulator_140 (by decide) ?_
            obtain rfl := Option.some.inj h
            exact K10 _ _ hP hD hS
          · replace h := if_no h c11
            refine lv_bipush (v := (16 : Int32)) hx hb dX9_accumulator_135 (by decide) ?_
            refine lv_goto (tgt := 141) hx hb dX9_accumulator_137 (by decide) ?_
            obtain rfl := Option.some.inj h
            exact K10 _ _ hP hD hS
theorem dX9_one_0 : decode cX9_one 0 = .ok (.iload_n 1, 1) := by decide +kernel
theorem dX9_one_1 : decode cX9_one 1 = .ok (.iconst 3, 1) := by decide +kernel
theorem dX9_one_2 : decode cX9_one 2 = .ok (.ishr, 1) := by decide +kernel
theorem dX9_one_3 : decode cX9_one 3 = .ok (.bipush 7, 2) := by decide +kernel
theorem dX9_one_5 : decode cX9_one 5 = .ok (.iand, 1) := by decide +kernel
theorem dX9_one_6 : decode cX9_one 6 = .ok (.istore_n 2, 1) := by decide +kernel
theorem dX9_one_7 : decode cX9_one 7 = .ok (.iload_n 1, 1) := by decide +kernel
theorem dX9_one_8 : decode cX9_one 8 = .ok (.iconst 4, 1) := by decide +kernel
theorem dX9_one_9 : decode cX9_one 9 = .ok (.ishr, 1) := by decide +kernel
theorem dX9_one_10 : decode cX9_one 10 = .ok (.iconst 3, 1) := by decide +kernel
theorem dX9_one_11 : decode cX9_one 11 = .ok (.iand, 1) := by decide +kernel
theorem dX9_one_12 : decode cX9_one 12 = .ok (.istore_n 3, 1) := by decide +kernel
theorem dX9_one_13 : decode cX9_one 13 = .ok (.iload_n 1, 1) := by decide +kernel
theorem dX9_one_14 : decode cX9_one 14 = .ok (.bipush 7, 2) := by decide +kernel
theorem dX9_one_16 : decode cX9_one 16 = .ok (.iand, 1) := by decide +kernel
theorem dX9_one_17 : decode cX9_one 17 = .ok (.tableswitch 158 0 6 #[43, 51, 78, 86, 125, 125, 146], 43) := by decide +kernel
theorem dX9_one_60 : decode cX9_one 60 = .ok (.aload_n 0, 1) := by decide +kernel
theorem dX9_one_61 : decode cX9_one 61 = .ok (.iload_n 2, 1) := by decide +kernel
theorem dX9_one_62 : decode cX9_one 62 = .ok (.invokevirtual 107, 3) := by decide +kernel
theorem dX9_one_65 : decode cX9_one 65 = .ok (.goto 115, 3) := by decide +kernel
theorem dX9_one_68 : decode cX9_one 68 = .ok (.iload_n 1, 1) := by decide +kernel
theorem dX9_one_69 : decode cX9_one 69 = .ok (.bipush 8, 2) := by decide +kernel
theorem dX9_one_71 : decode cX9_one 71 = .ok (.iand, 1) := by decide +kernel
theorem dX9_one_72 : decode cX9_one 72 = .ok (.ifCond .ne 15, 3) := by decide +kernel
theorem dX9_one_75 : decode cX9_one 75 = .ok (.aload_n 0, 1) := by decide +kernel
theorem dX9_one_76 : decode cX9_one 76 = .ok (.iload_n 3, 1) := by decide +kernel
theorem dX9_one_77 : decode cX9_one 77 = .ok (.aload_n 0, 1) := by decide +kernel
theorem dX9_one_78 : decode cX9_one 78 = .ok (.invokevirtual 110, 3) := by decide +kernel
theorem dX9_one_81 : decode cX9_one 81 = .ok (.invokevirtual 90, 3) := by decide +kernel
theorem dX9_one_84 : decode cX9_one 84 = .ok (.goto 96, 3) := by decide +kernel
theorem dX9_one_87 : decode cX9_one 87 = .ok (.aload_n 0, 1) := by decide +kernel
theorem dX9_one_88 : decode cX9_one 88 = .ok (.iload_n 3, 1) := by decide +kernel
theorem dX9_one_89 : decode cX9_one 89 = .ok (.invokevirtual 113, 3) := by decide +kernel
theorem dX9_one_92 : decode cX9_one 92 = .ok (.goto 88, 3) := by decide +kernel
theorem dX9_one_95 : decode cX9_one 95 = .ok (.aload_n 0, 1) := by decide +kernel
theorem dX9_one_96 : decode cX9_one 96 = .ok (.iload_n 2, 1) := by decide +kernel
theorem dX9_one_97 : decode cX9_one 97 = .ok (.invokevirtual 116, 3) := by decide +kernel
theorem dX9_one_100 : decode cX9_one 100 = .ok (.goto 80, 3) := by decide +kernel
theorem dX9_one_103 : decode cX9_one 103 = .ok (.aload_n 0, 1) := by decide +kernel
theorem dX9_one_104 : decode cX9_one 104 = .ok (.aload_n 0, 1) := by decide +kernel
theorem dX9_one_105 : decode cX9_one 105 = .ok (.getfield 32, 3) := by decide +kernel
theorem dX9_one_108 : decode cX9_one 108 = .ok (.iconst 2, 1) := by decide +kernel
theorem dX9_one_109 : decode cX9_one 109 = .ok (.iadd, 1) := by decide +kernel
theorem dX9_one_110 : decode cX9_one 110 = .ok (.putfield 32, 3) := by decide +kernel
theorem dX9_one_113 : decode cX9_one 113 = .ok (.aload_n 0, 1) := by decide +kernel
theorem dX9_one_114 : decode cX9_one 114 = .ok (.iload_n 3, 1) := by decide +kernel
theorem dX9_one_115 : decode cX9_one 115 = .ok (.aload_n 0, 1) := by decide +kernel
theorem dX9_one_116 : decode cX9_one 116 = .ok (.iload_n 3, 1) := by decide +kernel
theorem dX9_one_117 : decode cX9_one 117 = .ok (.invokevirtual 68, 3) := by decide +kernel
theorem dX9_one_120 : decode cX9_one 120 = .ok (.iload_n 1, 1) := by decide +kernel
theorem dX9_one_121 : decode cX9_one 121 = .ok (.bipush 8, 2) := by decide +kernel
theorem dX9_one_123 : decode cX9_one 123 = .ok (.iand, 1) := by decide +kernel
theorem dX9_one_124 : decode cX9_one 124 = .ok (.ifCond .ne 7, 3) := by decide +kernel
theorem dX9_one_127 : decode cX9_one 127 = .ok (.iconst 1, 1) := by decide +kernel
theorem dX9_one_128 : decode cX9_one 128 = .ok (.goto 4, 3) := by decide +kernel
theorem dX9_one_131 : decode cX9_one 131 = .ok (.iconst (-1), 1) := by decide +kernel
theorem dX9_one_132 : decode cX9_one 132 = .ok (.iadd, 1) := by decide +kernel
theorem dX9_one_133 : decode cX9_one 133 = .ok (.ldc 49, 2) := by decide +kernel
theorem dX9_one_135 : decode cX9_one 135 = .ok (.iand, 1) := by decide +kernel
theorem dX9_one_136 : decode cX9_one 136 = .ok (.invokevirtual 90, 3) := by decide +kernel
theorem dX9_one_139 : decode cX9_one 139 = .ok (.goto 41, 3) := by decide +kernel
theorem dX9_one_142 : decode cX9_one 142 = .ok (.aload_n 0, 1) := by decide +kernel
theorem dX9_one_143 : decode cX9_one 143 = .ok (.iload_n 2, 1) := by decide +kernel
theorem dX9_one_144 : decode cX9_one 144 = .ok (.iload_n 1, 1) := by decide +kernel
theorem dX9_one_145 : decode cX9_one 145 = .ok (.bipush 7, 2) := by decide +kernel
theorem dX9_one_147 : decode cX9_one 147 = .ok (.iand, 1) := by decide +kernel
theorem dX9_one_148 : decode cX9_one 148 = .ok (.iconst 5, 1) := by decide +kernel
theorem dX9_one_149 : decode cX9_one 149 = .ok (.if_icmp .ne 7, 3) := by decide +kernel
theorem dX9_one_152 : decode cX9_one 152 = .ok (.iconst 1, 1) := by decide +kernel
theorem dX9_one_153 : decode cX9_one 153 = .ok (.goto 4, 3) := by decide +kernel
theorem dX9_one_156 : decode cX9_one 156 = .ok (.iconst 0, 1) := by decide +kernel
theorem dX9_one_157 : decode cX9_one 157 = .ok (.invokevirtual 119, 3) := by decide +kernel
theorem dX9_one_160 : decode cX9_one 160 = .ok (.goto 20, 3) := by decide +kernel
theorem dX9_one_163 : decode cX9_one 163 = .ok (.aload_n 0, 1) := by decide +kernel
theorem dX9_one_164 : decode cX9_one 164 = .ok (.iload_n 2, 1) := by decide +kernel
theorem dX9_one_165 : decode cX9_one 165 = .ok (.aload_n 0, 1) := by decide +kernel
theorem dX9_one_166 : decode cX9_one 166 = .ok (.invokevirtual 54, 3) := by decide +kernel
theorem dX9_one_169 : decode cX9_one 169 = .ok (.invokevirtual 104, 3) := by decide +kernel
theorem dX9_one_172 : decode cX9_one 172 = .ok (.goto 8, 3) := by decide +kernel
theorem dX9_one_175 : decode cX9_one 175 = .ok (.aload_n 0, 1) := by decide +kernel
theorem dX9_one_176 : decode cX9_one 176 = .ok (.iload_n 2, 1) := by decide +kernel
theorem dX9_one_177 : decode cX9_one 177 = .ok (.invokevirtual 123, 3) := by decide +kernel
theorem dX9_one_180 : decode cX9_one 180 = .ok (.return_, 1) := by decide +kernel
def fX9_one (p1 : Int32) (s0 : zS) : Option (zS) := nm ((p1 >>> ((3 : Int32) &&& 31)) &&& (7 : Int32)) fun x1 => nm ((p1 >>> ((4 : Int32) &&& 31)) &&& (3 : Int32)) fun x2 => if (p1 &&& (7 : Int32)) ∈ ([(0 : Int32)] : List Int32) then (bd (fX9_jumpRelative x1 s0) fun s5 => some s5) else if (p1 &&& (7 : Int32)) ∈ ([(1 : Int32)] : List Int32) then (if (p1 &&& (8 : Int32)) = (0 : Int32) then (bd2 (fX9_nextPair  s0) fun r11 s12 => bd (fX9_setPair x2 r11 s12) fun s14 => some s14) else (bd (fX9_addPair x2 s0) fun s9 => some s9)) else if (p1 &&& (7 : Int32)) ∈ ([(2 : Int32)] : List Int32) then (bd (fX9_loads x1 s0) fun s17 => some s17) else if (p1 &&& (7 : Int32)) ∈ ([(3 : Int32)] : List Int32) then (bd2 (fX9_pair x2 (st1 s0 3 ((s0.1 3) + (2 : Int32)))) fun r20 s21 => bd (if (p1 &&& (8 : Int32)) = (0 : Int32) then (some (1 : Int32)) else (some (-1 : Int32))) fun x24 => bd (fX9_setPair x2 ((r20 + x24) &&& (65535 : Int32)) s21) fun s27 => some s27) else if (p1 &&& (7 : Int32)) ∈ ([(4 : Int32), (5 : Int32)] : List Int32) then (bd (if (p1 &&& (7 : Int32)) = (5 : Int32) then (some (1 : Int32)) else (some (0 : Int32))) fun x31 => bd (fX9_step x1 x31 s0) fun s34 => some s34) else if (p1 &&& (7 : Int32)) ∈ ([(6 : Int32)] : List Int32) then (bd2 (fX9_next  s0) fun r37 s38 => bd (fX9_setOperand x1 r37 s38) fun s40 => some s40) else (bd (fX9_accumulator x1 s0) fun s42 => some s42)
set_option maxHeartbeats 4000000 in
set_option maxRecDepth 100000 in
theorem cX9_one_m {l : Launch} {dC : Nat → ClassId} {dI : Nat → Nat → Nat} {ad : Nat → Nat} {cI : ClassId} {p1 : Int32} {s0 : zS} {zs : zS} (h : fX9_one p1 s0 = some zs) : sw_Mv l yX9_one (sw_ws yX9_one cX9_one 4 none) (sw_rm 6 128) (dC, dI) vwCl [(cI, .int)] mF [.ref (ad 0), .int p1] (mW ad cI s0) (mW ad cI zs) := by
  intro sz
  refine sw_of (cc := cX9_one) (maxL := 4) (ret := none) (by decide) rfl (Nat.le_of_ble_eq_true rfl) ?_
  intro p e s m args below meth c A ls hAe hsz X _ hP hD hS hl
  rw [hAe]
  have hx := X.1.1
  have hb := X.1.2.1
  have hown := X.1.2.2.2.1
  have hts := X.1.2.2.2.2
  replace hl : lv_has ls 4 [(0, .ref (ad 0)), (1, .int p1)] := hl
  unfold fX9_one at h
  refine lv_iload_n hx hb dX9_one_0 rfl (lv_at hl 1 rfl) ?_
  refine lv_iconst (v := (3 : Int32)) hx hb dX9_one_1 (by decide) ?_
  refine lv_ishr hx hb dX9_one_2 ?_
  refine lv_bipush (v := (7 : Int32)) hx hb dX9_one_3 (by decide) ?_
  refine lv_iand hx hb dX9_one_5 ?_
  refine lv_topi (fun x1 ex1 => ?_)
  replace h := nm_use ex1 h
  refine lv_istore_n (lv' := [(2, .int x1), (0, .ref (ad 0)), (1, .int p1)]) hx hb dX9_one_6 rfl hl (by decide) rfl (fun ls hl => ?_)
  refine lv_iload_n hx hb dX9_one_7 rfl (lv_at hl 2 rfl) ?_
  refine lv_iconst (v := (4 : Int32)) hx hb dX9_one_8 (by decide) ?_
  refine lv_ishr hx hb dX9_one_9 ?_
  refine lv_iconst (v := (3 : Int32)) hx hb dX9_one_10 (by decide) ?_
  refine lv_iand hx hb dX9_one_11 ?_
  refine lv_topi (fun x2 ex2 => ?_)
  replace h := nm_use ex2 h
  refine lv_istore_n (lv' := [(3, .int x2), (2, .int x1), (0, .ref (ad 0)), (1, .int p1)]) hx hb dX9_one_12 rfl hl (by decide) rfl (fun ls hl => ?_)
  refine lv_iload_n hx hb dX9_one_13 rfl (lv_at hl 3 rfl) ?_
  refine lv_bipush (v := (7 : Int32)) hx hb dX9_one_14 (by decide) ?_
  refine lv_iand hx hb dX9_one_16 ?_
  by_cases c3 : (p1 &&& (7 : Int32)) ∈ ([(0 : Int32)] : List Int32)
  · replace h := if_yes h c3
    refine sw_tabK (tgt := 60) (off := 43) hx hb dX9_one_17 _ c3 (by decide +kernel) (by decide) ?_
    refine lv_aload_n hx hb dX9_one_60 rfl (lv_at hl 2 rfl) ?_
    refine lv_iload_n hx hb dX9_one_61 rfl (lv_at hl 1 rfl) ?_
    have hq := bd_some h; clear h; obtain ⟨s5, h4, h⟩ := hq
    refine sw_vv (rest := []) m_good X (cX9_jumpRelative_m h4) calX9_jumpRelative k_866 hP hD hS 0 9 rfl rfl rfl ⟨rfl, rfl⟩ rfl hl.1 rfl (Nat.le_of_ble_eq_true rfl) dX9_one_62 (fun H locs hP hD hS => ?_)
    refine lv_goto (tgt := 180) hx hb dX9_one_65 (by decide) ?_
    obtain rfl := Option.some.inj h
    exact sw_vret X hP hD hS dX9_one_180
  · replace h := if_no h c3
    by_cases c6 : (p1 &&& (7 : Int32)) ∈ ([(1 : Int32)] : List Int32)
    · replace h := if_yes h c6
      refine sw_tabK (tgt := 68) (off := 51) hx hb dX9_one_17 _ c6 (by decide +kernel) (by decide) ?_
      refine lv_iload_n hx hb dX9_one_68 rfl (lv_at hl 3 rfl) ?_
      refine lv_bipush (v := (8 : Int32)) hx hb dX9_one_69 (by decide) ?_
      refine lv_iand hx hb dX9_one_71 ?_
      refine lv_if_ne (tgt := 87) hx hb dX9_one_72 (by decide) (fun c7 => ?_) (fun c7 => ?_)
      · replace h := if_no h c7
        refine lv_aload_n hx hb dX9_one_87 rfl (lv_at hl 2 rfl) ?_
        refine lv_iload_n hx hb dX9_one_88 rfl (lv_at hl 0 rfl) ?_
        have hq := bd_some h; clear h; obtain ⟨s9, h8, h⟩ := hq
        refine sw_vv (rest := []) m_good X (cX9_addPair_m h8) calX9_addPair k_894 hP hD hS 0 9 rfl rfl rfl ⟨rfl, rfl⟩ rfl hl.1 rfl (Nat.le_of_ble_eq_true rfl) dX9_one_89 (fun H locs hP hD hS => ?_)
        refine lv_goto (tgt := 180) hx hb dX9_one_92 (by decide) ?_
        obtain rfl := Option.some.inj h
        exact sw_vret X hP hD hS dX9_one_180
      · replace h := if_yes h c7
        refine lv_aload_n hx hb dX9_one_75 rfl (lv_at hl 2 rfl) ?_
        refine lv_iload_n hx hb dX9_one_76 rfl (lv_at hl 0 rfl) ?_
        refine lv_aload_n hx hb dX9_one_77 rfl (lv_at hl 2 rfl) ?_
        have hq := bd2_some h; clear h; obtain ⟨r11, s12, h10, h⟩ := hq
        refine sw_vi (rest := [.int x2, .ref (ad 0)]) m_good X (cX9_nextPair_m h10) calX9_nextPair k_886 hP hD hS 0 9 rfl rfl rfl ⟨rfl, rfl⟩ rfl hl.1 rfl (Nat.le_of_ble_eq_true rfl) dX9_one_78 (fun H locs hP hD hS => ?_)
        have hq := bd_some h; clear h; obtain ⟨s14, h13, h⟩ := hq
        refine sw_vv (rest := []) m_good X (cX9_setPair_m h13) calX9_setPair k_890 hP hD hS 0 9 rfl rfl rfl ⟨rfl, rfl⟩ rfl hl.1 rfl (Nat.le_of_ble_eq_true rfl) dX9_one_81 (fun H locs hP hD hS => ?_)
        refine lv_goto (tgt := 180) hx hb dX9_one_84 (by decide) ?_
        obtain rfl := Option.some.inj h
        exact sw_vret X hP hD hS dX9_one_180
    · replace h := if_no h c6
      by_cases c15 : (p1 &&& (7 : Int32)) ∈ ([(2 : Int32)] : List Int32)
      · replace h := if_yes h c15
        refine sw_tabK (tgt := 95) (off := 78) hx hb dX9_one_17 _ c15 (by decide +kernel) (by decide) ?_
        refine lv_aload_n hx hb dX9_one_95 rfl (lv_at hl 2 rfl) ?_
        refine lv_iload_n hx hb dX9_one_96 rfl (lv_at hl 1 rfl) ?_
        have hq := bd_some h; clear h; obtain ⟨s17, h16, h⟩ := hq
        refine sw_vv (rest := []) m_good X (cX9_loads_m h16) calX9_loads k_906 hP hD hS 0 9 rfl rfl rfl ⟨rfl, rfl⟩ rfl hl.1 rfl (Nat.le_of_ble_eq_true rfl) dX9_one_97 (fun H locs hP hD hS => ?_)
        refine lv_goto (tgt := 180) hx hb dX9_one_100 (by decide) ?_
        obtain rfl := Option.some.inj h
        exact sw_vret X hP hD hS dX9_one_180
      · replace h := if_no h c15
        by_cases c18 : (p1 &&& (7 : Int32)) ∈ ([(3 : Int32)] : List Int32)
        · replace h := if_yes h c18
          refine sw_tabK (tgt := 103) (off := 86) hx hb dX9_one_17 _ c18 (by decide +kernel) (by decide) ?_
          refine lv_aload_n hx hb dX9_one_103 rfl (lv_at hl 2 rfl) ?_
          refine lv_aload_n hx hb dX9_one_104 rfl (lv_at hl 2 rfl) ?_
          refine mg_0_6 X hP k_763 dX9_one_105 ?_
          refine lv_iconst (v := (2 : Int32)) hx hb dX9_one_108 (by decide) ?_
          refine lv_iadd hx hb dX9_one_109 ?_
          refine mp_0_6 X hP hD hS k_763 dX9_one_110 (fun H locs hP hD hS => ?_)
          refine lv_aload_n hx hb dX9_one_113 rfl (lv_at hl 2 rfl) ?_
          refine lv_iload_n hx hb dX9_one_114 rfl (lv_at hl 0 rfl) ?_
          refine lv_aload_n hx hb dX9_one_115 rfl (lv_at hl 2 rfl) ?_
          refine lv_iload_n hx hb dX9_one_116 rfl (lv_at hl 0 rfl) ?_
          have hq := bd2_some h; clear h; obtain ⟨r20, s21, h19, h⟩ := hq
          refine sw_vi (rest := [.int x2, .ref (ad 0)]) m_good X (cX9_pair_m h19) calX9_pair k_902 hP hD hS 0 9 rfl rfl rfl ⟨rfl, rfl⟩ rfl hl.1 rfl (Nat.le_of_ble_eq_true rfl) dX9_one_117 (fun H locs hP hD hS => ?_)
          refine lv_iload_n hx hb dX9_one_120 rfl (lv_at hl 3 rfl) ?_
          refine lv_bipush (v := (8 : Int32)) hx hb dX9_one_121 (by decide) ?_
          refine lv_iand hx hb dX9_one_123 ?_
          have hq := bd_some h; clear h; obtain ⟨x24, h25, h⟩ := hq
          have K22 : ∀ (H : Heap) (locs : List Loc), va_P (dC, dI) vwCl (mW ad cI s21) H → va_D A (mW ad cI s21) → va_S A s.heap H locs → W p l e (sw_rm 6 128) s m args below meth c H locs 0 0 (MQ below (sw_Qv (dC, dI) vwCl [(cI, .int)] A (mW ad cI zs)) args s 0 0 A) (F0 m 132 ls [.int x24, .int r20, .int x2, .ref (ad 0)]) := by
            intro H locs hP hD hS
            refine lv_iadd hx hb dX9_one_132 ?_
            refine lv_ldc (v := 65535) hx hb hown (hts _ (List.mem_cons_of_mem _ k_841)) dX9_one_133 ?_
            refine lv_iand hx hb dX9_one_135 ?_
            have hq := bd_some h; clear h; obtain ⟨s27, h26, h⟩ := hq
            refine sw_vv (rest := []) m_good X (cX9_setPair_m h26) calX9_setPair k_890 hP hD hS 0 9 rfl rfl rfl ⟨rfl, rfl⟩ rfl hl.1 rfl (Nat.le_of_ble_eq_true rfl) dX9_one_136 (fun H locs hP hD hS => ?_)
            refine lv_goto (tgt := 180) hx hb dX9_one_139 (by decide) ?_
            obtain rfl := Option.some.inj h
            exact sw_vret X hP hD hS dX9_one_180
          replace h := h25
          clear h25
          refine lv_if_ne (tgt := 131) hx hb dX9_one_124 (by decide) (fun c23 => ?_) (fun c23 => ?_)
          · replace h := if_no h c23
            refine lv_iconst (v := (-1 : Int32)) hx hb dX9_one_131 (by decide) ?_
            obtain rfl := Option.some.inj h
            exact K22 _ _ hP hD hS
          · replace h := if_yes h c23
            refine lv_iconst (v := (1 : Int32)) hx hb dX9_one_127 (by decide) ?_
            refine lv_goto (tgt := 132) hx hb dX9_one_128 (by decide) ?_
            obtain rfl := Option.some.inj h
            exact K22 _ _ hP hD hS
        · replace h := if_no h c18
          by_cases c28 : (p1 &&& (7 : Int32)) ∈ ([(4 : Int32), (5 : Int32)] : List Int32)
          · replace h := if_yes h c28
            refine sw_tabK (tgt := 142) (off := 125) hx hb dX9_one_17 _ c28 (by decide +kernel) (by decide) ?_
            refine lv_aload_n hx hb dX9_one_142 rfl (lv_at hl 2 rfl) ?_
            refine lv_iload_n hx hb dX9_one_143 rfl (lv_at hl 1 rfl) ?_
            refine lv_iload_n hx hb dX9_one_144 rfl (lv_at hl 3 rfl) ?_
            refine lv_bipush (v := (7 : Int32)) hx hb dX9_one_145 (by decide) ?_
            refine lv_iand hx hb dX9_one_147 ?_
            refine lv_iconst (v := (5 : Int32)) hx hb dX9_one_148 (by decide) ?_
            have hq := bd_some h; clear h; obtain ⟨x31, h32, h⟩ := hq
            have K29 : ∀ (H : Heap) (locs : List Loc), va_P (dC, dI) vwCl (mW ad cI s0) H → va_D A (mW ad cI s0) → va_S A s.heap H locs → W p l e (sw_rm 6 128) s m args below meth c H locs 0 0 (MQ below (sw_Qv (dC, dI) vwCl [(cI, .int)] A (mW ad cI zs)) args s 0 0 A) (F0 m 157 ls [.int x31, .int x1, .ref (ad 0)]) := by
              intro H locs hP hD hS
              have hq := bd_some h; clear h; obtain ⟨s34, h33, h⟩ := hq
              refine sw_vv (rest := []) m_good X (cX9_step_m h33) calX9_step k_910 hP hD hS 0 9 rfl rfl rfl ⟨rfl, rfl⟩ rfl hl.1 rfl (Nat.le_of_ble_eq_true rfl) dX9_one_157 (fun H locs hP hD hS => ?_)
              refine lv_goto (tgt := 180) hx hb dX9_one_160 (by decide) ?_
              obtain rfl := Option.some.inj h
              exact sw_vret X hP hD hS dX9_one_180
            replace h := h32
            clear h32
            refine lv_icmp_ne (tgt := 156) hx hb dX9_one_149 (by decide) (fun c30 => ?_) (fun c30 => ?_)
            · replace h := if_no h c30
              refine lv_iconst (v := (0 : Int32)) hx hb dX9_one_156 (by decide) ?_
              obtain rfl := Option.some.inj h
              exact K29 _ _ hP hD hS
            · replace h := if_yes h c30
              refine lv_iconst (v := (1 : Int32)) hx hb dX9_one_152 (by decide) ?_
              refine lv_goto (tgt := 157) hx hb dX9_one_153 (by decide) ?_
              obtain rfl := Option.some.inj h
              exact K29 _ _ hP hD hS
          · replace h := if_no h c28
            by_cases c35 : (p1 &&& (7 : Int32)) ∈ ([(6 : Int32)] : List Int32)
            · replace h := if_yes h c35
              refine sw_tabK (tgt := 163) (off := 146) hx hb dX9_one_17 _ c35 (by decide +kernel) (by decide) ?_
              refine lv_aload_n hx hb dX9_one_163 rfl (lv_at hl 2 rfl) ?_
              refine lv_iload_n hx hb dX9_one_164 rfl (lv_at hl 1 rfl) ?_
              refine lv_aload_n hx hb dX9_one_165 rfl (lv_at hl 2 rfl) ?_
              have hq := bd2_some h; clear h; obtain ⟨r37, s38, h36, h⟩ := hq
              refine sw_vi (rest := [.int x1, .ref (ad 0)]) m_good X (cX9_next_m h36) calX9_next k_878 hP hD hS 0 9 rfl rfl rfl ⟨rfl, rfl⟩ rfl hl.1 rfl (Nat.le_of_ble_eq_true rfl) dX9_one_166 (fun H locs hP hD hS => ?_)
              have hq := bd_some h; clear h; obtain ⟨s40, h39, h⟩ := hq
              refine sw_vv (rest := []) m_good X (cX9_setOperand_m h39) calX9_setOperand k_933 hP hD hS 0 9 rfl rfl rfl ⟨rfl, rfl⟩ rfl hl.1 rfl (Nat.le_of_ble_eq_true rfl) dX9_one_169 (fun H locs hP hD hS => ?_)
              refine lv_goto (tgt := 180) hx hb dX9_one_172 (by decide) ?_
              obtain rfl := Option.some.inj h
              exact sw_vret X hP hD hS dX9_one_180
            · replace h := if_no h c35
              refine sw_tabD (tgt := 175) hx hb dX9_one_17 (([(0 : Int32)] : List Int32) ++ (([(1 : Int32)] : List Int32) ++ (([(2 : Int32)] : List Int32) ++ (([(3 : Int32)] : List Int32) ++ (([(4 : Int32), (5 : Int32)] : List Int32) ++ ([(6 : Int32)] : List Int32)))))) (fun hm => (List.mem_append.mp hm).elim c3 (fun hm => (List.mem_append.mp hm).elim c6 (fun hm => (List.mem_append.mp hm).elim c15 (fun hm => (List.mem_append.mp hm).elim c18 (fun hm => (List.mem_append.mp hm).elim c28 c35))))) (by decide +kernel) (by decide) ?_
              refine lv_aload_n hx hb dX9_one_175 rfl (lv_at hl 2 rfl) ?_
              refine lv_iload_n hx hb dX9_one_176 rfl (lv_at hl 1 rfl) ?_
              have hq := bd_some h; clear h; obtain ⟨s42, h41, h⟩ := hq
              refine sw_vv (rest := []) m_good X (cX9_accumulator_m h41) calX9_accumulator k_937 hP hD hS 0 9 rfl rfl rfl ⟨rfl, rfl⟩ rfl hl.1 rfl (Nat.le_of_ble_eq_true rfl) dX9_one_177 (fun H locs hP hD hS => ?_)
              obtain rfl := Option.some.inj h
              exact sw_vret X hP hD hS dX9_one_180
theorem dX9_back_0 : decode cX9_back 0 = .ok (.iload_n 1, 1) := by decide +kernel
theorem dX9_back_1 : decode cX9_back 1 = .ok (.tableswitch 119 0 6 #[43, 88, 43, 99, 43, 108, 57], 43) := by decide +kernel
theorem dX9_back_44 : decode cX9_back 44 = .ok (.aload_n 0, 1) := by decide +kernel
theorem dX9_back_45 : decode cX9_back 45 = .ok (.iload_n 1, 1) := by decide +kernel
theorem dX9_back_46 : decode cX9_back 46 = .ok (.iconst 2, 1) := by decide +kernel
theorem dX9_back_47 : decode cX9_back 47 = .ok (.idiv, 1) := by decide +kernel
theorem dX9_back_48 : decode cX9_back 48 = .ok (.aload_n 0, 1) := by decide +kernel
theorem dX9_back_49 : decode cX9_back 49 = .ok (.invokevirtual 139, 3) := by decide +kernel
theorem dX9_back_52 : decode cX9_back 52 = .ok (.invokevirtual 90, 3) := by decide +kernel
theorem dX9_back_55 : decode cX9_back 55 = .ok (.goto 83, 3) := by decide +kernel
theorem dX9_back_58 : decode cX9_back 58 = .ok (.aload_n 0, 1) := by decide +kernel
theorem dX9_back_59 : decode cX9_back 59 = .ok (.invokevirtual 139, 3) := by decide +kernel
theorem dX9_back_62 : decode cX9_back 62 = .ok (.istore_n 2, 1) := by decide +kernel
theorem dX9_back_63 : decode cX9_back 63 = .ok (.aload_n 0, 1) := by decide +kernel
theorem dX9_back_64 : decode cX9_back 64 = .ok (.getfield 13, 3) := by decide +kernel
theorem dX9_back_67 : decode cX9_back 67 = .ok (.bipush 7, 2) := by decide +kernel
theorem dX9_back_69 : decode cX9_back 69 = .ok (.iload_n 2, 1) := by decide +kernel
theorem dX9_back_70 : decode cX9_back 70 = .ok (.bipush 8, 2) := by decide +kernel
theorem dX9_back_72 : decode cX9_back 72 = .ok (.ishr, 1) := by decide +kernel
theorem dX9_back_73 : decode cX9_back 73 = .ok (.iastore, 1) := by decide +kernel
theorem dX9_back_74 : decode cX9_back 74 = .ok (.aload_n 0, 1) := by decide +kernel
theorem dX9_back_75 : decode cX9_back 75 = .ok (.getfield 13, 3) := by decide +kernel
theorem dX9_back_78 : decode cX9_back 78 = .ok (.bipush 6, 2) := by decide +kernel
theorem dX9_back_80 : decode cX9_back 80 = .ok (.iload_n 2, 1) := by decide +kernel
theorem dX9_back_81 : decode cX9_back 81 = .ok (.sipush 215, 3) := by decide +kernel
theorem dX9_back_84 : decode cX9_back 84 = .ok (.iand, 1) := by decide +kernel
theorem dX9_back_85 : decode cX9_back 85 = .ok (.iastore, 1) := by decide +kernel
theorem dX9_back_86 : decode cX9_back 86 = .ok (.goto 52, 3) := by decide +kernel
theorem dX9_back_89 : decode cX9_back 89 = .ok (.aload_n 0, 1) := by decide +kernel
theorem dX9_back_90 : decode cX9_back 90 = .ok (.aload_n 0, 1) := by decide +kernel
theorem dX9_back_91 : decode cX9_back 91 = .ok (.invokevirtual 139, 3) := by decide +kernel
theorem dX9_back_94 : decode cX9_back 94 = .ok (.putfield 46, 3) := by decide +kernel
theorem dX9_back_97 : decode cX9_back 97 = .ok (.goto 41, 3) := by decide +kernel
theorem dX9_back_100 : decode cX9_back 100 = .ok (.aload_n 0, 1) := by decide +kernel
theorem dX9_back_101 : decode cX9_back 101 = .ok (.iconst 0, 1) := by decide +kernel
theorem dX9_back_102 : decode cX9_back 102 = .ok (.iconst 5, 1) := by decide +kernel
theorem dX9_back_103 : decode cX9_back 103 = .ok (.invokevirtual 126, 3) := by decide +kernel
theorem dX9_back_106 : decode cX9_back 106 = .ok (.goto 32, 3) := by decide +kernel
theorem dX9_back_109 : decode cX9_back 109 = .ok (.aload_n 0, 1) := by decide +kernel
theorem dX9_back_110 : decode cX9_back 110 = .ok (.aload_n 0, 1) := by decide +kernel
theorem dX9_back_111 : decode cX9_back 111 = .ok (.invokevirtual 71, 3) := by decide +kernel
theorem dX9_back_114 : decode cX9_back 114 = .ok (.putfield 46, 3) := by decide +kernel
theorem dX9_back_117 : decode cX9_back 117 = .ok (.goto 21, 3) := by decide +kernel
theorem dX9_back_120 : decode cX9_back 120 = .ok (.aload_n 0, 1) := by decide +kernel
theorem dX9_back_121 : decode cX9_back 121 = .ok (.aload_n 0, 1) := by decide +kernel
theorem dX9_back_122 : decode cX9_back 122 = .ok (.getfield 32, 3) := by decide +kernel
theorem dX9_back_125 : decode cX9_back 125 = .ok (.iconst 2, 1) := by decide +kernel
theorem dX9_back_126 : decode cX9_back 126 = .ok (.iadd, 1) := by decide +kernel
theorem dX9_back_127 : decode cX9_back 127 = .ok (.putfield 32, 3) := by decide +kernel
theorem dX9_back_130 : decode cX9_back 130 = .ok (.aload_n 0, 1) := by decide +kernel
theorem dX9_back_131 : decode cX9_back 131 = .ok (.aload_n 0, 1) := by decide +kernel
theorem dX9_back_132 : decode cX9_back 132 = .ok (.invokevirtual 71, 3) := by decide +kernel
theorem dX9_back_135 : decode cX9_back 135 = .ok (.putfield 58, 3) := by decide +kernel
theorem dX9_back_138 : decode cX9_back 138 = .ok (.return_, 1) := by decide +kernel
def fX9_back (p1 : Int32) (s0 : zS) : Option (zS) := if p1 ∈ ([(0 : Int32), (2 : Int32), (4 : Int32)] : List Int32) then (bd2 (fX9_pop  s0) fun r3 s4 => bd (fX9_setPair (p1 / (2 : Int32)) r3 s4) fun s6 => some s6) else if p1 ∈ ([(1 : Int32)] : List Int32) then (bd2 (fX9_pop  s0) fun r9 s10 => some (st1 s10 2 r9)) else if p1 ∈ ([(3 : Int32)] : List Int32) then (bd (fX9_exchange (0 : Int32) (5 : Int32) s0) fun s13 => some s13) else if p1 ∈ ([(5 : Int32)] : List Int32) then (bd2 (fX9_hl  s0) fun r16 s17 => some (st1 s17 2 r16)) else if p1 ∈ ([(6 : Int32)] : List Int32) then (bd2 (fX9_pop  s0) fun r20 s21 => some (st2 (st2 s21 1 ((7 : Int32).toNatClampNeg) (r20 >>> ((8 : Int32) &&& 31))) 1 ((6 : Int32).toNatClampNeg) (r20 &&& (215 : Int32)))) else (bd2 (fX9_hl  (st1 s0 3 ((s0.1 3) + (2 : Int32)))) fun r23 s24 => some (st1 s24 1 r23))
set_option maxHeartbeats 4000000 in
set_option maxRecDepth 100000 in
theorem cX9_back_m {l : Launch} {dC : Nat → ClassId} {dI : Nat → Nat → Nat} {ad : Nat → Nat} {cI : ClassId} {p1 : Int32} {s0 : zS} {zs : zS} (h : fX9_back p1 s0 = some zs) : sw_Mv l yX9_back (sw_ws yX9_back cX9_back 3 none) (sw_rm 5 107) (dC, dI) vwCl [(cI, .int)] mF [.ref (ad 0), .int p1] (mW ad cI s0) (mW ad cI zs) := by
  intro sz
  refine sw_of (cc := cX9_back) (maxL := 3) (ret := none) (by decide) rfl (Nat.le_of_ble_eq_true rfl) ?_
  intro p e s m args below meth c A ls hAe hsz X _ hP hD hS hl
  rw [hAe]
  have hx := X.1.1
  have hb := X.1.2.1
  have hown := X.1.2.2.2.1
  have hts := X.1.2.2.2.2
  replace hl : lv_has ls 3 [(0, .ref (ad 0)), (1, .int p1)] := hl
  unfold fX9_back at h
  refine lv_iload_n hx hb dX9_back_0 rfl (lv_at hl 1 rfl) ?_
  by_cases c1 : p1 ∈ ([(0 : Int32), (2 : Int32), (4 : Int32)] : List Int32)
  · replace h := if_yes h c1
    refine sw_tabK (tgt := 44) (off := 43) hx hb dX9_back_1 _ c1 (by decide +kernel) (by decide) ?_
    refine lv_aload_n hx hb dX9_back_44 rfl (lv_at hl 0 rfl) ?_
    refine lv_iload_n hx hb dX9_back_45 rfl (lv_at hl 1 rfl) ?_
    refine lv_iconst (v := (2 : Int32)) hx hb dX9_back_46 (by decide) ?_
    refine lv_idiv hx hb dX9_back_47 (by decide) ?_
    refine lv_aload_n hx hb dX9_back_48 rfl (lv_at hl 0 rfl) ?_
    have hq := bd2_some h; clear h; obtain ⟨r3, s4, h2, h⟩ := hq
    refine sw_vi (rest := [.int (p1 / (2 : Int32)), .ref (ad 0)]) m_good X (cX9_pop_m h2) calX9_pop k_964 hP hD hS 0 9 rfl rfl rfl ⟨rfl, rfl⟩ rfl hl.1 rfl (Nat.le_of_ble_eq_true rfl) dX9_back_49 (fun H locs hP hD hS => ?_)
    have hq := bd_some h; clear h; obtain ⟨s6, h5, h⟩ := hq
    refine sw_vv (rest := []) m_good X (cX9_setPair_m h5) calX9_setPair k_890 hP hD hS 0 9 rfl rfl rfl ⟨rfl, rfl⟩ rfl hl.1 rfl (Nat.le_of_ble_eq_true rfl) dX9_back_52 (fun H locs hP hD hS => ?_)
    refine lv_goto (tgt := 138) hx hb dX9_back_55 (by decide) ?_
    obtain rfl := Option.some.inj h
    exact sw_vret X hP hD hS dX9_back_138
  · replace h := if_no h c1
    by_cases c7 : p1 ∈ ([(1 : Int32)] : List Int32)
    · replace h := if_yes h c7
      refine sw_tabK (tgt := 89) (off := 88) hx hb dX9_back_1 _ c7 (by decide +kernel) (by decide) ?_
      refine lv_aload_n hx hb dX9_back_89 rfl (lv_at hl 0 rfl) ?_
      refine lv_aload_n hx hb dX9_back_90 rfl (lv_at hl 0 rfl) ?_
      have hq := bd2_some h; clear h; obtain ⟨r9, s10, h8, h⟩ := hq
      refine sw_vi (rest := [.ref (ad 0)]) m_good X (cX9_pop_m h8) calX9_pop k_964 hP hD hS 0 9 rfl rfl rfl ⟨rfl, rfl⟩ rfl hl.1 rfl (Nat.le_of_ble_eq_true rfl) dX9_back_91 (fun H locs hP hD hS => ?_)
      refine mp_0_5 X hP hD hS k_762 dX9_back_94 (fun H locs hP hD hS => ?_)
      refine lv_goto (tgt := 138) hx hb dX9_back_97 (by decide) ?_
      obtain rfl := Option.some.inj h
      exact sw_vret X hP hD hS dX9_back_138
    · replace h := if_no h c7
      by_cases c11 : p1 ∈ ([(3 : Int32)] : List Int32)
      · replace h := if_yes h c11
        refine sw_tabK (tgt := 100) (off := 99) hx hb dX9_back_1 _ c11 (by decide +kernel) (by decide) ?_
        refine lv_aload_n hx hb dX9_back_100 rfl (lv_at hl 0 rfl) ?_
        refine lv_iconst (v := (0 : Int32)) hx hb dX9_back_101 (by decide) ?_
        refine lv_iconst (v := (5 : Int32)) hx hb dX9_back_102 (by decide) ?_
        have hq := bd_some h; clear h; obtain ⟨s13, h12, h⟩ := hq
        refine sw_vv (rest := []) m_good X (cX9_exchange_m h12) calX9_exchange k_870 hP hD hS 0 9 rfl rfl rfl ⟨rfl, rfl⟩ rfl hl.1 rfl (Nat.le_of_ble_eq_true rfl) dX9_back_103 (fun H locs hP hD hS => ?_)
        refine lv_goto (tgt := 138) hx hb dX9_back_106 (by decide) ?_
        obtain rfl := Option.some.inj h
        exact sw_vret X hP hD hS dX9_back_138
      · replace h := if_no h c11
        by_cases c14 : p1 ∈ ([(5 : Int32)] : List Int32)
        · replace h := if_yes h c14
          refine sw_tabK (tgt := 109) (off := 108) hx hb dX9_back_1 _ c14 (by decide +kernel) (by decide) ?_
          refine lv_aload_n hx hb dX9_back_109 rfl (lv_at hl 0 rfl) ?_
          refine lv_aload_n hx hb dX9_back_110 rfl (lv_at hl 0 rfl) ?_
          have hq := bd2_some h; clear h; obtain ⟨r16, s17, h15, h⟩ := hq
          refine sw_vi (rest := [.ref (ad 0)]) m_good X (cX9_hl_m h15) calX9_hl k_898 hP hD hS 0 9 rfl rfl rfl ⟨rfl, rfl⟩ rfl hl.1 rfl (Nat.le_of_ble_eq_true rfl) dX9_back_111 (fun H locs hP hD hS => ?_)
          refine mp_0_5 X hP hD hS k_762 dX9_back_114 (fun H locs hP hD hS => ?_)
          refine lv_goto (tgt := 138) hx hb dX9_back_117 (by decide) ?_
          obtain rfl := Option.some.inj h
          exact sw_vret X hP hD hS dX9_back_138
        · replace h := if_no h c14
          by_cases c18 : p1 ∈ ([(6 : Int32)] : List Int32)
          · replace h := if_yes h c18
            refine sw_tabK (tgt := 58) (off := 57) hx hb dX9_back_1 _ c18 (by decide +kernel) (by decide) ?_
            refine lv_aload_n hx hb dX9_back_58 rfl (lv_at hl 0 rfl) ?_
            have hq := bd2_some h; clear h; obtain ⟨r20, s21, h19, h⟩ := hq
            refine sw_vi (rest := []) m_good X (cX9_pop_m h19) calX9_pop k_964 hP hD hS 0 9 rfl rfl rfl ⟨rfl, rfl⟩ rfl hl.1 rfl (Nat.le_of_ble_eq_true rfl) dX9_back_59 (fun H locs hP hD hS => ?_)
            refine lv_istore_n (lv' := [(2, .int r20), (0, .ref (ad 0)), (1, .int p1)]) hx hb dX9_back_62 rfl hl (by decide) rfl (fun ls hl => ?_)
            refine lv_aload_n hx hb dX9_back_63 rfl (lv_at hl 1 rfl) ?_
            refine mg_0_2 X hP k_759 dX9_back_64 ?_
            refine lv_bipush (v := (7 : Int32)) hx hb dX9_back_67 (by decide) ?_
            refine lv_iload_n hx hb dX9_back_69 rfl (lv_at hl 0 rfl) ?_
            refine lv_bipush (v := (8 : Int32)) hx hb dX9_back_70 (by decide) ?_
            refine lv_ishr hx hb dX9_back_72 ?_
            refine mb_1 X hP hD hS (vin_in (i := (7 : Int32)) (n := 8) (by decide) (by decide)) dX9_back_73 (fun H locs hP hD hS => ?_)
            refine lv_aload_n hx hb dX9_back_74 rfl (lv_at hl 1 rfl) ?_
            refine mg_0_2 X hP k_759 dX9_back_75 ?_
            refine lv_bipush (v := (6 : Int32)) hx hb dX9_back_78 (by decide) ?_
            refine lv_iload_n hx hb dX9_back_80 rfl (lv_at hl 0 rfl) ?_
            refine lv_sipush (v := (215 : Int32)) hx hb dX9_back_81 (by decide) ?_
            refine lv_iand hx hb dX9_back_84 ?_
            refine mb_1 X hP hD hS (vin_in (i := (6 : Int32)) (n := 8) (by decide) (by decide)) dX9_back_85 (fun H locs hP hD hS => ?_)
            refine lv_goto (tgt := 138) hx hb dX9_back_86 (by decide) ?_
            obtain rfl := Option.some.inj h
            exact sw_vret X hP hD hS dX9_back_138
          · replace h := if_no h c18
            refine sw_tabD (tgt := 120) hx hb dX9_back_1 (([(0 : Int32), (2 : Int32), (4 : Int32)] : List Int32) ++ (([(1 : Int32)] : List Int32) ++ (([(3 : Int32)] : List Int32) ++ (([(5 : Int32)] : List Int32) ++ ([(6 : Int32)] : List Int32))))) (fun hm => (List.mem_append.mp hm).elim c1 (fun hm => (List.mem_append.mp hm).elim c7 (fun hm => (List.mem_append.mp hm).elim c11 (fun hm => (List.mem_append.mp hm).elim c14 c18)))) (by decide +kernel) (by decide) ?_
            refine lv_aload_n hx hb dX9_back_120 rfl (lv_at hl 0 rfl) ?_
            refine lv_aload_n hx hb dX9_back_121 rfl (lv_at hl 0 rfl) ?_
            refine mg_0_6 X hP k_763 dX9_back_122 ?_
            refine lv_iconst (v := (2 : Int32)) hx hb dX9_back_125 (by decide) ?_
            refine lv_iadd hx hb dX9_back_126 ?_
            refine mp_0_6 X hP hD hS k_763 dX9_back_127 (fun H locs hP hD hS => ?_)
            refine lv_aload_n hx hb dX9_back_130 rfl (lv_at hl 0 rfl) ?_
            refine lv_aload_n hx hb dX9_back_131 rfl (lv_at hl 0 rfl) ?_
            have hq := bd2_some h; clear h; obtain ⟨r23, s24, h22, h⟩ := hq
            refine sw_vi (rest := [.ref (ad 0)]) m_good X (cX9_hl_m h22) calX9_hl k_898 hP hD hS 0 9 rfl rfl rfl ⟨rfl, rfl⟩ rfl hl.1 rfl (Nat.le_of_ble_eq_true rfl) dX9_back_132 (fun H locs hP hD hS => ?_)
            refine mp_0_4 X hP hD hS k_761 dX9_back_135 (fun H locs hP hD hS => ?_)
            obtain rfl := Option.some.inj h
            exact sw_vret X hP hD hS dX9_back_138
theorem dX9_openPort_0 : decode cX9_openPort 0 = .ok (.iload_n 1, 1) := by decide +kernel
theorem dX9_openPort_1 : decode cX9_openPort 1 = .ok (.iconst 2, 1) := by decide +kernel
theorem dX9_openPort_2 : decode cX9_openPort 2 = .ok (.irem, 1) := by decide +kernel
theorem dX9_openPort_3 : decode cX9_openPort 3 = .ok (.ifCond .ne 7, 3) := by decide +kernel
theorem dX9_openPort_6 : decode cX9_openPort 6 = .ok (.aload_n 0, 1) := by decide +kernel
theorem dX9_openPort_7 : decode cX9_openPort 7 = .ok (.invokevirtual 39, 3) := by decide +kernel
theorem dX9_openPort_10 : decode cX9_openPort 10 = .ok (.return_, 1) := by decide +kernel
def fX9_openPort (p1 : Int32) (s0 : zS) : Option (zS) := if (p1 - p1 / (2 : Int32) * (2 : Int32)) = (0 : Int32) then (bd (fX9_delay  s0) fun s3 => some s3) else (some s0)
set_option maxHeartbeats 4000000 in
set_option maxRecDepth 100000 in
theorem cX9_openPort_m {l : Launch} {dC : Nat → ClassId} {dI : Nat → Nat → Nat} {ad : Nat → Nat} {cI : ClassId} {p1 : Int32} {s0 : zS} {zs : zS} (h : fX9_openPort p1 s0 = some zs) : sw_Mv l yX9_openPort (sw_ws yX9_openPort cX9_openPort 2 none) (sw_rm 1 22) (dC, dI) vwCl [(cI, .int)] mF [.ref (ad 0), .int p1] (mW ad cI s0) (mW ad cI zs) := by
  intro sz
  refine sw_of (cc := cX9_openPort) (maxL := 2) (ret := none) (by decide) rfl (Nat.le_of_ble_eq_true rfl) ?_
  intro p e s m args below meth c A ls hAe hsz X _ hP hD hS hl
  rw [hAe]
  have hx := X.1.1
  have hb := X.1.2.1
  have hown := X.1.2.2.2.1
  have hts := X.1.2.2.2.2
  replace hl : lv_has ls 2 [(0, .ref (ad 0)), (1, .int p1)] := hl
  unfold fX9_openPort at h
  refine lv_iload_n hx hb dX9_openPort_0 rfl (lv_at hl 1 rfl) ?_
  refine lv_iconst (v := (2 : Int32)) hx hb dX9_openPort_1 (by decide) ?_
  refine lv_irem hx hb dX9_openPort_2 (by decide) ?_
  refine lv_if_ne (tgt := 10) hx hb dX9_openPort_3 (by decide) (fun c1 => ?_) (fun c1 => ?_)
  · replace h := if_no h c1
    obtain rfl := Option.some.inj h
    exact sw_vret X hP hD hS dX9_openPort_10
  · replace h := if_yes h c1
    refine lv_aload_n hx hb dX9_openPort_6 rfl (lv_at hl 0 rfl) ?_
    have hq := bd_some h; clear h; obtain ⟨s3, h2, h⟩ := hq
    refine sw_vv (rest := []) m_good X (cX9_delay_m h2) calX9_delay k_850 hP hD hS 0 9 rfl rfl rfl ⟨rfl, rfl⟩ rfl hl.1 rfl (Nat.le_of_ble_eq_true rfl) dX9_openPort_7 (fun H locs hP hD hS => ?_)
    obtain rfl := Option.some.inj h
    exact sw_vret X hP hD hS dX9_openPort_10
theorem dX9_send_0 : decode cX9_send 0 = .ok (.aload_n 0, 1) := by decide +kernel
theorem dX9_send_1 : decode cX9_send 1 = .ok (.iload_n 1, 1) := by decide +kernel
theorem dX9_send_2 : decode cX9_send 2 = .ok (.invokevirtual 188, 3) := by decide +kernel
theorem dX9_send_5 : decode cX9_send 5 = .ok (.iload_n 1, 1) := by decide +kernel
theorem dX9_send_6 : decode cX9_send 6 = .ok (.sipush 254, 3) := by decide +kernel
theorem dX9_send_9 : decode cX9_send 9 = .ok (.if_icmp .ne 74, 3) := by decide +kernel
theorem dX9_send_12 : decode cX9_send 12 = .ok (.aload_n 0, 1) := by decide +kernel
theorem dX9_send_13 : decode cX9_send 13 = .ok (.aload_n 0, 1) := by decide +kernel
theorem dX9_send_14 : decode cX9_send 14 = .ok (.getfield 13, 3) := by decide +kernel
theorem dX9_send_17 : decode cX9_send 17 = .ok (.bipush 7, 2) := by decide +kernel
theorem dX9_send_19 : decode cX9_send 19 = .ok (.iaload, 1) := by decide +kernel
theorem dX9_send_20 : decode cX9_send 20 = .ok (.bipush 7, 2) := by decide +kernel
theorem dX9_send_22 : decode cX9_send 22 = .ok (.iand, 1) := by decide +kernel
theorem dX9_send_23 : decode cX9_send 23 = .ok (.putfield 191, 3) := by decide +kernel
theorem dX9_send_26 : decode cX9_send 26 = .ok (.aload_n 0, 1) := by decide +kernel
theorem dX9_send_27 : decode cX9_send 27 = .ok (.getfield 13, 3) := by decide +kernel
theorem dX9_send_30 : decode cX9_send 30 = .ok (.bipush 7, 2) := by decide +kernel
theorem dX9_send_32 : decode cX9_send 32 = .ok (.iaload, 1) := by decide +kernel
theorem dX9_send_33 : decode cX9_send 33 = .ok (.iconst 4, 1) := by decide +kernel
theorem dX9_send_34 : decode cX9_send 34 = .ok (.ishr, 1) := by decide +kernel
theorem dX9_send_35 : decode cX9_send 35 = .ok (.iconst 1, 1) := by decide +kernel
theorem dX9_send_36 : decode cX9_send 36 = .ok (.iand, 1) := by decide +kernel
theorem dX9_send_37 : decode cX9_send 37 = .ok (.istore_n 2, 1) := by decide +kernel
theorem dX9_send_38 : decode cX9_send 38 = .ok (.iload_n 2, 1) := by decide +kernel
theorem dX9_send_39 : decode cX9_send 39 = .ok (.aload_n 0, 1) := by decide +kernel
theorem dX9_send_40 : decode cX9_send 40 = .ok (.getfield 194, 3) := by decide +kernel
theorem dX9_send_43 : decode cX9_send 43 = .ok (.if_icmp .eq 40, 3) := by decide +kernel
theorem dX9_send_46 : decode cX9_send 46 = .ok (.aload_n 0, 1) := by decide +kernel
theorem dX9_send_47 : decode cX9_send 47 = .ok (.getfield 197, 3) := by decide +kernel
theorem dX9_send_50 : decode cX9_send 50 = .ok (.bipush 100, 2) := by decide +kernel
theorem dX9_send_52 : decode cX9_send 52 = .ok (.if_icmp .ge 16, 3) := by decide +kernel
theorem dX9_send_55 : decode cX9_send 55 = .ok (.aload_n 0, 1) := by decide +kernel
theorem dX9_send_56 : decode cX9_send 56 = .ok (.getfield 25, 3) := by decide +kernel
theorem dX9_send_59 : decode cX9_send 59 = .ok (.aload_n 0, 1) := by decide +kernel
theorem dX9_send_60 : decode cX9_send 60 = .ok (.getfield 197, 3) := by decide +kernel
theorem dX9_send_63 : decode cX9_send 63 = .ok (.aload_n 0, 1) := by decide +kernel
theorem dX9_send_64 : decode cX9_send 64 = .ok (.getfield 32, 3) := by decide +kernel
theorem dX9_send_67 : decode cX9_send 67 = .ok (.iastore, 1) := by decide +kernel
theorem dX9_send_68 : decode cX9_send 68 = .ok (.aload_n 0, 1) := by decide +kernel
theorem dX9_send_69 : decode cX9_send 69 = .ok (.dup, 1) := by decide +kernel
theorem dX9_send_70 : decode cX9_send 70 = .ok (.getfield 197, 3) := by decide +kernel
theorem dX9_send_73 : decode cX9_send 73 = .ok (.iconst 1, 1) := by decide +kernel
theorem dX9_send_74 : decode cX9_send 74 = .ok (.iadd, 1) := by decide +kernel
theorem dX9_send_75 : decode cX9_send 75 = .ok (.putfield 197, 3) := by decide +kernel
theorem dX9_send_78 : decode cX9_send 78 = .ok (.aload_n 0, 1) := by decide +kernel
theorem dX9_send_79 : decode cX9_send 79 = .ok (.iload_n 2, 1) := by decide +kernel
theorem dX9_send_80 : decode cX9_send 80 = .ok (.putfield 194, 3) := by decide +kernel
theorem dX9_send_83 : decode cX9_send 83 = .ok (.aload_n 0, 1) := by decide +kernel
theorem dX9_send_84 : decode cX9_send 84 = .ok (.aload_n 0, 1) := by decide +kernel
theorem dX9_send_85 : decode cX9_send 85 = .ok (.getfield 32, 3) := by decide +kernel
theorem dX9_send_88 : decode cX9_send 88 = .ok (.iconst 4, 1) := by decide +kernel
theorem dX9_send_89 : decode cX9_send 89 = .ok (.iadd, 1) := by decide +kernel
theorem dX9_send_90 : decode cX9_send 90 = .ok (.putfield 32, 3) := by decide +kernel
theorem dX9_send_93 : decode cX9_send 93 = .ok (.return_, 1) := by decide +kernel
def fX9_send (p1 : Int32) (s0 : zS) : Option (zS) := bd (fX9_openPort p1 s0) fun s2 => if p1 = (254 : Int32) then (nm ((((st1 s2 11 ((s2.2 1 ((7 : Int32).toNatClampNeg)) &&& (7 : Int32))).2 1 ((7 : Int32).toNatClampNeg)) >>> ((4 : Int32) &&& 31)) &&& (1 : Int32)) fun x4 => if x4 = ((st1 s2 11 ((s2.2 1 ((7 : Int32).toNatClampNeg)) &&& (7 : Int32))).1 12) then (some (st1 (st1 s2 11 ((s2.2 1 ((7 : Int32).toNatClampNeg)) &&& (7 : Int32))) 3 (((st1 s2 11 ((s2.2 1 ((7 : Int32).toNatClampNeg)) &&& (7 : Int32))).1 3) + (4 : Int32)))) else (if (100 : Int32) ≤ ((st1 s2 11 ((s2.2 1 ((7 : Int32).toNatClampNeg)) &&& (7 : Int32))).1 13) then (some (st1 (st1 (st1 (st1 s2 11 ((s2.2 1 ((7 : Int32).toNatClampNeg)) &&& (7 : Int32))) 13 (((st1 s2 11 ((s2.2 1 ((7 : Int32).toNatClampNeg)) &&& (7 : Int32))).1 13) + (1 : Int32))) 12 x4) 3 (((st1 (st1 (st1 s2 11 ((s2.2 1 ((7 : Int32).toNatClampNeg)) &&& (7 : Int32))) 13 (((st1 s2 11 ((s2.2 1 ((7 : Int32).toNatClampNeg)) &&& (7 : Int32))).1 13) + (1 : Int32))) 12 x4).1 3) + (4 : Int32)))) else (gd (0 ≤ ((st1 s2 11 ((s2.2 1 ((7 : Int32).toNatClampNeg)) &&& (7 : Int32))).1 13) ∧ ((st1 s2 11 ((s2.2 1 ((7 : Int32).toNatClampNeg)) &&& (7 : Int32))).1 13) < 100) <| some (st1 (st1 (st1 (st2 (st1 s2 11 ((s2.2 1 ((7 : Int32).toNatClampNeg)) &&& (7 : Int32))) 5 (((st1 s2 11 ((s2.2 1 ((7 : Int32).toNatClampNeg)) &&& (7 : Int32))).1 13).toNatClampNeg) ((st1 s2 11 ((s2.2 1 ((7 : Int32).toNatClampNeg)) &&& (7 : Int32))).1 3)) 13 (((st2 (st1 s2 11 ((s2.2 1 ((7 : Int32).toNatClampNeg)) &&& (7 : Int32))) 5 (((st1 s2 11 ((s2.2 1 ((7 : Int32).toNatClampNeg)) &&& (7 : Int32))).1 13).toNatClampNeg) ((st1 s2 11 ((s2.2 1 ((7 : Int32).toNatClampNeg)) &&& (7 : Int32))).1 3)).1 13) + (1 : Int32))) 12 x4) 3 (((st1 (st1 (st2 (st1 s2 11 ((s2.2 1 ((7 : Int32).toNatClampNeg)) &&& (7 : Int32))) 5 (((st1 s2 11 ((s2.2 1 ((7 : Int32).toNatClampNeg)) &&& (7 : Int32))).1 13).toNatClampNeg) ((st1 s2 11 ((s2.2 1 ((7 : Int32).toNatClampNeg)) &&& (7 : Int32))).1 3)) 13 (((st2 (st1 s2 11 ((s2.2 1 ((7 : Int32).toNatClampNeg)) &&& (7 : Int32))) 5 (((st1 s2 11 ((s2.2 1 ((7 : Int32).toNatClampNeg)) &&& (7 : Int32))).1 13).toNatClampNeg) ((st1 s2 11 ((s2.2 1 ((7 : Int32).toNatClampNeg)) &&& (7 : Int32))).1 3)).1 13) + (1 : Int32))) 12 x4).1 3) + (4 : Int32)))))) else (some (st1 s2 3 ((s2.1 3) + (4 : Int32))))
set_option maxHeartbeats 4000000 in
set_option maxRecDepth 100000 in
theorem cX9_send_m {l : Launch} {dC : Nat → ClassId} {dI : Nat → Nat → Nat} {ad : Nat → Nat} {cI : ClassId} {p1 : Int32} {s0 : zS} {zs : zS} (h : fX9_send p1 s0 = some zs) : sw_Mv l yX9_send (sw_ws yX9_send cX9_send 3 none) (sw_rm 2 43) (dC, dI) vwCl [(cI, .int)] mF [.ref (ad 0), .int p1] (mW ad cI s0) (mW ad cI zs) := by
  intro sz
  refine sw_of (cc := cX9_send) (maxL := 3) (ret := none) (by decide) rfl (Nat.le_of_ble_eq_true rfl) ?_
  intro p e s m args below meth c A ls hAe hsz X _ hP hD hS hl
  rw [hAe]
  have hx := X.1.1
  have hb := X.1.2.1
  have hown := X.1.2.2.2.1
  have hts := X.1.2.2.2.2
  replace hl : lv_has ls 3 [(0, .ref (ad 0)), (1, .int p1)] := hl
  unfold fX9_send at h
  refine lv_aload_n hx hb dX9_send_0 rfl (lv_at hl 0 rfl) ?_
  refine lv_iload_n hx hb dX9_send_1 rfl (lv_at hl 1 rfl) ?_
  have hq := bd_some h; clear h; obtain ⟨s2, h1, h⟩ := hq
  refine sw_vv (rest := []) m_good X (cX9_openPort_m h1) calX9_openPort k_988 hP hD hS 0 9 rfl rfl rfl ⟨rfl, rfl⟩ rfl hl.1 rfl (Nat.le_of_ble_eq_true rfl) dX9_send_2 (fun H locs hP hD hS => ?_)
  refine lv_iload_n hx hb dX9_send_5 rfl (lv_at hl 1 rfl) ?_
  refine lv_sipush (v := (254 : Int32)) hx hb dX9_send_6 (by decide) ?_
  refine lv_icmp_ne (tgt := 83) hx hb dX9_send_9 (by decide) (fun c3 => ?_) (fun c3 => ?_)
  · replace h := if_no h c3
    refine lv_aload_n hx hb dX9_send_83 rfl (lv_at hl 0 rfl) ?_
    refine lv_aload_n hx hb dX9_send_84 rfl (lv_at hl 0 rfl) ?_
    refine mg_0_6 X hP k_763 dX9_send_85 ?_
    refine lv_iconst (v := (4 : Int32)) hx hb dX9_send_88 (by decide) ?_
    refine lv_iadd hx hb dX9_send_89 ?_
    refine mp_0_6 X hP hD hS k_763 dX9_send_90 (fun H locs hP hD hS => ?_)
    obtain rfl := Option.some.inj h
    exact sw_vret X hP hD hS dX9_send_93
  · replace h := if_yes h c3
    refine lv_aload_n hx hb dX9_send_12 rfl (lv_at hl 0 rfl) ?_
    refine lv_aload_n hx hb dX9_send_13 rfl (lv_at hl 0 rfl) ?_
    refine mg_0_2 X hP k_759 dX9_send_14 ?_
    refine lv_bipush (v := (7 : Int32)) hx hb dX9_send_17 (by decide) ?_
    refine ml_1 X hP (vin_in (i := (7 : Int32)) (n := 8) (by decide) (by decide)) dX9_send_19 ?_
    refine lv_bipush (v := (7 : Int32)) hx hb dX9_send_20 (by decide) ?_
    refine lv_iand hx hb dX9_send_22 ?_
    refine mp_0_16 X hP hD hS k_773 dX9_send_23 (fun H locs hP hD hS => ?_)
    refine lv_aload_n hx hb dX9_send_26 rfl (lv_at hl 0 rfl) ?_
    refine mg_0_2 X hP k_759 dX9_send_27 ?_
    refine lv_bipush (v := (7 : Int32)) hx hb dX9_send_30 (by decide) ?_
    refine ml_1 X hP (vin_in (i := (7 : Int32)) (n := 8) (by decide) (by decide)) dX9_send_32 ?_
    refine lv_iconst (v := (4 : Int32)) hx hb dX9_send_33 (by decide) ?_
    refine lv_ishr hx hb dX9_send_34 ?_
    refine lv_iconst (v := (1 : Int32)) hx hb dX9_send_35 (by decide) ?_
    refine lv_iand hx hb dX9_send_36 ?_
    refine lv_topi (fun x4 ex4 => ?_)
    replace h := nm_use ex4 h
    refine lv_istore_n (lv' := [(2, .int x4), (0, .ref (ad 0)), (1, .int p1)]) hx hb dX9_send_37 rfl hl (by decide) rfl (fun ls hl => ?_)
    refine lv_iload_n hx hb dX9_send_38 rfl (lv_at hl 0 rfl) ?_
    refine lv_aload_n hx hb dX9_send_39 rfl (lv_at hl 1 rfl) ?_
    refine mg_0_17 X hP k_774 dX9_send_40 ?_
    refine lv_icmp_eq (tgt := 83) hx hb dX9_send_43 (by decide) (fun c5 => ?_) (fun c5 => ?_)
    · replace h := if_yes h c5
      refine lv_aload_n hx hb dX9_send_83 rfl (lv_at hl 1 rfl) ?_
      refine lv_aload_n hx hb dX9_send_84 rfl (lv_at hl 1 rfl) ?_
      refine mg_0_6 X hP k_763 dX9_send_85 ?_
      refine lv_iconst (v := (4 : Int32)) hx hb dX9_send_88 (by decide) ?_
      refine lv_iadd hx hb dX9_send_89 ?_
      refine mp_0_6 X hP hD hS k_763 dX9_send_90 (fun H locs hP hD hS => ?_)
      obtain rfl := Option.some.inj h
      exact sw_vret X hP hD hS dX9_send_93
    · replace h := if_no h c5
      refine lv_aload_n hx hb dX9_send_46 rfl (lv_at hl 1 rfl) ?_
      refine mg_0_18 X hP k_775 dX9_send_47 ?_
      refine lv_bipush (v := (100 : Int32)) hx hb dX9_send_50 (by decide) ?_
      refine lv_icmp_ge (tgt := 68) hx hb dX9_send_52 (by decide) (fun c6 => ?_) (fun c6 => ?_)
      · replace h := if_yes h c6
        refine lv_aload_n hx hb dX9_send_68 rfl (lv_at hl 1 rfl) ?_
        refine lv_dup hx hb dX9_send_69 rfl ?_
        refine mg_0_18 X hP k_775 dX9_send_70 ?_
        refine lv_iconst (v := (1 : Int32)) hx hb dX9_send_73 (by decide) ?_
        refine lv_iadd hx hb dX9_send_74 ?_
        refine mp_0_18 X hP hD hS k_775 dX9_send_75 (fun H locs hP hD hS => ?_)
        refine lv_aload_n hx hb dX9_send_78 rfl (lv_at hl 1 rfl) ?_
        refine lv_iload_n hx hb dX9_send_79 rfl (lv_at hl 0 rfl) ?_
        refine mp_0_17 X hP hD hS k_774 dX9_send_80 (fun H locs hP hD hS => ?_)
        refine lv_aload_n hx hb dX9_send_83 rfl (lv_at hl 1 rfl) ?_
        refine lv_aload_n hx hb dX9_send_84 rfl (lv_at hl 1 rfl) ?_
        refine mg_0_6 X hP k_763 dX9_send_85 ?_
        refine lv_iconst (v := (4 : Int32)) hx hb dX9_send_88 (by decide) ?_
        refine lv_iadd hx hb dX9_send_89 ?_
        refine mp_0_6 X hP hD hS k_763 dX9_send_90 (fun H locs hP hD hS => ?_)
        obtain rfl := Option.some.inj h
        exact sw_vret X hP hD hS dX9_send_93
      · replace h := if_no h c6
        refine lv_aload_n hx hb dX9_send_55 rfl (lv_at hl 1 rfl) ?_
        refine mg_0_19 X hP k_776 dX9_send_56 ?_
        refine lv_aload_n hx hb dX9_send_59 rfl (lv_at hl 1 rfl) ?_
        refine mg_0_18 X hP k_775 dX9_send_60 ?_
        refine lv_aload_n hx hb dX9_send_63 rfl (lv_at hl 1 rfl) ?_
        refine mg_0_6 X hP k_763 dX9_send_64 ?_
        have hq := gd_some h; clear h; obtain ⟨c7, h⟩ := hq
        refine mb_5 X hP hD hS (vin_in c7 (by decide)) dX9_send_67 (fun H locs hP hD hS => ?_)
        refine lv_aload_n hx hb dX9_send_68 rfl (lv_at hl 1 rfl) ?_
        refine lv_dup hx hb dX9_send_69 rfl ?_
        refine mg_0_18 X hP k_775 dX9_send_70 ?_
        refine lv_iconst (v := (1 : Int32)) hx hb dX9_send_73 (by decide) ?_
        refine lv_iadd hx hb dX9_send_74 ?_
        refine mp_0_18 X hP hD hS k_775 dX9_send_75 (fun H locs hP hD hS => ?_)
        refine lv_aload_n hx hb dX9_send_78 rfl (lv_at hl 1 rfl) ?_
        refine lv_iload_n hx hb dX9_send_79 rfl (lv_at hl 0 rfl) ?_
        refine mp_0_17 X hP hD hS k_774 dX9_send_80 (fun H locs hP hD hS => ?_)
        refine lv_aload_n hx hb dX9_send_83 rfl (lv_at hl 1 rfl) ?_
        refine lv_aload_n hx hb dX9_send_84 rfl (lv_at hl 1 rfl) ?_
        refine mg_0_6 X hP k_763 dX9_send_85 ?_
        refine lv_iconst (v := (4 : Int32)) hx hb dX9_send_88 (by decide) ?_
        refine lv_iadd hx hb dX9_send_89 ?_
        refine mp_0_6 X hP hD hS k_763 dX9_send_90 (fun H locs hP hD hS => ?_)
        obtain rfl := Option.some.inj h
        exact sw_vret X hP hD hS dX9_send_93
theorem dX9_receive_0 : decode cX9_receive 0 = .ok (.aload_n 0, 1) := by decide +kernel
theorem dX9_receive_1 : decode cX9_receive 1 = .ok (.iload_n 1, 1) := by decide +kernel
theorem dX9_receive_2 : decode cX9_receive 2 = .ok (.invokevirtual 188, 3) := by decide +kernel
theorem dX9_receive_5 : decode cX9_receive 5 = .ok (.sipush 255, 3) := by decide +kernel
theorem dX9_receive_8 : decode cX9_receive 8 = .ok (.istore_n 2, 1) := by decide +kernel
theorem dX9_receive_9 : decode cX9_receive 9 = .ok (.iload_n 1, 1) := by decide +kernel
theorem dX9_receive_10 : decode cX9_receive 10 = .ok (.sipush 254, 3) := by decide +kernel
theorem dX9_receive_13 : decode cX9_receive 13 = .ok (.if_icmp .ne 109, 3) := by decide +kernel
theorem dX9_receive_16 : decode cX9_receive 16 = .ok (.bipush 31, 2) := by decide +kernel
theorem dX9_receive_18 : decode cX9_receive 18 = .ok (.istore_n 2, 1) := by decide +kernel
theorem dX9_receive_19 : decode cX9_receive 19 = .ok (.iconst 0, 1) := by decide +kernel
theorem dX9_receive_20 : decode cX9_receive 20 = .ok (.istore_n 3, 1) := by decide +kernel
theorem dX9_receive_21 : decode cX9_receive 21 = .ok (.iload_n 3, 1) := by decide +kernel
theorem dX9_receive_22 : decode cX9_receive 22 = .ok (.bipush 8, 2) := by decide +kernel
theorem dX9_receive_24 : decode cX9_receive 24 = .ok (.if_icmp .ge 36, 3) := by decide +kernel
theorem dX9_receive_27 : decode cX9_receive 27 = .ok (.aload_n 0, 1) := by decide +kernel
theorem dX9_receive_28 : decode cX9_receive 28 = .ok (.getfield 13, 3) := by decide +kernel
theorem dX9_receive_31 : decode cX9_receive 31 = .ok (.bipush 7, 2) := by decide +kernel
theorem dX9_receive_33 : decode cX9_receive 33 = .ok (.iaload, 1) := by decide +kernel
theorem dX9_receive_34 : decode cX9_receive 34 = .ok (.iload_n 3, 1) := by decide +kernel
theorem dX9_receive_35 : decode cX9_receive 35 = .ok (.ishr, 1) := by decide +kernel
theorem dX9_receive_36 : decode cX9_receive 36 = .ok (.iconst 1, 1) := by decide +kernel
theorem dX9_receive_37 : decode cX9_receive 37 = .ok (.iand, 1) := by decide +kernel
theorem dX9_receive_38 : decode cX9_receive 38 = .ok (.ifCond .ne 14, 3) := by decide +kernel
theorem dX9_receive_41 : decode cX9_receive 41 = .ok (.iload_n 2, 1) := by decide +kernel
theorem dX9_receive_42 : decode cX9_receive 42 = .ok (.aload_n 0, 1) := by decide +kernel
theorem dX9_receive_43 : decode cX9_receive 43 = .ok (.getfield 19, 3) := by decide +kernel
theorem dX9_receive_46 : decode cX9_receive 46 = .ok (.iload_n 3, 1) := by decide +kernel
theorem dX9_receive_47 : decode cX9_receive 47 = .ok (.iaload, 1) := by decide +kernel
theorem dX9_receive_48 : decode cX9_receive 48 = .ok (.iand, 1) := by decide +kernel
theorem dX9_receive_49 : decode cX9_receive 49 = .ok (.goto 4, 3) := by decide +kernel
theorem dX9_receive_52 : decode cX9_receive 52 = .ok (.iload_n 2, 1) := by decide +kernel
theorem dX9_receive_53 : decode cX9_receive 53 = .ok (.istore_n 2, 1) := by decide +kernel
theorem dX9_receive_54 : decode cX9_receive 54 = .ok (.iinc 3 1, 3) := by decide +kernel
theorem dX9_receive_57 : decode cX9_receive 57 = .ok (.goto (-36), 3) := by decide +kernel
theorem dX9_receive_60 : decode cX9_receive 60 = .ok (.iconst 0, 1) := by decide +kernel
theorem dX9_receive_61 : decode cX9_receive 61 = .ok (.istore_n 3, 1) := by decide +kernel
theorem dX9_receive_62 : decode cX9_receive 62 = .ok (.iconst 0, 1) := by decide +kernel
theorem dX9_receive_63 : decode cX9_receive 63 = .ok (.istore 4, 2) := by decide +kernel
theorem dX9_receive_65 : decode cX9_receive 65 = .ok (.iload 4, 2) := by decide +kernel
theorem dX9_receive_67 : decode cX9_receive 67 = .ok (.aload_n 0, 1) := by decide +kernel
theorem dX9_receive_68 : decode cX9_receive 68 = .ok (.getfield 200, 3) := by decide +kernel
theorem dX9_receive_71 : decode cX9_receive 71 = .ok (.if_icmp .ge 31, 3) := by decide +kernel
theorem dX9_receive_74 : decode cX9_receive 74 = .ok (.aload_n 0, 1) := by decide +kernel
theorem dX9_receive_75 : decode cX9_receive 75 = .ok (.getfield 22, 3) := by decide +kernel
theorem dX9_receive_78 : decode cX9_receive 78 = .ok (.iload 4, 2) := by decide +kernel
theorem dX9_receive_80 : decode cX9_receive 80 = .ok (.iaload, 1) := by decide +kernel
theorem dX9_receive_81 : decode cX9_receive 81 = .ok (.aload_n 0, 1) := by decide +kernel
theorem dX9_receive_82 : decode cX9_receive 82 = .ok (.getfield 32, 3) := by decide +kernel
theorem dX9_receive_85 : decode cX9_receive 85 = .ok (.if_icmp .ge 9, 3) := by decide +kernel
theorem dX9_receive_88 : decode cX9_receive 88 = .ok (.iload_n 3, 1) := by decide +kernel
theorem dX9_receive_89 : decode cX9_receive 89 = .ok (.iconst 1, 1) := by decide +kernel
theorem dX9_receive_90 : decode cX9_receive 90 = .ok (.iadd, 1) := by decide +kernel
theorem dX9_receive_91 : decode cX9_receive 91 = .ok (.goto 4, 3) := by decide +kernel
theorem dX9_receive_94 : decode cX9_receive 94 = .ok (.iload_n 3, 1) := by decide +kernel
theorem dX9_receive_95 : decode cX9_receive 95 = .ok (.istore_n 3, 1) := by decide +kernel
theorem dX9_receive_96 : decode cX9_receive 96 = .ok (.iinc 4 1, 3) := by decide +kernel
theorem dX9_receive_99 : decode cX9_receive 99 = .ok (.goto (-34), 3) := by decide +kernel
theorem dX9_receive_102 : decode cX9_receive 102 = .ok (.iload_n 2, 1) := by decide +kernel
theorem dX9_receive_103 : decode cX9_receive 103 = .ok (.sipush 160, 3) := by decide +kernel
theorem dX9_receive_106 : decode cX9_receive 106 = .ok (.ior, 1) := by decide +kernel
theorem dX9_receive_107 : decode cX9_receive 107 = .ok (.iload_n 3, 1) := by decide +kernel
theorem dX9_receive_108 : decode cX9_receive 108 = .ok (.iconst 2, 1) := by decide +kernel
theorem dX9_receive_109 : decode cX9_receive 109 = .ok (.irem, 1) := by decide +kernel
theorem dX9_receive_110 : decode cX9_receive 110 = .ok (.iconst 1, 1) := by decide +kernel
theorem dX9_receive_111 : decode cX9_receive 111 = .ok (.if_icmp .ne 8, 3) := by decide +kernel
theorem dX9_receive_114 : decode cX9_receive 114 = .ok (.bipush 64, 2) := by decide +kernel
theorem dX9_receive_116 : decode cX9_receive 116 = .ok (.goto 4, 3) := by decide +kernel
theorem dX9_receive_119 : decode cX9_receive 119 = .ok (.iconst 0, 1) := by decide +kernel
theorem dX9_receive_120 : decode cX9_receive 120 = .ok (.ior, 1) := by decide +kernel
theorem dX9_receive_121 : decode cX9_receive 121 = .ok (.istore_n 2, 1) := by decide +kernel
theorem dX9_receive_122 : decode cX9_receive 122 = .ok (.aload_n 0, 1) := by decide +kernel
theorem dX9_receive_123 : decode cX9_receive 123 = .ok (.aload_n 0, 1) := by decide +kernel
theorem dX9_receive_124 : decode cX9_receive 124 = .ok (.getfield 32, 3) := by decide +kernel
theorem dX9_receive_127 : decode cX9_receive 127 = .ok (.iconst 4, 1) := by decide +kernel
theorem dX9_receive_128 : decode cX9_receive 128 = .ok (.iadd, 1) := by decide +kernel
theorem dX9_receive_129 : decode cX9_receive 129 = .ok (.putfield 32, 3) := by decide +kernel
theorem dX9_receive_132 : decode cX9_receive 132 = .ok (.aload_n 0, 1) := by decide +kernel
theorem dX9_receive_133 : decode cX9_receive 133 = .ok (.getfield 13, 3) := by decide +kernel
theorem dX9_receive_136 : decode cX9_receive 136 = .ok (.bipush 7, 2) := by decide +kernel
theorem dX9_receive_138 : decode cX9_receive 138 = .ok (.iload_n 2, 1) := by decide +kernel
theorem dX9_receive_139 : decode cX9_receive 139 = .ok (.iastore, 1) := by decide +kernel
theorem dX9_receive_140 : decode cX9_receive 140 = .ok (.return_, 1) := by decide +kernel
def fX9_receive_L65 : Nat → Int32 → Int32 → Int32 → Int32 → zS → Option (zS)
  | 0, _, _, _, _, _ => none
  | n + 1, v1, v2, v3, v4, s0 => if (s0.1 10) ≤ v4 then (bd (if (v3 - v3 / (2 : Int32) * (2 : Int32)) = (1 : Int32) then (some (64 : Int32)) else (some (0 : Int32))) fun x8 => nm ((v2 ||| (160 : Int32)) ||| x8) fun x10 => some (st2 (st1 s0 3 ((s0.1 3) + (4 : Int32))) 1 ((7 : Int32).toNatClampNeg) x10)) else (gd (0 ≤ v4 ∧ v4 < 64) <| bd (if (s0.1 3) ≤ (s0.2 4 (v4.toNatClampNeg)) then (some v3) else (some (v3 + (1 : Int32)))) fun x14 => nm (v4 + (1 : Int32)) fun x16 => fX9_receive_L65 n v1 v2 x14 x16 s0)
set_option maxHeartbeats 4000000 in
set_option maxRecDepth 100000 in
theorem cX9_receive_lp65 {l : Launch} {dC : Nat → ClassId} {dI : Nat → Nat → Nat} {ad : Nat → Nat} {cI : ClassId} {zs : zS} {p : Program} {e : Env} {s : State} {m : MethodId} {args : Array Value} {below : List Frame} {meth : Method} {c : Code} {A : Nat → Prop} (X : sw_X p s m args meth c cX9_receive 5 RX9 none (sw_ws yX9_receive cX9_receive 5 none) (dC, dI) vwCl [(cI, .int)] mF A) : ∀ (n : Nat) {v1 v2 v3 v4 : Int32} {s0 : zS} {H : Heap} {locs : List Loc} {ls : Array Slot}, fX9_receive_L65 n v1 v2 v3 v4 s0 = some zs → va_P (dC, dI) vwCl (mW ad cI s0) H → va_D A (mW ad cI s0) → va_S A s.heap H locs → lv_has ls 5 [(0, .ref (ad 0)), (1, .int v1), (2, .int v2), (3, .int v3), (4, .int v4)] → W p l e (sw_rm 2 43) s m args below meth c H locs 0 0 (MQ below (sw_Qv (dC, dI) vwCl [(cI, .int)] A (mW ad cI zs)) args s 0 0 A) (F0 m 65 ls []) := by
  have hx := X.1.1
  have hb := X.1.2.1
  have hown := X.1.2.2.2.1
  have hts := X.1.2.2.2.2
  intro n
  induction n with
  | zero =>
    intro v1 v2 v3 v4 s0 H locs ls h
    rw [fX9_receive_L65] at h
    exact absurd h (fun h9 => by cases h9)
  | succ n ih =>
    intro v1 v2 v3 v4 s0 H locs ls h hP hD hS hl
    rw [fX9_receive_L65] at h
    refine lv_iload hx hb dX9_receive_65 (lv_at hl 4 rfl) ?_
    refine lv_aload_n hx hb dX9_receive_67 rfl (lv_at hl 0 rfl) ?_
    refine mg_0_14 X hP k_771 dX9_receive_68 ?_
    refine lv_icmp_ge (tgt := 102) hx hb dX9_receive_71 (by decide) (fun c5 => ?_) (fun c5 => ?_)
    · replace h := if_yes h c5
      refine lv_iload_n hx hb dX9_receive_102 rfl (lv_at hl 2 rfl) ?_
      refine lv_sipush (v := (160 : Int32)) hx hb dX9_receive_103 (by decide) ?_
      refine lv_ior hx hb dX9_receive_106 ?_
      refine lv_iload_n hx hb dX9_receive_107 rfl (lv_at hl 3 rfl) ?_
      refine lv_iconst (v := (2 : Int32)) hx hb dX9_receive_108 (by decide) ?_
      refine lv_irem hx hb dX9_receive_109 (by decide) ?_
      refine lv_iconst (v := (1 : Int32)) hx hb dX9_receive_110 (by decide) ?_
      have hq := bd_some h; clear h; obtain ⟨x8, h9, h⟩ := hq
      have K6 : ∀ (H : Heap) (locs : List Loc), va_P (dC, dI) vwCl (mW ad cI s0) H → va_D A (mW ad cI s0) → va_S A s.heap H locs → W p l e (sw_rm 2 43) s m args below meth c H locs 0 0 (MQ below (sw_Qv (dC, dI) vwCl [(cI, .int)] A (mW ad cI zs)) args s 0 0 A) (F0 m 120 ls [.int x8, .int (v2 ||| (160 : Int32))]) := by
        intro H locs hP hD hS
        refine lv_ior hx hb dX9_receive_120 ?_
        refine lv_topi (fun x10 ex10 => ?_)
        replace h := nm_use ex10 h
        refine lv_istore_n (lv' := [(2, .int x10), (0, .ref (ad 0)), (1, .int v1), (3, .int v3), (4, .int v4)]) hx hb dX9_receive_121 rfl hl (by decide) rfl (fun ls hl => ?_)
        refine lv_aload_n hx hb dX9_receive_122 rfl (lv_at hl 1 rfl) ?_
        refine lv_aload_n hx hb dX9_receive_123 rfl (lv_at hl 1 rfl) ?_
        refine mg_0_6 X hP k_763 dX9_receive_124 ?_
        refine lv_iconst (v := (4 : Int32)) hx hb dX9_receive_127 (by decide) ?_
        refine lv_iadd hx hb dX9_receive_128 ?_
        refine mp_0_6 X hP hD hS k_763 dX9_receive_129 (fun H locs hP hD hS => ?_)
        refine lv_aload_n hx hb dX9_receive_132 rfl (lv_at hl 1 rfl) ?_
        refine mg_0_2 X hP k_759 dX9_receive_133 ?_
        refine lv_bipush (v := (7 : Int32)) hx hb dX9_receive_136 (by decide) ?_
        refine lv_iload_n hx hb dX9_receive_138 rfl (lv_at hl 0 rfl) ?_
        refine mb_1 X hP hD hS (vin_in (i := (7 : Int32)) (n := 8) (by decide) (by decide)) dX9_receive_139 (fun H locs hP hD hS => ?_)
        obtain rfl := Option.some.inj h
        exact sw_vret X hP hD hS dX9_receive_140
      replace h := h9
      clear h9
      refine lv_icmp_ne (tgt := 119) hx hb dX9_receive_111 (by decide) (fun c7 => ?_) (fun c7 => ?_)
      · replace h := if_no h c7
        refine lv_iconst (v := (0 : Int32)) hx hb dX9_receive_119 (by decide) ?_
        obtain rfl := Option.some.inj h
        exact K6 _ _ hP hD hS
      · replace h := if_yes h c7
        refine lv_bipush (v := (64 : Int32)) hx hb dX9_receive_114 (by decide) ?_
        refine lv_goto (tgt := 120) hx hb dX9_receive_116 (by decide) ?_
        obtain rfl := Option.some.inj h
        exact K6 _ _ hP hD hS
    · replace h := if_no h c5
      refine lv_aload_n hx hb dX9_receive_74 rfl (lv_at hl 0 rfl) ?_
      refine mg_0_15 X hP k_772 dX9_receive_75 ?_
      refine lv_iload hx hb dX9_receive_78 (lv_at hl 4 rfl) ?_
      have hq := gd_some h; clear h; obtain ⟨c11, h⟩ := hq
      refine ml_4 X hP (vin_in c11 (by decide)) dX9_receive_80 ?_
      refine lv_aload_n hx hb dX9_receive_81 rfl (lv_at hl 0 rfl) ?_
      refine mg_0_6 X hP k_763 dX9_receive_82 ?_
      have hq := bd_some h; clear h; obtain ⟨x14, h15, h⟩ := hq
      have K12 : ∀ (H : Heap) (locs : List Loc), va_P (dC, dI) vwCl (mW ad cI s0) H → va_D A (mW ad cI s0) → va_S A s.heap H locs → W p l e (sw_rm 2 43) s m args below meth c H locs 0 0 (MQ below (sw_Qv (dC, dI) vwCl [(cI, .int)] A (mW ad cI zs)) args s 0 0 A) (F0 m 95 ls [.int x14]) := by
        intro H locs hP hD hS
        refine lv_istore_n (lv' := [(3, .int x14), (0, .ref (ad 0)), (1, .int v1), (2, .int v2), (4, .int v4)]) hx hb dX9_receive_95 rfl hl (by decide) rfl (fun ls hl => ?_)
        obtain ⟨x16, ex16⟩ : ∃ y : Int32, y = v4 + (1 : Int32) := ⟨_, rfl⟩
        replace h := nm_use ex16 h
        refine lv_iinc (v := x16) (lv' := [(4, .int x16), (3, .int x14), (0, .ref (ad 0)), (1, .int v1), (2, .int v2)]) hx hb dX9_receive_96 hl (k := 4) rfl (by rw [ex16]; rfl) (by decide) rfl (fun ls hl => ?_)
        refine lv_goto (tgt := 65) hx hb dX9_receive_99 (by decide) ?_
        exact ih  h hP hD hS (lv_sub hl [2, 3, 4, 1, 0] rfl)
      replace h := h15
      clear h15
      refine lv_icmp_ge (tgt := 94) hx hb dX9_receive_85 (by decide) (fun c13 => ?_) (fun c13 => ?_)
      · replace h := if_yes h c13
        refine lv_iload_n hx hb dX9_receive_94 rfl (lv_at hl 3 rfl) ?_
        obtain rfl := Option.some.inj h
        exact K12 _ _ hP hD hS
      · replace h := if_no h c13
        refine lv_iload_n hx hb dX9_receive_88 rfl (lv_at hl 3 rfl) ?_
        refine lv_iconst (v := (1 : Int32)) hx hb dX9_receive_89 (by decide) ?_
        refine lv_iadd hx hb dX9_receive_90 ?_
        refine lv_goto (tgt := 95) hx hb dX9_receive_91 (by decide) ?_
        obtain rfl := Option.some.inj h
        exact K12 _ _ hP hD hS
def fX9_receive_L21 : Nat → Int32 → Int32 → Int32 → zS → Option (zS)
  | 0, _, _, _, _ => none
  | n + 1, v1, v2, v3, s0 => if (8 : Int32) ≤ v3 then (fX9_receive_L65 20001 v1 v2 (0 : Int32) (0 : Int32) s0) else (bd (if (((s0.2 1 ((7 : Int32).toNatClampNeg)) >>> (v3 &&& 31)) &&& (1 : Int32)) = (0 : Int32) then (gd (0 ≤ v3 ∧ v3 < 8) <| some (v2 &&& (s0.2 3 (v3.toNatClampNeg)))) else (some v2)) fun x20 => nm (v3 + (1 : Int32)) fun x22 => fX9_receive_L21 n v1 x20 x22 s0)
set_option maxHeartbeats 4000000 in
set_option maxRecDepth 100000 in
theorem cX9_receive_lp21 {l : Launch} {dC : Nat → ClassId} {dI : Nat → Nat → Nat} {ad : Nat → Nat} {cI : ClassId} {zs : zS} {p : Program} {e : Env} {s : State} {m : MethodId} {args : Array Value} {below : List Frame} {meth : Method} {c : Code} {A : Nat → Prop} (X : sw_X p s m args meth c cX9_receive 5 RX9 none (sw_ws yX9_receive cX9_receive 5 none) (dC, dI) vwCl [(cI, .int)] mF A) : ∀ (n : Nat) {v1 v2 v3 : Int32} {s0 : zS} {H : Heap} {locs : List Loc} {ls : Array Slot}, fX9_receive_L21 n v1 v2 v3 s0 = some zs → va_P (dC, dI) vwCl (mW ad cI s0) H → va_D A (mW ad cI s0) → va_S A s.heap H locs → lv_has ls 5 [(0, .ref (ad 0)), (1, .int v1), (2, .int v2), (3, .int v3)] → W p l e (sw_rm 2 43) s m args below meth c H locs 0 0 (MQ below (sw_Qv (dC, dI) vwCl [(cI, .int)] A (mW ad cI zs)) args s 0 0 A) (F0 m 21 ls []) := by
  have hx := X.1.1
  have hb := X.1.2.1
  have hown := X.1.2.2.2.1
  have hts := X.1.2.2.2.2
  intro n
  induction n with
  | zero =>
    intro v1 v2 v3 s0 H locs ls h
    rw [fX9_receive_L21] at h
    exact absurd h (fun h9 => by cases h9)
  | succ n ih =>
    intro v1 v2 v3 s0 H locs ls h hP hD hS hl
    rw [fX9_receive_L21] at h
    refine lv_iload_n hx hb dX9_receive_21 rfl (lv_at hl 3 rfl) ?_
    refine lv_bipush (v := (8 : Int32)) hx hb dX9_receive_22 (by decide) ?_
    refine lv_icmp_ge (tgt := 60) hx hb dX9_receive_24 (by decide) (fun c4 => ?_) (fun c4 => ?_)
    · replace h := if_yes h c4
      refine lv_iconst (v := (0 : Int32)) hx hb dX9_receive_60 (by decide) ?_
      refine lv_istore_n (lv' := [(3, .int (0 : Int32)), (0, .ref (ad 0)), (1, .int v1), (2, .int v2)]) hx hb dX9_receive_61 rfl hl (by decide) rfl (fun ls hl => ?_)
      refine lv_iconst (v := (0 : Int32)) hx hb dX9_receive_62 (by decide) ?_
      refine lv_istore (lv' := [(4, .int (0 : Int32)), (3, .int (0 : Int32)), (0, .ref (ad 0)), (1, .int v1), (2, .int v2)]) hx hb dX9_receive_63 hl (by decide) rfl (fun ls hl => ?_)
      exact cX9_receive_lp65 X 20001 h hP hD hS (lv_sub hl [2, 3, 4, 1, 0] rfl)
    · replace h := if_no h c4
      refine lv_aload_n hx hb dX9_receive_27 rfl (lv_at hl 0 rfl) ?_
      refine mg_0_2 X hP k_759 dX9_receive_28 ?_
      refine lv_bipush (v := (7 : Int32)) hx hb dX9_receive_31 (by decide) ?_
      refine ml_1 X hP (vin_in (i := (7 : Int32)) (n := 8) (by decide) (by decide)) dX9_receive_33 ?_
      refine lv_iload_n hx hb dX9_receive_34 rfl (lv_at hl 3 rfl) ?_
      refine lv_ishr hx hb dX9_receive_35 ?_
      refine lv_iconst (v := (1 : Int32)) hx hb dX9_receive_36 (by decide) ?_
      refine lv_iand hx hb dX9_receive_37 ?_
      have hq := bd_some h; clear h; obtain ⟨x20, h21, h⟩ := hq
      have K17 : ∀ (H : Heap) (locs : List Loc), va_P (dC, dI) vwCl (mW ad cI s0) H → va_D A (mW ad cI s0) → va_S A s.heap H locs → W p l e (sw_rm 2 43) s m args below meth c H locs 0 0 (MQ below (sw_Qv (dC, dI) vwCl [(cI, .int)] A (mW ad cI zs)) args s 0 0 A) (F0 m 53 ls [.int x20]) := by
        intro H locs hP hD hS
        refine lv_istore_n (lv' := [(2, .int x20), (0, .ref (ad 0)), (1, .int v1), (3, .int v3)]) hx hb dX9_receive_53 rfl hl (by decide) rfl (fun ls hl => ?_)
        obtain ⟨x22, ex22⟩ : ∃ y : Int32, y = v3 + (1 : Int32) := ⟨_, rfl⟩
        replace h := nm_use ex22 h
        refine lv_iinc (v := x22) (lv' := [(3, .int x22), (2, .int x20), (0, .ref (ad 0)), (1, .int v1)]) hx hb dX9_receive_54 hl (k := 3) rfl (by rw [ex22]; rfl) (by decide) rfl (fun ls hl => ?_)
        refine lv_goto (tgt := 21) hx hb dX9_receive_57 (by decide) ?_
        exact ih  h hP hD hS (lv_sub hl [2, 3, 1, 0] rfl)
      replace h := h21
      clear h21
      refine lv_if_ne (tgt := 52) hx hb dX9_receive_38 (by decide) (fun c18 => ?_) (fun c18 => ?_)
      · replace h := if_no h c18
        refine lv_iload_n hx hb dX9_receive_52 rfl (lv_at hl 2 rfl) ?_
        obtain rfl := Option.some.inj h
        exact K17 _ _ hP hD hS
      · replace h := if_yes h c18
        refine lv_iload_n hx hb dX9_receive_41 rfl (lv_at hl 2 rfl) ?_
        refine lv_aload_n hx hb dX9_receive_42 rfl (lv_at hl 0 rfl) ?_
        refine mg_0_13 X hP k_770 dX9_receive_43 ?_
        refine lv_iload_n hx hb dX9_receive_46 rfl (lv_at hl 3 rfl) ?_
        have hq := gd_some h; clear h; obtain ⟨c19, h⟩ := hq
        refine ml_3 X hP (vin_in c19 (by decide)) dX9_receive_47 ?_
        refine lv_iand hx hb dX9_receive_48 ?_
        refine lv_goto (tgt := 53) hx hb dX9_receive_49 (by decide) ?_
        obtain rfl := Option.some.inj h
        exact K17 _ _ hP hD hS
def fX9_receive (p1 : Int32) (s0 : zS) : Option (zS) := bd (fX9_openPort p1 s0) fun s2 => if p1 = (254 : Int32) then (fX9_receive_L21 20001 p1 (31 : Int32) (0 : Int32) s2) else (some (st2 (st1 s2 3 ((s2.1 3) + (4 : Int32))) 1 ((7 : Int32).toNatClampNeg) (255 : Int32)))
set_option maxHeartbeats 4000000 in
set_option maxRecDepth 100000 in
theorem cX9_receive_m {l : Launch} {dC : Nat → ClassId} {dI : Nat → Nat → Nat} {ad : Nat → Nat} {cI : ClassId} {p1 : Int32} {s0 : zS} {zs : zS} (h : fX9_receive p1 s0 = some zs) : sw_Mv l yX9_receive (sw_ws yX9_receive cX9_receive 5 none) (sw_rm 2 43) (dC, dI) vwCl [(cI, .int)] mF [.ref (ad 0), .int p1] (mW ad cI s0) (mW ad cI zs) := by
  intro sz
  refine sw_of (cc := cX9_receive) (maxL := 5) (ret := none) (by decide) rfl (Nat.le_of_ble_eq_true rfl) ?_
  intro p e s m args below meth c A ls hAe hsz X _ hP hD hS hl
  rw [hAe]
  have hx := X.1.1
  have hb := X.1.2.1
  have hown := X.1.2.2.2.1
  have hts := X.1.2.2.2.2
  replace hl : lv_has ls 5 [(0, .ref (ad 0)), (1, .int p1)] := hl
  unfold fX9_receive at h
  refine lv_aload_n hx hb dX9_receive_0 rfl (lv_at hl 0 rfl) ?_
  refine lv_iload_n hx hb dX9_receive_1 rfl (lv_at hl 1 rfl) ?_
  have hq := bd_some h; clear h; obtain ⟨s2, h1, h⟩ := hq
  refine sw_vv (rest := []) m_good X (cX9_openPort_m h1) calX9_openPort k_988 hP hD hS 0 9 rfl rfl rfl ⟨rfl, rfl⟩ rfl hl.1 rfl (Nat.le_of_ble_eq_true rfl) dX9_receive_2 (fun H locs hP hD hS => ?_)
  refine lv_sipush (v := (255 : Int32)) hx hb dX9_receive_5 (by decide) ?_
  refine lv_istore_n (lv' := [(2, .int (255 : Int32)), (0, .ref (ad 0)), (1, .int p1)]) hx hb dX9_receive_8 rfl hl (by decide) rfl (fun ls hl => ?_)
  refine lv_iload_n hx hb dX9_receive_9 rfl (lv_at hl 2 rfl) ?_
  refine lv_sipush (v := (254 : Int32)) hx hb dX9_receive_10 (by decide) ?_
  refine lv_icmp_ne (tgt := 122) hx hb dX9_receive_13 (by decide) (fun c3 => ?_) (fun c3 => ?_)
  · replace h := if_no h c3
    refine lv_aload_n hx hb dX9_receive_122 rfl (lv_at hl 1 rfl) ?_
    refine lv_aload_n hx hb dX9_receive_123 rfl (lv_at hl 1 rfl) ?_
    refine mg_0_6 X hP k_763 dX9_receive_124 ?_
    refine lv_iconst (v := (4 : Int32)) hx hb dX9_receive_127 (by decide) ?_
    refine lv_iadd hx hb dX9_receive_128 ?_
    refine mp_0_6 X hP hD hS k_763 dX9_receive_129 (fun H locs hP hD hS => ?_)
    refine lv_aload_n hx hb dX9_receive_132 rfl (lv_at hl 1 rfl) ?_
    refine mg_0_2 X hP k_759 dX9_receive_133 ?_
    refine lv_bipush (v := (7 : Int32)) hx hb dX9_receive_136 (by decide) ?_
    refine lv_iload_n hx hb dX9_receive_138 rfl (lv_at hl 0 rfl) ?_
    refine mb_1 X hP hD hS (vin_in (i := (7 : Int32)) (n := 8) (by decide) (by decide)) dX9_receive_139 (fun H locs hP hD hS => ?_)
    obtain rfl := Option.some.inj h
    exact sw_vret X hP hD hS dX9_receive_140
  · replace h := if_yes h c3
    refine lv_bipush (v := (31 : Int32)) hx hb dX9_receive_16 (by decide) ?_
    refine lv_istore_n (lv' := [(2, .int (31 : Int32)), (0, .ref (ad 0)), (1, .int p1)]) hx hb dX9_receive_18 rfl hl (by decide) rfl (fun ls hl => ?_)
    refine lv_iconst (v := (0 : Int32)) hx hb dX9_receive_19 (by decide) ?_
    refine lv_istore_n (lv' := [(3, .int (0 : Int32)), (2, .int (31 : Int32)), (0, .ref (ad 0)), (1, .int p1)]) hx hb dX9_receive_20 rfl hl (by decide) rfl (fun ls hl => ?_)
    exact cX9_receive_lp21 X 20001 h hP hD hS (lv_sub hl [2, 3, 1, 0] rfl)
