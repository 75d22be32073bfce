theorem dX0_shiftA_0 : decode cX0_shiftA 0 = .ok (.aload_n 0, 1) := by decide +kernel
theorem dX0_shiftA_1 : decode cX0_shiftA 1 = .ok (.getfield 7, 3) := by decide +kernel
theorem dX0_shiftA_4 : decode cX0_shiftA 4 = .ok (.bipush 7, 2) := by decide +kernel
theorem dX0_shiftA_6 : decode cX0_shiftA 6 = .ok (.invokevirtual 15, 3) := by decide +kernel
theorem dX0_shiftA_9 : decode cX0_shiftA 9 = .ok (.istore_n 2, 1) := by decide +kernel
theorem dX0_shiftA_10 : decode cX0_shiftA 10 = .ok (.aload_n 0, 1) := by decide +kernel
theorem dX0_shiftA_11 : decode cX0_shiftA 11 = .ok (.getfield 7, 3) := by decide +kernel
theorem dX0_shiftA_14 : decode cX0_shiftA 14 = .ok (.invokevirtual 19, 3) := by decide +kernel
theorem dX0_shiftA_17 : decode cX0_shiftA 17 = .ok (.istore_n 3, 1) := by decide +kernel
theorem dX0_shiftA_18 : decode cX0_shiftA 18 = .ok (.aload_n 0, 1) := by decide +kernel
theorem dX0_shiftA_19 : decode cX0_shiftA 19 = .ok (.getfield 7, 3) := by decide +kernel
theorem dX0_shiftA_22 : decode cX0_shiftA 22 = .ok (.bipush 7, 2) := by decide +kernel
theorem dX0_shiftA_24 : decode cX0_shiftA 24 = .ok (.iload_n 1, 1) := by decide +kernel
theorem dX0_shiftA_25 : decode cX0_shiftA 25 = .ok (.iload_n 2, 1) := by decide +kernel
theorem dX0_shiftA_26 : decode cX0_shiftA 26 = .ok (.iload_n 3, 1) := by decide +kernel
theorem dX0_shiftA_27 : decode cX0_shiftA 27 = .ok (.iconst 1, 1) := by decide +kernel
theorem dX0_shiftA_28 : decode cX0_shiftA 28 = .ok (.iand, 1) := by decide +kernel
theorem dX0_shiftA_29 : decode cX0_shiftA 29 = .ok (.invokestatic 57, 3) := by decide +kernel
theorem dX0_shiftA_32 : decode cX0_shiftA 32 = .ok (.sipush 255, 3) := by decide +kernel
theorem dX0_shiftA_35 : decode cX0_shiftA 35 = .ok (.iand, 1) := by decide +kernel
theorem dX0_shiftA_36 : decode cX0_shiftA 36 = .ok (.invokevirtual 27, 3) := by decide +kernel
theorem dX0_shiftA_39 : decode cX0_shiftA 39 = .ok (.aload_n 0, 1) := by decide +kernel
theorem dX0_shiftA_40 : decode cX0_shiftA 40 = .ok (.getfield 7, 3) := by decide +kernel
theorem dX0_shiftA_43 : decode cX0_shiftA 43 = .ok (.iload_n 3, 1) := by decide +kernel
theorem dX0_shiftA_44 : decode cX0_shiftA 44 = .ok (.sipush 196, 3) := by decide +kernel
theorem dX0_shiftA_47 : decode cX0_shiftA 47 = .ok (.iand, 1) := by decide +kernel
theorem dX0_shiftA_48 : decode cX0_shiftA 48 = .ok (.iload_n 1, 1) := by decide +kernel
theorem dX0_shiftA_49 : decode cX0_shiftA 49 = .ok (.iload_n 2, 1) := by decide +kernel
theorem dX0_shiftA_50 : decode cX0_shiftA 50 = .ok (.invokestatic 60, 3) := by decide +kernel
theorem dX0_shiftA_53 : decode cX0_shiftA 53 = .ok (.ior, 1) := by decide +kernel
theorem dX0_shiftA_54 : decode cX0_shiftA 54 = .ok (.invokevirtual 40, 3) := by decide +kernel
theorem dX0_shiftA_57 : decode cX0_shiftA 57 = .ok (.return_, 1) := by decide +kernel
def fX0_shiftA (p1 : Int32) (s0 : zS) : Option (zS) := bd2 (fX6_single (7 : Int32) s0) fun r2 s3 => bd2 (fX6_flags  s3) fun r5 s6 => bd (fX0_moved p1 r2 (r5 &&& (1 : Int32))) fun r8 => bd (fX6_loadSingle (7 : Int32) (r8 &&& (255 : Int32)) s6) fun s10 => bd (fX0_bitOut p1 r2) fun r12 => bd (fX6_loadFlags ((r5 &&& (196 : Int32)) ||| r12) s10) fun s14 => some s14
set_option maxHeartbeats 4000000 in
set_option maxRecDepth 100000 in
theorem cX0_shiftA_m {l : Launch} {dC : Nat → ClassId} {dI : Nat → Nat → Nat} {ad : Nat → Nat} {cI : ClassId} {p1 : Int32} {s0 : zS} {zs : zS} (h : fX0_shiftA p1 s0 = some zs) : sw_Mv l yX0_shiftA (sw_ws yX0_shiftA cX0_shiftA 4 none) (sw_rm 2 44) (dC, dI) vwCl [(cI, .int)] cF [.ref (ad 6), .int p1] (cW ad cI s0) (cW ad cI zs) := by
  intro sz
  refine sw_of (cc := cX0_shiftA) (maxL := 4) (ret := none) (by decide) rfl (Nat.le_of_ble_eq_true rfl) ?_
  intro p e s m args below meth c A ls hAe hsz X _ hP hD hS hl
  rw [hAe]
  have hx := X.1.1
  have hb := X.1.2.1
  have hown := X.1.2.2.2.1
  have hts := X.1.2.2.2.2
  replace hl : lv_has ls 4 [(0, .ref (ad 6)), (1, .int p1)] := hl
  unfold fX0_shiftA at h
  refine lv_aload_n hx hb dX0_shiftA_0 rfl (lv_at hl 0 rfl) ?_
  refine cg_6_0 X hP k_122 dX0_shiftA_1 ?_
  refine lv_bipush (v := (7 : Int32)) hx hb dX0_shiftA_4 (by decide) ?_
  have hq := bd2_some h; clear h; obtain ⟨r2, s3, h1, h⟩ := hq
  refine sw_vi (rest := []) c_good X (cX6_single_m h1) calX6_single k_569 hP hD hS 4 6 rfl rfl rfl ⟨rfl, rfl⟩ rfl hl.1 rfl (Nat.le_of_ble_eq_true rfl) dX0_shiftA_6 (fun H locs hP hD hS => ?_)
  refine lv_istore_n (lv' := [(2, .int r2), (0, .ref (ad 6)), (1, .int p1)]) hx hb dX0_shiftA_9 rfl hl (by decide) rfl (fun ls hl => ?_)
  refine lv_aload_n hx hb dX0_shiftA_10 rfl (lv_at hl 1 rfl) ?_
  refine cg_6_0 X hP k_122 dX0_shiftA_11 ?_
  have hq := bd2_some h; clear h; obtain ⟨r5, s6, h4, h⟩ := hq
  refine sw_vi (rest := []) c_good X (cX6_flags_m h4) calX6_flags k_501 hP hD hS 4 6 rfl rfl rfl ⟨rfl, rfl⟩ rfl hl.1 rfl (Nat.le_of_ble_eq_true rfl) dX0_shiftA_14 (fun H locs hP hD hS => ?_)
  refine lv_istore_n (lv' := [(3, .int r5), (2, .int r2), (0, .ref (ad 6)), (1, .int p1)]) hx hb dX0_shiftA_17 rfl hl (by decide) rfl (fun ls hl => ?_)
  refine lv_aload_n hx hb dX0_shiftA_18 rfl (lv_at hl 2 rfl) ?_
  refine cg_6_0 X hP k_122 dX0_shiftA_19 ?_
  refine lv_bipush (v := (7 : Int32)) hx hb dX0_shiftA_22 (by decide) ?_
  refine lv_iload_n hx hb dX0_shiftA_24 rfl (lv_at hl 3 rfl) ?_
  refine lv_iload_n hx hb dX0_shiftA_25 rfl (lv_at hl 1 rfl) ?_
  refine lv_iload_n hx hb dX0_shiftA_26 rfl (lv_at hl 0 rfl) ?_
  refine lv_iconst (v := (1 : Int32)) hx hb dX0_shiftA_27 (by decide) ?_
  refine lv_iand hx hb dX0_shiftA_28 ?_
  have hq := bd_some h; clear h; obtain ⟨r8, h7, h⟩ := hq
  refine sw_si (rest := [.int (7 : Int32), .ref (ad 4)]) c_good X (cX0_moved_m h7) calX0_moved k_596 hP hD hS ⟨rfl, rfl⟩ rfl hl.1 rfl (Nat.le_of_ble_eq_true rfl) dX0_shiftA_29 (fun H locs hP hD hS => ?_)
  refine lv_sipush (v := (255 : Int32)) hx hb dX0_shiftA_32 (by decide) ?_
  refine lv_iand hx hb dX0_shiftA_35 ?_
  have hq := bd_some h; clear h; obtain ⟨s10, h9, h⟩ := hq
  refine sw_vv (rest := []) c_good X (cX6_loadSingle_m h9) calX6_loadSingle k_570 hP hD hS 4 6 rfl rfl rfl ⟨rfl, rfl⟩ rfl hl.1 rfl (Nat.le_of_ble_eq_true rfl) dX0_shiftA_36 (fun H locs hP hD hS => ?_)
  refine lv_aload_n hx hb dX0_shiftA_39 rfl (lv_at hl 2 rfl) ?_
  refine cg_6_0 X hP k_122 dX0_shiftA_40 ?_
  refine lv_iload_n hx hb dX0_shiftA_43 rfl (lv_at hl 0 rfl) ?_
  refine lv_sipush (v := (196 : Int32)) hx hb dX0_shiftA_44 (by decide) ?_
  refine lv_iand hx hb dX0_shiftA_47 ?_
  refine lv_iload_n hx hb dX0_shiftA_48 rfl (lv_at hl 3 rfl) ?_
  refine lv_iload_n hx hb dX0_shiftA_49 rfl (lv_at hl 1 rfl) ?_
  have hq := bd_some h; clear h; obtain ⟨r12, h11, h⟩ := hq
  refine sw_si (rest := [.int (r5 &&& (196 : Int32)), .ref (ad 4)]) c_good X (cX0_bitOut_m h11) calX0_bitOut k_599 hP hD hS ⟨rfl, rfl⟩ rfl hl.1 rfl (Nat.le_of_ble_eq_true rfl) dX0_shiftA_50 (fun H locs hP hD hS => ?_)
  refine lv_ior hx hb dX0_shiftA_53 ?_
  have hq := bd_some h; clear h; obtain ⟨s14, h13, h⟩ := hq
  refine sw_vv (rest := []) c_good X (cX6_loadFlags_m h13) calX6_loadFlags k_502 hP hD hS 4 6 rfl rfl rfl ⟨rfl, rfl⟩ rfl hl.1 rfl (Nat.le_of_ble_eq_true rfl) dX0_shiftA_54 (fun H locs hP hD hS => ?_)
  obtain rfl := Option.some.inj h
  exact sw_vret X hP hD hS dX0_shiftA_57
theorem dX0_testBit_0 : decode cX0_testBit 0 = .ok (.iload_n 2, 1) := by decide +kernel
theorem dX0_testBit_1 : decode cX0_testBit 1 = .ok (.iload_n 1, 1) := by decide +kernel
theorem dX0_testBit_2 : decode cX0_testBit 2 = .ok (.ishr, 1) := by decide +kernel
theorem dX0_testBit_3 : decode cX0_testBit 3 = .ok (.iconst 1, 1) := by decide +kernel
theorem dX0_testBit_4 : decode cX0_testBit 4 = .ok (.iand, 1) := by decide +kernel
theorem dX0_testBit_5 : decode cX0_testBit 5 = .ok (.ifCond .ne 8, 3) := by decide +kernel
theorem dX0_testBit_8 : decode cX0_testBit 8 = .ok (.bipush 64, 2) := by decide +kernel
theorem dX0_testBit_10 : decode cX0_testBit 10 = .ok (.goto 4, 3) := by decide +kernel
theorem dX0_testBit_13 : decode cX0_testBit 13 = .ok (.iconst 0, 1) := by decide +kernel
theorem dX0_testBit_14 : decode cX0_testBit 14 = .ok (.istore_n 3, 1) := by decide +kernel
theorem dX0_testBit_15 : decode cX0_testBit 15 = .ok (.aload_n 0, 1) := by decide +kernel
theorem dX0_testBit_16 : decode cX0_testBit 16 = .ok (.getfield 7, 3) := by decide +kernel
theorem dX0_testBit_19 : decode cX0_testBit 19 = .ok (.aload_n 0, 1) := by decide +kernel
theorem dX0_testBit_20 : decode cX0_testBit 20 = .ok (.getfield 7, 3) := by decide +kernel
theorem dX0_testBit_23 : decode cX0_testBit 23 = .ok (.invokevirtual 19, 3) := by decide +kernel
theorem dX0_testBit_26 : decode cX0_testBit 26 = .ok (.iconst 1, 1) := by decide +kernel
theorem dX0_testBit_27 : decode cX0_testBit 27 = .ok (.iand, 1) := by decide +kernel
theorem dX0_testBit_28 : decode cX0_testBit 28 = .ok (.iload_n 3, 1) := by decide +kernel
theorem dX0_testBit_29 : decode cX0_testBit 29 = .ok (.ior, 1) := by decide +kernel
theorem dX0_testBit_30 : decode cX0_testBit 30 = .ok (.bipush 16, 2) := by decide +kernel
theorem dX0_testBit_32 : decode cX0_testBit 32 = .ok (.ior, 1) := by decide +kernel
theorem dX0_testBit_33 : decode cX0_testBit 33 = .ok (.invokevirtual 40, 3) := by decide +kernel
theorem dX0_testBit_36 : decode cX0_testBit 36 = .ok (.return_, 1) := by decide +kernel
def fX0_testBit (p1 p2 : Int32) (s0 : zS) : Option (zS) := bd (if ((p2 >>> (p1 &&& 31)) &&& (1 : Int32)) = (0 : Int32) then (some (64 : Int32)) else (some (0 : Int32))) fun x3 => bd2 (fX6_flags  s0) fun r6 s7 => bd (fX6_loadFlags (((r6 &&& (1 : Int32)) ||| x3) ||| (16 : Int32)) s7) fun s9 => some s9
set_option maxHeartbeats 4000000 in
set_option maxRecDepth 100000 in
theorem cX0_testBit_m {l : Launch} {dC : Nat → ClassId} {dI : Nat → Nat → Nat} {ad : Nat → Nat} {cI : ClassId} {p1 p2 : Int32} {s0 : zS} {zs : zS} (h : fX0_testBit p1 p2 s0 = some zs) : sw_Mv l yX0_testBit (sw_ws yX0_testBit cX0_testBit 4 none) (sw_rm 1 21) (dC, dI) vwCl [(cI, .int)] cF [.ref (ad 6), .int p1, .int p2] (cW ad cI s0) (cW ad cI zs) := by
  intro sz
  refine sw_of (cc := cX0_testBit) (maxL := 4) (ret := none) (by decide) rfl (Nat.le_of_ble_eq_true rfl) ?_
  intro p e s m args below meth c A ls hAe hsz X _ hP hD hS hl
  rw [hAe]
  have hx := X.1.1
  have hb := X.1.2.1
  have hown := X.1.2.2.2.1
  have hts := X.1.2.2.2.2
  replace hl : lv_has ls 4 [(0, .ref (ad 6)), (1, .int p1), (2, .int p2)] := hl
  unfold fX0_testBit at h
  refine lv_iload_n hx hb dX0_testBit_0 rfl (lv_at hl 2 rfl) ?_
  refine lv_iload_n hx hb dX0_testBit_1 rfl (lv_at hl 1 rfl) ?_
  refine lv_ishr hx hb dX0_testBit_2 ?_
  refine lv_iconst (v := (1 : Int32)) hx hb dX0_testBit_3 (by decide) ?_
  refine lv_iand hx hb dX0_testBit_4 ?_
  have hq := bd_some h; clear h; obtain ⟨x3, h4, h⟩ := hq
  have K1 : ∀ (H : Heap) (locs : List Loc), va_P (dC, dI) vwCl (cW ad cI s0) H → va_D A (cW ad cI s0) → va_S A s.heap H locs → W p l e (sw_rm 1 21) s m args below meth c H locs 0 0 (MQ below (sw_Qv (dC, dI) vwCl [(cI, .int)] A (cW ad cI zs)) args s 0 0 A) (F0 m 14 ls [.int x3]) := by
    intro H locs hP hD hS
    refine lv_istore_n (lv' := [(3, .int x3), (0, .ref (ad 6)), (1, .int p1), (2, .int p2)]) hx hb dX0_testBit_14 rfl hl (by decide) rfl (fun ls hl => ?_)
    refine lv_aload_n hx hb dX0_testBit_15 rfl (lv_at hl 1 rfl) ?_
    refine cg_6_0 X hP k_122 dX0_testBit_16 ?_
    refine lv_aload_n hx hb dX0_testBit_19 rfl (lv_at hl 1 rfl) ?_
    refine cg_6_0 X hP k_122 dX0_testBit_20 ?_
    have hq := bd2_some h; clear h; obtain ⟨r6, s7, h5, h⟩ := hq
    refine sw_vi (rest := [.ref (ad 4)]) c_good X (cX6_flags_m h5) calX6_flags k_501 hP hD hS 4 6 rfl rfl rfl ⟨rfl, rfl⟩ rfl hl.1 rfl (Nat.le_of_ble_eq_true rfl) dX0_testBit_23 (fun H locs hP hD hS => ?_)
    refine lv_iconst (v := (1 : Int32)) hx hb dX0_testBit_26 (by decide) ?_
    refine lv_iand hx hb dX0_testBit_27 ?_
    refine lv_iload_n hx hb dX0_testBit_28 rfl (lv_at hl 0 rfl) ?_
    refine lv_ior hx hb dX0_testBit_29 ?_
    refine lv_bipush (v := (16 : Int32)) hx hb dX0_testBit_30 (by decide) ?_
    refine lv_ior hx hb dX0_testBit_32 ?_
    have hq := bd_some h; clear h; obtain ⟨s9, h8, h⟩ := hq
    refine sw_vv (rest := []) c_good X (cX6_loadFlags_m h8) calX6_loadFlags k_502 hP hD hS 4 6 rfl rfl rfl ⟨rfl, rfl⟩ rfl hl.1 rfl (Nat.le_of_ble_eq_true rfl) dX0_testBit_33 (fun H locs hP hD hS => ?_)
    obtain rfl := Option.some.inj h
    exact sw_vret X hP hD hS dX0_testBit_36
  replace h := h4
  clear h4
  refine lv_if_ne (tgt := 13) hx hb dX0_testBit_5 (by decide) (fun c2 => ?_) (fun c2 => ?_)
  · replace h := if_no h c2
    refine lv_iconst (v := (0 : Int32)) hx hb dX0_testBit_13 (by decide) ?_
    obtain rfl := Option.some.inj h
    exact K1 _ _ hP hD hS
  · replace h := if_yes h c2
    refine lv_bipush (v := (64 : Int32)) hx hb dX0_testBit_8 (by decide) ?_
    refine lv_goto (tgt := 14) hx hb dX0_testBit_10 (by decide) ?_
    obtain rfl := Option.some.inj h
    exact K1 _ _ hP hD hS
theorem dX0_adjustDecimal_0 : decode cX0_adjustDecimal 0 = .ok (.aload_n 0, 1) := by decide +kernel
theorem dX0_adjustDecimal_1 : decode cX0_adjustDecimal 1 = .ok (.getfield 7, 3) := by decide +kernel
theorem dX0_adjustDecimal_4 : decode cX0_adjustDecimal 4 = .ok (.bipush 7, 2) := by decide +kernel
theorem dX0_adjustDecimal_6 : decode cX0_adjustDecimal 6 = .ok (.invokevirtual 15, 3) := by decide +kernel
theorem dX0_adjustDecimal_9 : decode cX0_adjustDecimal 9 = .ok (.istore_n 1, 1) := by decide +kernel
theorem dX0_adjustDecimal_10 : decode cX0_adjustDecimal 10 = .ok (.aload_n 0, 1) := by decide +kernel
theorem dX0_adjustDecimal_11 : decode cX0_adjustDecimal 11 = .ok (.getfield 7, 3) := by decide +kernel
theorem dX0_adjustDecimal_14 : decode cX0_adjustDecimal 14 = .ok (.invokevirtual 19, 3) := by decide +kernel
theorem dX0_adjustDecimal_17 : decode cX0_adjustDecimal 17 = .ok (.istore_n 2, 1) := by decide +kernel
theorem dX0_adjustDecimal_18 : decode cX0_adjustDecimal 18 = .ok (.iload_n 2, 1) := by decide +kernel
theorem dX0_adjustDecimal_19 : decode cX0_adjustDecimal 19 = .ok (.bipush 16, 2) := by decide +kernel
theorem dX0_adjustDecimal_21 : decode cX0_adjustDecimal 21 = .ok (.iand, 1) := by decide +kernel
theorem dX0_adjustDecimal_22 : decode cX0_adjustDecimal 22 = .ok (.ifCond .ne 12, 3) := by decide +kernel
theorem dX0_adjustDecimal_25 : decode cX0_adjustDecimal 25 = .ok (.iload_n 1, 1) := by decide +kernel
theorem dX0_adjustDecimal_26 : decode cX0_adjustDecimal 26 = .ok (.bipush 15, 2) := by decide +kernel
theorem dX0_adjustDecimal_28 : decode cX0_adjustDecimal 28 = .ok (.iand, 1) := by decide +kernel
theorem dX0_adjustDecimal_29 : decode cX0_adjustDecimal 29 = .ok (.bipush 9, 2) := by decide +kernel
theorem dX0_adjustDecimal_31 : decode cX0_adjustDecimal 31 = .ok (.if_icmp .le 8, 3) := by decide +kernel
theorem dX0_adjustDecimal_34 : decode cX0_adjustDecimal 34 = .ok (.bipush 6, 2) := by decide +kernel
theorem dX0_adjustDecimal_36 : decode cX0_adjustDecimal 36 = .ok (.goto 4, 3) := by decide +kernel
theorem dX0_adjustDecimal_39 : decode cX0_adjustDecimal 39 = .ok (.iconst 0, 1) := by decide +kernel
theorem dX0_adjustDecimal_40 : decode cX0_adjustDecimal 40 = .ok (.istore_n 3, 1) := by decide +kernel
theorem dX0_adjustDecimal_41 : decode cX0_adjustDecimal 41 = .ok (.iload_n 2, 1) := by decide +kernel
theorem dX0_adjustDecimal_42 : decode cX0_adjustDecimal 42 = .ok (.iconst 1, 1) := by decide +kernel
theorem dX0_adjustDecimal_43 : decode cX0_adjustDecimal 43 = .ok (.iand, 1) := by decide +kernel
theorem dX0_adjustDecimal_44 : decode cX0_adjustDecimal 44 = .ok (.ifCond .ne 10, 3) := by decide +kernel
theorem dX0_adjustDecimal_47 : decode cX0_adjustDecimal 47 = .ok (.iload_n 1, 1) := by decide +kernel
theorem dX0_adjustDecimal_48 : decode cX0_adjustDecimal 48 = .ok (.sipush 153, 3) := by decide +kernel
theorem dX0_adjustDecimal_51 : decode cX0_adjustDecimal 51 = .ok (.if_icmp .le 7, 3) := by decide +kernel
theorem dX0_adjustDecimal_54 : decode cX0_adjustDecimal 54 = .ok (.iconst 1, 1) := by decide +kernel
theorem dX0_adjustDecimal_55 : decode cX0_adjustDecimal 55 = .ok (.goto 4, 3) := by decide +kernel
theorem dX0_adjustDecimal_58 : decode cX0_adjustDecimal 58 = .ok (.iconst 0, 1) := by decide +kernel
theorem dX0_adjustDecimal_59 : decode cX0_adjustDecimal 59 = .ok (.istore 4, 2) := by decide +kernel
theorem dX0_adjustDecimal_61 : decode cX0_adjustDecimal 61 = .ok (.iload_n 3, 1) := by decide +kernel
theorem dX0_adjustDecimal_62 : decode cX0_adjustDecimal 62 = .ok (.bipush 96, 2) := by decide +kernel
theorem dX0_adjustDecimal_64 : decode cX0_adjustDecimal 64 = .ok (.iload 4, 2) := by decide +kernel
theorem dX0_adjustDecimal_66 : decode cX0_adjustDecimal 66 = .ok (.imul, 1) := by decide +kernel
theorem dX0_adjustDecimal_67 : decode cX0_adjustDecimal 67 = .ok (.iadd, 1) := by decide +kernel
theorem dX0_adjustDecimal_68 : decode cX0_adjustDecimal 68 = .ok (.istore_n 3, 1) := by decide +kernel
theorem dX0_adjustDecimal_69 : decode cX0_adjustDecimal 69 = .ok (.iload_n 2, 1) := by decide +kernel
theorem dX0_adjustDecimal_70 : decode cX0_adjustDecimal 70 = .ok (.iconst 2, 1) := by decide +kernel
theorem dX0_adjustDecimal_71 : decode cX0_adjustDecimal 71 = .ok (.iand, 1) := by decide +kernel
theorem dX0_adjustDecimal_72 : decode cX0_adjustDecimal 72 = .ok (.ifCond .eq 9, 3) := by decide +kernel
theorem dX0_adjustDecimal_75 : decode cX0_adjustDecimal 75 = .ok (.iload_n 1, 1) := by decide +kernel
theorem dX0_adjustDecimal_76 : decode cX0_adjustDecimal 76 = .ok (.iload_n 3, 1) := by decide +kernel
theorem dX0_adjustDecimal_77 : decode cX0_adjustDecimal 77 = .ok (.isub, 1) := by decide +kernel
theorem dX0_adjustDecimal_78 : decode cX0_adjustDecimal 78 = .ok (.goto 6, 3) := by decide +kernel
theorem dX0_adjustDecimal_81 : decode cX0_adjustDecimal 81 = .ok (.iload_n 1, 1) := by decide +kernel
theorem dX0_adjustDecimal_82 : decode cX0_adjustDecimal 82 = .ok (.iload_n 3, 1) := by decide +kernel
theorem dX0_adjustDecimal_83 : decode cX0_adjustDecimal 83 = .ok (.iadd, 1) := by decide +kernel
theorem dX0_adjustDecimal_84 : decode cX0_adjustDecimal 84 = .ok (.sipush 255, 3) := by decide +kernel
theorem dX0_adjustDecimal_87 : decode cX0_adjustDecimal 87 = .ok (.iand, 1) := by decide +kernel
theorem dX0_adjustDecimal_88 : decode cX0_adjustDecimal 88 = .ok (.istore 5, 2) := by decide +kernel
theorem dX0_adjustDecimal_90 : decode cX0_adjustDecimal 90 = .ok (.iload_n 1, 1) := by decide +kernel
theorem dX0_adjustDecimal_91 : decode cX0_adjustDecimal 91 = .ok (.iload 5, 2) := by decide +kernel
theorem dX0_adjustDecimal_93 : decode cX0_adjustDecimal 93 = .ok (.ixor, 1) := by decide +kernel
theorem dX0_adjustDecimal_94 : decode cX0_adjustDecimal 94 = .ok (.bipush 16, 2) := by decide +kernel
theorem dX0_adjustDecimal_96 : decode cX0_adjustDecimal 96 = .ok (.iand, 1) := by decide +kernel
theorem dX0_adjustDecimal_97 : decode cX0_adjustDecimal 97 = .ok (.istore 6, 2) := by decide +kernel
theorem dX0_adjustDecimal_99 : decode cX0_adjustDecimal 99 = .ok (.aload_n 0, 1) := by decide +kernel
theorem dX0_adjustDecimal_100 : decode cX0_adjustDecimal 100 = .ok (.getfield 7, 3) := by decide +kernel
theorem dX0_adjustDecimal_103 : decode cX0_adjustDecimal 103 = .ok (.bipush 7, 2) := by decide +kernel
theorem dX0_adjustDecimal_105 : decode cX0_adjustDecimal 105 = .ok (.iload 5, 2) := by decide +kernel
theorem dX0_adjustDecimal_107 : decode cX0_adjustDecimal 107 = .ok (.invokevirtual 27, 3) := by decide +kernel
theorem dX0_adjustDecimal_110 : decode cX0_adjustDecimal 110 = .ok (.aload_n 0, 1) := by decide +kernel
theorem dX0_adjustDecimal_111 : decode cX0_adjustDecimal 111 = .ok (.getfield 7, 3) := by decide +kernel
theorem dX0_adjustDecimal_114 : decode cX0_adjustDecimal 114 = .ok (.iload 5, 2) := by decide +kernel
theorem dX0_adjustDecimal_116 : decode cX0_adjustDecimal 116 = .ok (.invokestatic 37, 3) := by decide +kernel
theorem dX0_adjustDecimal_119 : decode cX0_adjustDecimal 119 = .ok (.iload 5, 2) := by decide +kernel
theorem dX0_adjustDecimal_121 : decode cX0_adjustDecimal 121 = .ok (.invokestatic 44, 3) := by decide +kernel
theorem dX0_adjustDecimal_124 : decode cX0_adjustDecimal 124 = .ok (.ior, 1) := by decide +kernel
theorem dX0_adjustDecimal_125 : decode cX0_adjustDecimal 125 = .ok (.iload 6, 2) := by decide +kernel
theorem dX0_adjustDecimal_127 : decode cX0_adjustDecimal 127 = .ok (.ior, 1) := by decide +kernel
theorem dX0_adjustDecimal_128 : decode cX0_adjustDecimal 128 = .ok (.iload_n 2, 1) := by decide +kernel
theorem dX0_adjustDecimal_129 : decode cX0_adjustDecimal 129 = .ok (.iconst 2, 1) := by decide +kernel
theorem dX0_adjustDecimal_130 : decode cX0_adjustDecimal 130 = .ok (.iand, 1) := by decide +kernel
theorem dX0_adjustDecimal_131 : decode cX0_adjustDecimal 131 = .ok (.ior, 1) := by decide +kernel
theorem dX0_adjustDecimal_132 : decode cX0_adjustDecimal 132 = .ok (.iload 4, 2) := by decide +kernel
theorem dX0_adjustDecimal_134 : decode cX0_adjustDecimal 134 = .ok (.ior, 1) := by decide +kernel
theorem dX0_adjustDecimal_135 : decode cX0_adjustDecimal 135 = .ok (.invokevirtual 40, 3) := by decide +kernel
theorem dX0_adjustDecimal_138 : decode cX0_adjustDecimal 138 = .ok (.return_, 1) := by decide +kernel
def fX0_adjustDecimal (s0 : zS) : Option (zS) := bd2 (fX6_single (7 : Int32) s0) fun r2 s3 => bd2 (fX6_flags  s3) fun r5 s6 => bd (if (r5 &&& (16 : Int32)) = (0 : Int32) then (bd (if (r2 &&& (15 : Int32)) ≤ (9 : Int32) then (some (0 : Int32)) else (some (6 : Int32))) fun x11 => some x11) else (some (6 : Int32))) fun x13 => bd (if (r5 &&& (1 : Int32)) = (0 : Int32) then (bd (if r2 ≤ (153 : Int32) then (some (0 : Int32)) else (some (1 : Int32))) fun x19 => some x19) else (some (1 : Int32))) fun x21 => nm (x13 + ((96 : Int32) * x21)) fun x23 => bd (if (r5 &&& (2 : Int32)) = (0 : Int32) then (some (r2 + x23)) else (some (r2 - x23))) fun x26 => nm (x26 &&& (255 : Int32)) fun x28 => nm ((r2 ^^^ x28) &&& (16 : Int32)) fun x29 => bd (fX6_loadSingle (7 : Int32) x28 s6) fun s31 => bd (fX0_signAndZero x28) fun r33 => bd (fX0_even x28) fun r35 => bd (fX6_loadFlags ((((r33 ||| r35) ||| x29) ||| (r5 &&& (2 : Int32))) ||| x21) s31) fun s37 => some s37
set_option maxHeartbeats 4000000 in
set_option maxRecDepth 100000 in
theorem cX0_adjustDecimal_m {l : Launch} {dC : Nat → ClassId} {dI : Nat → Nat → Nat} {ad : Nat → Nat} {cI : ClassId} {s0 : zS} {zs : zS} (h : fX0_adjustDecimal  s0 = some zs) : sw_Mv l yX0_adjustDecimal (sw_ws yX0_adjustDecimal cX0_adjustDecimal 7 none) (sw_rm 2 44) (dC, dI) vwCl [(cI, .int)] cF [.ref (ad 6)] (cW ad cI s0) (cW ad cI zs) := by
  intro sz
  refine sw_of (cc := cX0_adjustDecimal) (maxL := 7) (ret := none) (by decide) rfl (Nat.le_of_ble_eq_true rfl) ?_
  intro p e s m args below meth c A ls hAe hsz X _ hP hD hS hl
  rw [hAe]
  have hx := X.1.1
  have hb := X.1.2.1
  have hown := X.1.2.2.2.1
  have hts := X.1.2.2.2.2
  replace hl : lv_has ls 7 [(0, .ref (ad 6))] := hl
  unfold fX0_adjustDecimal at h
  refine lv_aload_n hx hb dX0_adjustDecimal_0 rfl (lv_at hl 0 rfl) ?_
  refine cg_6_0 X hP k_122 dX0_adjustDecimal_1 ?_
  refine lv_bipush (v := (7 : Int32)) hx hb dX0_adjustDecimal_4 (by decide) ?_
  have hq := bd2_some h; clear h; obtain ⟨r2, s3, h1, h⟩ := hq
  refine sw_vi (rest := []) c_good X (cX6_single_m h1) calX6_single k_569 hP hD hS 4 6 rfl rfl rfl ⟨rfl, rfl⟩ rfl hl.1 rfl (Nat.le_of_ble_eq_true rfl) dX0_adjustDecimal_6 (fun H locs hP hD hS => ?_)
  refine lv_istore_n (lv' := [(1, .int r2), (0, .ref (ad 6))]) hx hb dX0_adjustDecimal_9 rfl hl (by decide) rfl (fun ls hl => ?_)
  refine lv_aload_n hx hb dX0_adjustDecimal_10 rfl (lv_at hl 1 rfl) ?_
  refine cg_6_0 X hP k_122 dX0_adjustDecimal_11 ?_
  have hq := bd2_some h; clear h; obtain ⟨r5, s6, h4, h⟩ := hq
  refine sw_vi (rest := []) c_good X (cX6_flags_m h4) calX6_flags k_501 hP hD hS 4 6 rfl rfl rfl ⟨rfl, rfl⟩ rfl hl.1 rfl (Nat.le_of_ble_eq_true rfl) dX0_adjustDecimal_14 (fun H locs hP hD hS => ?_)
  refine lv_istore_n (lv' := [(2, .int r5), (1, .int r2), (0, .ref (ad 6))]) hx hb dX0_adjustDecimal_17 rfl hl (by decide) rfl (fun ls hl => ?_)
  refine lv_iload_n hx hb dX0_adjustDecimal_18 rfl (lv_at hl 0 rfl) ?_
  refine lv_bipush (v := (16 : Int32)) hx hb dX0_adjustDecimal_19 (by decide) ?_
  refine lv_iand hx hb dX0_adjustDecimal_21 ?_
  have hq := bd_some h; clear h; obtain ⟨x13, h14, h⟩ := hq
  have K7 : ∀ (H : Heap) (locs : List Loc), va_P (dC, dI) vwCl (cW ad cI s6) H → va_D A (cW ad cI s6) → va_S A s.heap H locs → W p l e (sw_rm 2 44) s m args below meth c H locs 0 0 (MQ below (sw_Qv (dC, dI) vwCl [(cI, .int)] A (cW ad cI zs)) args s 0 0 A) (F0 m 40 ls [.int x13]) := by
    intro H locs hP hD hS
    refine lv_istore_n (lv' := [(3, .int x13), (2, .int r5), (1, .int r2), (0, .ref (ad 6))]) hx hb dX0_adjustDecimal_40 rfl hl (by decide) rfl (fun ls hl => ?_)
    refine lv_iload_n hx hb dX0_adjustDecimal_41 rfl (lv_at hl 1 rfl) ?_
    refine lv_iconst (v := (1 : Int32)) hx hb dX0_adjustDecimal_42 (by decide) ?_
    refine lv_iand hx hb dX0_adjustDecimal_43 ?_
    have hq := bd_some h; clear h; obtain ⟨x21, h22, h⟩ := hq
    have K15 : ∀ (H : Heap) (locs : List Loc), va_P (dC, dI) vwCl (cW ad cI s6) H → va_D A (cW ad cI s6) → va_S A s.heap H locs → W p l e (sw_rm 2 44) s m args below meth c H locs 0 0 (MQ below (sw_Qv (dC, dI) vwCl [(cI, .int)] A (cW ad cI zs)) args s 0 0 A) (F0 m 59 ls [.int x21]) := by
      intro H locs hP hD hS
      refine lv_istore (lv' := [(4, .int x21), (3, .int x13), (2, .int r5), (1, .int r2), (0, .ref (ad 6))]) hx hb dX0_adjustDecimal_59 hl (by decide) rfl (fun ls hl => ?_)
      refine lv_iload_n hx hb dX0_adjustDecimal_61 rfl (lv_at hl 1 rfl) ?_
      refine lv_bipush (v := (96 : Int32)) hx hb dX0_adjustDecimal_62 (by decide) ?_
      refine lv_iload hx hb dX0_adjustDecimal_64 (lv_at hl 0 rfl) ?_
      refine lv_imul hx hb dX0_adjustDecimal_66 ?_
      refine lv_iadd hx hb dX0_adjustDecimal_67 ?_
      refine lv_topi (fun x23 ex23 => ?_)
      replace h := nm_use ex23 h
      refine lv_istore_n (lv' := [(3, .int x23), (4, .int x21), (2, .int r5), (1, .int r2), (0, .ref (ad 6))]) hx hb dX0_adjustDecimal_68 rfl hl (by decide) rfl (fun ls hl => ?_)
      refine lv_iload_n hx hb dX0_adjustDecimal_69 rfl (lv_at hl 2 rfl) ?_
      refine lv_iconst (v := (2 : Int32)) hx hb dX0_adjustDecimal_70 (by decide) ?_
      refine lv_iand hx hb dX0_adjustDecimal_71 ?_
      have hq := bd_some h; clear h; obtain ⟨x26, h27, h⟩ := hq
      have K24 : ∀ (H : Heap) (locs : List Loc), va_P (dC, dI) vwCl (cW ad cI s6) H → va_D A (cW ad cI s6) → va_S A s.heap H locs → W p l e (sw_rm 2 44) s m args below meth c H locs 0 0 (MQ below (sw_Qv (dC, dI) vwCl [(cI, .int)] A (cW ad cI zs)) args s 0 0 A) (F0 m 84 ls [.int x26]) := by
        intro H locs hP hD hS
        refine lv_sipush (v := (255 : Int32)) hx hb dX0_adjustDecimal_84 (by decide) ?_
        refine lv_iand hx hb dX0_adjustDecimal_87 ?_
        refine lv_topi (fun x28 ex28 => ?_)
        replace h := nm_use ex28 h
        refine lv_istore (lv' := [(5, .int x28), (3, .int x23), (4, .int x21), (2, .int r5), (1, .int r2), (0, .ref (ad 6))]) hx hb dX0_adjustDecimal_88 hl (by decide) rfl (fun ls hl => ?_)
        refine lv_iload_n hx hb dX0_adjustDecimal_90 rfl (lv_at hl 4 rfl) ?_
        refine lv_iload hx hb dX0_adjustDecimal_91 (lv_at hl 0 rfl) ?_
        refine lv_ixor hx hb dX0_adjustDecimal_93 ?_
        refine lv_bipush (v := (16 : Int32)) hx hb dX0_adjustDecimal_94 (by decide) ?_
        refine lv_iand hx hb dX0_adjustDecimal_96 ?_
        refine lv_topi (fun x29 ex29 => ?_)
        replace h := nm_use ex29 h
        refine lv_istore (lv' := [(6, .int x29), (5, .int x28), (3, .int x23), (4, .int x21), (2, .int r5), (1, .int r2), (0, .ref (ad 6))]) hx hb dX0_adjustDecimal_97 hl (by decide) rfl (fun ls hl => ?_)
        refine lv_aload_n hx hb dX0_adjustDecimal_99 rfl (lv_at hl 6 rfl) ?_
        refine cg_6_0 X hP k_122 dX0_adjustDecimal_100 ?_
        refine lv_bipush (v := (7 : Int32)) hx hb dX0_adjustDecimal_103 (by decide) ?_
        refine lv_iload hx hb dX0_adjustDecimal_105 (lv_at hl 1 rfl) ?_
        have hq := bd_some h; clear h; obtain ⟨s31, h30, h⟩ := hq
        refine sw_vv (rest := []) c_good X (cX6_loadSingle_m h30) calX6_loadSingle k_570 hP hD hS 4 6 rfl rfl rfl ⟨rfl, rfl⟩ rfl hl.1 rfl (Nat.le_of_ble_eq_true rfl) dX0_adjustDecimal_107 (fun H locs hP hD hS => ?_)
        refine lv_aload_n hx hb dX0_adjustDecimal_110 rfl (lv_at hl 6 rfl) ?_
        refine cg_6_0 X hP k_122 dX0_adjustDecimal_111 ?_
        refine lv_iload hx hb dX0_adjustDecimal_114 (lv_at hl 1 rfl) ?_
        have hq := bd_some h; clear h; obtain ⟨r33, h32, h⟩ := hq
        refine sw_si (rest := [.ref (ad 4)]) c_good X (cX0_signAndZero_m h32) calX0_signAndZero k_548 hP hD hS ⟨rfl, rfl⟩ rfl hl.1 rfl (Nat.le_of_ble_eq_true rfl) dX0_adjustDecimal_116 (fun H locs hP hD hS => ?_)
        refine lv_iload hx hb dX0_adjustDecimal_119 (lv_at hl 1 rfl) ?_
        have hq := bd_some h; clear h; obtain ⟨r35, h34, h⟩ := hq
        refine sw_si (rest := [.int r33, .ref (ad 4)]) c_good X (cX0_even_m h34) calX0_even k_571 hP hD hS ⟨rfl, rfl⟩ rfl hl.1 rfl (Nat.le_of_ble_eq_true rfl) dX0_adjustDecimal_121 (fun H locs hP hD hS => ?_)
        refine lv_ior hx hb dX0_adjustDecimal_124 ?_
        refine lv_iload hx hb dX0_adjustDecimal_125 (lv_at hl 0 rfl) ?_
        refine lv_ior hx hb dX0_adjustDecimal_127 ?_
        refine lv_iload_n hx hb dX0_adjustDecimal_128 rfl (lv_at hl 4 rfl) ?_
        refine lv_iconst (v := (2 : Int32)) hx hb dX0_adjustDecimal_129 (by decide) ?_
        refine lv_iand hx hb dX0_adjustDecimal_130 ?_
        refine lv_ior hx hb dX0_adjustDecimal_131 ?_
        refine lv_iload hx hb dX0_adjustDecimal_132 (lv_at hl 3 rfl) ?_
        refine lv_ior hx hb dX0_adjustDecimal_134 ?_
        have hq := bd_some h; clear h; obtain ⟨s37, h36, h⟩ := hq
        refine sw_vv (rest := []) c_good X (cX6_loadFlags_m h36) calX6_loadFlags k_502 hP hD hS 4 6 rfl rfl rfl ⟨rfl, rfl⟩ rfl hl.1 rfl (Nat.le_of_ble_eq_true rfl) dX0_adjustDecimal_135 (fun H locs hP hD hS => ?_)
        obtain rfl := Option.some.inj h
        exact sw_vret X hP hD hS dX0_adjustDecimal_138
      replace h := h27
      clear h27
      refine lv_if_eq (tgt := 81) hx hb dX0_adjustDecimal_72 (by decide) (fun c25 => ?_) (fun c25 => ?_)
      · replace h := if_yes h c25
        refine lv_iload_n hx hb dX0_adjustDecimal_81 rfl (lv_at hl 3 rfl) ?_
        refine lv_iload_n hx hb dX0_adjustDecimal_82 rfl (lv_at hl 0 rfl) ?_
        refine lv_iadd hx hb dX0_adjustDecimal_83 ?_
        obtain rfl := Option.some.inj h
        exact K24 _ _ hP hD hS
      · replace h := if_no h c25
        refine lv_iload_n hx hb dX0_adjustDecimal_75 rfl (lv_at hl 3 rfl) ?_
        refine lv_iload_n hx hb dX0_adjustDecimal_76 rfl (lv_at hl 0 rfl) ?_
        refine lv_isub hx hb dX0_adjustDecimal_77 ?_
        refine lv_goto (tgt := 84) hx hb dX0_adjustDecimal_78 (by decide) ?_
        obtain rfl := Option.some.inj h
        exact K24 _ _ hP hD hS
    replace h := h22
    clear h22
    refine lv_if_ne (tgt := 54) hx hb dX0_adjustDecimal_44 (by decide) (fun c16 => ?_) (fun c16 => ?_)
    · replace h := if_no h c16
      refine lv_iconst (v := (1 : Int32)) hx hb dX0_adjustDecimal_54 (by decide) ?_
      refine lv_goto (tgt := 59) hx hb dX0_adjustDecimal_55 (by decide) ?_
      obtain rfl := Option.some.inj h
      exact K15 _ _ hP hD hS
    · replace h := if_yes h c16
      refine lv_iload_n hx hb dX0_adjustDecimal_47 rfl (lv_at hl 2 rfl) ?_
      refine lv_sipush (v := (153 : Int32)) hx hb dX0_adjustDecimal_48 (by decide) ?_
      have hq := bd_some h; clear h; obtain ⟨x19, h20, h⟩ := hq
      have K17 : ∀ (H : Heap) (locs : List Loc), va_P (dC, dI) vwCl (cW ad cI s6) H → va_D A (cW ad cI s6) → va_S A s.heap H locs → W p l e (sw_rm 2 44) s m args below meth c H locs 0 0 (MQ below (sw_Qv (dC, dI) vwCl [(cI, .int)] A (cW ad cI zs)) args s 0 0 A) (F0 m 59 ls [.int x19]) := by
        intro H locs hP hD hS
        obtain rfl := Option.some.inj h
        exact K15 _ _ hP hD hS
      replace h := h20
      clear h20
      refine lv_icmp_le (tgt := 58) hx hb dX0_adjustDecimal_51 (by decide) (fun c18 => ?_) (fun c18 => ?_)
      · replace h := if_yes h c18
        refine lv_iconst (v := (0 : Int32)) hx hb dX0_adjustDecimal_58 (by decide) ?_
        obtain rfl := Option.some.inj h
        exact K17 _ _ hP hD hS
      · replace h := if_no h c18
        refine lv_iconst (v := (1 : Int32)) hx hb dX0_adjustDecimal_54 (by decide) ?_
        refine lv_goto (tgt := 59) hx hb dX0_adjustDecimal_55 (by decide) ?_
        obtain rfl := Option.some.inj h
        exact K17 _ _ hP hD hS
  replace h := h14
  clear h14
  refine lv_if_ne (tgt := 34) hx hb dX0_adjustDecimal_22 (by decide) (fun c8 => ?_) (fun c8 => ?_)
  · replace h := if_no h c8
    refine lv_bipush (v := (6 : Int32)) hx hb dX0_adjustDecimal_34 (by decide) ?_
    refine lv_goto (tgt := 40) hx hb dX0_adjustDecimal_36 (by decide) ?_
    obtain rfl := Option.some.inj h
    exact K7 _ _ hP hD hS
  · replace h := if_yes h c8
    refine lv_iload_n hx hb dX0_adjustDecimal_25 rfl (lv_at hl 1 rfl) ?_
    refine lv_bipush (v := (15 : Int32)) hx hb dX0_adjustDecimal_26 (by decide) ?_
    refine lv_iand hx hb dX0_adjustDecimal_28 ?_
    refine lv_bipush (v := (9 : Int32)) hx hb dX0_adjustDecimal_29 (by decide) ?_
    have hq := bd_some h; clear h; obtain ⟨x11, h12, h⟩ := hq
    have K9 : ∀ (H : Heap) (locs : List Loc), va_P (dC, dI) vwCl (cW ad cI s6) H → va_D A (cW ad cI s6) → va_S A s.heap H locs → W p l e (sw_rm 2 44) s m args below meth c H locs 0 0 (MQ below (sw_Qv (dC, dI) vwCl [(cI, .int)] A (cW ad cI zs)) args s 0 0 A) (F0 m 40 ls [.int x11]) := by
      intro H locs hP hD hS
      obtain rfl := Option.some.inj h
      exact K7 _ _ hP hD hS
    replace h := h12
    clear h12
    refine lv_icmp_le (tgt := 39) hx hb dX0_adjustDecimal_31 (by decide) (fun c10 => ?_) (fun c10 => ?_)
    · replace h := if_yes h c10
      refine lv_iconst (v := (0 : Int32)) hx hb dX0_adjustDecimal_39 (by decide) ?_
      obtain rfl := Option.some.inj h
      exact K9 _ _ hP hD hS
    · replace h := if_no h c10
      refine lv_bipush (v := (6 : Int32)) hx hb dX0_adjustDecimal_34 (by decide) ?_
      refine lv_goto (tgt := 40) hx hb dX0_adjustDecimal_36 (by decide) ?_
      obtain rfl := Option.some.inj h
      exact K9 _ _ hP hD hS
theorem dX0_turnRoundA_0 : decode cX0_turnRoundA 0 = .ok (.aload_n 0, 1) := by decide +kernel
theorem dX0_turnRoundA_1 : decode cX0_turnRoundA 1 = .ok (.getfield 7, 3) := by decide +kernel
theorem dX0_turnRoundA_4 : decode cX0_turnRoundA 4 = .ok (.bipush 7, 2) := by decide +kernel
theorem dX0_turnRoundA_6 : decode cX0_turnRoundA 6 = .ok (.aload_n 0, 1) := by decide +kernel
theorem dX0_turnRoundA_7 : decode cX0_turnRoundA 7 = .ok (.getfield 7, 3) := by decide +kernel
theorem dX0_turnRoundA_10 : decode cX0_turnRoundA 10 = .ok (.bipush 7, 2) := by decide +kernel
theorem dX0_turnRoundA_12 : decode cX0_turnRoundA 12 = .ok (.invokevirtual 15, 3) := by decide +kernel
theorem dX0_turnRoundA_15 : decode cX0_turnRoundA 15 = .ok (.sipush 255, 3) := by decide +kernel
theorem dX0_turnRoundA_18 : decode cX0_turnRoundA 18 = .ok (.ixor, 1) := by decide +kernel
theorem dX0_turnRoundA_19 : decode cX0_turnRoundA 19 = .ok (.invokevirtual 27, 3) := by decide +kernel
theorem dX0_turnRoundA_22 : decode cX0_turnRoundA 22 = .ok (.aload_n 0, 1) := by decide +kernel
theorem dX0_turnRoundA_23 : decode cX0_turnRoundA 23 = .ok (.getfield 7, 3) := by decide +kernel
theorem dX0_turnRoundA_26 : decode cX0_turnRoundA 26 = .ok (.aload_n 0, 1) := by decide +kernel
theorem dX0_turnRoundA_27 : decode cX0_turnRoundA 27 = .ok (.getfield 7, 3) := by decide +kernel
theorem dX0_turnRoundA_30 : decode cX0_turnRoundA 30 = .ok (.invokevirtual 19, 3) := by decide +kernel
theorem dX0_turnRoundA_33 : decode cX0_turnRoundA 33 = .ok (.bipush 16, 2) := by decide +kernel
theorem dX0_turnRoundA_35 : decode cX0_turnRoundA 35 = .ok (.ior, 1) := by decide +kernel
theorem dX0_turnRoundA_36 : decode cX0_turnRoundA 36 = .ok (.iconst 2, 1) := by decide +kernel
theorem dX0_turnRoundA_37 : decode cX0_turnRoundA 37 = .ok (.ior, 1) := by decide +kernel
theorem dX0_turnRoundA_38 : decode cX0_turnRoundA 38 = .ok (.invokevirtual 40, 3) := by decide +kernel
theorem dX0_turnRoundA_41 : decode cX0_turnRoundA 41 = .ok (.return_, 1) := by decide +kernel
def fX0_turnRoundA (s0 : zS) : Option (zS) := bd2 (fX6_single (7 : Int32) s0) fun r2 s3 => bd (fX6_loadSingle (7 : Int32) (r2 ^^^ (255 : Int32)) s3) fun s5 => bd2 (fX6_flags  s5) fun r7 s8 => bd (fX6_loadFlags ((r7 ||| (16 : Int32)) ||| (2 : Int32)) s8) fun s10 => some s10
set_option maxHeartbeats 4000000 in
set_option maxRecDepth 100000 in
theorem cX0_turnRoundA_m {l : Launch} {dC : Nat → ClassId} {dI : Nat → Nat → Nat} {ad : Nat → Nat} {cI : ClassId} {s0 : zS} {zs : zS} (h : fX0_turnRoundA  s0 = some zs) : sw_Mv l yX0_turnRoundA (sw_ws yX0_turnRoundA cX0_turnRoundA 1 none) (sw_rm 2 44) (dC, dI) vwCl [(cI, .int)] cF [.ref (ad 6)] (cW ad cI s0) (cW ad cI zs) := by
  intro sz
  refine sw_of (cc := cX0_turnRoundA) (maxL := 1) (ret := none) (by decide) rfl (Nat.le_of_ble_eq_true rfl) ?_
  intro p e s m args below meth c A ls hAe hsz X _ hP hD hS hl
  rw [hAe]
  have hx := X.1.1
  have hb := X.1.2.1
  have hown := X.1.2.2.2.1
  have hts := X.1.2.2.2.2
  replace hl : lv_has ls 1 [(0, .ref (ad 6))] := hl
  unfold fX0_turnRoundA at h
  refine lv_aload_n hx hb dX0_turnRoundA_0 rfl (lv_at hl 0 rfl) ?_
  refine cg_6_0 X hP k_122 dX0_turnRoundA_1 ?_
  refine lv_bipush (v := (7 : Int32)) hx hb dX0_turnRoundA_4 (by decide) ?_
  refine lv_aload_n hx hb dX0_turnRoundA_6 rfl (lv_at hl 0 rfl) ?_
  refine cg_6_0 X hP k_122 dX0_turnRoundA_7 ?_
  refine lv_bipush (v := (7 : Int32)) hx hb dX0_turnRoundA_10 (by decide) ?_
  have hq := bd2_some h; clear h; obtain ⟨r2, s3, h1, h⟩ := hq
  refine sw_vi (rest := [.int (7 : Int32), .ref (ad 4)]) c_good X (cX6_single_m h1) calX6_single k_569 hP hD hS 4 6 rfl rfl rfl ⟨rfl, rfl⟩ rfl hl.1 rfl (Nat.le_of_ble_eq_true rfl) dX0_turnRoundA_12 (fun H locs hP hD hS => ?_)
  refine lv_sipush (v := (255 : Int32)) hx hb dX0_turnRoundA_15 (by decide) ?_
  refine lv_ixor hx hb dX0_turnRoundA_18 ?_
  have hq := bd_some h; clear h; obtain ⟨s5, h4, h⟩ := hq
  refine sw_vv (rest := []) c_good X (cX6_loadSingle_m h4) calX6_loadSingle k_570 hP hD hS 4 6 rfl rfl rfl ⟨rfl, rfl⟩ rfl hl.1 rfl (Nat.le_of_ble_eq_true rfl) dX0_turnRoundA_19 (fun H locs hP hD hS => ?_)
  refine lv_aload_n hx hb dX0_turnRoundA_22 rfl (lv_at hl 0 rfl) ?_
  refine cg_6_0 X hP k_122 dX0_turnRoundA_23 ?_
  refine lv_aload_n hx hb dX0_turnRoundA_26 rfl (lv_at hl 0 rfl) ?_
  refine cg_6_0 X hP k_122 dX0_turnRoundA_27 ?_
  have hq := bd2_some h; clear h; obtain ⟨r7, s8, h6, h⟩ := hq
  refine sw_vi (rest := [.ref (ad 4)]) c_good X (cX6_flags_m h6) calX6_flags k_501 hP hD hS 4 6 rfl rfl rfl ⟨rfl, rfl⟩ rfl hl.1 rfl (Nat.le_of_ble_eq_true rfl) dX0_turnRoundA_30 (fun H locs hP hD hS => ?_)
  refine lv_bipush (v := (16 : Int32)) hx hb dX0_turnRoundA_33 (by decide) ?_
  refine lv_ior hx hb dX0_turnRoundA_35 ?_
  refine lv_iconst (v := (2 : Int32)) hx hb dX0_turnRoundA_36 (by decide) ?_
  refine lv_ior hx hb dX0_turnRoundA_37 ?_
  have hq := bd_some h; clear h; obtain ⟨s10, h9, h⟩ := hq
  refine sw_vv (rest := []) c_good X (cX6_loadFlags_m h9) calX6_loadFlags k_502 hP hD hS 4 6 rfl rfl rfl ⟨rfl, rfl⟩ rfl hl.1 rfl (Nat.le_of_ble_eq_true rfl) dX0_turnRoundA_38 (fun H locs hP hD hS => ?_)
  obtain rfl := Option.some.inj h
  exact sw_vret X hP hD hS dX0_turnRoundA_41
theorem dX0_setCarry_0 : decode cX0_setCarry 0 = .ok (.aload_n 0, 1) := by decide +kernel
theorem dX0_setCarry_1 : decode cX0_setCarry 1 = .ok (.getfield 7, 3) := by decide +kernel
theorem dX0_setCarry_4 : decode cX0_setCarry 4 = .ok (.aload_n 0, 1) := by decide +kernel
theorem dX0_setCarry_5 : decode cX0_setCarry 5 = .ok (.getfield 7, 3) := by decide +kernel
theorem dX0_setCarry_8 : decode cX0_setCarry 8 = .ok (.invokevirtual 19, 3) := by decide +kernel
theorem dX0_setCarry_11 : decode cX0_setCarry 11 = .ok (.sipush 196, 3) := by decide +kernel
theorem dX0_setCarry_14 : decode cX0_setCarry 14 = .ok (.iand, 1) := by decide +kernel
theorem dX0_setCarry_15 : decode cX0_setCarry 15 = .ok (.iconst 1, 1) := by decide +kernel
theorem dX0_setCarry_16 : decode cX0_setCarry 16 = .ok (.ior, 1) := by decide +kernel
theorem dX0_setCarry_17 : decode cX0_setCarry 17 = .ok (.invokevirtual 40, 3) := by decide +kernel
theorem dX0_setCarry_20 : decode cX0_setCarry 20 = .ok (.return_, 1) := by decide +kernel
def fX0_setCarry (s0 : zS) : Option (zS) := bd2 (fX6_flags  s0) fun r2 s3 => bd (fX6_loadFlags ((r2 &&& (196 : Int32)) ||| (1 : Int32)) s3) fun s5 => some s5
set_option maxHeartbeats 4000000 in
set_option maxRecDepth 100000 in
theorem cX0_setCarry_m {l : Launch} {dC : Nat → ClassId} {dI : Nat → Nat → Nat} {ad : Nat → Nat} {cI : ClassId} {s0 : zS} {zs : zS} (h : fX0_setCarry  s0 = some zs) : sw_Mv l yX0_setCarry (sw_ws yX0_setCarry cX0_setCarry 1 none) (sw_rm 1 21) (dC, dI) vwCl [(cI, .int)] cF [.ref (ad 6)] (cW ad cI s0) (cW ad cI zs) := by
  intro sz
  refine sw_of (cc := cX0_setCarry) (maxL := 1) (ret := none) (by decide) rfl (Nat.le_of_ble_eq_true rfl) ?_
  intro p e s m args below meth c A ls hAe hsz X _ hP hD hS hl
  rw [hAe]
  have hx := X.1.1
  have hb := X.1.2.1
  have hown := X.1.2.2.2.1
  have hts := X.1.2.2.2.2
  replace hl : lv_has ls 1 [(0, .ref (ad 6))] := hl
  unfold fX0_setCarry at h
  refine lv_aload_n hx hb dX0_setCarry_0 rfl (lv_at hl 0 rfl) ?_
  refine cg_6_0 X hP k_122 dX0_setCarry_1 ?_
  refine lv_aload_n hx hb dX0_setCarry_4 rfl (lv_at hl 0 rfl) ?_
  refine cg_6_0 X hP k_122 dX0_setCarry_5 ?_
  have hq := bd2_some h; clear h; obtain ⟨r2, s3, h1, h⟩ := hq
  refine sw_vi (rest := [.ref (ad 4)]) c_good X (cX6_flags_m h1) calX6_flags k_501 hP hD hS 4 6 rfl rfl rfl ⟨rfl, rfl⟩ rfl hl.1 rfl (Nat.le_of_ble_eq_true rfl) dX0_setCarry_8 (fun H locs hP hD hS => ?_)
  refine lv_sipush (v := (196 : Int32)) hx hb dX0_setCarry_11 (by decide) ?_
  refine lv_iand hx hb dX0_setCarry_14 ?_
  refine lv_iconst (v := (1 : Int32)) hx hb dX0_setCarry_15 (by decide) ?_
  refine lv_ior hx hb dX0_setCarry_16 ?_
  have hq := bd_some h; clear h; obtain ⟨s5, h4, h⟩ := hq
  refine sw_vv (rest := []) c_good X (cX6_loadFlags_m h4) calX6_loadFlags k_502 hP hD hS 4 6 rfl rfl rfl ⟨rfl, rfl⟩ rfl hl.1 rfl (Nat.le_of_ble_eq_true rfl) dX0_setCarry_17 (fun H locs hP hD hS => ?_)
  obtain rfl := Option.some.inj h
  exact sw_vret X hP hD hS dX0_setCarry_20
theorem dX0_turnRoundCarry_0 : decode cX0_turnRoundCarry 0 = .ok (.aload_n 0, 1) := by decide +kernel
theorem dX0_turnRoundCarry_1 : decode cX0_turnRoundCarry 1 = .ok (.getfield 7, 3) := by decide +kernel
theorem dX0_turnRoundCarry_4 : decode cX0_turnRoundCarry 4 = .ok (.invokevirtual 19, 3) := by decide +kernel
theorem dX0_turnRoundCarry_7 : decode cX0_turnRoundCarry 7 = .ok (.istore_n 1, 1) := by decide +kernel
theorem dX0_turnRoundCarry_8 : decode cX0_turnRoundCarry 8 = .ok (.iload_n 1, 1) := by decide +kernel
theorem dX0_turnRoundCarry_9 : decode cX0_turnRoundCarry 9 = .ok (.iconst 1, 1) := by decide +kernel
theorem dX0_turnRoundCarry_10 : decode cX0_turnRoundCarry 10 = .ok (.iand, 1) := by decide +kernel
theorem dX0_turnRoundCarry_11 : decode cX0_turnRoundCarry 11 = .ok (.ifCond .eq 7, 3) := by decide +kernel
theorem dX0_turnRoundCarry_14 : decode cX0_turnRoundCarry 14 = .ok (.iconst 1, 1) := by decide +kernel
theorem dX0_turnRoundCarry_15 : decode cX0_turnRoundCarry 15 = .ok (.goto 4, 3) := by decide +kernel
theorem dX0_turnRoundCarry_18 : decode cX0_turnRoundCarry 18 = .ok (.iconst 0, 1) := by decide +kernel
theorem dX0_turnRoundCarry_19 : decode cX0_turnRoundCarry 19 = .ok (.istore_n 2, 1) := by decide +kernel
theorem dX0_turnRoundCarry_20 : decode cX0_turnRoundCarry 20 = .ok (.aload_n 0, 1) := by decide +kernel
theorem dX0_turnRoundCarry_21 : decode cX0_turnRoundCarry 21 = .ok (.getfield 7, 3) := by decide +kernel
theorem dX0_turnRoundCarry_24 : decode cX0_turnRoundCarry 24 = .ok (.iload_n 1, 1) := by decide +kernel
theorem dX0_turnRoundCarry_25 : decode cX0_turnRoundCarry 25 = .ok (.sipush 196, 3) := by decide +kernel
theorem dX0_turnRoundCarry_28 : decode cX0_turnRoundCarry 28 = .ok (.iand, 1) := by decide +kernel
theorem dX0_turnRoundCarry_29 : decode cX0_turnRoundCarry 29 = .ok (.iload_n 2, 1) := by decide +kernel
theorem dX0_turnRoundCarry_30 : decode cX0_turnRoundCarry 30 = .ok (.ifCond .eq 8, 3) := by decide +kernel
theorem dX0_turnRoundCarry_33 : decode cX0_turnRoundCarry 33 = .ok (.bipush 16, 2) := by decide +kernel
theorem dX0_turnRoundCarry_35 : decode cX0_turnRoundCarry 35 = .ok (.goto 4, 3) := by decide +kernel
theorem dX0_turnRoundCarry_38 : decode cX0_turnRoundCarry 38 = .ok (.iconst 1, 1) := by decide +kernel
theorem dX0_turnRoundCarry_39 : decode cX0_turnRoundCarry 39 = .ok (.ior, 1) := by decide +kernel
theorem dX0_turnRoundCarry_40 : decode cX0_turnRoundCarry 40 = .ok (.invokevirtual 40, 3) := by decide +kernel
theorem dX0_turnRoundCarry_43 : decode cX0_turnRoundCarry 43 = .ok (.return_, 1) := by decide +kernel
def fX0_turnRoundCarry (s0 : zS) : Option (zS) := bd2 (fX6_flags  s0) fun r2 s3 => bd (if (r2 &&& (1 : Int32)) = (0 : Int32) then (some (0 : Int32)) else (some (1 : Int32))) fun x6 => bd (if x6 = (0 : Int32) then (some (1 : Int32)) else (some (16 : Int32))) fun x10 => bd (fX6_loadFlags ((r2 &&& (196 : Int32)) ||| x10) s3) fun s13 => some s13
set_option maxHeartbeats 4000000 in
set_option maxRecDepth 100000 in
theorem cX0_turnRoundCarry_m {l : Launch} {dC : Nat → ClassId} {dI : Nat → Nat → Nat} {ad : Nat → Nat} {cI : ClassId} {s0 : zS} {zs : zS} (h : fX0_turnRoundCarry  s0 = some zs) : sw_Mv l yX0_turnRoundCarry (sw_ws yX0_turnRoundCarry cX0_turnRoundCarry 3 none) (sw_rm 1 21) (dC, dI) vwCl [(cI, .int)] cF [.ref (ad 6)] (cW ad cI s0) (cW ad cI zs) := by
  intro sz
  refine sw_of (cc := cX0_turnRoundCarry) (maxL := 3) (ret := none) (by decide) rfl (Nat.le_of_ble_eq_true rfl) ?_
  intro p e s m args below meth c A ls hAe hsz X _ hP hD hS hl
  rw [hAe]
  have hx := X.1.1
  have hb := X.1.2.1
  have hown := X.1.2.2.2.1
  have hts := X.1.2.2.2.2
  replace hl : lv_has ls 3 [(0, .ref (ad 6))] := hl
  unfold fX0_turnRoundCarry at h
  refine lv_aload_n hx hb dX0_turnRoundCarry_0 rfl (lv_at hl 0 rfl) ?_
  refine cg_6_0 X hP k_122 dX0_turnRoundCarry_1 ?_
  have hq := bd2_some h; clear h; obtain ⟨r2, s3, h1, h⟩ := hq
  refine sw_vi (rest := []) c_good X (cX6_flags_m h1) calX6_flags k_501 hP hD hS 4 6 rfl rfl rfl ⟨rfl, rfl⟩ rfl hl.1 rfl (Nat.le_of_ble_eq_true rfl) dX0_turnRoundCarry_4 (fun H locs hP hD hS => ?_)
  refine lv_istore_n (lv' := [(1, .int r2), (0, .ref (ad 6))]) hx hb dX0_turnRoundCarry_7 rfl hl (by decide) rfl (fun ls hl => ?_)
  refine lv_iload_n hx hb dX0_turnRoundCarry_8 rfl (lv_at hl 0 rfl) ?_
  refine lv_iconst (v := (1 : Int32)) hx hb dX0_turnRoundCarry_9 (by decide) ?_
  refine lv_iand hx hb dX0_turnRoundCarry_10 ?_
  have hq := bd_some h; clear h; obtain ⟨x6, h7, h⟩ := hq
  have K4 : ∀ (H : Heap) (locs : List Loc), va_P (dC, dI) vwCl (cW ad cI s3) H → va_D A (cW ad cI s3) → va_S A s.heap H locs → W p l e (sw_rm 1 21) s m args below meth c H locs 0 0 (MQ below (sw_Qv (dC, dI) vwCl [(cI, .int)] A (cW ad cI zs)) args s 0 0 A) (F0 m 19 ls [.int x6]) := by
    intro H locs hP hD hS
    refine lv_istore_n (lv' := [(2, .int x6), (1, .int r2), (0, .ref (ad 6))]) hx hb dX0_turnRoundCarry_19 rfl hl (by decide) rfl (fun ls hl => ?_)
    refine lv_aload_n hx hb dX0_turnRoundCarry_20 rfl (lv_at hl 2 rfl) ?_
    refine cg_6_0 X hP k_122 dX0_turnRoundCarry_21 ?_
    refine lv_iload_n hx hb dX0_turnRoundCarry_24 rfl (lv_at hl 1 rfl) ?_
    refine lv_sipush (v := (196 : Int32)) hx hb dX0_turnRoundCarry_25 (by decide) ?_
    refine lv_iand hx hb dX0_turnRoundCarry_28 ?_
    refine lv_iload_n hx hb dX0_turnRoundCarry_29 rfl (lv_at hl 0 rfl) ?_
    have hq := bd_some h; clear h; obtain ⟨x10, h11, h⟩ := hq
    have K8 : ∀ (H : Heap) (locs : List Loc), va_P (dC, dI) vwCl (cW ad cI s3) H → va_D A (cW ad cI s3) → va_S A s.heap H locs → W p l e (sw_rm 1 21) s m args below meth c H locs 0 0 (MQ below (sw_Qv (dC, dI) vwCl [(cI, .int)] A (cW ad cI zs)) args s 0 0 A) (F0 m 39 ls [.int x10, .int (r2 &&& (196 : Int32)), .ref (ad 4)]) := by
      intro H locs hP hD hS
      refine lv_ior hx hb dX0_turnRoundCarry_39 ?_
      have hq := bd_some h; clear h; obtain ⟨s13, h12, h⟩ := hq
      refine sw_vv (rest := []) c_good X (cX6_loadFlags_m h12) calX6_loadFlags k_502 hP hD hS 4 6 rfl rfl rfl ⟨rfl, rfl⟩ rfl hl.1 rfl (Nat.le_of_ble_eq_true rfl) dX0_turnRoundCarry_40 (fun H locs hP hD hS => ?_)
      obtain rfl := Option.some.inj h
      exact sw_vret X hP hD hS dX0_turnRoundCarry_43
    replace h := h11
    clear h11
    refine lv_if_eq (tgt := 38) hx hb dX0_turnRoundCarry_30 (by decide) (fun c9 => ?_) (fun c9 => ?_)
    · replace h := if_yes h c9
      refine lv_iconst (v := (1 : Int32)) hx hb dX0_turnRoundCarry_38 (by decide) ?_
      obtain rfl := Option.some.inj h
      exact K8 _ _ hP hD hS
    · replace h := if_no h c9
      refine lv_bipush (v := (16 : Int32)) hx hb dX0_turnRoundCarry_33 (by decide) ?_
      refine lv_goto (tgt := 39) hx hb dX0_turnRoundCarry_35 (by decide) ?_
      obtain rfl := Option.some.inj h
      exact K8 _ _ hP hD hS
  replace h := h7
  clear h7
  refine lv_if_eq (tgt := 18) hx hb dX0_turnRoundCarry_11 (by decide) (fun c5 => ?_) (fun c5 => ?_)
  · replace h := if_yes h c5
    refine lv_iconst (v := (0 : Int32)) hx hb dX0_turnRoundCarry_18 (by decide) ?_
    obtain rfl := Option.some.inj h
    exact K4 _ _ hP hD hS
  · replace h := if_no h c5
    refine lv_iconst (v := (1 : Int32)) hx hb dX0_turnRoundCarry_14 (by decide) ?_
    refine lv_goto (tgt := 19) hx hb dX0_turnRoundCarry_15 (by decide) ?_
    obtain rfl := Option.some.inj h
    exact K4 _ _ hP hD hS
theorem dX1_pass_0 : decode cX1_pass 0 = .ok (.aload_n 0, 1) := by decide +kernel
theorem dX1_pass_1 : decode cX1_pass 1 = .ok (.dup, 1) := by decide +kernel
theorem dX1_pass_2 : decode cX1_pass 2 = .ok (.getfield 7, 3) := by decide +kernel
theorem dX1_pass_5 : decode cX1_pass 5 = .ok (.iload_n 1, 1) := by decide +kernel
theorem dX1_pass_6 : decode cX1_pass 6 = .ok (.iadd, 1) := by decide +kernel
theorem dX1_pass_7 : decode cX1_pass 7 = .ok (.putfield 7, 3) := by decide +kernel
theorem dX1_pass_10 : decode cX1_pass 10 = .ok (.return_, 1) := by decide +kernel
def fX1_pass (p1 : Int32) (s0 : zS) : Option (zS) := some (st1 s0 0 ((s0.1 0) + p1))
set_option maxHeartbeats 4000000 in
set_option maxRecDepth 100000 in
theorem cX1_pass_m {l : Launch} {dC : Nat → ClassId} {dI : Nat → Nat → Nat} {ad : Nat → Nat} {cI : ClassId} {p1 : Int32} {s0 : zS} {zs : zS} (h : fX1_pass p1 s0 = some zs) : sw_Mv l yX1_pass (sw_ws yX1_pass cX1_pass 2 none) (sw_rm 0 0) (dC, dI) vwCl [(cI, .int)] cF [.ref (ad 1), .int p1] (cW ad cI s0) (cW ad cI zs) := by
  intro sz
  refine sw_of (cc := cX1_pass) (maxL := 2) (ret := none) (by decide) rfl (Nat.le_of_ble_eq_true rfl) ?_
  intro p e s m args below meth c A ls hAe hsz X _ hP hD hS hl
  rw [hAe]
  have hx := X.1.1
  have hb := X.1.2.1
  have hown := X.1.2.2.2.1
  have hts := X.1.2.2.2.2
  replace hl : lv_has ls 2 [(0, .ref (ad 1)), (1, .int p1)] := hl
  unfold fX1_pass at h
  refine lv_aload_n hx hb dX1_pass_0 rfl (lv_at hl 0 rfl) ?_
  refine lv_dup hx hb dX1_pass_1 rfl ?_
  refine cg_1_0 X hP k_31 dX1_pass_2 ?_
  refine lv_iload_n hx hb dX1_pass_5 rfl (lv_at hl 1 rfl) ?_
  refine lv_iadd hx hb dX1_pass_6 ?_
  refine cp_1_0 X hP hD hS k_31 dX1_pass_7 (fun H locs hP hD hS => ?_)
  obtain rfl := Option.some.inj h
  exact sw_vret X hP hD hS dX1_pass_10
theorem dX1_waitForPictureIf_0 : decode cX1_waitForPictureIf 0 = .ok (.aload_n 0, 1) := by decide +kernel
theorem dX1_waitForPictureIf_1 : decode cX1_waitForPictureIf 1 = .ok (.getfield 7, 3) := by decide +kernel
theorem dX1_waitForPictureIf_4 : decode cX1_waitForPictureIf 4 = .ok (.sipush 4000, 3) := by decide +kernel
theorem dX1_waitForPictureIf_7 : decode cX1_waitForPictureIf 7 = .ok (.irem, 1) := by decide +kernel
theorem dX1_waitForPictureIf_8 : decode cX1_waitForPictureIf 8 = .ok (.istore_n 2, 1) := by decide +kernel
theorem dX1_waitForPictureIf_9 : decode cX1_waitForPictureIf 9 = .ok (.iload_n 2, 1) := by decide +kernel
theorem dX1_waitForPictureIf_10 : decode cX1_waitForPictureIf 10 = .ok (.sipush 2000, 3) := by decide +kernel
theorem dX1_waitForPictureIf_13 : decode cX1_waitForPictureIf 13 = .ok (.if_icmp .ge 16, 3) := by decide +kernel
theorem dX1_waitForPictureIf_16 : decode cX1_waitForPictureIf 16 = .ok (.iload_n 2, 1) := by decide +kernel
theorem dX1_waitForPictureIf_17 : decode cX1_waitForPictureIf 17 = .ok (.bipush 100, 2) := by decide +kernel
theorem dX1_waitForPictureIf_19 : decode cX1_waitForPictureIf 19 = .ok (.irem, 1) := by decide +kernel
theorem dX1_waitForPictureIf_20 : decode cX1_waitForPictureIf 20 = .ok (.bipush 64, 2) := by decide +kernel
theorem dX1_waitForPictureIf_22 : decode cX1_waitForPictureIf 22 = .ok (.if_icmp .ge 7, 3) := by decide +kernel
theorem dX1_waitForPictureIf_25 : decode cX1_waitForPictureIf 25 = .ok (.iconst 1, 1) := by decide +kernel
theorem dX1_waitForPictureIf_26 : decode cX1_waitForPictureIf 26 = .ok (.goto 4, 3) := by decide +kernel
theorem dX1_waitForPictureIf_29 : decode cX1_waitForPictureIf 29 = .ok (.iconst 0, 1) := by decide +kernel
theorem dX1_waitForPictureIf_30 : decode cX1_waitForPictureIf 30 = .ok (.istore_n 3, 1) := by decide +kernel
theorem dX1_waitForPictureIf_31 : decode cX1_waitForPictureIf 31 = .ok (.iload_n 1, 1) := by decide +kernel
theorem dX1_waitForPictureIf_32 : decode cX1_waitForPictureIf 32 = .ok (.ifCond .eq 27, 3) := by decide +kernel
theorem dX1_waitForPictureIf_35 : decode cX1_waitForPictureIf 35 = .ok (.iload_n 3, 1) := by decide +kernel
theorem dX1_waitForPictureIf_36 : decode cX1_waitForPictureIf 36 = .ok (.ifCond .eq 23, 3) := by decide +kernel
theorem dX1_waitForPictureIf_39 : decode cX1_waitForPictureIf 39 = .ok (.aload_n 0, 1) := by decide +kernel
theorem dX1_waitForPictureIf_40 : decode cX1_waitForPictureIf 40 = .ok (.dup, 1) := by decide +kernel
theorem dX1_waitForPictureIf_41 : decode cX1_waitForPictureIf 41 = .ok (.getfield 7, 3) := by decide +kernel
theorem dX1_waitForPictureIf_44 : decode cX1_waitForPictureIf 44 = .ok (.getstatic 13, 3) := by decide +kernel
theorem dX1_waitForPictureIf_47 : decode cX1_waitForPictureIf 47 = .ok (.aload_n 0, 1) := by decide +kernel
theorem dX1_waitForPictureIf_48 : decode cX1_waitForPictureIf 48 = .ok (.getfield 7, 3) := by decide +kernel
theorem dX1_waitForPictureIf_51 : decode cX1_waitForPictureIf 51 = .ok (.bipush 7, 2) := by decide +kernel
theorem dX1_waitForPictureIf_53 : decode cX1_waitForPictureIf 53 = .ok (.iand, 1) := by decide +kernel
theorem dX1_waitForPictureIf_54 : decode cX1_waitForPictureIf 54 = .ok (.iaload, 1) := by decide +kernel
theorem dX1_waitForPictureIf_55 : decode cX1_waitForPictureIf 55 = .ok (.iadd, 1) := by decide +kernel
theorem dX1_waitForPictureIf_56 : decode cX1_waitForPictureIf 56 = .ok (.putfield 7, 3) := by decide +kernel
theorem dX1_waitForPictureIf_59 : decode cX1_waitForPictureIf 59 = .ok (.return_, 1) := by decide +kernel
def fX1_waitForPictureIf (p1 : Int32) (s0 : zS) : Option (zS) := nm ((s0.1 0) - (s0.1 0) / (4000 : Int32) * (4000 : Int32)) fun x1 => bd (if (2000 : Int32) ≤ x1 then (some (0 : Int32)) else (bd (if (64 : Int32) ≤ (x1 - x1 / (100 : Int32) * (100 : Int32)) then (some (0 : Int32)) else (some (1 : Int32))) fun x6 => some x6)) fun x8 => if p1 = (0 : Int32) then (some s0) else (if x8 = (0 : Int32) then (some s0) else (gd (0 ≤ ((s0.1 0) &&& (7 : Int32)) ∧ ((s0.1 0) &&& (7 : Int32)) < 8) <| some (st1 s0 0 ((s0.1 0) + (ct0 (((s0.1 0) &&& (7 : Int32)).toNatClampNeg))))))
set_option maxHeartbeats 4000000 in
set_option maxRecDepth 100000 in
theorem cX1_waitForPictureIf_m {l : Launch} {dC : Nat → ClassId} {dI : Nat → Nat → Nat} {ad : Nat → Nat} {cI : ClassId} {p1 : Int32} {s0 : zS} {zs : zS} (h : fX1_waitForPictureIf p1 s0 = some zs) : sw_Mv l yX1_waitForPictureIf (sw_ws yX1_waitForPictureIf cX1_waitForPictureIf 4 none) (sw_rm 0 0) (dC, dI) vwCl [(cI, .int)] cF [.ref (ad 1), .int p1] (cW ad cI s0) (cW ad cI zs) := by
  intro sz
  refine sw_of (cc := cX1_waitForPictureIf) (maxL := 4) (ret := none) (by decide) rfl (Nat.le_of_ble_eq_true rfl) ?_
  intro p e s m args below meth c A ls hAe hsz X _ hP hD hS hl
  rw [hAe]
  have hx := X.1.1
  have hb := X.1.2.1
  have hown := X.1.2.2.2.1
  have hts := X.1.2.2.2.2
  replace hl : lv_has ls 4 [(0, .ref (ad 1)), (1, .int p1)] := hl
  unfold fX1_waitForPictureIf at h
  refine lv_aload_n hx hb dX1_waitForPictureIf_0 rfl (lv_at hl 0 rfl) ?_
  refine cg_1_0 X hP k_31 dX1_waitForPictureIf_1 ?_
  refine lv_sipush (v := (4000 : Int32)) hx hb dX1_waitForPictureIf_4 (by decide) ?_
  refine lv_irem hx hb dX1_waitForPictureIf_7 (by decide) ?_
  refine lv_topi (fun x1 ex1 => ?_)
  replace h := nm_use ex1 h
  refine lv_istore_n (lv' := [(2, .int x1), (0, .ref (ad 1)), (1, .int p1)]) hx hb dX1_waitForPictureIf_8 rfl hl (by decide) rfl (fun ls hl => ?_)
  refine lv_iload_n hx hb dX1_waitForPictureIf_9 rfl (lv_at hl 0 rfl) ?_
  refine lv_sipush (v := (2000 : Int32)) hx hb dX1_waitForPictureIf_10 (by decide) ?_
  have hq := bd_some h; clear h; obtain ⟨x8, h9, h⟩ := hq
  have K2 : ∀ (H : Heap) (locs : List Loc), va_P (dC, dI) vwCl (cW ad cI s0) H → va_D A (cW ad cI s0) → va_S A s.heap H locs → W p l e (sw_rm 0 0) s m args below meth c H locs 0 0 (MQ below (sw_Qv (dC, dI) vwCl [(cI, .int)] A (cW ad cI zs)) args s 0 0 A) (F0 m 30 ls [.int x8]) := by
    intro H locs hP hD hS
    refine lv_istore_n (lv' := [(3, .int x8), (2, .int x1), (0, .ref (ad 1)), (1, .int p1)]) hx hb dX1_waitForPictureIf_30 rfl hl (by decide) rfl (fun ls hl => ?_)
    refine lv_iload_n hx hb dX1_waitForPictureIf_31 rfl (lv_at hl 3 rfl) ?_
    refine lv_if_eq (tgt := 59) hx hb dX1_waitForPictureIf_32 (by decide) (fun c10 => ?_) (fun c10 => ?_)
    · replace h := if_yes h c10
      obtain rfl := Option.some.inj h
      exact sw_vret X hP hD hS dX1_waitForPictureIf_59
    · replace h := if_no h c10
      refine lv_iload_n hx hb dX1_waitForPictureIf_35 rfl (lv_at hl 0 rfl) ?_
      refine lv_if_eq (tgt := 59) hx hb dX1_waitForPictureIf_36 (by decide) (fun c11 => ?_) (fun c11 => ?_)
      · replace h := if_yes h c11
        obtain rfl := Option.some.inj h
        exact sw_vret X hP hD hS dX1_waitForPictureIf_59
      · replace h := if_no h c11
        refine lv_aload_n hx hb dX1_waitForPictureIf_39 rfl (lv_at hl 2 rfl) ?_
        refine lv_dup hx hb dX1_waitForPictureIf_40 rfl ?_
        refine cg_1_0 X hP k_31 dX1_waitForPictureIf_41 ?_
        obtain ⟨t12, hZt12, hTt12⟩ := X.2.2.2.2.2.1
        refine va_gets hx hb hZt12 hS hown (hts _ (List.mem_cons_of_mem _ k_402)) (fun _ h9 => h9) dX1_waitForPictureIf_44 ?_
        refine lv_aload_n hx hb dX1_waitForPictureIf_47 rfl (lv_at hl 2 rfl) ?_
        refine cg_1_0 X hP k_31 dX1_waitForPictureIf_48 ?_
        refine lv_bipush (v := (7 : Int32)) hx hb dX1_waitForPictureIf_51 (by decide) ?_
        refine lv_iand hx hb dX1_waitForPictureIf_53 ?_
        have hq := gd_some h; clear h; obtain ⟨c13, h⟩ := hq
        refine va_ti hx hb hTt12 hS (vin_in c13 (by decide)) rfl dX1_waitForPictureIf_54 ?_
        refine lv_iadd hx hb dX1_waitForPictureIf_55 ?_
        refine cp_1_0 X hP hD hS k_31 dX1_waitForPictureIf_56 (fun H locs hP hD hS => ?_)
        obtain rfl := Option.some.inj h
        exact sw_vret X hP hD hS dX1_waitForPictureIf_59
  replace h := h9
  clear h9
  refine lv_icmp_ge (tgt := 29) hx hb dX1_waitForPictureIf_13 (by decide) (fun c3 => ?_) (fun c3 => ?_)
  · replace h := if_yes h c3
    refine lv_iconst (v := (0 : Int32)) hx hb dX1_waitForPictureIf_29 (by decide) ?_
    obtain rfl := Option.some.inj h
    exact K2 _ _ hP hD hS
  · replace h := if_no h c3
    refine lv_iload_n hx hb dX1_waitForPictureIf_16 rfl (lv_at hl 0 rfl) ?_
    refine lv_bipush (v := (100 : Int32)) hx hb dX1_waitForPictureIf_17 (by decide) ?_
    refine lv_irem hx hb dX1_waitForPictureIf_19 (by decide) ?_
    refine lv_bipush (v := (64 : Int32)) hx hb dX1_waitForPictureIf_20 (by decide) ?_
    have hq := bd_some h; clear h; obtain ⟨x6, h7, h⟩ := hq
    have K4 : ∀ (H : Heap) (locs : List Loc), va_P (dC, dI) vwCl (cW ad cI s0) H → va_D A (cW ad cI s0) → va_S A s.heap H locs → W p l e (sw_rm 0 0) s m args below meth c H locs 0 0 (MQ below (sw_Qv (dC, dI) vwCl [(cI, .int)] A (cW ad cI zs)) args s 0 0 A) (F0 m 30 ls [.int x6]) := by
      intro H locs hP hD hS
      obtain rfl := Option.some.inj h
      exact K2 _ _ hP hD hS
    replace h := h7
    clear h7
    refine lv_icmp_ge (tgt := 29) hx hb dX1_waitForPictureIf_22 (by decide) (fun c5 => ?_) (fun c5 => ?_)
    · replace h := if_yes h c5
      refine lv_iconst (v := (0 : Int32)) hx hb dX1_waitForPictureIf_29 (by decide) ?_
      obtain rfl := Option.some.inj h
      exact K4 _ _ hP hD hS
    · replace h := if_no h c5
      refine lv_iconst (v := (1 : Int32)) hx hb dX1_waitForPictureIf_25 (by decide) ?_
      refine lv_goto (tgt := 30) hx hb dX1_waitForPictureIf_26 (by decide) ?_
      obtain rfl := Option.some.inj h
      exact K4 _ _ hP hD hS
theorem dX1_asksForInterrupt_0 : decode cX1_asksForInterrupt 0 = .ok (.aload_n 0, 1) := by decide +kernel
theorem dX1_asksForInterrupt_1 : decode cX1_asksForInterrupt 1 = .ok (.getfield 7, 3) := by decide +kernel
theorem dX1_asksForInterrupt_4 : decode cX1_asksForInterrupt 4 = .ok (.sipush 4000, 3) := by decide +kernel
theorem dX1_asksForInterrupt_7 : decode cX1_asksForInterrupt 7 = .ok (.irem, 1) := by decide +kernel
theorem dX1_asksForInterrupt_8 : decode cX1_asksForInterrupt 8 = .ok (.bipush 32, 2) := by decide +kernel
theorem dX1_asksForInterrupt_10 : decode cX1_asksForInterrupt 10 = .ok (.if_icmp .ge 7, 3) := by decide +kernel
theorem dX1_asksForInterrupt_13 : decode cX1_asksForInterrupt 13 = .ok (.iconst 1, 1) := by decide +kernel
theorem dX1_asksForInterrupt_14 : decode cX1_asksForInterrupt 14 = .ok (.goto 4, 3) := by decide +kernel
theorem dX1_asksForInterrupt_17 : decode cX1_asksForInterrupt 17 = .ok (.iconst 0, 1) := by decide +kernel
theorem dX1_asksForInterrupt_18 : decode cX1_asksForInterrupt 18 = .ok (.ireturn, 1) := by decide +kernel
def fX1_asksForInterrupt (s0 : zS) : Option (Int32 × zS) := if (32 : Int32) ≤ ((s0.1 0) - (s0.1 0) / (4000 : Int32) * (4000 : Int32)) then (some ((0 : Int32), s0)) else (some ((1 : Int32), s0))
set_option maxHeartbeats 4000000 in
set_option maxRecDepth 100000 in
theorem cX1_asksForInterrupt_m {l : Launch} {dC : Nat → ClassId} {dI : Nat → Nat → Nat} {ad : Nat → Nat} {cI : ClassId} {s0 : zS} {zr : Int32} {zs : zS} (h : fX1_asksForInterrupt  s0 = some (zr, zs)) : sw_Mi l yX1_asksForInterrupt (sw_ws yX1_asksForInterrupt cX1_asksForInterrupt 1 (some .boolean)) (sw_rm 0 0) (dC, dI) vwCl [(cI, .int)] cF [.ref (ad 1)] (cW ad cI s0) (cW ad cI zs) zr := by
  intro sz
  refine sw_of (cc := cX1_asksForInterrupt) (maxL := 1) (ret := (some .boolean)) (by decide) rfl (Nat.le_of_ble_eq_true rfl) ?_
  intro p e s m args below meth c A ls hAe hsz X _ hP hD hS hl
  rw [hAe]
  have hx := X.1.1
  have hb := X.1.2.1
  have hown := X.1.2.2.2.1
  have hts := X.1.2.2.2.2
  replace hl : lv_has ls 1 [(0, .ref (ad 1))] := hl
  unfold fX1_asksForInterrupt at h
  refine lv_aload_n hx hb dX1_asksForInterrupt_0 rfl (lv_at hl 0 rfl) ?_
  refine cg_1_0 X hP k_31 dX1_asksForInterrupt_1 ?_
  refine lv_sipush (v := (4000 : Int32)) hx hb dX1_asksForInterrupt_4 (by decide) ?_
  refine lv_irem hx hb dX1_asksForInterrupt_7 (by decide) ?_
  refine lv_bipush (v := (32 : Int32)) hx hb dX1_asksForInterrupt_8 (by decide) ?_
  refine lv_icmp_ge (tgt := 17) hx hb dX1_asksForInterrupt_10 (by decide) (fun c1 => ?_) (fun c1 => ?_)
  · replace h := if_yes h c1
    refine lv_iconst (v := (0 : Int32)) hx hb dX1_asksForInterrupt_17 (by decide) ?_
    obtain ⟨rfl, rfl⟩ := Prod.mk.inj (Option.some.inj h)
    exact sw_bret X (bz_n (by decide)) hP hD hS dX1_asksForInterrupt_18
  · replace h := if_no h c1
    refine lv_iconst (v := (1 : Int32)) hx hb dX1_asksForInterrupt_13 (by decide) ?_
    refine lv_goto (tgt := 18) hx hb dX1_asksForInterrupt_14 (by decide) ?_
    obtain ⟨rfl, rfl⟩ := Prod.mk.inj (Option.some.inj h)
    exact sw_bret X (bz_n (by decide)) hP hD hS dX1_asksForInterrupt_18
theorem dX2_has_0 : decode cX2_has 0 = .ok (.iload_n 0, 1) := by decide +kernel
theorem dX2_has_1 : decode cX2_has 1 = .ok (.ifCond .lt 14, 3) := by decide +kernel
theorem dX2_has_4 : decode cX2_has 4 = .ok (.iload_n 0, 1) := by decide +kernel
theorem dX2_has_5 : decode cX2_has 5 = .ok (.sipush 4095, 3) := by decide +kernel
theorem dX2_has_8 : decode cX2_has 8 = .ok (.if_icmp .gt 7, 3) := by decide +kernel
theorem dX2_has_11 : decode cX2_has 11 = .ok (.iconst 1, 1) := by decide +kernel
theorem dX2_has_12 : decode cX2_has 12 = .ok (.goto 4, 3) := by decide +kernel
theorem dX2_has_15 : decode cX2_has 15 = .ok (.iconst 0, 1) := by decide +kernel
theorem dX2_has_16 : decode cX2_has 16 = .ok (.ireturn, 1) := by decide +kernel
def fX2_has (p1 : Int32) : Option (Int32) := if p1 < (0 : Int32) then (some (0 : Int32)) else (if (4095 : Int32) < p1 then (some (0 : Int32)) else (some (1 : Int32)))
set_option maxHeartbeats 4000000 in
set_option maxRecDepth 100000 in
theorem cX2_has_m {l : Launch} {dC : Nat → ClassId} {dI : Nat → Nat → Nat} {cI : ClassId} {w : va_W} {p1 : Int32} {zr : Int32} (h : fX2_has p1 = some zr) : sw_Mi l yX2_has (sw_ws yX2_has cX2_has 1 (some .boolean)) (sw_rm 0 0) (dC, dI) vwCl [(cI, .int)] cF [.int p1] w w zr := by
  intro sz
  refine sw_of (cc := cX2_has) (maxL := 1) (ret := (some .boolean)) (by decide) rfl (Nat.le_of_ble_eq_true rfl) ?_
  intro p e s m args below meth c A ls hAe hsz X _ hP hD hS hl
  rw [hAe]
  have hx := X.1.1
  have hb := X.1.2.1
  have hown := X.1.2.2.2.1
  have hts := X.1.2.2.2.2
  replace hl : lv_has ls 1 [(0, .int p1)] := hl
  unfold fX2_has at h
  refine lv_iload_n hx hb dX2_has_0 rfl (lv_at hl 0 rfl) ?_
  refine lv_if_lt (tgt := 15) hx hb dX2_has_1 (by decide) (fun c1 => ?_) (fun c1 => ?_)
  · replace h := if_yes h c1
    refine lv_iconst (v := (0 : Int32)) hx hb dX2_has_15 (by decide) ?_
    obtain rfl := Option.some.inj h
    exact sw_bret X (bz_n (by decide)) hP hD hS dX2_has_16
  · replace h := if_no h c1
    refine lv_iload_n hx hb dX2_has_4 rfl (lv_at hl 0 rfl) ?_
    refine lv_sipush (v := (4095 : Int32)) hx hb dX2_has_5 (by decide) ?_
    refine lv_icmp_gt (tgt := 15) hx hb dX2_has_8 (by decide) (fun c2 => ?_) (fun c2 => ?_)
    · replace h := if_yes h c2
      refine lv_iconst (v := (0 : Int32)) hx hb dX2_has_15 (by decide) ?_
      obtain rfl := Option.some.inj h
      exact sw_bret X (bz_n (by decide)) hP hD hS dX2_has_16
    · replace h := if_no h c2
      refine lv_iconst (v := (1 : Int32)) hx hb dX2_has_11 (by decide) ?_
      refine lv_goto (tgt := 16) hx hb dX2_has_12 (by decide) ?_
      obtain rfl := Option.some.inj h
      exact sw_bret X (bz_n (by decide)) hP hD hS dX2_has_16
theorem dX2_within_0 : decode cX2_within 0 = .ok (.iload_n 0, 1) := by decide +kernel
theorem dX2_within_1 : decode cX2_within 1 = .ok (.sipush 4095, 3) := by decide +kernel
theorem dX2_within_4 : decode cX2_within 4 = .ok (.iand, 1) := by decide +kernel
theorem dX2_within_5 : decode cX2_within 5 = .ok (.ireturn, 1) := by decide +kernel
def fX2_within (p1 : Int32) : Option (Int32) := some (p1 &&& (4095 : Int32))
set_option maxHeartbeats 4000000 in
set_option maxRecDepth 100000 in
theorem cX2_within_m {l : Launch} {dC : Nat → ClassId} {dI : Nat → Nat → Nat} {cI : ClassId} {w : va_W} {p1 : Int32} {zr : Int32} (h : fX2_within p1 = some zr) : sw_Mi l yX2_within (sw_ws yX2_within cX2_within 1 (some .int)) (sw_rm 0 0) (dC, dI) vwCl [(cI, .int)] cF [.int p1] w w zr := by
  intro sz
  refine sw_of (cc := cX2_within) (maxL := 1) (ret := (some .int)) (by decide) rfl (Nat.le_of_ble_eq_true rfl) ?_
  intro p e s m args below meth c A ls hAe hsz X _ hP hD hS hl
  rw [hAe]
  have hx := X.1.1
  have hb := X.1.2.1
  have hown := X.1.2.2.2.1
  have hts := X.1.2.2.2.2
  replace hl : lv_has ls 1 [(0, .int p1)] := hl
  unfold fX2_within at h
  refine lv_iload_n hx hb dX2_within_0 rfl (lv_at hl 0 rfl) ?_
  refine lv_sipush (v := (4095 : Int32)) hx hb dX2_within_1 (by decide) ?_
  refine lv_iand hx hb dX2_within_4 ?_
  obtain rfl := Option.some.inj h
  exact sw_iret X hP hD hS dX2_within_5
theorem dX2_at_0 : decode cX2_at 0 = .ok (.aload_n 0, 1) := by decide +kernel
theorem dX2_at_1 : decode cX2_at 1 = .ok (.getfield 9, 3) := by decide +kernel
theorem dX2_at_4 : decode cX2_at 4 = .ok (.iload_n 1, 1) := by decide +kernel
theorem dX2_at_5 : decode cX2_at 5 = .ok (.sipush 4095, 3) := by decide +kernel
theorem dX2_at_8 : decode cX2_at 8 = .ok (.iand, 1) := by decide +kernel
theorem dX2_at_9 : decode cX2_at 9 = .ok (.iaload, 1) := by decide +kernel
theorem dX2_at_10 : decode cX2_at 10 = .ok (.ireturn, 1) := by decide +kernel
def fX2_at (p1 : Int32) (s0 : zS) : Option (Int32 × zS) := gd (0 ≤ (p1 &&& (4095 : Int32)) ∧ (p1 &&& (4095 : Int32)) < 4096) <| some ((s0.2 0 ((p1 &&& (4095 : Int32)).toNatClampNeg)), s0)
set_option maxHeartbeats 4000000 in
set_option maxRecDepth 100000 in
theorem cX2_at_m {l : Launch} {dC : Nat → ClassId} {dI : Nat → Nat → Nat} {ad : Nat → Nat} {cI : ClassId} {p1 : Int32} {s0 : zS} {zr : Int32} {zs : zS} (h : fX2_at p1 s0 = some (zr, zs)) : sw_Mi l yX2_at (sw_ws yX2_at cX2_at 2 (some .int)) (sw_rm 0 0) (dC, dI) vwCl [(cI, .int)] cF [.ref (ad 2), .int p1] (cW ad cI s0) (cW ad cI zs) zr := by
  intro sz
  refine sw_of (cc := cX2_at) (maxL := 2) (ret := (some .int)) (by decide) rfl (Nat.le_of_ble_eq_true rfl) ?_
  intro p e s m args below meth c A ls hAe hsz X _ hP hD hS hl
  rw [hAe]
  have hx := X.1.1
  have hb := X.1.2.1
  have hown := X.1.2.2.2.1
  have hts := X.1.2.2.2.2
  replace hl : lv_has ls 2 [(0, .ref (ad 2)), (1, .int p1)] := hl
  unfold fX2_at at h
  refine lv_aload_n hx hb dX2_at_0 rfl (lv_at hl 0 rfl) ?_
  refine cg_2_1 X hP k_44 dX2_at_1 ?_
  refine lv_iload_n hx hb dX2_at_4 rfl (lv_at hl 1 rfl) ?_
  refine lv_sipush (v := (4095 : Int32)) hx hb dX2_at_5 (by decide) ?_
  refine lv_iand hx hb dX2_at_8 ?_
  have hq := gd_some h; clear h; obtain ⟨c1, h⟩ := hq
  refine cl_0 X hP (vin_in c1 (by decide)) dX2_at_9 ?_
  obtain ⟨rfl, rfl⟩ := Prod.mk.inj (Option.some.inj h)
  exact sw_iret X hP hD hS dX2_at_10
theorem dX2_put_0 : decode cX2_put 0 = .ok (.aload_n 0, 1) := by decide +kernel
theorem dX2_put_1 : decode cX2_put 1 = .ok (.getfield 9, 3) := by decide +kernel
theorem dX2_put_4 : decode cX2_put 4 = .ok (.iload_n 1, 1) := by decide +kernel
theorem dX2_put_5 : decode cX2_put 5 = .ok (.sipush 4095, 3) := by decide +kernel
theorem dX2_put_8 : decode cX2_put 8 = .ok (.iand, 1) := by decide +kernel
theorem dX2_put_9 : decode cX2_put 9 = .ok (.iload_n 2, 1) := by decide +kernel
theorem dX2_put_10 : decode cX2_put 10 = .ok (.sipush 255, 3) := by decide +kernel
theorem dX2_put_13 : decode cX2_put 13 = .ok (.iand, 1) := by decide +kernel
theorem dX2_put_14 : decode cX2_put 14 = .ok (.iastore, 1) := by decide +kernel
theorem dX2_put_15 : decode cX2_put 15 = .ok (.return_, 1) := by decide +kernel
def fX2_put (p1 p2 : Int32) (s0 : zS) : Option (zS) := gd (0 ≤ (p1 &&& (4095 : Int32)) ∧ (p1 &&& (4095 : Int32)) < 4096) <| some (st2 s0 0 ((p1 &&& (4095 : Int32)).toNatClampNeg) (p2 &&& (255 : Int32)))
set_option maxHeartbeats 4000000 in
set_option maxRecDepth 100000 in
theorem cX2_put_m {l : Launch} {dC : Nat → ClassId} {dI : Nat → Nat → Nat} {ad : Nat → Nat} {cI : ClassId} {p1 p2 : Int32} {s0 : zS} {zs : zS} (h : fX2_put p1 p2 s0 = some zs) : sw_Mv l yX2_put (sw_ws yX2_put cX2_put 3 none) (sw_rm 0 0) (dC, dI) vwCl [(cI, .int)] cF [.ref (ad 2), .int p1, .int p2] (cW ad cI s0) (cW ad cI zs) := by
  intro sz
  refine sw_of (cc := cX2_put) (maxL := 3) (ret := none) (by decide) rfl (Nat.le_of_ble_eq_true rfl) ?_
  intro p e s m args below meth c A ls hAe hsz X _ hP hD hS hl
  rw [hAe]
  have hx := X.1.1
  have hb := X.1.2.1
  have hown := X.1.2.2.2.1
  have hts := X.1.2.2.2.2
  replace hl : lv_has ls 3 [(0, .ref (ad 2)), (1, .int p1), (2, .int p2)] := hl
  unfold fX2_put at h
  refine lv_aload_n hx hb dX2_put_0 rfl (lv_at hl 0 rfl) ?_
  refine cg_2_1 X hP k_44 dX2_put_1 ?_
  refine lv_iload_n hx hb dX2_put_4 rfl (lv_at hl 1 rfl) ?_
  refine lv_sipush (v := (4095 : Int32)) hx hb dX2_put_5 (by decide) ?_
  refine lv_iand hx hb dX2_put_8 ?_
  refine lv_iload_n hx hb dX2_put_9 rfl (lv_at hl 2 rfl) ?_
  refine lv_sipush (v := (255 : Int32)) hx hb dX2_put_10 (by decide) ?_
  refine lv_iand hx hb dX2_put_13 ?_
  have hq := gd_some h; clear h; obtain ⟨c1, h⟩ := hq
  refine cb_0 X hP hD hS (vin_in c1 (by decide)) dX2_put_14 (fun H locs hP hD hS => ?_)
  obtain rfl := Option.some.inj h
  exact sw_vret X hP hD hS dX2_put_15
theorem dX2_isWaitedFor_0 : decode cX2_isWaitedFor 0 = .ok (.iload_n 0, 1) := by decide +kernel
theorem dX2_isWaitedFor_1 : decode cX2_isWaitedFor 1 = .ok (.sipush 4095, 3) := by decide +kernel
theorem dX2_isWaitedFor_4 : decode cX2_isWaitedFor 4 = .ok (.iand, 1) := by decide +kernel
theorem dX2_isWaitedFor_5 : decode cX2_isWaitedFor 5 = .ok (.istore_n 1, 1) := by decide +kernel
theorem dX2_isWaitedFor_6 : decode cX2_isWaitedFor 6 = .ok (.iload_n 1, 1) := by decide +kernel
theorem dX2_isWaitedFor_7 : decode cX2_isWaitedFor 7 = .ok (.sipush 1024, 3) := by decide +kernel
theorem dX2_isWaitedFor_10 : decode cX2_isWaitedFor 10 = .ok (.if_icmp .lt 14, 3) := by decide +kernel
theorem dX2_isWaitedFor_13 : decode cX2_isWaitedFor 13 = .ok (.iload_n 1, 1) := by decide +kernel
theorem dX2_isWaitedFor_14 : decode cX2_isWaitedFor 14 = .ok (.sipush 2048, 3) := by decide +kernel
theorem dX2_isWaitedFor_17 : decode cX2_isWaitedFor 17 = .ok (.if_icmp .ge 7, 3) := by decide +kernel
theorem dX2_isWaitedFor_20 : decode cX2_isWaitedFor 20 = .ok (.iconst 1, 1) := by decide +kernel
theorem dX2_isWaitedFor_21 : decode cX2_isWaitedFor 21 = .ok (.goto 4, 3) := by decide +kernel
theorem dX2_isWaitedFor_24 : decode cX2_isWaitedFor 24 = .ok (.iconst 0, 1) := by decide +kernel
theorem dX2_isWaitedFor_25 : decode cX2_isWaitedFor 25 = .ok (.ireturn, 1) := by decide +kernel
def fX2_isWaitedFor (p1 : Int32) : Option (Int32) := nm (p1 &&& (4095 : Int32)) fun x1 => if x1 < (1024 : Int32) then (some (0 : Int32)) else (if (2048 : Int32) ≤ x1 then (some (0 : Int32)) else (some (1 : Int32)))
set_option maxHeartbeats 4000000 in
set_option maxRecDepth 100000 in
theorem cX2_isWaitedFor_m {l : Launch} {dC : Nat → ClassId} {dI : Nat → Nat → Nat} {cI : ClassId} {w : va_W} {p1 : Int32} {zr : Int32} (h : fX2_isWaitedFor p1 = some zr) : sw_Mi l yX2_isWaitedFor (sw_ws yX2_isWaitedFor cX2_isWaitedFor 2 (some .boolean)) (sw_rm 0 0) (dC, dI) vwCl [(cI, .int)] cF [.int p1] w w zr := by
  intro sz
  refine sw_of (cc := cX2_isWaitedFor) (maxL := 2) (ret := (some .boolean)) (by decide) rfl (Nat.le_of_ble_eq_true rfl) ?_
  intro p e s m args below meth c A ls hAe hsz X _ hP hD hS hl
  rw [hAe]
  have hx := X.1.1
  have hb := X.1.2.1
  have hown := X.1.2.2.2.1
  have hts := X.1.2.2.2.2
  replace hl : lv_has ls 2 [(0, .int p1)] := hl
  unfold fX2_isWaitedFor at h
  refine lv_iload_n hx hb dX2_isWaitedFor_0 rfl (lv_at hl 0 rfl) ?_
  refine lv_sipush (v := (4095 : Int32)) hx hb dX2_isWaitedFor_1 (by decide) ?_
  refine lv_iand hx hb dX2_isWaitedFor_4 ?_
  refine lv_topi (fun x1 ex1 => ?_)
  replace h := nm_use ex1 h
  refine lv_istore_n (lv' := [(1, .int x1), (0, .int p1)]) hx hb dX2_isWaitedFor_5 rfl hl (by decide) rfl (fun ls hl => ?_)
  refine lv_iload_n hx hb dX2_isWaitedFor_6 rfl (lv_at hl 0 rfl) ?_
  refine lv_sipush (v := (1024 : Int32)) hx hb dX2_isWaitedFor_7 (by decide) ?_
  refine lv_icmp_lt (tgt := 24) hx hb dX2_isWaitedFor_10 (by decide) (fun c2 => ?_) (fun c2 => ?_)
  · replace h := if_yes h c2
    refine lv_iconst (v := (0 : Int32)) hx hb dX2_isWaitedFor_24 (by decide) ?_
    obtain rfl := Option.some.inj h
    exact sw_bret X (bz_n (by decide)) hP hD hS dX2_isWaitedFor_25
  · replace h := if_no h c2
    refine lv_iload_n hx hb dX2_isWaitedFor_13 rfl (lv_at hl 0 rfl) ?_
    refine lv_sipush (v := (2048 : Int32)) hx hb dX2_isWaitedFor_14 (by decide) ?_
    refine lv_icmp_ge (tgt := 24) hx hb dX2_isWaitedFor_17 (by decide) (fun c3 => ?_) (fun c3 => ?_)
    · replace h := if_yes h c3
      refine lv_iconst (v := (0 : Int32)) hx hb dX2_isWaitedFor_24 (by decide) ?_
      obtain rfl := Option.some.inj h
      exact sw_bret X (bz_n (by decide)) hP hD hS dX2_isWaitedFor_25
    · replace h := if_no h c3
      refine lv_iconst (v := (1 : Int32)) hx hb dX2_isWaitedFor_20 (by decide) ?_
      refine lv_goto (tgt := 25) hx hb dX2_isWaitedFor_21 (by decide) ?_
      obtain rfl := Option.some.inj h
      exact sw_bret X (bz_n (by decide)) hP hD hS dX2_isWaitedFor_25
theorem dX2_fetch_0 : decode cX2_fetch 0 = .ok (.aload_n 0, 1) := by decide +kernel
theorem dX2_fetch_1 : decode cX2_fetch 1 = .ok (.getfield 13, 3) := by decide +kernel
theorem dX2_fetch_4 : decode cX2_fetch 4 = .ok (.iload_n 1, 1) := by decide +kernel
theorem dX2_fetch_5 : decode cX2_fetch 5 = .ok (.invokestatic 17, 3) := by decide +kernel
theorem dX2_fetch_8 : decode cX2_fetch 8 = .ok (.invokevirtual 21, 3) := by decide +kernel
theorem dX2_fetch_11 : decode cX2_fetch 11 = .ok (.aload_n 0, 1) := by decide +kernel
theorem dX2_fetch_12 : decode cX2_fetch 12 = .ok (.getfield 13, 3) := by decide +kernel
theorem dX2_fetch_15 : decode cX2_fetch 15 = .ok (.iconst 4, 1) := by decide +kernel
theorem dX2_fetch_16 : decode cX2_fetch 16 = .ok (.invokevirtual 27, 3) := by decide +kernel
theorem dX2_fetch_19 : decode cX2_fetch 19 = .ok (.aload_n 0, 1) := by decide +kernel
theorem dX2_fetch_20 : decode cX2_fetch 20 = .ok (.iload_n 1, 1) := by decide +kernel
theorem dX2_fetch_21 : decode cX2_fetch 21 = .ok (.invokevirtual 31, 3) := by decide +kernel
theorem dX2_fetch_24 : decode cX2_fetch 24 = .ok (.ireturn, 1) := by decide +kernel
def fX2_fetch (p1 : Int32) (s0 : zS) : Option (Int32 × zS) := bd (fX2_isWaitedFor p1) fun r2 => bd (fX1_waitForPictureIf r2 s0) fun s4 => bd (fX1_pass (4 : Int32) s4) fun s6 => bd2 (fX2_at p1 s6) fun r8 s9 => some (r8, s9)
set_option maxHeartbeats 4000000 in
set_option maxRecDepth 100000 in
theorem cX2_fetch_m {l : Launch} {dC : Nat → ClassId} {dI : Nat → Nat → Nat} {ad : Nat → Nat} {cI : ClassId} {p1 : Int32} {s0 : zS} {zr : Int32} {zs : zS} (h : fX2_fetch p1 s0 = some (zr, zs)) : sw_Mi l yX2_fetch (sw_ws yX2_fetch cX2_fetch 2 (some .int)) (sw_rm 1 23) (dC, dI) vwCl [(cI, .int)] cF [.ref (ad 2), .int p1] (cW ad cI s0) (cW ad cI zs) zr := by
  intro sz
  refine sw_of (cc := cX2_fetch) (maxL := 2) (ret := (some .int)) (by decide) rfl (Nat.le_of_ble_eq_true rfl) ?_
  intro p e s m args below meth c A ls hAe hsz X _ hP hD hS hl
  rw [hAe]
  have hx := X.1.1
  have hb := X.1.2.1
  have hown := X.1.2.2.2.1
  have hts := X.1.2.2.2.2
  replace hl : lv_has ls 2 [(0, .ref (ad 2)), (1, .int p1)] := hl
  unfold fX2_fetch at h
  refine lv_aload_n hx hb dX2_fetch_0 rfl (lv_at hl 0 rfl) ?_
  refine cg_2_0 X hP k_43 dX2_fetch_1 ?_
  refine lv_iload_n hx hb dX2_fetch_4 rfl (lv_at hl 1 rfl) ?_
  have hq := bd_some h; clear h; obtain ⟨r2, h1, h⟩ := hq
  refine sw_si (rest := [.ref (ad 1)]) c_good X (cX2_isWaitedFor_m h1) calX2_isWaitedFor k_395 hP hD hS ⟨rfl, rfl⟩ rfl hl.1 rfl (Nat.le_of_ble_eq_true rfl) dX2_fetch_5 (fun H locs hP hD hS => ?_)
  have hq := bd_some h; clear h; obtain ⟨s4, h3, h⟩ := hq
  refine sw_vv (rest := []) c_good X (cX1_waitForPictureIf_m h3) calX1_waitForPictureIf k_398 hP hD hS 1 1 rfl rfl rfl ⟨rfl, rfl⟩ rfl hl.1 rfl (Nat.le_of_ble_eq_true rfl) dX2_fetch_8 (fun H locs hP hD hS => ?_)
  refine lv_aload_n hx hb dX2_fetch_11 rfl (lv_at hl 0 rfl) ?_
  refine cg_2_0 X hP k_43 dX2_fetch_12 ?_
  refine lv_iconst (v := (4 : Int32)) hx hb dX2_fetch_15 (by decide) ?_
  have hq := bd_some h; clear h; obtain ⟨s6, h5, h⟩ := hq
  refine sw_vv (rest := []) c_good X (cX1_pass_m h5) calX1_pass k_404 hP hD hS 1 1 rfl rfl rfl ⟨rfl, rfl⟩ rfl hl.1 rfl (Nat.le_of_ble_eq_true rfl) dX2_fetch_16 (fun H locs hP hD hS => ?_)
  refine lv_aload_n hx hb dX2_fetch_19 rfl (lv_at hl 0 rfl) ?_
  refine lv_iload_n hx hb dX2_fetch_20 rfl (lv_at hl 1 rfl) ?_
  have hq := bd2_some h; clear h; obtain ⟨r8, s9, h7, h⟩ := hq
  refine sw_vi (rest := []) c_good X (cX2_at_m h7) calX2_at k_429 hP hD hS 2 2 rfl rfl rfl ⟨rfl, rfl⟩ rfl hl.1 rfl (Nat.le_of_ble_eq_true rfl) dX2_fetch_21 (fun H locs hP hD hS => ?_)
  obtain ⟨rfl, rfl⟩ := Prod.mk.inj (Option.some.inj h)
  exact sw_iret X hP hD hS dX2_fetch_24
theorem dX2_read_0 : decode cX2_read 0 = .ok (.aload_n 0, 1) := by decide +kernel
theorem dX2_read_1 : decode cX2_read 1 = .ok (.getfield 13, 3) := by decide +kernel
theorem dX2_read_4 : decode cX2_read 4 = .ok (.iload_n 1, 1) := by decide +kernel
theorem dX2_read_5 : decode cX2_read 5 = .ok (.invokestatic 17, 3) := by decide +kernel
theorem dX2_read_8 : decode cX2_read 8 = .ok (.invokevirtual 21, 3) := by decide +kernel
theorem dX2_read_11 : decode cX2_read 11 = .ok (.aload_n 0, 1) := by decide +kernel
theorem dX2_read_12 : decode cX2_read 12 = .ok (.getfield 13, 3) := by decide +kernel
theorem dX2_read_15 : decode cX2_read 15 = .ok (.iconst 3, 1) := by decide +kernel
theorem dX2_read_16 : decode cX2_read 16 = .ok (.invokevirtual 27, 3) := by decide +kernel
theorem dX2_read_19 : decode cX2_read 19 = .ok (.aload_n 0, 1) := by decide +kernel
theorem dX2_read_20 : decode cX2_read 20 = .ok (.iload_n 1, 1) := by decide +kernel
theorem dX2_read_21 : decode cX2_read 21 = .ok (.invokevirtual 31, 3) := by decide +kernel
theorem dX2_read_24 : decode cX2_read 24 = .ok (.ireturn, 1) := by decide +kernel
def fX2_read (p1 : Int32) (s0 : zS) : Option (Int32 × zS) := bd (fX2_isWaitedFor p1) fun r2 => bd (fX1_waitForPictureIf r2 s0) fun s4 => bd (fX1_pass (3 : Int32) s4) fun s6 => bd2 (fX2_at p1 s6) fun r8 s9 => some (r8, s9)
set_option maxHeartbeats 4000000 in
set_option maxRecDepth 100000 in
theorem cX2_read_m {l : Launch} {dC : Nat → ClassId} {dI : Nat → Nat → Nat} {ad : Nat → Nat} {cI : ClassId} {p1 : Int32} {s0 : zS} {zr : Int32} {zs : zS} (h : fX2_read p1 s0 = some (zr, zs)) : sw_Mi l yX2_read (sw_ws yX2_read cX2_read 2 (some .int)) (sw_rm 1 23) (dC, dI) vwCl [(cI, .int)] cF [.ref (ad 2), .int p1] (cW ad cI s0) (cW ad cI zs) zr := by
  intro sz
  refine sw_of (cc := cX2_read) (maxL := 2) (ret := (some .int)) (by decide) rfl (Nat.le_of_ble_eq_true rfl) ?_
  intro p e s m args below meth c A ls hAe hsz X _ hP hD hS hl
  rw [hAe]
  have hx := X.1.1
  have hb := X.1.2.1
  have hown := X.1.2.2.2.1
  have hts := X.1.2.2.2.2
  replace hl : lv_has ls 2 [(0, .ref (ad 2)), (1, .int p1)] := hl
  unfold fX2_read at h
  refine lv_aload_n hx hb dX2_read_0 rfl (lv_at hl 0 rfl) ?_
  refine cg_2_0 X hP k_43 dX2_read_1 ?_
  refine lv_iload_n hx hb dX2_read_4 rfl (lv_at hl 1 rfl) ?_
  have hq := bd_some h; clear h; obtain ⟨r2, h1, h⟩ := hq
  refine sw_si (rest := [.ref (ad 1)]) c_good X (cX2_isWaitedFor_m h1) calX2_isWaitedFor k_395 hP hD hS ⟨rfl, rfl⟩ rfl hl.1 rfl (Nat.le_of_ble_eq_true rfl) dX2_read_5 (fun H locs hP hD hS => ?_)
  have hq := bd_some h; clear h; obtain ⟨s4, h3, h⟩ := hq
  refine sw_vv (rest := []) c_good X (cX1_waitForPictureIf_m h3) calX1_waitForPictureIf k_398 hP hD hS 1 1 rfl rfl rfl ⟨rfl, rfl⟩ rfl hl.1 rfl (Nat.le_of_ble_eq_true rfl) dX2_read_8 (fun H locs hP hD hS => ?_)
  refine lv_aload_n hx hb dX2_read_11 rfl (lv_at hl 0 rfl) ?_
  refine cg_2_0 X hP k_43 dX2_read_12 ?_
  refine lv_iconst (v := (3 : Int32)) hx hb dX2_read_15 (by decide) ?_
  have hq := bd_some h; clear h; obtain ⟨s6, h5, h⟩ := hq
  refine sw_vv (rest := []) c_good X (cX1_pass_m h5) calX1_pass k_404 hP hD hS 1 1 rfl rfl rfl ⟨rfl, rfl⟩ rfl hl.1 rfl (Nat.le_of_ble_eq_true rfl) dX2_read_16 (fun H locs hP hD hS => ?_)
  refine lv_aload_n hx hb dX2_read_19 rfl (lv_at hl 0 rfl) ?_
  refine lv_iload_n hx hb dX2_read_20 rfl (lv_at hl 1 rfl) ?_
  have hq := bd2_some h; clear h; obtain ⟨r8, s9, h7, h⟩ := hq
  refine sw_vi (rest := []) c_good X (cX2_at_m h7) calX2_at k_429 hP hD hS 2 2 rfl rfl rfl ⟨rfl, rfl⟩ rfl hl.1 rfl (Nat.le_of_ble_eq_true rfl) dX2_read_21 (fun H locs hP hD hS => ?_)
  obtain ⟨rfl, rfl⟩ := Prod.mk.inj (Option.some.inj h)
  exact sw_iret X hP hD hS dX2_read_24
theorem dX2_write_0 : decode cX2_write 0 = .ok (.aload_n 0, 1) := by decide +kernel
theorem dX2_write_1 : decode cX2_write 1 = .ok (.getfield 13, 3) := by decide +kernel
theorem dX2_write_4 : decode cX2_write 4 = .ok (.iload_n 1, 1) := by decide +kernel
theorem dX2_write_5 : decode cX2_write 5 = .ok (.invokestatic 17, 3) := by decide +kernel
theorem dX2_write_8 : decode cX2_write 8 = .ok (.invokevirtual 21, 3) := by decide +kernel
theorem dX2_write_11 : decode cX2_write 11 = .ok (.aload_n 0, 1) := by decide +kernel
theorem dX2_write_12 : decode cX2_write 12 = .ok (.getfield 13, 3) := by decide +kernel
theorem dX2_write_15 : decode cX2_write 15 = .ok (.iconst 3, 1) := by decide +kernel
theorem dX2_write_16 : decode cX2_write 16 = .ok (.invokevirtual 27, 3) := by decide +kernel
theorem dX2_write_19 : decode cX2_write 19 = .ok (.iload_n 1, 1) := by decide +kernel
theorem dX2_write_20 : decode cX2_write 20 = .ok (.invokestatic 35, 3) := by decide +kernel
theorem dX2_write_23 : decode cX2_write 23 = .ok (.sipush 1024, 3) := by decide +kernel
theorem dX2_write_26 : decode cX2_write 26 = .ok (.if_icmp .lt 9, 3) := by decide +kernel
theorem dX2_write_29 : decode cX2_write 29 = .ok (.aload_n 0, 1) := by decide +kernel
theorem dX2_write_30 : decode cX2_write 30 = .ok (.iload_n 1, 1) := by decide +kernel
theorem dX2_write_31 : decode cX2_write 31 = .ok (.iload_n 2, 1) := by decide +kernel
theorem dX2_write_32 : decode cX2_write 32 = .ok (.invokevirtual 38, 3) := by decide +kernel
theorem dX2_write_35 : decode cX2_write 35 = .ok (.return_, 1) := by decide +kernel
def fX2_write (p1 p2 : Int32) (s0 : zS) : Option (zS) := bd (fX2_isWaitedFor p1) fun r2 => bd (fX1_waitForPictureIf r2 s0) fun s4 => bd (fX1_pass (3 : Int32) s4) fun s6 => bd (fX2_within p1) fun r8 => if r8 < (1024 : Int32) then (some s6) else (bd (fX2_put p1 p2 s6) fun s11 => some s11)
set_option maxHeartbeats 4000000 in
set_option maxRecDepth 100000 in
theorem cX2_write_m {l : Launch} {dC : Nat → ClassId} {dI : Nat → Nat → Nat} {ad : Nat → Nat} {cI : ClassId} {p1 p2 : Int32} {s0 : zS} {zs : zS} (h : fX2_write p1 p2 s0 = some zs) : sw_Mv l yX2_write (sw_ws yX2_write cX2_write 3 none) (sw_rm 1 23) (dC, dI) vwCl [(cI, .int)] cF [.ref (ad 2), .int p1, .int p2] (cW ad cI s0) (cW ad cI zs) := by
  intro sz
  refine sw_of (cc := cX2_write) (maxL := 3) (ret := none) (by decide) rfl (Nat.le_of_ble_eq_true rfl) ?_
  intro p e s m args below meth c A ls hAe hsz X _ hP hD hS hl
  rw [hAe]
  have hx := X.1.1
  have hb := X.1.2.1
  have hown := X.1.2.2.2.1
  have hts := X.1.2.2.2.2
  replace hl : lv_has ls 3 [(0, .ref (ad 2)), (1, .int p1), (2, .int p2)] := hl
  unfold fX2_write at h
  refine lv_aload_n hx hb dX2_write_0 rfl (lv_at hl 0 rfl) ?_
  refine cg_2_0 X hP k_43 dX2_write_1 ?_
  refine lv_iload_n hx hb dX2_write_4 rfl (lv_at hl 1 rfl) ?_
  have hq := bd_some h; clear h; obtain ⟨r2, h1, h⟩ := hq
  refine sw_si (rest := [.ref (ad 1)]) c_good X (cX2_isWaitedFor_m h1) calX2_isWaitedFor k_395 hP hD hS ⟨rfl, rfl⟩ rfl hl.1 rfl (Nat.le_of_ble_eq_true rfl) dX2_write_5 (fun H locs hP hD hS => ?_)
  have hq := bd_some h; clear h; obtain ⟨s4, h3, h⟩ := hq
  refine sw_vv (rest := []) c_good X (cX1_waitForPictureIf_m h3) calX1_waitForPictureIf k_398 hP hD hS 1 1 rfl rfl rfl ⟨rfl, rfl⟩ rfl hl.1 rfl (Nat.le_of_ble_eq_true rfl) dX2_write_8 (fun H locs hP hD hS => ?_)
  refine lv_aload_n hx hb dX2_write_11 rfl (lv_at hl 0 rfl) ?_
  refine cg_2_0 X hP k_43 dX2_write_12 ?_
  refine lv_iconst (v := (3 : Int32)) hx hb dX2_write_15 (by decide) ?_
  have hq := bd_some h; clear h; obtain ⟨s6, h5, h⟩ := hq
  refine sw_vv (rest := []) c_good X (cX1_pass_m h5) calX1_pass k_404 hP hD hS 1 1 rfl rfl rfl ⟨rfl, rfl⟩ rfl hl.1 rfl (Nat.le_of_ble_eq_true rfl) dX2_write_16 (fun H locs hP hD hS => ?_)
  refine lv_iload_n hx hb dX2_write_19 rfl (lv_at hl 1 rfl) ?_
  have hq := bd_some h; clear h; obtain ⟨r8, h7, h⟩ := hq
  refine sw_si (rest := []) c_good X (cX2_within_m h7) calX2_within k_405 hP hD hS ⟨rfl, rfl⟩ rfl hl.1 rfl (Nat.le_of_ble_eq_true rfl) dX2_write_20 (fun H locs hP hD hS => ?_)
  refine lv_sipush (v := (1024 : Int32)) hx hb dX2_write_23 (by decide) ?_
  refine lv_icmp_lt (tgt := 35) hx hb dX2_write_26 (by decide) (fun c9 => ?_) (fun c9 => ?_)
  · replace h := if_yes h c9
    obtain rfl := Option.some.inj h
    exact sw_vret X hP hD hS dX2_write_35
  · replace h := if_no h c9
    refine lv_aload_n hx hb dX2_write_29 rfl (lv_at hl 0 rfl) ?_
    refine lv_iload_n hx hb dX2_write_30 rfl (lv_at hl 1 rfl) ?_
    refine lv_iload_n hx hb dX2_write_31 rfl (lv_at hl 2 rfl) ?_
    have hq := bd_some h; clear h; obtain ⟨s11, h10, h⟩ := hq
    refine sw_vv (rest := []) c_good X (cX2_put_m h10) calX2_put k_406 hP hD hS 2 2 rfl rfl rfl ⟨rfl, rfl⟩ rfl hl.1 rfl (Nat.le_of_ble_eq_true rfl) dX2_write_32 (fun H locs hP hD hS => ?_)
    obtain rfl := Option.some.inj h
    exact sw_vret X hP hD hS dX2_write_35
