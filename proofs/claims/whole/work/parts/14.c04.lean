theorem dX4_moveSpeaker_0 : decode cX4_moveSpeaker 0 = .ok (.iload_n 1, 1) := by decide +kernel
theorem dX4_moveSpeaker_1 : decode cX4_moveSpeaker 1 = .ok (.aload_n 0, 1) := by decide +kernel
theorem dX4_moveSpeaker_2 : decode cX4_moveSpeaker 2 = .ok (.getfield 66, 3) := by decide +kernel
theorem dX4_moveSpeaker_5 : decode cX4_moveSpeaker 5 = .ok (.if_icmp .ne 4, 3) := by decide +kernel
theorem dX4_moveSpeaker_8 : decode cX4_moveSpeaker 8 = .ok (.return_, 1) := by decide +kernel
theorem dX4_moveSpeaker_9 : decode cX4_moveSpeaker 9 = .ok (.aload_n 0, 1) := by decide +kernel
theorem dX4_moveSpeaker_10 : decode cX4_moveSpeaker 10 = .ok (.iload_n 1, 1) := by decide +kernel
theorem dX4_moveSpeaker_11 : decode cX4_moveSpeaker 11 = .ok (.putfield 66, 3) := by decide +kernel
theorem dX4_moveSpeaker_14 : decode cX4_moveSpeaker 14 = .ok (.aload_n 0, 1) := by decide +kernel
theorem dX4_moveSpeaker_15 : decode cX4_moveSpeaker 15 = .ok (.getfield 63, 3) := by decide +kernel
theorem dX4_moveSpeaker_18 : decode cX4_moveSpeaker 18 = .ok (.invokestatic 60, 3) := by decide +kernel
theorem dX4_moveSpeaker_21 : decode cX4_moveSpeaker 21 = .ok (.ifCond .eq 19, 3) := by decide +kernel
theorem dX4_moveSpeaker_24 : decode cX4_moveSpeaker 24 = .ok (.aload_n 0, 1) := by decide +kernel
theorem dX4_moveSpeaker_25 : decode cX4_moveSpeaker 25 = .ok (.getfield 22, 3) := by decide +kernel
theorem dX4_moveSpeaker_28 : decode cX4_moveSpeaker 28 = .ok (.aload_n 0, 1) := by decide +kernel
theorem dX4_moveSpeaker_29 : decode cX4_moveSpeaker 29 = .ok (.getfield 63, 3) := by decide +kernel
theorem dX4_moveSpeaker_32 : decode cX4_moveSpeaker 32 = .ok (.aload_n 0, 1) := by decide +kernel
theorem dX4_moveSpeaker_33 : decode cX4_moveSpeaker 33 = .ok (.getfield 25, 3) := by decide +kernel
theorem dX4_moveSpeaker_36 : decode cX4_moveSpeaker 36 = .ok (.getfield 39, 3) := by decide +kernel
theorem dX4_moveSpeaker_39 : decode cX4_moveSpeaker 39 = .ok (.iastore, 1) := by decide +kernel
theorem dX4_moveSpeaker_40 : decode cX4_moveSpeaker 40 = .ok (.aload_n 0, 1) := by decide +kernel
theorem dX4_moveSpeaker_41 : decode cX4_moveSpeaker 41 = .ok (.dup, 1) := by decide +kernel
theorem dX4_moveSpeaker_42 : decode cX4_moveSpeaker 42 = .ok (.getfield 63, 3) := by decide +kernel
theorem dX4_moveSpeaker_45 : decode cX4_moveSpeaker 45 = .ok (.iconst 1, 1) := by decide +kernel
theorem dX4_moveSpeaker_46 : decode cX4_moveSpeaker 46 = .ok (.iadd, 1) := by decide +kernel
theorem dX4_moveSpeaker_47 : decode cX4_moveSpeaker 47 = .ok (.putfield 63, 3) := by decide +kernel
theorem dX4_moveSpeaker_50 : decode cX4_moveSpeaker 50 = .ok (.return_, 1) := by decide +kernel
def fX4_moveSpeaker (p1 : Int32) (s0 : zS) : Option (zS) := if p1 = (s0.1 2) then (some s0) else (bd (fX4_isKept ((st1 s0 2 p1).1 3)) fun r3 => if r3 = (0 : Int32) then (some (st1 (st1 s0 2 p1) 3 (((st1 s0 2 p1).1 3) + (1 : Int32)))) else (gd (0 ≤ ((st1 s0 2 p1).1 3) ∧ ((st1 s0 2 p1).1 3) < 100) <| some (st1 (st2 (st1 s0 2 p1) 2 (((st1 s0 2 p1).1 3).toNatClampNeg) ((st1 s0 2 p1).1 0)) 3 (((st2 (st1 s0 2 p1) 2 (((st1 s0 2 p1).1 3).toNatClampNeg) ((st1 s0 2 p1).1 0)).1 3) + (1 : Int32)))))
set_option maxHeartbeats 4000000 in
set_option maxRecDepth 100000 in
theorem cX4_moveSpeaker_m {l : Launch} {dC : Nat → ClassId} {dI : Nat → Nat → Nat} {ad : Nat → Nat} {cI : ClassId} {p1 : Int32} {s0 : zS} {zs : zS} (h : fX4_moveSpeaker p1 s0 = some zs) : sw_Mv l yX4_moveSpeaker (sw_ws yX4_moveSpeaker cX4_moveSpeaker 2 none) (sw_rm 1 20) (dC, dI) vwCl [(cI, .int)] cF [.ref (ad 3), .int p1] (cW ad cI s0) (cW ad cI zs) := by
  intro sz
  refine sw_of (cc := cX4_moveSpeaker) (maxL := 2) (ret := none) (by decide) rfl (Nat.le_of_ble_eq_true rfl) ?_
  intro p e s m args below meth c A ls hAe hsz X _ hP hD hS hl
  rw [hAe]
  have hx := X.1.1
  have hb := X.1.2.1
  have hown := X.1.2.2.2.1
  have hts := X.1.2.2.2.2
  replace hl : lv_has ls 2 [(0, .ref (ad 3)), (1, .int p1)] := hl
  unfold fX4_moveSpeaker at h
  refine lv_iload_n hx hb dX4_moveSpeaker_0 rfl (lv_at hl 1 rfl) ?_
  refine lv_aload_n hx hb dX4_moveSpeaker_1 rfl (lv_at hl 0 rfl) ?_
  refine cg_3_4 X hP k_80 dX4_moveSpeaker_2 ?_
  refine lv_icmp_ne (tgt := 9) hx hb dX4_moveSpeaker_5 (by decide) (fun c1 => ?_) (fun c1 => ?_)
  · replace h := if_no h c1
    refine lv_aload_n hx hb dX4_moveSpeaker_9 rfl (lv_at hl 0 rfl) ?_
    refine lv_iload_n hx hb dX4_moveSpeaker_10 rfl (lv_at hl 1 rfl) ?_
    refine cp_3_4 X hP hD hS k_80 dX4_moveSpeaker_11 (fun H locs hP hD hS => ?_)
    refine lv_aload_n hx hb dX4_moveSpeaker_14 rfl (lv_at hl 0 rfl) ?_
    refine cg_3_5 X hP k_82 dX4_moveSpeaker_15 ?_
    have hq := bd_some h; clear h; obtain ⟨r3, h2, h⟩ := hq
    refine sw_si (rest := []) c_good X (cX4_isKept_m h2) calX4_isKept k_201 hP hD hS ⟨rfl, rfl⟩ rfl hl.1 rfl (Nat.le_of_ble_eq_true rfl) dX4_moveSpeaker_18 (fun H locs hP hD hS => ?_)
    refine lv_if_eq (tgt := 40) hx hb dX4_moveSpeaker_21 (by decide) (fun c4 => ?_) (fun c4 => ?_)
    · replace h := if_yes h c4
      refine lv_aload_n hx hb dX4_moveSpeaker_40 rfl (lv_at hl 0 rfl) ?_
      refine lv_dup hx hb dX4_moveSpeaker_41 rfl ?_
      refine cg_3_5 X hP k_82 dX4_moveSpeaker_42 ?_
      refine lv_iconst (v := (1 : Int32)) hx hb dX4_moveSpeaker_45 (by decide) ?_
      refine lv_iadd hx hb dX4_moveSpeaker_46 ?_
      refine cp_3_5 X hP hD hS k_82 dX4_moveSpeaker_47 (fun H locs hP hD hS => ?_)
      obtain rfl := Option.some.inj h
      exact sw_vret X hP hD hS dX4_moveSpeaker_50
    · replace h := if_no h c4
      refine lv_aload_n hx hb dX4_moveSpeaker_24 rfl (lv_at hl 0 rfl) ?_
      refine cg_3_6 X hP k_84 dX4_moveSpeaker_25 ?_
      refine lv_aload_n hx hb dX4_moveSpeaker_28 rfl (lv_at hl 0 rfl) ?_
      refine cg_3_5 X hP k_82 dX4_moveSpeaker_29 ?_
      refine lv_aload_n hx hb dX4_moveSpeaker_32 rfl (lv_at hl 0 rfl) ?_
      refine cg_3_0 X hP k_73 dX4_moveSpeaker_33 ?_
      refine cg_1_0 X hP k_32 dX4_moveSpeaker_36 ?_
      have hq := gd_some h; clear h; obtain ⟨c5, h⟩ := hq
      refine cb_2 X hP hD hS (vin_in c5 (by decide)) dX4_moveSpeaker_39 (fun H locs hP hD hS => ?_)
      refine lv_aload_n hx hb dX4_moveSpeaker_40 rfl (lv_at hl 0 rfl) ?_
      refine lv_dup hx hb dX4_moveSpeaker_41 rfl ?_
      refine cg_3_5 X hP k_82 dX4_moveSpeaker_42 ?_
      refine lv_iconst (v := (1 : Int32)) hx hb dX4_moveSpeaker_45 (by decide) ?_
      refine lv_iadd hx hb dX4_moveSpeaker_46 ?_
      refine cp_3_5 X hP hD hS k_82 dX4_moveSpeaker_47 (fun H locs hP hD hS => ?_)
      obtain rfl := Option.some.inj h
      exact sw_vret X hP hD hS dX4_moveSpeaker_50
  · replace h := if_yes h c1
    obtain rfl := Option.some.inj h
    exact sw_vret X hP hD hS dX4_moveSpeaker_8
theorem dX4_output_0 : decode cX4_output 0 = .ok (.aload_n 0, 1) := by decide +kernel
theorem dX4_output_1 : decode cX4_output 1 = .ok (.getfield 25, 3) := by decide +kernel
theorem dX4_output_4 : decode cX4_output 4 = .ok (.iload_n 1, 1) := by decide +kernel
theorem dX4_output_5 : decode cX4_output 5 = .ok (.invokestatic 29, 3) := by decide +kernel
theorem dX4_output_8 : decode cX4_output 8 = .ok (.invokevirtual 33, 3) := by decide +kernel
theorem dX4_output_11 : decode cX4_output 11 = .ok (.iload_n 1, 1) := by decide +kernel
theorem dX4_output_12 : decode cX4_output 12 = .ok (.sipush 254, 3) := by decide +kernel
theorem dX4_output_15 : decode cX4_output 15 = .ok (.if_icmp .ne 20, 3) := by decide +kernel
theorem dX4_output_18 : decode cX4_output 18 = .ok (.aload_n 0, 1) := by decide +kernel
theorem dX4_output_19 : decode cX4_output 19 = .ok (.iload_n 2, 1) := by decide +kernel
theorem dX4_output_20 : decode cX4_output 20 = .ok (.bipush 7, 2) := by decide +kernel
theorem dX4_output_22 : decode cX4_output 22 = .ok (.iand, 1) := by decide +kernel
theorem dX4_output_23 : decode cX4_output 23 = .ok (.putfield 54, 3) := by decide +kernel
theorem dX4_output_26 : decode cX4_output 26 = .ok (.aload_n 0, 1) := by decide +kernel
theorem dX4_output_27 : decode cX4_output 27 = .ok (.iload_n 2, 1) := by decide +kernel
theorem dX4_output_28 : decode cX4_output 28 = .ok (.iconst 4, 1) := by decide +kernel
theorem dX4_output_29 : decode cX4_output 29 = .ok (.ishr, 1) := by decide +kernel
theorem dX4_output_30 : decode cX4_output 30 = .ok (.iconst 1, 1) := by decide +kernel
theorem dX4_output_31 : decode cX4_output 31 = .ok (.iand, 1) := by decide +kernel
theorem dX4_output_32 : decode cX4_output 32 = .ok (.invokevirtual 57, 3) := by decide +kernel
theorem dX4_output_35 : decode cX4_output 35 = .ok (.aload_n 0, 1) := by decide +kernel
theorem dX4_output_36 : decode cX4_output 36 = .ok (.getfield 25, 3) := by decide +kernel
theorem dX4_output_39 : decode cX4_output 39 = .ok (.iconst 4, 1) := by decide +kernel
theorem dX4_output_40 : decode cX4_output 40 = .ok (.invokevirtual 50, 3) := by decide +kernel
theorem dX4_output_43 : decode cX4_output 43 = .ok (.return_, 1) := by decide +kernel
def fX4_output (p1 p2 : Int32) (s0 : zS) : Option (zS) := bd (fX4_isWaitedFor p1) fun r2 => bd (fX1_waitForPictureIf r2 s0) fun s4 => if p1 = (254 : Int32) then (bd (fX4_moveSpeaker ((p2 >>> ((4 : Int32) &&& 31)) &&& (1 : Int32)) (st1 s4 1 (p2 &&& (7 : Int32)))) fun s9 => bd (fX1_pass (4 : Int32) s9) fun s11 => some s11) else (bd (fX1_pass (4 : Int32) s4) fun s7 => some s7)
set_option maxHeartbeats 4000000 in
set_option maxRecDepth 100000 in
theorem cX4_output_m {l : Launch} {dC : Nat → ClassId} {dI : Nat → Nat → Nat} {ad : Nat → Nat} {cI : ClassId} {p1 p2 : Int32} {s0 : zS} {zs : zS} (h : fX4_output p1 p2 s0 = some zs) : sw_Mv l yX4_output (sw_ws yX4_output cX4_output 3 none) (sw_rm 2 41) (dC, dI) vwCl [(cI, .int)] cF [.ref (ad 3), .int p1, .int p2] (cW ad cI s0) (cW ad cI zs) := by
  intro sz
  refine sw_of (cc := cX4_output) (maxL := 3) (ret := none) (by decide) rfl (Nat.le_of_ble_eq_true rfl) ?_
  intro p e s m args below meth c A ls hAe hsz X _ hP hD hS hl
  rw [hAe]
  have hx := X.1.1
  have hb := X.1.2.1
  have hown := X.1.2.2.2.1
  have hts := X.1.2.2.2.2
  replace hl : lv_has ls 3 [(0, .ref (ad 3)), (1, .int p1), (2, .int p2)] := hl
  unfold fX4_output at h
  refine lv_aload_n hx hb dX4_output_0 rfl (lv_at hl 0 rfl) ?_
  refine cg_3_0 X hP k_73 dX4_output_1 ?_
  refine lv_iload_n hx hb dX4_output_4 rfl (lv_at hl 1 rfl) ?_
  have hq := bd_some h; clear h; obtain ⟨r2, h1, h⟩ := hq
  refine sw_si (rest := [.ref (ad 1)]) c_good X (cX4_isWaitedFor_m h1) calX4_isWaitedFor k_657 hP hD hS ⟨rfl, rfl⟩ rfl hl.1 rfl (Nat.le_of_ble_eq_true rfl) dX4_output_5 (fun H locs hP hD hS => ?_)
  have hq := bd_some h; clear h; obtain ⟨s4, h3, h⟩ := hq
  refine sw_vv (rest := []) c_good X (cX1_waitForPictureIf_m h3) calX1_waitForPictureIf k_660 hP hD hS 1 1 rfl rfl rfl ⟨rfl, rfl⟩ rfl hl.1 rfl (Nat.le_of_ble_eq_true rfl) dX4_output_8 (fun H locs hP hD hS => ?_)
  refine lv_iload_n hx hb dX4_output_11 rfl (lv_at hl 1 rfl) ?_
  refine lv_sipush (v := (254 : Int32)) hx hb dX4_output_12 (by decide) ?_
  refine lv_icmp_ne (tgt := 35) hx hb dX4_output_15 (by decide) (fun c5 => ?_) (fun c5 => ?_)
  · replace h := if_no h c5
    refine lv_aload_n hx hb dX4_output_35 rfl (lv_at hl 0 rfl) ?_
    refine cg_3_0 X hP k_73 dX4_output_36 ?_
    refine lv_iconst (v := (4 : Int32)) hx hb dX4_output_39 (by decide) ?_
    have hq := bd_some h; clear h; obtain ⟨s7, h6, h⟩ := hq
    refine sw_vv (rest := []) c_good X (cX1_pass_m h6) calX1_pass k_665 hP hD hS 1 1 rfl rfl rfl ⟨rfl, rfl⟩ rfl hl.1 rfl (Nat.le_of_ble_eq_true rfl) dX4_output_40 (fun H locs hP hD hS => ?_)
    obtain rfl := Option.some.inj h
    exact sw_vret X hP hD hS dX4_output_43
  · replace h := if_yes h c5
    refine lv_aload_n hx hb dX4_output_18 rfl (lv_at hl 0 rfl) ?_
    refine lv_iload_n hx hb dX4_output_19 rfl (lv_at hl 2 rfl) ?_
    refine lv_bipush (v := (7 : Int32)) hx hb dX4_output_20 (by decide) ?_
    refine lv_iand hx hb dX4_output_22 ?_
    refine cp_3_3 X hP hD hS k_78 dX4_output_23 (fun H locs hP hD hS => ?_)
    refine lv_aload_n hx hb dX4_output_26 rfl (lv_at hl 0 rfl) ?_
    refine lv_iload_n hx hb dX4_output_27 rfl (lv_at hl 2 rfl) ?_
    refine lv_iconst (v := (4 : Int32)) hx hb dX4_output_28 (by decide) ?_
    refine lv_ishr hx hb dX4_output_29 ?_
    refine lv_iconst (v := (1 : Int32)) hx hb dX4_output_30 (by decide) ?_
    refine lv_iand hx hb dX4_output_31 ?_
    have hq := bd_some h; clear h; obtain ⟨s9, h8, h⟩ := hq
    refine sw_vv (rest := []) c_good X (cX4_moveSpeaker_m h8) calX4_moveSpeaker k_661 hP hD hS 3 4 rfl rfl rfl ⟨rfl, rfl⟩ rfl hl.1 rfl (Nat.le_of_ble_eq_true rfl) dX4_output_32 (fun H locs hP hD hS => ?_)
    refine lv_aload_n hx hb dX4_output_35 rfl (lv_at hl 0 rfl) ?_
    refine cg_3_0 X hP k_73 dX4_output_36 ?_
    refine lv_iconst (v := (4 : Int32)) hx hb dX4_output_39 (by decide) ?_
    have hq := bd_some h; clear h; obtain ⟨s11, h10, h⟩ := hq
    refine sw_vv (rest := []) c_good X (cX1_pass_m h10) calX1_pass k_665 hP hD hS 1 1 rfl rfl rfl ⟨rfl, rfl⟩ rfl hl.1 rfl (Nat.le_of_ble_eq_true rfl) dX4_output_40 (fun H locs hP hD hS => ?_)
    obtain rfl := Option.some.inj h
    exact sw_vret X hP hD hS dX4_output_43
theorem dX4_timeOfChange_0 : decode cX4_timeOfChange 0 = .ok (.iload_n 1, 1) := by decide +kernel
theorem dX4_timeOfChange_1 : decode cX4_timeOfChange 1 = .ok (.invokestatic 60, 3) := by decide +kernel
theorem dX4_timeOfChange_4 : decode cX4_timeOfChange 4 = .ok (.ifCond .eq 20, 3) := by decide +kernel
theorem dX4_timeOfChange_7 : decode cX4_timeOfChange 7 = .ok (.iload_n 1, 1) := by decide +kernel
theorem dX4_timeOfChange_8 : decode cX4_timeOfChange 8 = .ok (.aload_n 0, 1) := by decide +kernel
theorem dX4_timeOfChange_9 : decode cX4_timeOfChange 9 = .ok (.getfield 63, 3) := by decide +kernel
theorem dX4_timeOfChange_12 : decode cX4_timeOfChange 12 = .ok (.if_icmp .ge 12, 3) := by decide +kernel
theorem dX4_timeOfChange_15 : decode cX4_timeOfChange 15 = .ok (.aload_n 0, 1) := by decide +kernel
theorem dX4_timeOfChange_16 : decode cX4_timeOfChange 16 = .ok (.getfield 22, 3) := by decide +kernel
theorem dX4_timeOfChange_19 : decode cX4_timeOfChange 19 = .ok (.iload_n 1, 1) := by decide +kernel
theorem dX4_timeOfChange_20 : decode cX4_timeOfChange 20 = .ok (.iaload, 1) := by decide +kernel
theorem dX4_timeOfChange_21 : decode cX4_timeOfChange 21 = .ok (.goto 4, 3) := by decide +kernel
theorem dX4_timeOfChange_24 : decode cX4_timeOfChange 24 = .ok (.iconst (-1), 1) := by decide +kernel
theorem dX4_timeOfChange_25 : decode cX4_timeOfChange 25 = .ok (.ireturn, 1) := by decide +kernel
def fX4_timeOfChange (p1 : Int32) (s0 : zS) : Option (Int32 × zS) := bd (fX4_isKept p1) fun r2 => if r2 = (0 : Int32) then (some ((-1 : Int32), s0)) else (if (s0.1 3) ≤ p1 then (some ((-1 : Int32), s0)) else (gd (0 ≤ p1 ∧ p1 < 100) <| some ((s0.2 2 (p1.toNatClampNeg)), s0)))
set_option maxHeartbeats 4000000 in
set_option maxRecDepth 100000 in
theorem cX4_timeOfChange_m {l : Launch} {dC : Nat → ClassId} {dI : Nat → Nat → Nat} {ad : Nat → Nat} {cI : ClassId} {p1 : Int32} {s0 : zS} {zr : Int32} {zs : zS} (h : fX4_timeOfChange p1 s0 = some (zr, zs)) : sw_Mi l yX4_timeOfChange (sw_ws yX4_timeOfChange cX4_timeOfChange 2 (some .int)) (sw_rm 1 20) (dC, dI) vwCl [(cI, .int)] cF [.ref (ad 3), .int p1] (cW ad cI s0) (cW ad cI zs) zr := by
  intro sz
  refine sw_of (cc := cX4_timeOfChange) (maxL := 2) (ret := (some .int)) (by decide) rfl (Nat.le_of_ble_eq_true rfl) ?_
  intro p e s m args below meth c A ls hAe hsz X _ hP hD hS hl
  rw [hAe]
  have hx := X.1.1
  have hb := X.1.2.1
  have hown := X.1.2.2.2.1
  have hts := X.1.2.2.2.2
  replace hl : lv_has ls 2 [(0, .ref (ad 3)), (1, .int p1)] := hl
  unfold fX4_timeOfChange at h
  refine lv_iload_n hx hb dX4_timeOfChange_0 rfl (lv_at hl 1 rfl) ?_
  have hq := bd_some h; clear h; obtain ⟨r2, h1, h⟩ := hq
  refine sw_si (rest := []) c_good X (cX4_isKept_m h1) calX4_isKept k_201 hP hD hS ⟨rfl, rfl⟩ rfl hl.1 rfl (Nat.le_of_ble_eq_true rfl) dX4_timeOfChange_1 (fun H locs hP hD hS => ?_)
  refine lv_if_eq (tgt := 24) hx hb dX4_timeOfChange_4 (by decide) (fun c3 => ?_) (fun c3 => ?_)
  · replace h := if_yes h c3
    refine lv_iconst (v := (-1 : Int32)) hx hb dX4_timeOfChange_24 (by decide) ?_
    obtain ⟨rfl, rfl⟩ := Prod.mk.inj (Option.some.inj h)
    exact sw_iret X hP hD hS dX4_timeOfChange_25
  · replace h := if_no h c3
    refine lv_iload_n hx hb dX4_timeOfChange_7 rfl (lv_at hl 1 rfl) ?_
    refine lv_aload_n hx hb dX4_timeOfChange_8 rfl (lv_at hl 0 rfl) ?_
    refine cg_3_5 X hP k_82 dX4_timeOfChange_9 ?_
    refine lv_icmp_ge (tgt := 24) hx hb dX4_timeOfChange_12 (by decide) (fun c4 => ?_) (fun c4 => ?_)
    · replace h := if_yes h c4
      refine lv_iconst (v := (-1 : Int32)) hx hb dX4_timeOfChange_24 (by decide) ?_
      obtain ⟨rfl, rfl⟩ := Prod.mk.inj (Option.some.inj h)
      exact sw_iret X hP hD hS dX4_timeOfChange_25
    · replace h := if_no h c4
      refine lv_aload_n hx hb dX4_timeOfChange_15 rfl (lv_at hl 0 rfl) ?_
      refine cg_3_6 X hP k_84 dX4_timeOfChange_16 ?_
      refine lv_iload_n hx hb dX4_timeOfChange_19 rfl (lv_at hl 1 rfl) ?_
      have hq := gd_some h; clear h; obtain ⟨c5, h⟩ := hq
      refine cl_2 X hP (vin_in c5 (by decide)) dX4_timeOfChange_20 ?_
      refine lv_goto (tgt := 25) hx hb dX4_timeOfChange_21 (by decide) ?_
      obtain ⟨rfl, rfl⟩ := Prod.mk.inj (Option.some.inj h)
      exact sw_iret X hP hD hS dX4_timeOfChange_25
theorem dX5_interrupt_0 : decode cX5_interrupt 0 = .ok (.aload_n 0, 1) := by decide +kernel
theorem dX5_interrupt_1 : decode cX5_interrupt 1 = .ok (.dup, 1) := by decide +kernel
theorem dX5_interrupt_2 : decode cX5_interrupt 2 = .ok (.getfield 101, 3) := by decide +kernel
theorem dX5_interrupt_5 : decode cX5_interrupt 5 = .ok (.iconst 1, 1) := by decide +kernel
theorem dX5_interrupt_6 : decode cX5_interrupt 6 = .ok (.iadd, 1) := by decide +kernel
theorem dX5_interrupt_7 : decode cX5_interrupt 7 = .ok (.putfield 101, 3) := by decide +kernel
theorem dX5_interrupt_10 : decode cX5_interrupt 10 = .ok (.aload_n 0, 1) := by decide +kernel
theorem dX5_interrupt_11 : decode cX5_interrupt 11 = .ok (.iconst 0, 1) := by decide +kernel
theorem dX5_interrupt_12 : decode cX5_interrupt 12 = .ok (.putfield 43, 3) := by decide +kernel
theorem dX5_interrupt_15 : decode cX5_interrupt 15 = .ok (.aload_n 0, 1) := by decide +kernel
theorem dX5_interrupt_16 : decode cX5_interrupt 16 = .ok (.iconst 0, 1) := by decide +kernel
theorem dX5_interrupt_17 : decode cX5_interrupt 17 = .ok (.putfield 59, 3) := by decide +kernel
theorem dX5_interrupt_20 : decode cX5_interrupt 20 = .ok (.aload_n 0, 1) := by decide +kernel
theorem dX5_interrupt_21 : decode cX5_interrupt 21 = .ok (.getfield 7, 3) := by decide +kernel
theorem dX5_interrupt_24 : decode cX5_interrupt 24 = .ok (.bipush 7, 2) := by decide +kernel
theorem dX5_interrupt_26 : decode cX5_interrupt 26 = .ok (.invokevirtual 69, 3) := by decide +kernel
theorem dX5_interrupt_29 : decode cX5_interrupt 29 = .ok (.aload_n 0, 1) := by decide +kernel
theorem dX5_interrupt_30 : decode cX5_interrupt 30 = .ok (.getfield 39, 3) := by decide +kernel
theorem dX5_interrupt_33 : decode cX5_interrupt 33 = .ok (.aload_n 0, 1) := by decide +kernel
theorem dX5_interrupt_34 : decode cX5_interrupt 34 = .ok (.getfield 21, 3) := by decide +kernel
theorem dX5_interrupt_37 : decode cX5_interrupt 37 = .ok (.bipush 9, 2) := by decide +kernel
theorem dX5_interrupt_39 : decode cX5_interrupt 39 = .ok (.invokevirtual 106, 3) := by decide +kernel
theorem dX5_interrupt_42 : decode cX5_interrupt 42 = .ok (.invokevirtual 109, 3) := by decide +kernel
theorem dX5_interrupt_45 : decode cX5_interrupt 45 = .ok (.aload_n 0, 1) := by decide +kernel
theorem dX5_interrupt_46 : decode cX5_interrupt 46 = .ok (.getfield 21, 3) := by decide +kernel
theorem dX5_interrupt_49 : decode cX5_interrupt 49 = .ok (.bipush 9, 2) := by decide +kernel
theorem dX5_interrupt_51 : decode cX5_interrupt 51 = .ok (.bipush 56, 2) := by decide +kernel
theorem dX5_interrupt_53 : decode cX5_interrupt 53 = .ok (.invokevirtual 112, 3) := by decide +kernel
theorem dX5_interrupt_56 : decode cX5_interrupt 56 = .ok (.return_, 1) := by decide +kernel
def fX5_interrupt (s0 : zS) : Option (zS) := bd (fX1_pass (7 : Int32) (st1 (st1 (st1 s0 7 ((s0.1 7) + (1 : Int32))) 5 (0 : Int32)) 4 (0 : Int32))) fun s2 => bd2 (fX6_pair (9 : Int32) s2) fun r4 s5 => bd (fX3_push r4 s5) fun s7 => bd (fX6_load (9 : Int32) (56 : Int32) s7) fun s9 => some s9
set_option maxHeartbeats 4000000 in
set_option maxRecDepth 100000 in
theorem cX5_interrupt_m {l : Launch} {dC : Nat → ClassId} {dI : Nat → Nat → Nat} {ad : Nat → Nat} {cI : ClassId} {s0 : zS} {zs : zS} (h : fX5_interrupt  s0 = some zs) : sw_Mv l yX5_interrupt (sw_ws yX5_interrupt cX5_interrupt 1 none) (sw_rm 3 67) (dC, dI) vwCl [(cI, .int)] cF [.ref (ad 5)] (cW ad cI s0) (cW ad cI zs) := by
  intro sz
  refine sw_of (cc := cX5_interrupt) (maxL := 1) (ret := none) (by decide) rfl (Nat.le_of_ble_eq_true rfl) ?_
  intro p e s m args below meth c A ls hAe hsz X _ hP hD hS hl
  rw [hAe]
  have hx := X.1.1
  have hb := X.1.2.1
  have hown := X.1.2.2.2.1
  have hts := X.1.2.2.2.2
  replace hl : lv_has ls 1 [(0, .ref (ad 5))] := hl
  unfold fX5_interrupt at h
  refine lv_aload_n hx hb dX5_interrupt_0 rfl (lv_at hl 0 rfl) ?_
  refine lv_dup hx hb dX5_interrupt_1 rfl ?_
  refine cg_5_9 X hP k_150 dX5_interrupt_2 ?_
  refine lv_iconst (v := (1 : Int32)) hx hb dX5_interrupt_5 (by decide) ?_
  refine lv_iadd hx hb dX5_interrupt_6 ?_
  refine cp_5_9 X hP hD hS k_150 dX5_interrupt_7 (fun H locs hP hD hS => ?_)
  refine lv_aload_n hx hb dX5_interrupt_10 rfl (lv_at hl 0 rfl) ?_
  refine lv_iconst (v := (0 : Int32)) hx hb dX5_interrupt_11 (by decide) ?_
  refine cp_5_7 X hP hD hS k_147 (by decide) dX5_interrupt_12 (fun H locs hP hD hS => ?_)
  refine lv_aload_n hx hb dX5_interrupt_15 rfl (lv_at hl 0 rfl) ?_
  refine lv_iconst (v := (0 : Int32)) hx hb dX5_interrupt_16 (by decide) ?_
  refine cp_5_6 X hP hD hS k_145 (by decide) dX5_interrupt_17 (fun H locs hP hD hS => ?_)
  refine lv_aload_n hx hb dX5_interrupt_20 rfl (lv_at hl 0 rfl) ?_
  refine cg_5_0 X hP k_139 dX5_interrupt_21 ?_
  refine lv_bipush (v := (7 : Int32)) hx hb dX5_interrupt_24 (by decide) ?_
  have hq := bd_some h; clear h; obtain ⟨s2, h1, h⟩ := hq
  refine sw_vv (rest := []) c_good X (cX1_pass_m h1) calX1_pass k_381 hP hD hS 1 1 rfl rfl rfl ⟨rfl, rfl⟩ rfl hl.1 rfl (Nat.le_of_ble_eq_true rfl) dX5_interrupt_26 (fun H locs hP hD hS => ?_)
  refine lv_aload_n hx hb dX5_interrupt_29 rfl (lv_at hl 0 rfl) ?_
  refine cg_5_5 X hP k_144 dX5_interrupt_30 ?_
  refine lv_aload_n hx hb dX5_interrupt_33 rfl (lv_at hl 0 rfl) ?_
  refine cg_5_3 X hP k_142 dX5_interrupt_34 ?_
  refine lv_bipush (v := (9 : Int32)) hx hb dX5_interrupt_37 (by decide) ?_
  have hq := bd2_some h; clear h; obtain ⟨r4, s5, h3, h⟩ := hq
  refine sw_vi (rest := [.ref (ad 7)]) c_good X (cX6_pair_m h3) calX6_pair k_385 hP hD hS 4 6 rfl rfl rfl ⟨rfl, rfl⟩ rfl hl.1 rfl (Nat.le_of_ble_eq_true rfl) dX5_interrupt_39 (fun H locs hP hD hS => ?_)
  have hq := bd_some h; clear h; obtain ⟨s7, h6, h⟩ := hq
  refine sw_vv (rest := []) c_good X (cX3_push_m h6) calX3_push k_386 hP hD hS 7 3 rfl rfl rfl ⟨rfl, rfl⟩ rfl hl.1 rfl (Nat.le_of_ble_eq_true rfl) dX5_interrupt_42 (fun H locs hP hD hS => ?_)
  refine lv_aload_n hx hb dX5_interrupt_45 rfl (lv_at hl 0 rfl) ?_
  refine cg_5_3 X hP k_142 dX5_interrupt_46 ?_
  refine lv_bipush (v := (9 : Int32)) hx hb dX5_interrupt_49 (by decide) ?_
  refine lv_bipush (v := (56 : Int32)) hx hb dX5_interrupt_51 (by decide) ?_
  have hq := bd_some h; clear h; obtain ⟨s9, h8, h⟩ := hq
  refine sw_vv (rest := []) c_good X (cX6_load_m h8) calX6_load k_412 hP hD hS 4 6 rfl rfl rfl ⟨rfl, rfl⟩ rfl hl.1 rfl (Nat.le_of_ble_eq_true rfl) dX5_interrupt_53 (fun H locs hP hD hS => ?_)
  obtain rfl := Option.some.inj h
  exact sw_vret X hP hD hS dX5_interrupt_56
theorem dX5_isOfMore_0 : decode cX5_isOfMore 0 = .ok (.iload_n 0, 1) := by decide +kernel
theorem dX5_isOfMore_1 : decode cX5_isOfMore 1 = .ok (.sipush 199, 3) := by decide +kernel
theorem dX5_isOfMore_4 : decode cX5_isOfMore 4 = .ok (.iand, 1) := by decide +kernel
theorem dX5_isOfMore_5 : decode cX5_isOfMore 5 = .ok (.bipush 66, 2) := by decide +kernel
theorem dX5_isOfMore_7 : decode cX5_isOfMore 7 = .ok (.if_icmp .ne 7, 3) := by decide +kernel
theorem dX5_isOfMore_10 : decode cX5_isOfMore 10 = .ok (.iconst 1, 1) := by decide +kernel
theorem dX5_isOfMore_11 : decode cX5_isOfMore 11 = .ok (.goto 4, 3) := by decide +kernel
theorem dX5_isOfMore_14 : decode cX5_isOfMore 14 = .ok (.iconst 0, 1) := by decide +kernel
theorem dX5_isOfMore_15 : decode cX5_isOfMore 15 = .ok (.istore_n 1, 1) := by decide +kernel
theorem dX5_isOfMore_16 : decode cX5_isOfMore 16 = .ok (.iload_n 1, 1) := by decide +kernel
theorem dX5_isOfMore_17 : decode cX5_isOfMore 17 = .ok (.ifCond .ne 23, 3) := by decide +kernel
theorem dX5_isOfMore_20 : decode cX5_isOfMore 20 = .ok (.iload_n 0, 1) := by decide +kernel
theorem dX5_isOfMore_21 : decode cX5_isOfMore 21 = .ok (.bipush 68, 2) := by decide +kernel
theorem dX5_isOfMore_23 : decode cX5_isOfMore 23 = .ok (.if_icmp .eq 17, 3) := by decide +kernel
theorem dX5_isOfMore_26 : decode cX5_isOfMore 26 = .ok (.iload_n 0, 1) := by decide +kernel
theorem dX5_isOfMore_27 : decode cX5_isOfMore 27 = .ok (.sipush 160, 3) := by decide +kernel
theorem dX5_isOfMore_30 : decode cX5_isOfMore 30 = .ok (.if_icmp .eq 10, 3) := by decide +kernel
theorem dX5_isOfMore_33 : decode cX5_isOfMore 33 = .ok (.iload_n 0, 1) := by decide +kernel
theorem dX5_isOfMore_34 : decode cX5_isOfMore 34 = .ok (.sipush 176, 3) := by decide +kernel
theorem dX5_isOfMore_37 : decode cX5_isOfMore 37 = .ok (.if_icmp .ne 7, 3) := by decide +kernel
theorem dX5_isOfMore_40 : decode cX5_isOfMore 40 = .ok (.iconst 1, 1) := by decide +kernel
theorem dX5_isOfMore_41 : decode cX5_isOfMore 41 = .ok (.goto 4, 3) := by decide +kernel
theorem dX5_isOfMore_44 : decode cX5_isOfMore 44 = .ok (.iconst 0, 1) := by decide +kernel
theorem dX5_isOfMore_45 : decode cX5_isOfMore 45 = .ok (.ireturn, 1) := by decide +kernel
def fX5_isOfMore (p1 : Int32) : Option (Int32) := bd (if (p1 &&& (199 : Int32)) = (66 : Int32) then (some (1 : Int32)) else (some (0 : Int32))) fun x3 => if x3 = (0 : Int32) then (if p1 = (68 : Int32) then (some (1 : Int32)) else (if p1 = (160 : Int32) then (some (1 : Int32)) else (if p1 = (176 : Int32) then (some (1 : Int32)) else (some (0 : Int32))))) else (some (1 : Int32))
set_option maxHeartbeats 4000000 in
set_option maxRecDepth 100000 in
theorem cX5_isOfMore_m {l : Launch} {dC : Nat → ClassId} {dI : Nat → Nat → Nat} {cI : ClassId} {w : va_W} {p1 : Int32} {zr : Int32} (h : fX5_isOfMore p1 = some zr) : sw_Mi l yX5_isOfMore (sw_ws yX5_isOfMore cX5_isOfMore 2 (some .boolean)) (sw_rm 0 0) (dC, dI) vwCl [(cI, .int)] cF [.int p1] w w zr := by
  intro sz
  refine sw_of (cc := cX5_isOfMore) (maxL := 2) (ret := (some .boolean)) (by decide) rfl (Nat.le_of_ble_eq_true rfl) ?_
  intro p e s m args below meth c A ls hAe hsz X _ hP hD hS hl
  rw [hAe]
  have hx := X.1.1
  have hb := X.1.2.1
  have hown := X.1.2.2.2.1
  have hts := X.1.2.2.2.2
  replace hl : lv_has ls 2 [(0, .int p1)] := hl
  unfold fX5_isOfMore at h
  refine lv_iload_n hx hb dX5_isOfMore_0 rfl (lv_at hl 0 rfl) ?_
  refine lv_sipush (v := (199 : Int32)) hx hb dX5_isOfMore_1 (by decide) ?_
  refine lv_iand hx hb dX5_isOfMore_4 ?_
  refine lv_bipush (v := (66 : Int32)) hx hb dX5_isOfMore_5 (by decide) ?_
  have hq := bd_some h; clear h; obtain ⟨x3, h4, h⟩ := hq
  have K1 : ∀ (H : Heap) (locs : List Loc), va_P (dC, dI) vwCl w H → va_D A w → va_S A s.heap H locs → W p l e (sw_rm 0 0) s m args below meth c H locs 0 0 (MQ below (sw_Qi (dC, dI) vwCl [(cI, .int)] A w zr) args s 0 0 A) (F0 m 15 ls [.int x3]) := by
    intro H locs hP hD hS
    refine lv_istore_n (lv' := [(1, .int x3), (0, .int p1)]) hx hb dX5_isOfMore_15 rfl hl (by decide) rfl (fun ls hl => ?_)
    refine lv_iload_n hx hb dX5_isOfMore_16 rfl (lv_at hl 0 rfl) ?_
    refine lv_if_ne (tgt := 40) hx hb dX5_isOfMore_17 (by decide) (fun c5 => ?_) (fun c5 => ?_)
    · replace h := if_no h c5
      refine lv_iconst (v := (1 : Int32)) hx hb dX5_isOfMore_40 (by decide) ?_
      refine lv_goto (tgt := 45) hx hb dX5_isOfMore_41 (by decide) ?_
      obtain rfl := Option.some.inj h
      exact sw_bret X (bz_n (by decide)) hP hD hS dX5_isOfMore_45
    · replace h := if_yes h c5
      refine lv_iload_n hx hb dX5_isOfMore_20 rfl (lv_at hl 1 rfl) ?_
      refine lv_bipush (v := (68 : Int32)) hx hb dX5_isOfMore_21 (by decide) ?_
      refine lv_icmp_eq (tgt := 40) hx hb dX5_isOfMore_23 (by decide) (fun c6 => ?_) (fun c6 => ?_)
      · replace h := if_yes h c6
        refine lv_iconst (v := (1 : Int32)) hx hb dX5_isOfMore_40 (by decide) ?_
        refine lv_goto (tgt := 45) hx hb dX5_isOfMore_41 (by decide) ?_
        obtain rfl := Option.some.inj h
        exact sw_bret X (bz_n (by decide)) hP hD hS dX5_isOfMore_45
      · replace h := if_no h c6
        refine lv_iload_n hx hb dX5_isOfMore_26 rfl (lv_at hl 1 rfl) ?_
        refine lv_sipush (v := (160 : Int32)) hx hb dX5_isOfMore_27 (by decide) ?_
        refine lv_icmp_eq (tgt := 40) hx hb dX5_isOfMore_30 (by decide) (fun c7 => ?_) (fun c7 => ?_)
        · replace h := if_yes h c7
          refine lv_iconst (v := (1 : Int32)) hx hb dX5_isOfMore_40 (by decide) ?_
          refine lv_goto (tgt := 45) hx hb dX5_isOfMore_41 (by decide) ?_
          obtain rfl := Option.some.inj h
          exact sw_bret X (bz_n (by decide)) hP hD hS dX5_isOfMore_45
        · replace h := if_no h c7
          refine lv_iload_n hx hb dX5_isOfMore_33 rfl (lv_at hl 1 rfl) ?_
          refine lv_sipush (v := (176 : Int32)) hx hb dX5_isOfMore_34 (by decide) ?_
          refine lv_icmp_ne (tgt := 44) hx hb dX5_isOfMore_37 (by decide) (fun c8 => ?_) (fun c8 => ?_)
          · replace h := if_no h c8
            refine lv_iconst (v := (0 : Int32)) hx hb dX5_isOfMore_44 (by decide) ?_
            obtain rfl := Option.some.inj h
            exact sw_bret X (bz_n (by decide)) hP hD hS dX5_isOfMore_45
          · replace h := if_yes h c8
            refine lv_iconst (v := (1 : Int32)) hx hb dX5_isOfMore_40 (by decide) ?_
            refine lv_goto (tgt := 45) hx hb dX5_isOfMore_41 (by decide) ?_
            obtain rfl := Option.some.inj h
            exact sw_bret X (bz_n (by decide)) hP hD hS dX5_isOfMore_45
  replace h := h4
  clear h4
  refine lv_icmp_ne (tgt := 14) hx hb dX5_isOfMore_7 (by decide) (fun c2 => ?_) (fun c2 => ?_)
  · replace h := if_no h c2
    refine lv_iconst (v := (0 : Int32)) hx hb dX5_isOfMore_14 (by decide) ?_
    obtain rfl := Option.some.inj h
    exact K1 _ _ hP hD hS
  · replace h := if_yes h c2
    refine lv_iconst (v := (1 : Int32)) hx hb dX5_isOfMore_10 (by decide) ?_
    refine lv_goto (tgt := 15) hx hb dX5_isOfMore_11 (by decide) ?_
    obtain rfl := Option.some.inj h
    exact K1 _ _ hP hD hS
theorem dX5_isTrapNext_0 : decode cX5_isTrapNext 0 = .ok (.aload_n 0, 1) := by decide +kernel
theorem dX5_isTrapNext_1 : decode cX5_isTrapNext 1 = .ok (.getfield 21, 3) := by decide +kernel
theorem dX5_isTrapNext_4 : decode cX5_isTrapNext 4 = .ok (.bipush 9, 2) := by decide +kernel
theorem dX5_isTrapNext_6 : decode cX5_isTrapNext 6 = .ok (.invokevirtual 106, 3) := by decide +kernel
theorem dX5_isTrapNext_9 : decode cX5_isTrapNext 9 = .ok (.istore_n 1, 1) := by decide +kernel
theorem dX5_isTrapNext_10 : decode cX5_isTrapNext 10 = .ok (.aload_n 0, 1) := by decide +kernel
theorem dX5_isTrapNext_11 : decode cX5_isTrapNext 11 = .ok (.getfield 13, 3) := by decide +kernel
theorem dX5_isTrapNext_14 : decode cX5_isTrapNext 14 = .ok (.iload_n 1, 1) := by decide +kernel
theorem dX5_isTrapNext_15 : decode cX5_isTrapNext 15 = .ok (.iconst 1, 1) := by decide +kernel
theorem dX5_isTrapNext_16 : decode cX5_isTrapNext 16 = .ok (.iadd, 1) := by decide +kernel
theorem dX5_isTrapNext_17 : decode cX5_isTrapNext 17 = .ok (.invokevirtual 115, 3) := by decide +kernel
theorem dX5_isTrapNext_20 : decode cX5_isTrapNext 20 = .ok (.istore_n 2, 1) := by decide +kernel
theorem dX5_isTrapNext_21 : decode cX5_isTrapNext 21 = .ok (.aload_n 0, 1) := by decide +kernel
theorem dX5_isTrapNext_22 : decode cX5_isTrapNext 22 = .ok (.getfield 13, 3) := by decide +kernel
theorem dX5_isTrapNext_25 : decode cX5_isTrapNext 25 = .ok (.iload_n 1, 1) := by decide +kernel
theorem dX5_isTrapNext_26 : decode cX5_isTrapNext 26 = .ok (.invokevirtual 115, 3) := by decide +kernel
theorem dX5_isTrapNext_29 : decode cX5_isTrapNext 29 = .ok (.lookupswitch 74 #[(203, 43), (221, 57), (237, 59), (253, 72)], 43) := by decide +kernel
theorem dX5_isTrapNext_72 : decode cX5_isTrapNext 72 = .ok (.iload_n 2, 1) := by decide +kernel
theorem dX5_isTrapNext_73 : decode cX5_isTrapNext 73 = .ok (.iconst 3, 1) := by decide +kernel
theorem dX5_isTrapNext_74 : decode cX5_isTrapNext 74 = .ok (.ishr, 1) := by decide +kernel
theorem dX5_isTrapNext_75 : decode cX5_isTrapNext 75 = .ok (.bipush 6, 2) := by decide +kernel
theorem dX5_isTrapNext_77 : decode cX5_isTrapNext 77 = .ok (.if_icmp .ne 7, 3) := by decide +kernel
theorem dX5_isTrapNext_80 : decode cX5_isTrapNext 80 = .ok (.iconst 1, 1) := by decide +kernel
theorem dX5_isTrapNext_81 : decode cX5_isTrapNext 81 = .ok (.goto 4, 3) := by decide +kernel
theorem dX5_isTrapNext_84 : decode cX5_isTrapNext 84 = .ok (.iconst 0, 1) := by decide +kernel
theorem dX5_isTrapNext_85 : decode cX5_isTrapNext 85 = .ok (.ireturn, 1) := by decide +kernel
theorem dX5_isTrapNext_86 : decode cX5_isTrapNext 86 = .ok (.iconst 1, 1) := by decide +kernel
theorem dX5_isTrapNext_87 : decode cX5_isTrapNext 87 = .ok (.ireturn, 1) := by decide +kernel
theorem dX5_isTrapNext_88 : decode cX5_isTrapNext 88 = .ok (.iload_n 2, 1) := by decide +kernel
theorem dX5_isTrapNext_89 : decode cX5_isTrapNext 89 = .ok (.invokestatic 120, 3) := by decide +kernel
theorem dX5_isTrapNext_92 : decode cX5_isTrapNext 92 = .ok (.ifCond .ne 7, 3) := by decide +kernel
theorem dX5_isTrapNext_95 : decode cX5_isTrapNext 95 = .ok (.iconst 1, 1) := by decide +kernel
theorem dX5_isTrapNext_96 : decode cX5_isTrapNext 96 = .ok (.goto 4, 3) := by decide +kernel
theorem dX5_isTrapNext_99 : decode cX5_isTrapNext 99 = .ok (.iconst 0, 1) := by decide +kernel
theorem dX5_isTrapNext_100 : decode cX5_isTrapNext 100 = .ok (.ireturn, 1) := by decide +kernel
theorem dX5_isTrapNext_101 : decode cX5_isTrapNext 101 = .ok (.iconst 1, 1) := by decide +kernel
theorem dX5_isTrapNext_102 : decode cX5_isTrapNext 102 = .ok (.ireturn, 1) := by decide +kernel
theorem dX5_isTrapNext_103 : decode cX5_isTrapNext 103 = .ok (.iconst 0, 1) := by decide +kernel
theorem dX5_isTrapNext_104 : decode cX5_isTrapNext 104 = .ok (.ireturn, 1) := by decide +kernel
def fX5_isTrapNext (s0 : zS) : Option (Int32 × zS) := bd2 (fX6_pair (9 : Int32) s0) fun r2 s3 => bd2 (fX2_at (r2 + (1 : Int32)) s3) fun r5 s6 => bd2 (fX2_at r2 s6) fun r8 s9 => if r8 ∈ ([(203 : Int32)] : List Int32) then (if (r5 >>> ((3 : Int32) &&& 31)) = (6 : Int32) then (some ((1 : Int32), s9)) else (some ((0 : Int32), s9))) else if r8 ∈ ([(221 : Int32)] : List Int32) then (some ((1 : Int32), s9)) else if r8 ∈ ([(237 : Int32)] : List Int32) then (bd (fX5_isOfMore r5) fun r15 => if r15 = (0 : Int32) then (some ((1 : Int32), s9)) else (some ((0 : Int32), s9))) else if r8 ∈ ([(253 : Int32)] : List Int32) then (some ((1 : Int32), s9)) else (some ((0 : Int32), s9))
set_option maxHeartbeats 4000000 in
set_option maxRecDepth 100000 in
theorem cX5_isTrapNext_m {l : Launch} {dC : Nat → ClassId} {dI : Nat → Nat → Nat} {ad : Nat → Nat} {cI : ClassId} {s0 : zS} {zr : Int32} {zs : zS} (h : fX5_isTrapNext  s0 = some (zr, zs)) : sw_Mi l yX5_isTrapNext (sw_ws yX5_isTrapNext cX5_isTrapNext 3 (some .boolean)) (sw_rm 1 21) (dC, dI) vwCl [(cI, .int)] cF [.ref (ad 5)] (cW ad cI s0) (cW ad cI zs) zr := by
  intro sz
  refine sw_of (cc := cX5_isTrapNext) (maxL := 3) (ret := (some .boolean)) (by decide) rfl (Nat.le_of_ble_eq_true rfl) ?_
  intro p e s m args below meth c A ls hAe hsz X _ hP hD hS hl
  rw [hAe]
  have hx := X.1.1
  have hb := X.1.2.1
  have hown := X.1.2.2.2.1
  have hts := X.1.2.2.2.2
  replace hl : lv_has ls 3 [(0, .ref (ad 5))] := hl
  unfold fX5_isTrapNext at h
  refine lv_aload_n hx hb dX5_isTrapNext_0 rfl (lv_at hl 0 rfl) ?_
  refine cg_5_3 X hP k_142 dX5_isTrapNext_1 ?_
  refine lv_bipush (v := (9 : Int32)) hx hb dX5_isTrapNext_4 (by decide) ?_
  have hq := bd2_some h; clear h; obtain ⟨r2, s3, h1, h⟩ := hq
  refine sw_vi (rest := []) c_good X (cX6_pair_m h1) calX6_pair k_385 hP hD hS 4 6 rfl rfl rfl ⟨rfl, rfl⟩ rfl hl.1 rfl (Nat.le_of_ble_eq_true rfl) dX5_isTrapNext_6 (fun H locs hP hD hS => ?_)
  refine lv_istore_n (lv' := [(1, .int r2), (0, .ref (ad 5))]) hx hb dX5_isTrapNext_9 rfl hl (by decide) rfl (fun ls hl => ?_)
  refine lv_aload_n hx hb dX5_isTrapNext_10 rfl (lv_at hl 1 rfl) ?_
  refine cg_5_1 X hP k_140 dX5_isTrapNext_11 ?_
  refine lv_iload_n hx hb dX5_isTrapNext_14 rfl (lv_at hl 0 rfl) ?_
  refine lv_iconst (v := (1 : Int32)) hx hb dX5_isTrapNext_15 (by decide) ?_
  refine lv_iadd hx hb dX5_isTrapNext_16 ?_
  have hq := bd2_some h; clear h; obtain ⟨r5, s6, h4, h⟩ := hq
  refine sw_vi (rest := []) c_good X (cX2_at_m h4) calX2_at k_417 hP hD hS 2 2 rfl rfl rfl ⟨rfl, rfl⟩ rfl hl.1 rfl (Nat.le_of_ble_eq_true rfl) dX5_isTrapNext_17 (fun H locs hP hD hS => ?_)
  refine lv_istore_n (lv' := [(2, .int r5), (1, .int r2), (0, .ref (ad 5))]) hx hb dX5_isTrapNext_20 rfl hl (by decide) rfl (fun ls hl => ?_)
  refine lv_aload_n hx hb dX5_isTrapNext_21 rfl (lv_at hl 2 rfl) ?_
  refine cg_5_1 X hP k_140 dX5_isTrapNext_22 ?_
  refine lv_iload_n hx hb dX5_isTrapNext_25 rfl (lv_at hl 1 rfl) ?_
  have hq := bd2_some h; clear h; obtain ⟨r8, s9, h7, h⟩ := hq
  refine sw_vi (rest := []) c_good X (cX2_at_m h7) calX2_at k_417 hP hD hS 2 2 rfl rfl rfl ⟨rfl, rfl⟩ rfl hl.1 rfl (Nat.le_of_ble_eq_true rfl) dX5_isTrapNext_26 (fun H locs hP hD hS => ?_)
  by_cases c10 : r8 ∈ ([(203 : Int32)] : List Int32)
  · replace h := if_yes h c10
    refine sw_lkK (tgt := 72) (off := 43) hx hb dX5_isTrapNext_29 (by decide) _ c10 (by decide +kernel) (by decide) ?_
    refine lv_iload_n hx hb dX5_isTrapNext_72 rfl (lv_at hl 0 rfl) ?_
    refine lv_iconst (v := (3 : Int32)) hx hb dX5_isTrapNext_73 (by decide) ?_
    refine lv_ishr hx hb dX5_isTrapNext_74 ?_
    refine lv_bipush (v := (6 : Int32)) hx hb dX5_isTrapNext_75 (by decide) ?_
    refine lv_icmp_ne (tgt := 84) hx hb dX5_isTrapNext_77 (by decide) (fun c11 => ?_) (fun c11 => ?_)
    · replace h := if_no h c11
      refine lv_iconst (v := (0 : Int32)) hx hb dX5_isTrapNext_84 (by decide) ?_
      obtain ⟨rfl, rfl⟩ := Prod.mk.inj (Option.some.inj h)
      exact sw_bret X (bz_n (by decide)) hP hD hS dX5_isTrapNext_85
    · replace h := if_yes h c11
      refine lv_iconst (v := (1 : Int32)) hx hb dX5_isTrapNext_80 (by decide) ?_
      refine lv_goto (tgt := 85) hx hb dX5_isTrapNext_81 (by decide) ?_
      obtain ⟨rfl, rfl⟩ := Prod.mk.inj (Option.some.inj h)
      exact sw_bret X (bz_n (by decide)) hP hD hS dX5_isTrapNext_85
  · replace h := if_no h c10
    by_cases c12 : r8 ∈ ([(221 : Int32)] : List Int32)
    · replace h := if_yes h c12
      refine sw_lkK (tgt := 86) (off := 57) hx hb dX5_isTrapNext_29 (by decide) _ c12 (by decide +kernel) (by decide) ?_
      refine lv_iconst (v := (1 : Int32)) hx hb dX5_isTrapNext_86 (by decide) ?_
      obtain ⟨rfl, rfl⟩ := Prod.mk.inj (Option.some.inj h)
      exact sw_bret X (bz_n (by decide)) hP hD hS dX5_isTrapNext_87
    · replace h := if_no h c12
      by_cases c13 : r8 ∈ ([(237 : Int32)] : List Int32)
      · replace h := if_yes h c13
        refine sw_lkK (tgt := 88) (off := 59) hx hb dX5_isTrapNext_29 (by decide) _ c13 (by decide +kernel) (by decide) ?_
        refine lv_iload_n hx hb dX5_isTrapNext_88 rfl (lv_at hl 0 rfl) ?_
        have hq := bd_some h; clear h; obtain ⟨r15, h14, h⟩ := hq
        refine sw_si (rest := []) c_good X (cX5_isOfMore_m h14) calX5_isOfMore k_418 hP hD hS ⟨rfl, rfl⟩ rfl hl.1 rfl (Nat.le_of_ble_eq_true rfl) dX5_isTrapNext_89 (fun H locs hP hD hS => ?_)
        refine lv_if_ne (tgt := 99) hx hb dX5_isTrapNext_92 (by decide) (fun c16 => ?_) (fun c16 => ?_)
        · replace h := if_no h c16
          refine lv_iconst (v := (0 : Int32)) hx hb dX5_isTrapNext_99 (by decide) ?_
          obtain ⟨rfl, rfl⟩ := Prod.mk.inj (Option.some.inj h)
          exact sw_bret X (bz_n (by decide)) hP hD hS dX5_isTrapNext_100
        · replace h := if_yes h c16
          refine lv_iconst (v := (1 : Int32)) hx hb dX5_isTrapNext_95 (by decide) ?_
          refine lv_goto (tgt := 100) hx hb dX5_isTrapNext_96 (by decide) ?_
          obtain ⟨rfl, rfl⟩ := Prod.mk.inj (Option.some.inj h)
          exact sw_bret X (bz_n (by decide)) hP hD hS dX5_isTrapNext_100
      · replace h := if_no h c13
        by_cases c17 : r8 ∈ ([(253 : Int32)] : List Int32)
        · replace h := if_yes h c17
          refine sw_lkK (tgt := 101) (off := 72) hx hb dX5_isTrapNext_29 (by decide) _ c17 (by decide +kernel) (by decide) ?_
          refine lv_iconst (v := (1 : Int32)) hx hb dX5_isTrapNext_101 (by decide) ?_
          obtain ⟨rfl, rfl⟩ := Prod.mk.inj (Option.some.inj h)
          exact sw_bret X (bz_n (by decide)) hP hD hS dX5_isTrapNext_102
        · replace h := if_no h c17
          refine sw_lkD (tgt := 103) hx hb dX5_isTrapNext_29 (by decide) (([(203 : Int32)] : List Int32) ++ (([(221 : Int32)] : List Int32) ++ (([(237 : Int32)] : List Int32) ++ ([(253 : Int32)] : List Int32)))) (fun hm => (List.mem_append.mp hm).elim c10 (fun hm => (List.mem_append.mp hm).elim c12 (fun hm => (List.mem_append.mp hm).elim c13 c17))) (by decide +kernel) (by decide) ?_
          refine lv_iconst (v := (0 : Int32)) hx hb dX5_isTrapNext_103 (by decide) ?_
          obtain ⟨rfl, rfl⟩ := Prod.mk.inj (Option.some.inj h)
          exact sw_bret X (bz_n (by decide)) hP hD hS dX5_isTrapNext_104
theorem dX6_exchange_0 : decode cX6_exchange 0 = .ok (.aload_n 0, 1) := by decide +kernel
theorem dX6_exchange_1 : decode cX6_exchange 1 = .ok (.getfield 9, 3) := by decide +kernel
theorem dX6_exchange_4 : decode cX6_exchange 4 = .ok (.iload_n 1, 1) := by decide +kernel
theorem dX6_exchange_5 : decode cX6_exchange 5 = .ok (.iaload, 1) := by decide +kernel
theorem dX6_exchange_6 : decode cX6_exchange 6 = .ok (.istore_n 3, 1) := by decide +kernel
theorem dX6_exchange_7 : decode cX6_exchange 7 = .ok (.aload_n 0, 1) := by decide +kernel
theorem dX6_exchange_8 : decode cX6_exchange 8 = .ok (.getfield 9, 3) := by decide +kernel
theorem dX6_exchange_11 : decode cX6_exchange 11 = .ok (.iload_n 1, 1) := by decide +kernel
theorem dX6_exchange_12 : decode cX6_exchange 12 = .ok (.aload_n 0, 1) := by decide +kernel
theorem dX6_exchange_13 : decode cX6_exchange 13 = .ok (.getfield 9, 3) := by decide +kernel
theorem dX6_exchange_16 : decode cX6_exchange 16 = .ok (.iload_n 2, 1) := by decide +kernel
theorem dX6_exchange_17 : decode cX6_exchange 17 = .ok (.iaload, 1) := by decide +kernel
theorem dX6_exchange_18 : decode cX6_exchange 18 = .ok (.iastore, 1) := by decide +kernel
theorem dX6_exchange_19 : decode cX6_exchange 19 = .ok (.aload_n 0, 1) := by decide +kernel
theorem dX6_exchange_20 : decode cX6_exchange 20 = .ok (.getfield 9, 3) := by decide +kernel
theorem dX6_exchange_23 : decode cX6_exchange 23 = .ok (.iload_n 2, 1) := by decide +kernel
theorem dX6_exchange_24 : decode cX6_exchange 24 = .ok (.iload_n 3, 1) := by decide +kernel
theorem dX6_exchange_25 : decode cX6_exchange 25 = .ok (.iastore, 1) := by decide +kernel
theorem dX6_exchange_26 : decode cX6_exchange 26 = .ok (.return_, 1) := by decide +kernel
def fX6_exchange (p1 p2 : Int32) (s0 : zS) : Option (zS) := gd (0 ≤ p1 ∧ p1 < 10) <| nm (s0.2 4 (p1.toNatClampNeg)) fun x2 => gd (0 ≤ p2 ∧ p2 < 10) <| gd (0 ≤ p1 ∧ p1 < 10) <| gd (0 ≤ p2 ∧ p2 < 10) <| some (st2 (st2 s0 4 (p1.toNatClampNeg) (s0.2 4 (p2.toNatClampNeg))) 4 (p2.toNatClampNeg) x2)
set_option maxHeartbeats 4000000 in
set_option maxRecDepth 100000 in
theorem cX6_exchange_m {l : Launch} {dC : Nat → ClassId} {dI : Nat → Nat → Nat} {ad : Nat → Nat} {cI : ClassId} {p1 p2 : Int32} {s0 : zS} {zs : zS} (h : fX6_exchange p1 p2 s0 = some zs) : sw_Mv l yX6_exchange (sw_ws yX6_exchange cX6_exchange 4 none) (sw_rm 0 0) (dC, dI) vwCl [(cI, .int)] cF [.ref (ad 4), .int p1, .int p2] (cW ad cI s0) (cW ad cI zs) := by
  intro sz
  refine sw_of (cc := cX6_exchange) (maxL := 4) (ret := none) (by decide) rfl (Nat.le_of_ble_eq_true rfl) ?_
  intro p e s m args below meth c A ls hAe hsz X _ hP hD hS hl
  rw [hAe]
  have hx := X.1.1
  have hb := X.1.2.1
  have hown := X.1.2.2.2.1
  have hts := X.1.2.2.2.2
  replace hl : lv_has ls 4 [(0, .ref (ad 4)), (1, .int p1), (2, .int p2)] := hl
  unfold fX6_exchange at h
  refine lv_aload_n hx hb dX6_exchange_0 rfl (lv_at hl 0 rfl) ?_
  refine cg_4_0 X hP k_106 dX6_exchange_1 ?_
  refine lv_iload_n hx hb dX6_exchange_4 rfl (lv_at hl 1 rfl) ?_
  have hq := gd_some h; clear h; obtain ⟨c1, h⟩ := hq
  refine cl_4 X hP (vin_in c1 (by decide)) dX6_exchange_5 ?_
  refine lv_topi (fun x2 ex2 => ?_)
  replace h := nm_use ex2 h
  refine lv_istore_n (lv' := [(3, .int x2), (0, .ref (ad 4)), (1, .int p1), (2, .int p2)]) hx hb dX6_exchange_6 rfl hl (by decide) rfl (fun ls hl => ?_)
  refine lv_aload_n hx hb dX6_exchange_7 rfl (lv_at hl 1 rfl) ?_
  refine cg_4_0 X hP k_106 dX6_exchange_8 ?_
  refine lv_iload_n hx hb dX6_exchange_11 rfl (lv_at hl 2 rfl) ?_
  refine lv_aload_n hx hb dX6_exchange_12 rfl (lv_at hl 1 rfl) ?_
  refine cg_4_0 X hP k_106 dX6_exchange_13 ?_
  refine lv_iload_n hx hb dX6_exchange_16 rfl (lv_at hl 3 rfl) ?_
  have hq := gd_some h; clear h; obtain ⟨c3, h⟩ := hq
  refine cl_4 X hP (vin_in c3 (by decide)) dX6_exchange_17 ?_
  have hq := gd_some h; clear h; obtain ⟨c4, h⟩ := hq
  refine cb_4 X hP hD hS (vin_in c4 (by decide)) dX6_exchange_18 (fun H locs hP hD hS => ?_)
  refine lv_aload_n hx hb dX6_exchange_19 rfl (lv_at hl 1 rfl) ?_
  refine cg_4_0 X hP k_106 dX6_exchange_20 ?_
  refine lv_iload_n hx hb dX6_exchange_23 rfl (lv_at hl 3 rfl) ?_
  refine lv_iload_n hx hb dX6_exchange_24 rfl (lv_at hl 0 rfl) ?_
  have hq := gd_some h; clear h; obtain ⟨c5, h⟩ := hq
  refine cb_4 X hP hD hS (vin_in c5 (by decide)) dX6_exchange_25 (fun H locs hP hD hS => ?_)
  obtain rfl := Option.some.inj h
  exact sw_vret X hP hD hS dX6_exchange_26
theorem dX5_countDown_0 : decode cX5_countDown 0 = .ok (.aload_n 0, 1) := by decide +kernel
theorem dX5_countDown_1 : decode cX5_countDown 1 = .ok (.getfield 21, 3) := by decide +kernel
theorem dX5_countDown_4 : decode cX5_countDown 4 = .ok (.iconst 0, 1) := by decide +kernel
theorem dX5_countDown_5 : decode cX5_countDown 5 = .ok (.invokevirtual 164, 3) := by decide +kernel
theorem dX5_countDown_8 : decode cX5_countDown 8 = .ok (.iconst 1, 1) := by decide +kernel
theorem dX5_countDown_9 : decode cX5_countDown 9 = .ok (.isub, 1) := by decide +kernel
theorem dX5_countDown_10 : decode cX5_countDown 10 = .ok (.sipush 255, 3) := by decide +kernel
theorem dX5_countDown_13 : decode cX5_countDown 13 = .ok (.iand, 1) := by decide +kernel
theorem dX5_countDown_14 : decode cX5_countDown 14 = .ok (.istore_n 1, 1) := by decide +kernel
theorem dX5_countDown_15 : decode cX5_countDown 15 = .ok (.aload_n 0, 1) := by decide +kernel
theorem dX5_countDown_16 : decode cX5_countDown 16 = .ok (.getfield 21, 3) := by decide +kernel
theorem dX5_countDown_19 : decode cX5_countDown 19 = .ok (.iconst 0, 1) := by decide +kernel
theorem dX5_countDown_20 : decode cX5_countDown 20 = .ok (.iload_n 1, 1) := by decide +kernel
theorem dX5_countDown_21 : decode cX5_countDown 21 = .ok (.invokevirtual 167, 3) := by decide +kernel
theorem dX5_countDown_24 : decode cX5_countDown 24 = .ok (.iload_n 1, 1) := by decide +kernel
theorem dX5_countDown_25 : decode cX5_countDown 25 = .ok (.ifCond .eq 7, 3) := by decide +kernel
theorem dX5_countDown_28 : decode cX5_countDown 28 = .ok (.iconst 1, 1) := by decide +kernel
theorem dX5_countDown_29 : decode cX5_countDown 29 = .ok (.goto 4, 3) := by decide +kernel
theorem dX5_countDown_32 : decode cX5_countDown 32 = .ok (.iconst 0, 1) := by decide +kernel
theorem dX5_countDown_33 : decode cX5_countDown 33 = .ok (.ireturn, 1) := by decide +kernel
def fX5_countDown (s0 : zS) : Option (Int32 × zS) := bd2 (fX6_single (0 : Int32) s0) fun r2 s3 => nm ((r2 - (1 : Int32)) &&& (255 : Int32)) fun x4 => bd (fX6_loadSingle (0 : Int32) x4 s3) fun s6 => if x4 = (0 : Int32) then (some ((0 : Int32), s6)) else (some ((1 : Int32), s6))
set_option maxHeartbeats 4000000 in
set_option maxRecDepth 100000 in
theorem cX5_countDown_m {l : Launch} {dC : Nat → ClassId} {dI : Nat → Nat → Nat} {ad : Nat → Nat} {cI : ClassId} {s0 : zS} {zr : Int32} {zs : zS} (h : fX5_countDown  s0 = some (zr, zs)) : sw_Mi l yX5_countDown (sw_ws yX5_countDown cX5_countDown 2 (some .boolean)) (sw_rm 2 44) (dC, dI) vwCl [(cI, .int)] cF [.ref (ad 5)] (cW ad cI s0) (cW ad cI zs) zr := by
  intro sz
  refine sw_of (cc := cX5_countDown) (maxL := 2) (ret := (some .boolean)) (by decide) rfl (Nat.le_of_ble_eq_true rfl) ?_
  intro p e s m args below meth c A ls hAe hsz X _ hP hD hS hl
  rw [hAe]
  have hx := X.1.1
  have hb := X.1.2.1
  have hown := X.1.2.2.2.1
  have hts := X.1.2.2.2.2
  replace hl : lv_has ls 2 [(0, .ref (ad 5))] := hl
  unfold fX5_countDown at h
  refine lv_aload_n hx hb dX5_countDown_0 rfl (lv_at hl 0 rfl) ?_
  refine cg_5_3 X hP k_142 dX5_countDown_1 ?_
  refine lv_iconst (v := (0 : Int32)) hx hb dX5_countDown_4 (by decide) ?_
  have hq := bd2_some h; clear h; obtain ⟨r2, s3, h1, h⟩ := hq
  refine sw_vi (rest := []) c_good X (cX6_single_m h1) calX6_single k_454 hP hD hS 4 6 rfl rfl rfl ⟨rfl, rfl⟩ rfl hl.1 rfl (Nat.le_of_ble_eq_true rfl) dX5_countDown_5 (fun H locs hP hD hS => ?_)
  refine lv_iconst (v := (1 : Int32)) hx hb dX5_countDown_8 (by decide) ?_
  refine lv_isub hx hb dX5_countDown_9 ?_
  refine lv_sipush (v := (255 : Int32)) hx hb dX5_countDown_10 (by decide) ?_
  refine lv_iand hx hb dX5_countDown_13 ?_
  refine lv_topi (fun x4 ex4 => ?_)
  replace h := nm_use ex4 h
  refine lv_istore_n (lv' := [(1, .int x4), (0, .ref (ad 5))]) hx hb dX5_countDown_14 rfl hl (by decide) rfl (fun ls hl => ?_)
  refine lv_aload_n hx hb dX5_countDown_15 rfl (lv_at hl 1 rfl) ?_
  refine cg_5_3 X hP k_142 dX5_countDown_16 ?_
  refine lv_iconst (v := (0 : Int32)) hx hb dX5_countDown_19 (by decide) ?_
  refine lv_iload_n hx hb dX5_countDown_20 rfl (lv_at hl 0 rfl) ?_
  have hq := bd_some h; clear h; obtain ⟨s6, h5, h⟩ := hq
  refine sw_vv (rest := []) c_good X (cX6_loadSingle_m h5) calX6_loadSingle k_464 hP hD hS 4 6 rfl rfl rfl ⟨rfl, rfl⟩ rfl hl.1 rfl (Nat.le_of_ble_eq_true rfl) dX5_countDown_21 (fun H locs hP hD hS => ?_)
  refine lv_iload_n hx hb dX5_countDown_24 rfl (lv_at hl 0 rfl) ?_
  refine lv_if_eq (tgt := 32) hx hb dX5_countDown_25 (by decide) (fun c7 => ?_) (fun c7 => ?_)
  · replace h := if_yes h c7
    refine lv_iconst (v := (0 : Int32)) hx hb dX5_countDown_32 (by decide) ?_
    obtain ⟨rfl, rfl⟩ := Prod.mk.inj (Option.some.inj h)
    exact sw_bret X (bz_n (by decide)) hP hD hS dX5_countDown_33
  · replace h := if_no h c7
    refine lv_iconst (v := (1 : Int32)) hx hb dX5_countDown_28 (by decide) ?_
    refine lv_goto (tgt := 33) hx hb dX5_countDown_29 (by decide) ?_
    obtain ⟨rfl, rfl⟩ := Prod.mk.inj (Option.some.inj h)
    exact sw_bret X (bz_n (by decide)) hP hD hS dX5_countDown_33
theorem dX5_jumpBy_0 : decode cX5_jumpBy 0 = .ok (.iload_n 2, 1) := by decide +kernel
theorem dX5_jumpBy_1 : decode cX5_jumpBy 1 = .ok (.ifCond .eq 22, 3) := by decide +kernel
theorem dX5_jumpBy_4 : decode cX5_jumpBy 4 = .ok (.aload_n 0, 1) := by decide +kernel
theorem dX5_jumpBy_5 : decode cX5_jumpBy 5 = .ok (.getfield 7, 3) := by decide +kernel
theorem dX5_jumpBy_8 : decode cX5_jumpBy 8 = .ok (.iconst 5, 1) := by decide +kernel
theorem dX5_jumpBy_9 : decode cX5_jumpBy 9 = .ok (.invokevirtual 69, 3) := by decide +kernel
theorem dX5_jumpBy_12 : decode cX5_jumpBy 12 = .ok (.aload_n 0, 1) := by decide +kernel
theorem dX5_jumpBy_13 : decode cX5_jumpBy 13 = .ok (.getfield 21, 3) := by decide +kernel
theorem dX5_jumpBy_16 : decode cX5_jumpBy 16 = .ok (.bipush 9, 2) := by decide +kernel
theorem dX5_jumpBy_18 : decode cX5_jumpBy 18 = .ok (.iload_n 1, 1) := by decide +kernel
theorem dX5_jumpBy_19 : decode cX5_jumpBy 19 = .ok (.i2b, 1) := by decide +kernel
theorem dX5_jumpBy_20 : decode cX5_jumpBy 20 = .ok (.invokevirtual 170, 3) := by decide +kernel
theorem dX5_jumpBy_23 : decode cX5_jumpBy 23 = .ok (.return_, 1) := by decide +kernel
def fX5_jumpBy (p1 p2 : Int32) (s0 : zS) : Option (zS) := if p2 = (0 : Int32) then (some s0) else (bd (fX1_pass (5 : Int32) s0) fun s3 => bd (fX6_move (9 : Int32) (p1.toInt8.toInt32) s3) fun s5 => some s5)
set_option maxHeartbeats 4000000 in
set_option maxRecDepth 100000 in
theorem cX5_jumpBy_m {l : Launch} {dC : Nat → ClassId} {dI : Nat → Nat → Nat} {ad : Nat → Nat} {cI : ClassId} {p1 p2 : Int32} {s0 : zS} {zs : zS} (h : fX5_jumpBy p1 p2 s0 = some zs) : sw_Mv l yX5_jumpBy (sw_ws yX5_jumpBy cX5_jumpBy 3 none) (sw_rm 2 45) (dC, dI) vwCl [(cI, .int)] cF [.ref (ad 5), .int p1, .int p2] (cW ad cI s0) (cW ad cI zs) := by
  intro sz
  refine sw_of (cc := cX5_jumpBy) (maxL := 3) (ret := none) (by decide) rfl (Nat.le_of_ble_eq_true rfl) ?_
  intro p e s m args below meth c A ls hAe hsz X _ hP hD hS hl
  rw [hAe]
  have hx := X.1.1
  have hb := X.1.2.1
  have hown := X.1.2.2.2.1
  have hts := X.1.2.2.2.2
  replace hl : lv_has ls 3 [(0, .ref (ad 5)), (1, .int p1), (2, .int p2)] := hl
  unfold fX5_jumpBy at h
  refine lv_iload_n hx hb dX5_jumpBy_0 rfl (lv_at hl 2 rfl) ?_
  refine lv_if_eq (tgt := 23) hx hb dX5_jumpBy_1 (by decide) (fun c1 => ?_) (fun c1 => ?_)
  · replace h := if_yes h c1
    obtain rfl := Option.some.inj h
    exact sw_vret X hP hD hS dX5_jumpBy_23
  · replace h := if_no h c1
    refine lv_aload_n hx hb dX5_jumpBy_4 rfl (lv_at hl 0 rfl) ?_
    refine cg_5_0 X hP k_139 dX5_jumpBy_5 ?_
    refine lv_iconst (v := (5 : Int32)) hx hb dX5_jumpBy_8 (by decide) ?_
    have hq := bd_some h; clear h; obtain ⟨s3, h2, h⟩ := hq
    refine sw_vv (rest := []) c_good X (cX1_pass_m h2) calX1_pass k_381 hP hD hS 1 1 rfl rfl rfl ⟨rfl, rfl⟩ rfl hl.1 rfl (Nat.le_of_ble_eq_true rfl) dX5_jumpBy_9 (fun H locs hP hD hS => ?_)
    refine lv_aload_n hx hb dX5_jumpBy_12 rfl (lv_at hl 0 rfl) ?_
    refine cg_5_3 X hP k_142 dX5_jumpBy_13 ?_
    refine lv_bipush (v := (9 : Int32)) hx hb dX5_jumpBy_16 (by decide) ?_
    refine lv_iload_n hx hb dX5_jumpBy_18 rfl (lv_at hl 1 rfl) ?_
    refine lv_i2b (v := p1.toInt8.toInt32) hx hb dX5_jumpBy_19 rfl ?_
    have hq := bd_some h; clear h; obtain ⟨s5, h4, h⟩ := hq
    refine sw_vv (rest := []) c_good X (cX6_move_m h4) calX6_move k_473 hP hD hS 4 6 rfl rfl rfl ⟨rfl, rfl⟩ rfl hl.1 rfl (Nat.le_of_ble_eq_true rfl) dX5_jumpBy_20 (fun H locs hP hD hS => ?_)
    obtain rfl := Option.some.inj h
    exact sw_vret X hP hD hS dX5_jumpBy_23
theorem dX5_jumpNear_0 : decode cX5_jumpNear 0 = .ok (.iload_n 1, 1) := by decide +kernel
theorem dX5_jumpNear_1 : decode cX5_jumpNear 1 = .ok (.tableswitch 87 0 3 #[31, 34, 46, 72], 31) := by decide +kernel
theorem dX5_jumpNear_32 : decode cX5_jumpNear 32 = .ok (.goto 77, 3) := by decide +kernel
theorem dX5_jumpNear_35 : decode cX5_jumpNear 35 = .ok (.aload_n 0, 1) := by decide +kernel
theorem dX5_jumpNear_36 : decode cX5_jumpNear 36 = .ok (.getfield 21, 3) := by decide +kernel
theorem dX5_jumpNear_39 : decode cX5_jumpNear 39 = .ok (.iconst 0, 1) := by decide +kernel
theorem dX5_jumpNear_40 : decode cX5_jumpNear 40 = .ok (.iconst 4, 1) := by decide +kernel
theorem dX5_jumpNear_41 : decode cX5_jumpNear 41 = .ok (.invokevirtual 152, 3) := by decide +kernel
theorem dX5_jumpNear_44 : decode cX5_jumpNear 44 = .ok (.goto 65, 3) := by decide +kernel
theorem dX5_jumpNear_47 : decode cX5_jumpNear 47 = .ok (.aload_n 0, 1) := by decide +kernel
theorem dX5_jumpNear_48 : decode cX5_jumpNear 48 = .ok (.getfield 7, 3) := by decide +kernel
theorem dX5_jumpNear_51 : decode cX5_jumpNear 51 = .ok (.iconst 1, 1) := by decide +kernel
theorem dX5_jumpNear_52 : decode cX5_jumpNear 52 = .ok (.invokevirtual 69, 3) := by decide +kernel
theorem dX5_jumpNear_55 : decode cX5_jumpNear 55 = .ok (.aload_n 0, 1) := by decide +kernel
theorem dX5_jumpNear_56 : decode cX5_jumpNear 56 = .ok (.aload_n 0, 1) := by decide +kernel
theorem dX5_jumpNear_57 : decode cX5_jumpNear 57 = .ok (.getfield 39, 3) := by decide +kernel
theorem dX5_jumpNear_60 : decode cX5_jumpNear 60 = .ok (.invokevirtual 146, 3) := by decide +kernel
theorem dX5_jumpNear_63 : decode cX5_jumpNear 63 = .ok (.aload_n 0, 1) := by decide +kernel
theorem dX5_jumpNear_64 : decode cX5_jumpNear 64 = .ok (.invokevirtual 155, 3) := by decide +kernel
theorem dX5_jumpNear_67 : decode cX5_jumpNear 67 = .ok (.invokevirtual 158, 3) := by decide +kernel
theorem dX5_jumpNear_70 : decode cX5_jumpNear 70 = .ok (.goto 39, 3) := by decide +kernel
theorem dX5_jumpNear_73 : decode cX5_jumpNear 73 = .ok (.aload_n 0, 1) := by decide +kernel
theorem dX5_jumpNear_74 : decode cX5_jumpNear 74 = .ok (.aload_n 0, 1) := by decide +kernel
theorem dX5_jumpNear_75 : decode cX5_jumpNear 75 = .ok (.getfield 39, 3) := by decide +kernel
theorem dX5_jumpNear_78 : decode cX5_jumpNear 78 = .ok (.invokevirtual 146, 3) := by decide +kernel
theorem dX5_jumpNear_81 : decode cX5_jumpNear 81 = .ok (.iconst 1, 1) := by decide +kernel
theorem dX5_jumpNear_82 : decode cX5_jumpNear 82 = .ok (.invokevirtual 158, 3) := by decide +kernel
theorem dX5_jumpNear_85 : decode cX5_jumpNear 85 = .ok (.goto 24, 3) := by decide +kernel
theorem dX5_jumpNear_88 : decode cX5_jumpNear 88 = .ok (.aload_n 0, 1) := by decide +kernel
theorem dX5_jumpNear_89 : decode cX5_jumpNear 89 = .ok (.aload_n 0, 1) := by decide +kernel
theorem dX5_jumpNear_90 : decode cX5_jumpNear 90 = .ok (.getfield 39, 3) := by decide +kernel
theorem dX5_jumpNear_93 : decode cX5_jumpNear 93 = .ok (.invokevirtual 146, 3) := by decide +kernel
theorem dX5_jumpNear_96 : decode cX5_jumpNear 96 = .ok (.aload_n 0, 1) := by decide +kernel
theorem dX5_jumpNear_97 : decode cX5_jumpNear 97 = .ok (.getfield 39, 3) := by decide +kernel
theorem dX5_jumpNear_100 : decode cX5_jumpNear 100 = .ok (.iload_n 1, 1) := by decide +kernel
theorem dX5_jumpNear_101 : decode cX5_jumpNear 101 = .ok (.iconst 4, 1) := by decide +kernel
theorem dX5_jumpNear_102 : decode cX5_jumpNear 102 = .ok (.isub, 1) := by decide +kernel
theorem dX5_jumpNear_103 : decode cX5_jumpNear 103 = .ok (.invokevirtual 161, 3) := by decide +kernel
theorem dX5_jumpNear_106 : decode cX5_jumpNear 106 = .ok (.invokevirtual 158, 3) := by decide +kernel
theorem dX5_jumpNear_109 : decode cX5_jumpNear 109 = .ok (.return_, 1) := by decide +kernel
def fX5_jumpNear (p1 : Int32) (s0 : zS) : Option (zS) := if p1 ∈ ([(0 : Int32)] : List Int32) then (some s0) else if p1 ∈ ([(1 : Int32)] : List Int32) then (bd (fX6_exchange (0 : Int32) (4 : Int32) s0) fun s4 => some s4) else if p1 ∈ ([(2 : Int32)] : List Int32) then (bd (fX1_pass (1 : Int32) s0) fun s7 => bd2 (fX3_next  s7) fun r9 s10 => bd2 (fX5_countDown  s10) fun r12 s13 => bd (fX5_jumpBy r9 r12 s13) fun s15 => some s15) else if p1 ∈ ([(3 : Int32)] : List Int32) then (bd2 (fX3_next  s0) fun r18 s19 => bd (fX5_jumpBy r18 (1 : Int32) s19) fun s21 => some s21) else (bd2 (fX3_next  s0) fun r23 s24 => bd2 (fX3_holds (p1 - (4 : Int32)) s24) fun r26 s27 => bd (fX5_jumpBy r23 r26 s27) fun s29 => some s29)
set_option maxHeartbeats 4000000 in
set_option maxRecDepth 100000 in
theorem cX5_jumpNear_m {l : Launch} {dC : Nat → ClassId} {dI : Nat → Nat → Nat} {ad : Nat → Nat} {cI : ClassId} {p1 : Int32} {s0 : zS} {zs : zS} (h : fX5_jumpNear p1 s0 = some zs) : sw_Mv l yX5_jumpNear (sw_ws yX5_jumpNear cX5_jumpNear 2 none) (sw_rm 3 67) (dC, dI) vwCl [(cI, .int)] cF [.ref (ad 5), .int p1] (cW ad cI s0) (cW ad cI zs) := by
  intro sz
  refine sw_of (cc := cX5_jumpNear) (maxL := 2) (ret := none) (by decide) rfl (Nat.le_of_ble_eq_true rfl) ?_
  intro p e s m args below meth c A ls hAe hsz X _ hP hD hS hl
  rw [hAe]
  have hx := X.1.1
  have hb := X.1.2.1
  have hown := X.1.2.2.2.1
  have hts := X.1.2.2.2.2
  replace hl : lv_has ls 2 [(0, .ref (ad 5)), (1, .int p1)] := hl
  unfold fX5_jumpNear at h
  refine lv_iload_n hx hb dX5_jumpNear_0 rfl (lv_at hl 1 rfl) ?_
  by_cases c1 : p1 ∈ ([(0 : Int32)] : List Int32)
  · replace h := if_yes h c1
    refine sw_tabK (tgt := 32) (off := 31) hx hb dX5_jumpNear_1 _ c1 (by decide +kernel) (by decide) ?_
    refine lv_goto (tgt := 109) hx hb dX5_jumpNear_32 (by decide) ?_
    obtain rfl := Option.some.inj h
    exact sw_vret X hP hD hS dX5_jumpNear_109
  · replace h := if_no h c1
    by_cases c2 : p1 ∈ ([(1 : Int32)] : List Int32)
    · replace h := if_yes h c2
      refine sw_tabK (tgt := 35) (off := 34) hx hb dX5_jumpNear_1 _ c2 (by decide +kernel) (by decide) ?_
      refine lv_aload_n hx hb dX5_jumpNear_35 rfl (lv_at hl 0 rfl) ?_
      refine cg_5_3 X hP k_142 dX5_jumpNear_36 ?_
      refine lv_iconst (v := (0 : Int32)) hx hb dX5_jumpNear_39 (by decide) ?_
      refine lv_iconst (v := (4 : Int32)) hx hb dX5_jumpNear_40 (by decide) ?_
      have hq := bd_some h; clear h; obtain ⟨s4, h3, h⟩ := hq
      refine sw_vv (rest := []) c_good X (cX6_exchange_m h3) calX6_exchange k_438 hP hD hS 4 6 rfl rfl rfl ⟨rfl, rfl⟩ rfl hl.1 rfl (Nat.le_of_ble_eq_true rfl) dX5_jumpNear_41 (fun H locs hP hD hS => ?_)
      refine lv_goto (tgt := 109) hx hb dX5_jumpNear_44 (by decide) ?_
      obtain rfl := Option.some.inj h
      exact sw_vret X hP hD hS dX5_jumpNear_109
    · replace h := if_no h c2
      by_cases c5 : p1 ∈ ([(2 : Int32)] : List Int32)
      · replace h := if_yes h c5
        refine sw_tabK (tgt := 47) (off := 46) hx hb dX5_jumpNear_1 _ c5 (by decide +kernel) (by decide) ?_
        refine lv_aload_n hx hb dX5_jumpNear_47 rfl (lv_at hl 0 rfl) ?_
        refine cg_5_0 X hP k_139 dX5_jumpNear_48 ?_
        refine lv_iconst (v := (1 : Int32)) hx hb dX5_jumpNear_51 (by decide) ?_
        have hq := bd_some h; clear h; obtain ⟨s7, h6, h⟩ := hq
        refine sw_vv (rest := []) c_good X (cX1_pass_m h6) calX1_pass k_381 hP hD hS 1 1 rfl rfl rfl ⟨rfl, rfl⟩ rfl hl.1 rfl (Nat.le_of_ble_eq_true rfl) dX5_jumpNear_52 (fun H locs hP hD hS => ?_)
        refine lv_aload_n hx hb dX5_jumpNear_55 rfl (lv_at hl 0 rfl) ?_
        refine lv_aload_n hx hb dX5_jumpNear_56 rfl (lv_at hl 0 rfl) ?_
        refine cg_5_5 X hP k_144 dX5_jumpNear_57 ?_
        have hq := bd2_some h; clear h; obtain ⟨r9, s10, h8, h⟩ := hq
        refine sw_vi (rest := [.ref (ad 5)]) c_good X (cX3_next_m h8) calX3_next k_442 hP hD hS 7 3 rfl rfl rfl ⟨rfl, rfl⟩ rfl hl.1 rfl (Nat.le_of_ble_eq_true rfl) dX5_jumpNear_60 (fun H locs hP hD hS => ?_)
        refine lv_aload_n hx hb dX5_jumpNear_63 rfl (lv_at hl 0 rfl) ?_
        have hq := bd2_some h; clear h; obtain ⟨r12, s13, h11, h⟩ := hq
        refine sw_vi (rest := [.int r9, .ref (ad 5)]) c_good X (cX5_countDown_m h11) calX5_countDown k_450 hP hD hS 5 5 rfl rfl rfl ⟨rfl, rfl⟩ rfl hl.1 rfl (Nat.le_of_ble_eq_true rfl) dX5_jumpNear_64 (fun H locs hP hD hS => ?_)
        have hq := bd_some h; clear h; obtain ⟨s15, h14, h⟩ := hq
        refine sw_vv (rest := []) c_good X (cX5_jumpBy_m h14) calX5_jumpBy k_469 hP hD hS 5 5 rfl rfl rfl ⟨rfl, rfl⟩ rfl hl.1 rfl (Nat.le_of_ble_eq_true rfl) dX5_jumpNear_67 (fun H locs hP hD hS => ?_)
        refine lv_goto (tgt := 109) hx hb dX5_jumpNear_70 (by decide) ?_
        obtain rfl := Option.some.inj h
        exact sw_vret X hP hD hS dX5_jumpNear_109
      · replace h := if_no h c5
        by_cases c16 : p1 ∈ ([(3 : Int32)] : List Int32)
        · replace h := if_yes h c16
          refine sw_tabK (tgt := 73) (off := 72) hx hb dX5_jumpNear_1 _ c16 (by decide +kernel) (by decide) ?_
          refine lv_aload_n hx hb dX5_jumpNear_73 rfl (lv_at hl 0 rfl) ?_
          refine lv_aload_n hx hb dX5_jumpNear_74 rfl (lv_at hl 0 rfl) ?_
          refine cg_5_5 X hP k_144 dX5_jumpNear_75 ?_
          have hq := bd2_some h; clear h; obtain ⟨r18, s19, h17, h⟩ := hq
          refine sw_vi (rest := [.ref (ad 5)]) c_good X (cX3_next_m h17) calX3_next k_442 hP hD hS 7 3 rfl rfl rfl ⟨rfl, rfl⟩ rfl hl.1 rfl (Nat.le_of_ble_eq_true rfl) dX5_jumpNear_78 (fun H locs hP hD hS => ?_)
          refine lv_iconst (v := (1 : Int32)) hx hb dX5_jumpNear_81 (by decide) ?_
          have hq := bd_some h; clear h; obtain ⟨s21, h20, h⟩ := hq
          refine sw_vv (rest := []) c_good X (cX5_jumpBy_m h20) calX5_jumpBy k_469 hP hD hS 5 5 rfl rfl rfl ⟨rfl, rfl⟩ rfl hl.1 rfl (Nat.le_of_ble_eq_true rfl) dX5_jumpNear_82 (fun H locs hP hD hS => ?_)
          refine lv_goto (tgt := 109) hx hb dX5_jumpNear_85 (by decide) ?_
          obtain rfl := Option.some.inj h
          exact sw_vret X hP hD hS dX5_jumpNear_109
        · replace h := if_no h c16
          refine sw_tabD (tgt := 88) hx hb dX5_jumpNear_1 (([(0 : Int32)] : List Int32) ++ (([(1 : Int32)] : List Int32) ++ (([(2 : Int32)] : List Int32) ++ ([(3 : Int32)] : List Int32)))) (fun hm => (List.mem_append.mp hm).elim c1 (fun hm => (List.mem_append.mp hm).elim c2 (fun hm => (List.mem_append.mp hm).elim c5 c16))) (by decide +kernel) (by decide) ?_
          refine lv_aload_n hx hb dX5_jumpNear_88 rfl (lv_at hl 0 rfl) ?_
          refine lv_aload_n hx hb dX5_jumpNear_89 rfl (lv_at hl 0 rfl) ?_
          refine cg_5_5 X hP k_144 dX5_jumpNear_90 ?_
          have hq := bd2_some h; clear h; obtain ⟨r23, s24, h22, h⟩ := hq
          refine sw_vi (rest := [.ref (ad 5)]) c_good X (cX3_next_m h22) calX3_next k_442 hP hD hS 7 3 rfl rfl rfl ⟨rfl, rfl⟩ rfl hl.1 rfl (Nat.le_of_ble_eq_true rfl) dX5_jumpNear_93 (fun H locs hP hD hS => ?_)
          refine lv_aload_n hx hb dX5_jumpNear_96 rfl (lv_at hl 0 rfl) ?_
          refine cg_5_5 X hP k_144 dX5_jumpNear_97 ?_
          refine lv_iload_n hx hb dX5_jumpNear_100 rfl (lv_at hl 1 rfl) ?_
          refine lv_iconst (v := (4 : Int32)) hx hb dX5_jumpNear_101 (by decide) ?_
          refine lv_isub hx hb dX5_jumpNear_102 ?_
          have hq := bd2_some h; clear h; obtain ⟨r26, s27, h25, h⟩ := hq
          refine sw_vi (rest := [.int r23, .ref (ad 5)]) c_good X (cX3_holds_m h25) calX3_holds k_474 hP hD hS 7 3 rfl rfl rfl ⟨rfl, rfl⟩ rfl hl.1 rfl (Nat.le_of_ble_eq_true rfl) dX5_jumpNear_103 (fun H locs hP hD hS => ?_)
          have hq := bd_some h; clear h; obtain ⟨s29, h28, h⟩ := hq
          refine sw_vv (rest := []) c_good X (cX5_jumpBy_m h28) calX5_jumpBy k_469 hP hD hS 5 5 rfl rfl rfl ⟨rfl, rfl⟩ rfl hl.1 rfl (Nat.le_of_ble_eq_true rfl) dX5_jumpNear_106 (fun H locs hP hD hS => ?_)
          obtain rfl := Option.some.inj h
          exact sw_vret X hP hD hS dX5_jumpNear_109
theorem dX5_loadPairOrAdd_0 : decode cX5_loadPairOrAdd 0 = .ok (.iload_n 1, 1) := by decide +kernel
theorem dX5_loadPairOrAdd_1 : decode cX5_loadPairOrAdd 1 = .ok (.iconst 1, 1) := by decide +kernel
theorem dX5_loadPairOrAdd_2 : decode cX5_loadPairOrAdd 2 = .ok (.ishr, 1) := by decide +kernel
theorem dX5_loadPairOrAdd_3 : decode cX5_loadPairOrAdd 3 = .ok (.invokestatic 173, 3) := by decide +kernel
theorem dX5_loadPairOrAdd_6 : decode cX5_loadPairOrAdd 6 = .ok (.istore_n 2, 1) := by decide +kernel
theorem dX5_loadPairOrAdd_7 : decode cX5_loadPairOrAdd 7 = .ok (.iload_n 1, 1) := by decide +kernel
theorem dX5_loadPairOrAdd_8 : decode cX5_loadPairOrAdd 8 = .ok (.iconst 1, 1) := by decide +kernel
theorem dX5_loadPairOrAdd_9 : decode cX5_loadPairOrAdd 9 = .ok (.iand, 1) := by decide +kernel
theorem dX5_loadPairOrAdd_10 : decode cX5_loadPairOrAdd 10 = .ok (.ifCond .ne 21, 3) := by decide +kernel
theorem dX5_loadPairOrAdd_13 : decode cX5_loadPairOrAdd 13 = .ok (.aload_n 0, 1) := by decide +kernel
theorem dX5_loadPairOrAdd_14 : decode cX5_loadPairOrAdd 14 = .ok (.getfield 21, 3) := by decide +kernel
theorem dX5_loadPairOrAdd_17 : decode cX5_loadPairOrAdd 17 = .ok (.iload_n 2, 1) := by decide +kernel
theorem dX5_loadPairOrAdd_18 : decode cX5_loadPairOrAdd 18 = .ok (.aload_n 0, 1) := by decide +kernel
theorem dX5_loadPairOrAdd_19 : decode cX5_loadPairOrAdd 19 = .ok (.getfield 39, 3) := by decide +kernel
theorem dX5_loadPairOrAdd_22 : decode cX5_loadPairOrAdd 22 = .ok (.invokevirtual 176, 3) := by decide +kernel
theorem dX5_loadPairOrAdd_25 : decode cX5_loadPairOrAdd 25 = .ok (.invokevirtual 112, 3) := by decide +kernel
theorem dX5_loadPairOrAdd_28 : decode cX5_loadPairOrAdd 28 = .ok (.goto 27, 3) := by decide +kernel
theorem dX5_loadPairOrAdd_31 : decode cX5_loadPairOrAdd 31 = .ok (.aload_n 0, 1) := by decide +kernel
theorem dX5_loadPairOrAdd_32 : decode cX5_loadPairOrAdd 32 = .ok (.getfield 7, 3) := by decide +kernel
theorem dX5_loadPairOrAdd_35 : decode cX5_loadPairOrAdd 35 = .ok (.bipush 7, 2) := by decide +kernel
theorem dX5_loadPairOrAdd_37 : decode cX5_loadPairOrAdd 37 = .ok (.invokevirtual 69, 3) := by decide +kernel
theorem dX5_loadPairOrAdd_40 : decode cX5_loadPairOrAdd 40 = .ok (.aload_n 0, 1) := by decide +kernel
theorem dX5_loadPairOrAdd_41 : decode cX5_loadPairOrAdd 41 = .ok (.getfield 30, 3) := by decide +kernel
theorem dX5_loadPairOrAdd_44 : decode cX5_loadPairOrAdd 44 = .ok (.aload_n 0, 1) := by decide +kernel
theorem dX5_loadPairOrAdd_45 : decode cX5_loadPairOrAdd 45 = .ok (.getfield 21, 3) := by decide +kernel
theorem dX5_loadPairOrAdd_48 : decode cX5_loadPairOrAdd 48 = .ok (.iload_n 2, 1) := by decide +kernel
theorem dX5_loadPairOrAdd_49 : decode cX5_loadPairOrAdd 49 = .ok (.invokevirtual 106, 3) := by decide +kernel
theorem dX5_loadPairOrAdd_52 : decode cX5_loadPairOrAdd 52 = .ok (.invokevirtual 179, 3) := by decide +kernel
theorem dX5_loadPairOrAdd_55 : decode cX5_loadPairOrAdd 55 = .ok (.return_, 1) := by decide +kernel
def fX5_loadPairOrAdd (p1 : Int32) (s0 : zS) : Option (zS) := bd (fX3_pairOf (p1 >>> ((1 : Int32) &&& 31))) fun r2 => if (p1 &&& (1 : Int32)) = (0 : Int32) then (bd2 (fX3_nextPair  s0) fun r12 s13 => bd (fX6_load r2 r12 s13) fun s15 => some s15) else (bd (fX1_pass (7 : Int32) s0) fun s5 => bd2 (fX6_pair r2 s5) fun r7 s8 => bd (fX0_addToHl r7 s8) fun s10 => some s10)
set_option maxHeartbeats 4000000 in
set_option maxRecDepth 100000 in
theorem cX5_loadPairOrAdd_m {l : Launch} {dC : Nat → ClassId} {dI : Nat → Nat → Nat} {ad : Nat → Nat} {cI : ClassId} {p1 : Int32} {s0 : zS} {zs : zS} (h : fX5_loadPairOrAdd p1 s0 = some zs) : sw_Mv l yX5_loadPairOrAdd (sw_ws yX5_loadPairOrAdd cX5_loadPairOrAdd 3 none) (sw_rm 3 67) (dC, dI) vwCl [(cI, .int)] cF [.ref (ad 5), .int p1] (cW ad cI s0) (cW ad cI zs) := by
  intro sz
  refine sw_of (cc := cX5_loadPairOrAdd) (maxL := 3) (ret := none) (by decide) rfl (Nat.le_of_ble_eq_true rfl) ?_
  intro p e s m args below meth c A ls hAe hsz X _ hP hD hS hl
  rw [hAe]
  have hx := X.1.1
  have hb := X.1.2.1
  have hown := X.1.2.2.2.1
  have hts := X.1.2.2.2.2
  replace hl : lv_has ls 3 [(0, .ref (ad 5)), (1, .int p1)] := hl
  unfold fX5_loadPairOrAdd at h
  refine lv_iload_n hx hb dX5_loadPairOrAdd_0 rfl (lv_at hl 1 rfl) ?_
  refine lv_iconst (v := (1 : Int32)) hx hb dX5_loadPairOrAdd_1 (by decide) ?_
  refine lv_ishr hx hb dX5_loadPairOrAdd_2 ?_
  have hq := bd_some h; clear h; obtain ⟨r2, h1, h⟩ := hq
  refine sw_si (rest := []) c_good X (cX3_pairOf_m h1) calX3_pairOf k_488 hP hD hS ⟨rfl, rfl⟩ rfl hl.1 rfl (Nat.le_of_ble_eq_true rfl) dX5_loadPairOrAdd_3 (fun H locs hP hD hS => ?_)
  refine lv_istore_n (lv' := [(2, .int r2), (0, .ref (ad 5)), (1, .int p1)]) hx hb dX5_loadPairOrAdd_6 rfl hl (by decide) rfl (fun ls hl => ?_)
  refine lv_iload_n hx hb dX5_loadPairOrAdd_7 rfl (lv_at hl 2 rfl) ?_
  refine lv_iconst (v := (1 : Int32)) hx hb dX5_loadPairOrAdd_8 (by decide) ?_
  refine lv_iand hx hb dX5_loadPairOrAdd_9 ?_
  refine lv_if_ne (tgt := 31) hx hb dX5_loadPairOrAdd_10 (by decide) (fun c3 => ?_) (fun c3 => ?_)
  · replace h := if_no h c3
    refine lv_aload_n hx hb dX5_loadPairOrAdd_31 rfl (lv_at hl 1 rfl) ?_
    refine cg_5_0 X hP k_139 dX5_loadPairOrAdd_32 ?_
    refine lv_bipush (v := (7 : Int32)) hx hb dX5_loadPairOrAdd_35 (by decide) ?_
    have hq := bd_some h; clear h; obtain ⟨s5, h4, h⟩ := hq
    refine sw_vv (rest := []) c_good X (cX1_pass_m h4) calX1_pass k_381 hP hD hS 1 1 rfl rfl rfl ⟨rfl, rfl⟩ rfl hl.1 rfl (Nat.le_of_ble_eq_true rfl) dX5_loadPairOrAdd_37 (fun H locs hP hD hS => ?_)
    refine lv_aload_n hx hb dX5_loadPairOrAdd_40 rfl (lv_at hl 1 rfl) ?_
    refine cg_5_4 X hP k_143 dX5_loadPairOrAdd_41 ?_
    refine lv_aload_n hx hb dX5_loadPairOrAdd_44 rfl (lv_at hl 1 rfl) ?_
    refine cg_5_3 X hP k_142 dX5_loadPairOrAdd_45 ?_
    refine lv_iload_n hx hb dX5_loadPairOrAdd_48 rfl (lv_at hl 0 rfl) ?_
    have hq := bd2_some h; clear h; obtain ⟨r7, s8, h6, h⟩ := hq
    refine sw_vi (rest := [.ref (ad 6)]) c_good X (cX6_pair_m h6) calX6_pair k_385 hP hD hS 4 6 rfl rfl rfl ⟨rfl, rfl⟩ rfl hl.1 rfl (Nat.le_of_ble_eq_true rfl) dX5_loadPairOrAdd_49 (fun H locs hP hD hS => ?_)
    have hq := bd_some h; clear h; obtain ⟨s10, h9, h⟩ := hq
    refine sw_vv (rest := []) c_good X (cX0_addToHl_m h9) calX0_addToHl k_495 hP hD hS 6 0 rfl rfl rfl ⟨rfl, rfl⟩ rfl hl.1 rfl (Nat.le_of_ble_eq_true rfl) dX5_loadPairOrAdd_52 (fun H locs hP hD hS => ?_)
    obtain rfl := Option.some.inj h
    exact sw_vret X hP hD hS dX5_loadPairOrAdd_55
  · replace h := if_yes h c3
    refine lv_aload_n hx hb dX5_loadPairOrAdd_13 rfl (lv_at hl 1 rfl) ?_
    refine cg_5_3 X hP k_142 dX5_loadPairOrAdd_14 ?_
    refine lv_iload_n hx hb dX5_loadPairOrAdd_17 rfl (lv_at hl 0 rfl) ?_
    refine lv_aload_n hx hb dX5_loadPairOrAdd_18 rfl (lv_at hl 1 rfl) ?_
    refine cg_5_5 X hP k_144 dX5_loadPairOrAdd_19 ?_
    have hq := bd2_some h; clear h; obtain ⟨r12, s13, h11, h⟩ := hq
    refine sw_vi (rest := [.int r2, .ref (ad 4)]) c_good X (cX3_nextPair_m h11) calX3_nextPair k_491 hP hD hS 7 3 rfl rfl rfl ⟨rfl, rfl⟩ rfl hl.1 rfl (Nat.le_of_ble_eq_true rfl) dX5_loadPairOrAdd_22 (fun H locs hP hD hS => ?_)
    have hq := bd_some h; clear h; obtain ⟨s15, h14, h⟩ := hq
    refine sw_vv (rest := []) c_good X (cX6_load_m h14) calX6_load k_412 hP hD hS 4 6 rfl rfl rfl ⟨rfl, rfl⟩ rfl hl.1 rfl (Nat.le_of_ble_eq_true rfl) dX5_loadPairOrAdd_25 (fun H locs hP hD hS => ?_)
    refine lv_goto (tgt := 55) hx hb dX5_loadPairOrAdd_28 (by decide) ?_
    obtain rfl := Option.some.inj h
    exact sw_vret X hP hD hS dX5_loadPairOrAdd_55
theorem dX5_storeA_0 : decode cX5_storeA 0 = .ok (.aload_n 0, 1) := by decide +kernel
theorem dX5_storeA_1 : decode cX5_storeA 1 = .ok (.getfield 13, 3) := by decide +kernel
theorem dX5_storeA_4 : decode cX5_storeA 4 = .ok (.iload_n 1, 1) := by decide +kernel
theorem dX5_storeA_5 : decode cX5_storeA 5 = .ok (.aload_n 0, 1) := by decide +kernel
theorem dX5_storeA_6 : decode cX5_storeA 6 = .ok (.getfield 21, 3) := by decide +kernel
theorem dX5_storeA_9 : decode cX5_storeA 9 = .ok (.bipush 7, 2) := by decide +kernel
theorem dX5_storeA_11 : decode cX5_storeA 11 = .ok (.invokevirtual 164, 3) := by decide +kernel
theorem dX5_storeA_14 : decode cX5_storeA 14 = .ok (.invokevirtual 194, 3) := by decide +kernel
theorem dX5_storeA_17 : decode cX5_storeA 17 = .ok (.return_, 1) := by decide +kernel
def fX5_storeA (p1 : Int32) (s0 : zS) : Option (zS) := bd2 (fX6_single (7 : Int32) s0) fun r2 s3 => bd (fX2_write p1 r2 s3) fun s5 => some s5
set_option maxHeartbeats 4000000 in
set_option maxRecDepth 100000 in
theorem cX5_storeA_m {l : Launch} {dC : Nat → ClassId} {dI : Nat → Nat → Nat} {ad : Nat → Nat} {cI : ClassId} {p1 : Int32} {s0 : zS} {zs : zS} (h : fX5_storeA p1 s0 = some zs) : sw_Mv l yX5_storeA (sw_ws yX5_storeA cX5_storeA 2 none) (sw_rm 2 45) (dC, dI) vwCl [(cI, .int)] cF [.ref (ad 5), .int p1] (cW ad cI s0) (cW ad cI zs) := by
  intro sz
  refine sw_of (cc := cX5_storeA) (maxL := 2) (ret := none) (by decide) rfl (Nat.le_of_ble_eq_true rfl) ?_
  intro p e s m args below meth c A ls hAe hsz X _ hP hD hS hl
  rw [hAe]
  have hx := X.1.1
  have hb := X.1.2.1
  have hown := X.1.2.2.2.1
  have hts := X.1.2.2.2.2
  replace hl : lv_has ls 2 [(0, .ref (ad 5)), (1, .int p1)] := hl
  unfold fX5_storeA at h
  refine lv_aload_n hx hb dX5_storeA_0 rfl (lv_at hl 0 rfl) ?_
  refine cg_5_1 X hP k_140 dX5_storeA_1 ?_
  refine lv_iload_n hx hb dX5_storeA_4 rfl (lv_at hl 1 rfl) ?_
  refine lv_aload_n hx hb dX5_storeA_5 rfl (lv_at hl 0 rfl) ?_
  refine cg_5_3 X hP k_142 dX5_storeA_6 ?_
  refine lv_bipush (v := (7 : Int32)) hx hb dX5_storeA_9 (by decide) ?_
  have hq := bd2_some h; clear h; obtain ⟨r2, s3, h1, h⟩ := hq
  refine sw_vi (rest := [.int p1, .ref (ad 2)]) c_good X (cX6_single_m h1) calX6_single k_454 hP hD hS 4 6 rfl rfl rfl ⟨rfl, rfl⟩ rfl hl.1 rfl (Nat.le_of_ble_eq_true rfl) dX5_storeA_11 (fun H locs hP hD hS => ?_)
  have hq := bd_some h; clear h; obtain ⟨s5, h4, h⟩ := hq
  refine sw_vv (rest := []) c_good X (cX2_write_m h4) calX2_write k_514 hP hD hS 2 2 rfl rfl rfl ⟨rfl, rfl⟩ rfl hl.1 rfl (Nat.le_of_ble_eq_true rfl) dX5_storeA_14 (fun H locs hP hD hS => ?_)
  obtain rfl := Option.some.inj h
  exact sw_vret X hP hD hS dX5_storeA_17
theorem dX5_loadA_0 : decode cX5_loadA 0 = .ok (.aload_n 0, 1) := by decide +kernel
theorem dX5_loadA_1 : decode cX5_loadA 1 = .ok (.getfield 21, 3) := by decide +kernel
theorem dX5_loadA_4 : decode cX5_loadA 4 = .ok (.bipush 7, 2) := by decide +kernel
theorem dX5_loadA_6 : decode cX5_loadA 6 = .ok (.aload_n 0, 1) := by decide +kernel
theorem dX5_loadA_7 : decode cX5_loadA 7 = .ok (.getfield 13, 3) := by decide +kernel
theorem dX5_loadA_10 : decode cX5_loadA 10 = .ok (.iload_n 1, 1) := by decide +kernel
theorem dX5_loadA_11 : decode cX5_loadA 11 = .ok (.invokevirtual 197, 3) := by decide +kernel
theorem dX5_loadA_14 : decode cX5_loadA 14 = .ok (.invokevirtual 167, 3) := by decide +kernel
theorem dX5_loadA_17 : decode cX5_loadA 17 = .ok (.return_, 1) := by decide +kernel
def fX5_loadA (p1 : Int32) (s0 : zS) : Option (zS) := bd2 (fX2_read p1 s0) fun r2 s3 => bd (fX6_loadSingle (7 : Int32) r2 s3) fun s5 => some s5
set_option maxHeartbeats 4000000 in
set_option maxRecDepth 100000 in
theorem cX5_loadA_m {l : Launch} {dC : Nat → ClassId} {dI : Nat → Nat → Nat} {ad : Nat → Nat} {cI : ClassId} {p1 : Int32} {s0 : zS} {zs : zS} (h : fX5_loadA p1 s0 = some zs) : sw_Mv l yX5_loadA (sw_ws yX5_loadA cX5_loadA 2 none) (sw_rm 2 44) (dC, dI) vwCl [(cI, .int)] cF [.ref (ad 5), .int p1] (cW ad cI s0) (cW ad cI zs) := by
  intro sz
  refine sw_of (cc := cX5_loadA) (maxL := 2) (ret := none) (by decide) rfl (Nat.le_of_ble_eq_true rfl) ?_
  intro p e s m args below meth c A ls hAe hsz X _ hP hD hS hl
  rw [hAe]
  have hx := X.1.1
  have hb := X.1.2.1
  have hown := X.1.2.2.2.1
  have hts := X.1.2.2.2.2
  replace hl : lv_has ls 2 [(0, .ref (ad 5)), (1, .int p1)] := hl
  unfold fX5_loadA at h
  refine lv_aload_n hx hb dX5_loadA_0 rfl (lv_at hl 0 rfl) ?_
  refine cg_5_3 X hP k_142 dX5_loadA_1 ?_
  refine lv_bipush (v := (7 : Int32)) hx hb dX5_loadA_4 (by decide) ?_
  refine lv_aload_n hx hb dX5_loadA_6 rfl (lv_at hl 0 rfl) ?_
  refine cg_5_1 X hP k_140 dX5_loadA_7 ?_
  refine lv_iload_n hx hb dX5_loadA_10 rfl (lv_at hl 1 rfl) ?_
  have hq := bd2_some h; clear h; obtain ⟨r2, s3, h1, h⟩ := hq
  refine sw_vi (rest := [.int (7 : Int32), .ref (ad 4)]) c_good X (cX2_read_m h1) calX2_read k_519 hP hD hS 2 2 rfl rfl rfl ⟨rfl, rfl⟩ rfl hl.1 rfl (Nat.le_of_ble_eq_true rfl) dX5_loadA_11 (fun H locs hP hD hS => ?_)
  have hq := bd_some h; clear h; obtain ⟨s5, h4, h⟩ := hq
  refine sw_vv (rest := []) c_good X (cX6_loadSingle_m h4) calX6_loadSingle k_464 hP hD hS 4 6 rfl rfl rfl ⟨rfl, rfl⟩ rfl hl.1 rfl (Nat.le_of_ble_eq_true rfl) dX5_loadA_14 (fun H locs hP hD hS => ?_)
  obtain rfl := Option.some.inj h
  exact sw_vret X hP hD hS dX5_loadA_17
