theorem dX9_thrown_0 : decode cX9_thrown 0 = .ok (.aload_n 0, 1) := by decide +kernel
theorem dX9_thrown_1 : decode cX9_thrown 1 = .ok (.getfield 28, 3) := by decide +kernel
theorem dX9_thrown_4 : decode cX9_thrown 4 = .ok (.ireturn, 1) := by decide +kernel
def fX9_thrown (s0 : zS) : Option (Int32 × zS) := some ((s0.1 0), s0)
set_option maxHeartbeats 4000000 in
set_option maxRecDepth 100000 in
theorem cX9_thrown_m {l : Launch} {dC : Nat → ClassId} {dI : Nat → Nat → Nat} {ad : Nat → Nat} {cI : ClassId} {s0 : zS} {zr : Int32} {zs : zS} (h : fX9_thrown  s0 = some (zr, zs)) : sw_Mi l yX9_thrown (sw_ws yX9_thrown cX9_thrown 1 (some .int)) (sw_rm 0 0) (dC, dI) vwCl [(cI, .int)] mF [.ref (ad 0)] (mW ad cI s0) (mW ad cI zs) zr := by
  intro sz
  refine sw_of (cc := cX9_thrown) (maxL := 1) (ret := (some .int)) (by decide) rfl (Nat.le_of_ble_eq_true rfl) ?_
  intro p e s m args below meth c A ls hAe hsz X _ hP hD hS hl
  rw [hAe]
  have hx := X.1.1
  have hb := X.1.2.1
  have hown := X.1.2.2.2.1
  have hts := X.1.2.2.2.2
  replace hl : lv_has ls 1 [(0, .ref (ad 0))] := hl
  unfold fX9_thrown at h
  refine lv_aload_n hx hb dX9_thrown_0 rfl (lv_at hl 0 rfl) ?_
  refine mg_0_0 X hP k_757 dX9_thrown_1 ?_
  obtain ⟨rfl, rfl⟩ := Prod.mk.inj (Option.some.inj h)
  exact sw_iret X hP hD hS dX9_thrown_4
theorem dX9_refused_0 : decode cX9_refused 0 = .ok (.aload_n 0, 1) := by decide +kernel
theorem dX9_refused_1 : decode cX9_refused 1 = .ok (.iload_n 1, 1) := by decide +kernel
theorem dX9_refused_2 : decode cX9_refused 2 = .ok (.putfield 28, 3) := by decide +kernel
theorem dX9_refused_5 : decode cX9_refused 5 = .ok (.iload_n 1, 1) := by decide +kernel
theorem dX9_refused_6 : decode cX9_refused 6 = .ok (.ifCond .le 7, 3) := by decide +kernel
theorem dX9_refused_9 : decode cX9_refused 9 = .ok (.iconst 1, 1) := by decide +kernel
theorem dX9_refused_10 : decode cX9_refused 10 = .ok (.goto 4, 3) := by decide +kernel
theorem dX9_refused_13 : decode cX9_refused 13 = .ok (.iconst 0, 1) := by decide +kernel
theorem dX9_refused_14 : decode cX9_refused 14 = .ok (.ireturn, 1) := by decide +kernel
def fX9_refused (p1 : Int32) (s0 : zS) : Option (Int32 × zS) := if p1 ≤ (0 : Int32) then (some ((0 : Int32), (st1 s0 0 p1))) else (some ((1 : Int32), (st1 s0 0 p1)))
set_option maxHeartbeats 4000000 in
set_option maxRecDepth 100000 in
theorem cX9_refused_m {l : Launch} {dC : Nat → ClassId} {dI : Nat → Nat → Nat} {ad : Nat → Nat} {cI : ClassId} {p1 : Int32} {s0 : zS} {zr : Int32} {zs : zS} (h : fX9_refused p1 s0 = some (zr, zs)) : sw_Mi l yX9_refused (sw_ws yX9_refused cX9_refused 2 (some .boolean)) (sw_rm 0 0) (dC, dI) vwCl [(cI, .int)] mF [.ref (ad 0), .int p1] (mW ad cI s0) (mW ad cI zs) zr := by
  intro sz
  refine sw_of (cc := cX9_refused) (maxL := 2) (ret := (some .boolean)) (by decide) rfl (Nat.le_of_ble_eq_true rfl) ?_
  intro p e s m args below meth c A ls hAe hsz X _ hP hD hS hl
  rw [hAe]
  have hx := X.1.1
  have hb := X.1.2.1
  have hown := X.1.2.2.2.1
  have hts := X.1.2.2.2.2
  replace hl : lv_has ls 2 [(0, .ref (ad 0)), (1, .int p1)] := hl
  unfold fX9_refused at h
  refine lv_aload_n hx hb dX9_refused_0 rfl (lv_at hl 0 rfl) ?_
  refine lv_iload_n hx hb dX9_refused_1 rfl (lv_at hl 1 rfl) ?_
  refine mp_0_0 X hP hD hS k_757 dX9_refused_2 (fun H locs hP hD hS => ?_)
  refine lv_iload_n hx hb dX9_refused_5 rfl (lv_at hl 1 rfl) ?_
  refine lv_if_le (tgt := 13) hx hb dX9_refused_6 (by decide) (fun c1 => ?_) (fun c1 => ?_)
  · replace h := if_yes h c1
    refine lv_iconst (v := (0 : Int32)) hx hb dX9_refused_13 (by decide) ?_
    obtain ⟨rfl, rfl⟩ := Prod.mk.inj (Option.some.inj h)
    exact sw_bret X (bz_n (by decide)) hP hD hS dX9_refused_14
  · replace h := if_no h c1
    refine lv_iconst (v := (1 : Int32)) hx hb dX9_refused_9 (by decide) ?_
    refine lv_goto (tgt := 14) hx hb dX9_refused_10 (by decide) ?_
    obtain ⟨rfl, rfl⟩ := Prod.mk.inj (Option.some.inj h)
    exact sw_bret X (bz_n (by decide)) hP hD hS dX9_refused_14
theorem dX9_isIn_0 : decode cX9_isIn 0 = .ok (.iload_n 0, 1) := by decide +kernel
theorem dX9_isIn_1 : decode cX9_isIn 1 = .ok (.iload_n 1, 1) := by decide +kernel
theorem dX9_isIn_2 : decode cX9_isIn 2 = .ok (.if_icmp .lt 12, 3) := by decide +kernel
theorem dX9_isIn_5 : decode cX9_isIn 5 = .ok (.iload_n 0, 1) := by decide +kernel
theorem dX9_isIn_6 : decode cX9_isIn 6 = .ok (.iload_n 2, 1) := by decide +kernel
theorem dX9_isIn_7 : decode cX9_isIn 7 = .ok (.if_icmp .gt 7, 3) := by decide +kernel
theorem dX9_isIn_10 : decode cX9_isIn 10 = .ok (.iconst 1, 1) := by decide +kernel
theorem dX9_isIn_11 : decode cX9_isIn 11 = .ok (.goto 4, 3) := by decide +kernel
theorem dX9_isIn_14 : decode cX9_isIn 14 = .ok (.iconst 0, 1) := by decide +kernel
theorem dX9_isIn_15 : decode cX9_isIn 15 = .ok (.ireturn, 1) := by decide +kernel
def fX9_isIn (p1 p2 p3 : Int32) : Option (Int32) := if p1 < p2 then (some (0 : Int32)) else (if p3 < p1 then (some (0 : Int32)) else (some (1 : Int32)))
set_option maxHeartbeats 4000000 in
set_option maxRecDepth 100000 in
theorem cX9_isIn_m {l : Launch} {dC : Nat → ClassId} {dI : Nat → Nat → Nat} {cI : ClassId} {w : va_W} {p1 p2 p3 : Int32} {zr : Int32} (h : fX9_isIn p1 p2 p3 = some zr) : sw_Mi l yX9_isIn (sw_ws yX9_isIn cX9_isIn 3 (some .boolean)) (sw_rm 0 0) (dC, dI) vwCl [(cI, .int)] mF [.int p1, .int p2, .int p3] w w zr := by
  intro sz
  refine sw_of (cc := cX9_isIn) (maxL := 3) (ret := (some .boolean)) (by decide) rfl (Nat.le_of_ble_eq_true rfl) ?_
  intro p e s m args below meth c A ls hAe hsz X _ hP hD hS hl
  rw [hAe]
  have hx := X.1.1
  have hb := X.1.2.1
  have hown := X.1.2.2.2.1
  have hts := X.1.2.2.2.2
  replace hl : lv_has ls 3 [(0, .int p1), (1, .int p2), (2, .int p3)] := hl
  unfold fX9_isIn at h
  refine lv_iload_n hx hb dX9_isIn_0 rfl (lv_at hl 0 rfl) ?_
  refine lv_iload_n hx hb dX9_isIn_1 rfl (lv_at hl 1 rfl) ?_
  refine lv_icmp_lt (tgt := 14) hx hb dX9_isIn_2 (by decide) (fun c1 => ?_) (fun c1 => ?_)
  · replace h := if_yes h c1
    refine lv_iconst (v := (0 : Int32)) hx hb dX9_isIn_14 (by decide) ?_
    obtain rfl := Option.some.inj h
    exact sw_bret X (bz_n (by decide)) hP hD hS dX9_isIn_15
  · replace h := if_no h c1
    refine lv_iload_n hx hb dX9_isIn_5 rfl (lv_at hl 0 rfl) ?_
    refine lv_iload_n hx hb dX9_isIn_6 rfl (lv_at hl 2 rfl) ?_
    refine lv_icmp_gt (tgt := 14) hx hb dX9_isIn_7 (by decide) (fun c2 => ?_) (fun c2 => ?_)
    · replace h := if_yes h c2
      refine lv_iconst (v := (0 : Int32)) hx hb dX9_isIn_14 (by decide) ?_
      obtain rfl := Option.some.inj h
      exact sw_bret X (bz_n (by decide)) hP hD hS dX9_isIn_15
    · replace h := if_no h c2
      refine lv_iconst (v := (1 : Int32)) hx hb dX9_isIn_10 (by decide) ?_
      refine lv_goto (tgt := 15) hx hb dX9_isIn_11 (by decide) ?_
      obtain rfl := Option.some.inj h
      exact sw_bret X (bz_n (by decide)) hP hD hS dX9_isIn_15
theorem dX9_delay_0 : decode cX9_delay 0 = .ok (.aload_n 0, 1) := by decide +kernel
theorem dX9_delay_1 : decode cX9_delay 1 = .ok (.getfield 32, 3) := by decide +kernel
theorem dX9_delay_4 : decode cX9_delay 4 = .ok (.sipush 4000, 3) := by decide +kernel
theorem dX9_delay_7 : decode cX9_delay 7 = .ok (.irem, 1) := by decide +kernel
theorem dX9_delay_8 : decode cX9_delay 8 = .ok (.istore_n 1, 1) := by decide +kernel
theorem dX9_delay_9 : decode cX9_delay 9 = .ok (.iload_n 1, 1) := by decide +kernel
theorem dX9_delay_10 : decode cX9_delay 10 = .ok (.bipush 100, 2) := by decide +kernel
theorem dX9_delay_12 : decode cX9_delay 12 = .ok (.idiv, 1) := by decide +kernel
theorem dX9_delay_13 : decode cX9_delay 13 = .ok (.bipush 20, 2) := by decide +kernel
theorem dX9_delay_15 : decode cX9_delay 15 = .ok (.if_icmp .ge 43, 3) := by decide +kernel
theorem dX9_delay_18 : decode cX9_delay 18 = .ok (.iload_n 1, 1) := by decide +kernel
theorem dX9_delay_19 : decode cX9_delay 19 = .ok (.bipush 100, 2) := by decide +kernel
theorem dX9_delay_21 : decode cX9_delay 21 = .ok (.irem, 1) := by decide +kernel
theorem dX9_delay_22 : decode cX9_delay 22 = .ok (.bipush 64, 2) := by decide +kernel
theorem dX9_delay_24 : decode cX9_delay 24 = .ok (.if_icmp .ge 34, 3) := by decide +kernel
theorem dX9_delay_27 : decode cX9_delay 27 = .ok (.aload_n 0, 1) := by decide +kernel
theorem dX9_delay_28 : decode cX9_delay 28 = .ok (.getfield 32, 3) := by decide +kernel
theorem dX9_delay_31 : decode cX9_delay 31 = .ok (.bipush 8, 2) := by decide +kernel
theorem dX9_delay_33 : decode cX9_delay 33 = .ok (.irem, 1) := by decide +kernel
theorem dX9_delay_34 : decode cX9_delay 34 = .ok (.istore_n 2, 1) := by decide +kernel
theorem dX9_delay_35 : decode cX9_delay 35 = .ok (.aload_n 0, 1) := by decide +kernel
theorem dX9_delay_36 : decode cX9_delay 36 = .ok (.aload_n 0, 1) := by decide +kernel
theorem dX9_delay_37 : decode cX9_delay 37 = .ok (.getfield 32, 3) := by decide +kernel
theorem dX9_delay_40 : decode cX9_delay 40 = .ok (.iload_n 2, 1) := by decide +kernel
theorem dX9_delay_41 : decode cX9_delay 41 = .ok (.bipush 6, 2) := by decide +kernel
theorem dX9_delay_43 : decode cX9_delay 43 = .ok (.if_icmp .ge 10, 3) := by decide +kernel
theorem dX9_delay_46 : decode cX9_delay 46 = .ok (.bipush 6, 2) := by decide +kernel
theorem dX9_delay_48 : decode cX9_delay 48 = .ok (.iload_n 2, 1) := by decide +kernel
theorem dX9_delay_49 : decode cX9_delay 49 = .ok (.isub, 1) := by decide +kernel
theorem dX9_delay_50 : decode cX9_delay 50 = .ok (.goto 4, 3) := by decide +kernel
theorem dX9_delay_53 : decode cX9_delay 53 = .ok (.iconst 0, 1) := by decide +kernel
theorem dX9_delay_54 : decode cX9_delay 54 = .ok (.iadd, 1) := by decide +kernel
theorem dX9_delay_55 : decode cX9_delay 55 = .ok (.putfield 32, 3) := by decide +kernel
theorem dX9_delay_58 : decode cX9_delay 58 = .ok (.return_, 1) := by decide +kernel
def fX9_delay (s0 : zS) : Option (zS) := nm ((s0.1 3) - (s0.1 3) / (4000 : Int32) * (4000 : Int32)) fun x1 => if (20 : Int32) ≤ (x1 / (100 : Int32)) then (some s0) else (if (64 : Int32) ≤ (x1 - x1 / (100 : Int32) * (100 : Int32)) then (some s0) else (nm ((s0.1 3) - (s0.1 3) / (8 : Int32) * (8 : Int32)) fun x4 => bd (if (6 : Int32) ≤ x4 then (some (0 : Int32)) else (some ((6 : Int32) - x4))) fun x7 => some (st1 s0 3 ((s0.1 3) + x7))))
set_option maxHeartbeats 4000000 in
set_option maxRecDepth 100000 in
theorem cX9_delay_m {l : Launch} {dC : Nat → ClassId} {dI : Nat → Nat → Nat} {ad : Nat → Nat} {cI : ClassId} {s0 : zS} {zs : zS} (h : fX9_delay  s0 = some zs) : sw_Mv l yX9_delay (sw_ws yX9_delay cX9_delay 3 none) (sw_rm 0 0) (dC, dI) vwCl [(cI, .int)] mF [.ref (ad 0)] (mW ad cI s0) (mW ad cI zs) := by
  intro sz
  refine sw_of (cc := cX9_delay) (maxL := 3) (ret := none) (by decide) rfl (Nat.le_of_ble_eq_true rfl) ?_
  intro p e s m args below meth c A ls hAe hsz X _ hP hD hS hl
  rw [hAe]
  have hx := X.1.1
  have hb := X.1.2.1
  have hown := X.1.2.2.2.1
  have hts := X.1.2.2.2.2
  replace hl : lv_has ls 3 [(0, .ref (ad 0))] := hl
  unfold fX9_delay at h
  refine lv_aload_n hx hb dX9_delay_0 rfl (lv_at hl 0 rfl) ?_
  refine mg_0_6 X hP k_763 dX9_delay_1 ?_
  refine lv_sipush (v := (4000 : Int32)) hx hb dX9_delay_4 (by decide) ?_
  refine lv_irem hx hb dX9_delay_7 (by decide) ?_
  refine lv_topi (fun x1 ex1 => ?_)
  replace h := nm_use ex1 h
  refine lv_istore_n (lv' := [(1, .int x1), (0, .ref (ad 0))]) hx hb dX9_delay_8 rfl hl (by decide) rfl (fun ls hl => ?_)
  refine lv_iload_n hx hb dX9_delay_9 rfl (lv_at hl 0 rfl) ?_
  refine lv_bipush (v := (100 : Int32)) hx hb dX9_delay_10 (by decide) ?_
  refine lv_idiv hx hb dX9_delay_12 (by decide) ?_
  refine lv_bipush (v := (20 : Int32)) hx hb dX9_delay_13 (by decide) ?_
  refine lv_icmp_ge (tgt := 58) hx hb dX9_delay_15 (by decide) (fun c2 => ?_) (fun c2 => ?_)
  · replace h := if_yes h c2
    obtain rfl := Option.some.inj h
    exact sw_vret X hP hD hS dX9_delay_58
  · replace h := if_no h c2
    refine lv_iload_n hx hb dX9_delay_18 rfl (lv_at hl 0 rfl) ?_
    refine lv_bipush (v := (100 : Int32)) hx hb dX9_delay_19 (by decide) ?_
    refine lv_irem hx hb dX9_delay_21 (by decide) ?_
    refine lv_bipush (v := (64 : Int32)) hx hb dX9_delay_22 (by decide) ?_
    refine lv_icmp_ge (tgt := 58) hx hb dX9_delay_24 (by decide) (fun c3 => ?_) (fun c3 => ?_)
    · replace h := if_yes h c3
      obtain rfl := Option.some.inj h
      exact sw_vret X hP hD hS dX9_delay_58
    · replace h := if_no h c3
      refine lv_aload_n hx hb dX9_delay_27 rfl (lv_at hl 1 rfl) ?_
      refine mg_0_6 X hP k_763 dX9_delay_28 ?_
      refine lv_bipush (v := (8 : Int32)) hx hb dX9_delay_31 (by decide) ?_
      refine lv_irem hx hb dX9_delay_33 (by decide) ?_
      refine lv_topi (fun x4 ex4 => ?_)
      replace h := nm_use ex4 h
      refine lv_istore_n (lv' := [(2, .int x4), (1, .int x1), (0, .ref (ad 0))]) hx hb dX9_delay_34 rfl hl (by decide) rfl (fun ls hl => ?_)
      refine lv_aload_n hx hb dX9_delay_35 rfl (lv_at hl 2 rfl) ?_
      refine lv_aload_n hx hb dX9_delay_36 rfl (lv_at hl 2 rfl) ?_
      refine mg_0_6 X hP k_763 dX9_delay_37 ?_
      refine lv_iload_n hx hb dX9_delay_40 rfl (lv_at hl 0 rfl) ?_
      refine lv_bipush (v := (6 : Int32)) hx hb dX9_delay_41 (by decide) ?_
      have hq := bd_some h; clear h; obtain ⟨x7, h8, h⟩ := hq
      have K5 : ∀ (H : Heap) (locs : List Loc), va_P (dC, dI) vwCl (mW ad cI s0) H → va_D A (mW ad cI s0) → va_S A s.heap H locs → W p l e (sw_rm 0 0) s m args below meth c H locs 0 0 (MQ below (sw_Qv (dC, dI) vwCl [(cI, .int)] A (mW ad cI zs)) args s 0 0 A) (F0 m 54 ls [.int x7, .int (s0.1 3), .ref (ad 0)]) := by
        intro H locs hP hD hS
        refine lv_iadd hx hb dX9_delay_54 ?_
        refine mp_0_6 X hP hD hS k_763 dX9_delay_55 (fun H locs hP hD hS => ?_)
        obtain rfl := Option.some.inj h
        exact sw_vret X hP hD hS dX9_delay_58
      replace h := h8
      clear h8
      refine lv_icmp_ge (tgt := 53) hx hb dX9_delay_43 (by decide) (fun c6 => ?_) (fun c6 => ?_)
      · replace h := if_yes h c6
        refine lv_iconst (v := (0 : Int32)) hx hb dX9_delay_53 (by decide) ?_
        obtain rfl := Option.some.inj h
        exact K5 _ _ hP hD hS
      · replace h := if_no h c6
        refine lv_bipush (v := (6 : Int32)) hx hb dX9_delay_46 (by decide) ?_
        refine lv_iload_n hx hb dX9_delay_48 rfl (lv_at hl 0 rfl) ?_
        refine lv_isub hx hb dX9_delay_49 ?_
        refine lv_goto (tgt := 54) hx hb dX9_delay_50 (by decide) ?_
        obtain rfl := Option.some.inj h
        exact K5 _ _ hP hD hS
theorem dX9_open_0 : decode cX9_open 0 = .ok (.iload_n 1, 1) := by decide +kernel
theorem dX9_open_1 : decode cX9_open 1 = .ok (.sipush 4095, 3) := by decide +kernel
theorem dX9_open_4 : decode cX9_open 4 = .ok (.iand, 1) := by decide +kernel
theorem dX9_open_5 : decode cX9_open 5 = .ok (.sipush 1024, 3) := by decide +kernel
theorem dX9_open_8 : decode cX9_open 8 = .ok (.sipush 2047, 3) := by decide +kernel
theorem dX9_open_11 : decode cX9_open 11 = .ok (.invokestatic 35, 3) := by decide +kernel
theorem dX9_open_14 : decode cX9_open 14 = .ok (.ifCond .eq 7, 3) := by decide +kernel
theorem dX9_open_17 : decode cX9_open 17 = .ok (.aload_n 0, 1) := by decide +kernel
theorem dX9_open_18 : decode cX9_open 18 = .ok (.invokevirtual 39, 3) := by decide +kernel
theorem dX9_open_21 : decode cX9_open 21 = .ok (.return_, 1) := by decide +kernel
def fX9_open (p1 : Int32) (s0 : zS) : Option (zS) := bd (fX9_isIn (p1 &&& (4095 : Int32)) (1024 : Int32) (2047 : Int32)) fun r2 => if r2 = (0 : Int32) then (some s0) else (bd (fX9_delay  s0) fun s5 => some s5)
set_option maxHeartbeats 4000000 in
set_option maxRecDepth 100000 in
theorem cX9_open_m {l : Launch} {dC : Nat → ClassId} {dI : Nat → Nat → Nat} {ad : Nat → Nat} {cI : ClassId} {p1 : Int32} {s0 : zS} {zs : zS} (h : fX9_open p1 s0 = some zs) : sw_Mv l yX9_open (sw_ws yX9_open cX9_open 2 none) (sw_rm 1 22) (dC, dI) vwCl [(cI, .int)] mF [.ref (ad 0), .int p1] (mW ad cI s0) (mW ad cI zs) := by
  intro sz
  refine sw_of (cc := cX9_open) (maxL := 2) (ret := none) (by decide) rfl (Nat.le_of_ble_eq_true rfl) ?_
  intro p e s m args below meth c A ls hAe hsz X _ hP hD hS hl
  rw [hAe]
  have hx := X.1.1
  have hb := X.1.2.1
  have hown := X.1.2.2.2.1
  have hts := X.1.2.2.2.2
  replace hl : lv_has ls 2 [(0, .ref (ad 0)), (1, .int p1)] := hl
  unfold fX9_open at h
  refine lv_iload_n hx hb dX9_open_0 rfl (lv_at hl 1 rfl) ?_
  refine lv_sipush (v := (4095 : Int32)) hx hb dX9_open_1 (by decide) ?_
  refine lv_iand hx hb dX9_open_4 ?_
  refine lv_sipush (v := (1024 : Int32)) hx hb dX9_open_5 (by decide) ?_
  refine lv_sipush (v := (2047 : Int32)) hx hb dX9_open_8 (by decide) ?_
  have hq := bd_some h; clear h; obtain ⟨r2, h1, h⟩ := hq
  refine sw_si (rest := []) m_good X (cX9_isIn_m h1) calX9_isIn k_826 hP hD hS ⟨rfl, rfl⟩ rfl hl.1 rfl (Nat.le_of_ble_eq_true rfl) dX9_open_11 (fun H locs hP hD hS => ?_)
  refine lv_if_eq (tgt := 21) hx hb dX9_open_14 (by decide) (fun c3 => ?_) (fun c3 => ?_)
  · replace h := if_yes h c3
    obtain rfl := Option.some.inj h
    exact sw_vret X hP hD hS dX9_open_21
  · replace h := if_no h c3
    refine lv_aload_n hx hb dX9_open_17 rfl (lv_at hl 0 rfl) ?_
    have hq := bd_some h; clear h; obtain ⟨s5, h4, h⟩ := hq
    refine sw_vv (rest := []) m_good X (cX9_delay_m h4) calX9_delay k_850 hP hD hS 0 9 rfl rfl rfl ⟨rfl, rfl⟩ rfl hl.1 rfl (Nat.le_of_ble_eq_true rfl) dX9_open_18 (fun H locs hP hD hS => ?_)
    obtain rfl := Option.some.inj h
    exact sw_vret X hP hD hS dX9_open_21
theorem dX9_read_0 : decode cX9_read 0 = .ok (.aload_n 0, 1) := by decide +kernel
theorem dX9_read_1 : decode cX9_read 1 = .ok (.iload_n 1, 1) := by decide +kernel
theorem dX9_read_2 : decode cX9_read 2 = .ok (.invokevirtual 42, 3) := by decide +kernel
theorem dX9_read_5 : decode cX9_read 5 = .ok (.aload_n 0, 1) := by decide +kernel
theorem dX9_read_6 : decode cX9_read 6 = .ok (.aload_n 0, 1) := by decide +kernel
theorem dX9_read_7 : decode cX9_read 7 = .ok (.getfield 32, 3) := by decide +kernel
theorem dX9_read_10 : decode cX9_read 10 = .ok (.iconst 3, 1) := by decide +kernel
theorem dX9_read_11 : decode cX9_read 11 = .ok (.iadd, 1) := by decide +kernel
theorem dX9_read_12 : decode cX9_read 12 = .ok (.putfield 32, 3) := by decide +kernel
theorem dX9_read_15 : decode cX9_read 15 = .ok (.aload_n 0, 1) := by decide +kernel
theorem dX9_read_16 : decode cX9_read 16 = .ok (.getfield 7, 3) := by decide +kernel
theorem dX9_read_19 : decode cX9_read 19 = .ok (.iload_n 1, 1) := by decide +kernel
theorem dX9_read_20 : decode cX9_read 20 = .ok (.sipush 4095, 3) := by decide +kernel
theorem dX9_read_23 : decode cX9_read 23 = .ok (.iand, 1) := by decide +kernel
theorem dX9_read_24 : decode cX9_read 24 = .ok (.iaload, 1) := by decide +kernel
theorem dX9_read_25 : decode cX9_read 25 = .ok (.ireturn, 1) := by decide +kernel
def fX9_read (p1 : Int32) (s0 : zS) : Option (Int32 × zS) := bd (fX9_open p1 s0) fun s2 => gd (0 ≤ (p1 &&& (4095 : Int32)) ∧ (p1 &&& (4095 : Int32)) < 4096) <| some (((st1 s2 3 ((s2.1 3) + (3 : Int32))).2 0 ((p1 &&& (4095 : Int32)).toNatClampNeg)), (st1 s2 3 ((s2.1 3) + (3 : Int32))))
set_option maxHeartbeats 4000000 in
set_option maxRecDepth 100000 in
theorem cX9_read_m {l : Launch} {dC : Nat → ClassId} {dI : Nat → Nat → Nat} {ad : Nat → Nat} {cI : ClassId} {p1 : Int32} {s0 : zS} {zr : Int32} {zs : zS} (h : fX9_read p1 s0 = some (zr, zs)) : sw_Mi l yX9_read (sw_ws yX9_read cX9_read 2 (some .int)) (sw_rm 2 43) (dC, dI) vwCl [(cI, .int)] mF [.ref (ad 0), .int p1] (mW ad cI s0) (mW ad cI zs) zr := by
  intro sz
  refine sw_of (cc := cX9_read) (maxL := 2) (ret := (some .int)) (by decide) rfl (Nat.le_of_ble_eq_true rfl) ?_
  intro p e s m args below meth c A ls hAe hsz X _ hP hD hS hl
  rw [hAe]
  have hx := X.1.1
  have hb := X.1.2.1
  have hown := X.1.2.2.2.1
  have hts := X.1.2.2.2.2
  replace hl : lv_has ls 2 [(0, .ref (ad 0)), (1, .int p1)] := hl
  unfold fX9_read at h
  refine lv_aload_n hx hb dX9_read_0 rfl (lv_at hl 0 rfl) ?_
  refine lv_iload_n hx hb dX9_read_1 rfl (lv_at hl 1 rfl) ?_
  have hq := bd_some h; clear h; obtain ⟨s2, h1, h⟩ := hq
  refine sw_vv (rest := []) m_good X (cX9_open_m h1) calX9_open k_846 hP hD hS 0 9 rfl rfl rfl ⟨rfl, rfl⟩ rfl hl.1 rfl (Nat.le_of_ble_eq_true rfl) dX9_read_2 (fun H locs hP hD hS => ?_)
  refine lv_aload_n hx hb dX9_read_5 rfl (lv_at hl 0 rfl) ?_
  refine lv_aload_n hx hb dX9_read_6 rfl (lv_at hl 0 rfl) ?_
  refine mg_0_6 X hP k_763 dX9_read_7 ?_
  refine lv_iconst (v := (3 : Int32)) hx hb dX9_read_10 (by decide) ?_
  refine lv_iadd hx hb dX9_read_11 ?_
  refine mp_0_6 X hP hD hS k_763 dX9_read_12 (fun H locs hP hD hS => ?_)
  refine lv_aload_n hx hb dX9_read_15 rfl (lv_at hl 0 rfl) ?_
  refine mg_0_1 X hP k_758 dX9_read_16 ?_
  refine lv_iload_n hx hb dX9_read_19 rfl (lv_at hl 1 rfl) ?_
  refine lv_sipush (v := (4095 : Int32)) hx hb dX9_read_20 (by decide) ?_
  refine lv_iand hx hb dX9_read_23 ?_
  have hq := gd_some h; clear h; obtain ⟨c3, h⟩ := hq
  refine ml_0 X hP (vin_in c3 (by decide)) dX9_read_24 ?_
  obtain ⟨rfl, rfl⟩ := Prod.mk.inj (Option.some.inj h)
  exact sw_iret X hP hD hS dX9_read_25
theorem dX9_write_0 : decode cX9_write 0 = .ok (.aload_n 0, 1) := by decide +kernel
theorem dX9_write_1 : decode cX9_write 1 = .ok (.iload_n 1, 1) := by decide +kernel
theorem dX9_write_2 : decode cX9_write 2 = .ok (.invokevirtual 42, 3) := by decide +kernel
theorem dX9_write_5 : decode cX9_write 5 = .ok (.aload_n 0, 1) := by decide +kernel
theorem dX9_write_6 : decode cX9_write 6 = .ok (.aload_n 0, 1) := by decide +kernel
theorem dX9_write_7 : decode cX9_write 7 = .ok (.getfield 32, 3) := by decide +kernel
theorem dX9_write_10 : decode cX9_write 10 = .ok (.iconst 3, 1) := by decide +kernel
theorem dX9_write_11 : decode cX9_write 11 = .ok (.iadd, 1) := by decide +kernel
theorem dX9_write_12 : decode cX9_write 12 = .ok (.putfield 32, 3) := by decide +kernel
theorem dX9_write_15 : decode cX9_write 15 = .ok (.iload_n 1, 1) := by decide +kernel
theorem dX9_write_16 : decode cX9_write 16 = .ok (.sipush 4095, 3) := by decide +kernel
theorem dX9_write_19 : decode cX9_write 19 = .ok (.iand, 1) := by decide +kernel
theorem dX9_write_20 : decode cX9_write 20 = .ok (.sipush 1023, 3) := by decide +kernel
theorem dX9_write_23 : decode cX9_write 23 = .ok (.if_icmp .le 18, 3) := by decide +kernel
theorem dX9_write_26 : decode cX9_write 26 = .ok (.aload_n 0, 1) := by decide +kernel
theorem dX9_write_27 : decode cX9_write 27 = .ok (.getfield 7, 3) := by decide +kernel
theorem dX9_write_30 : decode cX9_write 30 = .ok (.iload_n 1, 1) := by decide +kernel
theorem dX9_write_31 : decode cX9_write 31 = .ok (.sipush 4095, 3) := by decide +kernel
theorem dX9_write_34 : decode cX9_write 34 = .ok (.iand, 1) := by decide +kernel
theorem dX9_write_35 : decode cX9_write 35 = .ok (.iload_n 2, 1) := by decide +kernel
theorem dX9_write_36 : decode cX9_write 36 = .ok (.sipush 255, 3) := by decide +kernel
theorem dX9_write_39 : decode cX9_write 39 = .ok (.iand, 1) := by decide +kernel
theorem dX9_write_40 : decode cX9_write 40 = .ok (.iastore, 1) := by decide +kernel
theorem dX9_write_41 : decode cX9_write 41 = .ok (.return_, 1) := by decide +kernel
def fX9_write (p1 p2 : Int32) (s0 : zS) : Option (zS) := bd (fX9_open p1 s0) fun s2 => if (p1 &&& (4095 : Int32)) ≤ (1023 : Int32) then (some (st1 s2 3 ((s2.1 3) + (3 : Int32)))) else (gd (0 ≤ (p1 &&& (4095 : Int32)) ∧ (p1 &&& (4095 : Int32)) < 4096) <| some (st2 (st1 s2 3 ((s2.1 3) + (3 : Int32))) 0 ((p1 &&& (4095 : Int32)).toNatClampNeg) (p2 &&& (255 : Int32))))
set_option maxHeartbeats 4000000 in
set_option maxRecDepth 100000 in
theorem cX9_write_m {l : Launch} {dC : Nat → ClassId} {dI : Nat → Nat → Nat} {ad : Nat → Nat} {cI : ClassId} {p1 p2 : Int32} {s0 : zS} {zs : zS} (h : fX9_write p1 p2 s0 = some zs) : sw_Mv l yX9_write (sw_ws yX9_write cX9_write 3 none) (sw_rm 2 43) (dC, dI) vwCl [(cI, .int)] mF [.ref (ad 0), .int p1, .int p2] (mW ad cI s0) (mW ad cI zs) := by
  intro sz
  refine sw_of (cc := cX9_write) (maxL := 3) (ret := none) (by decide) rfl (Nat.le_of_ble_eq_true rfl) ?_
  intro p e s m args below meth c A ls hAe hsz X _ hP hD hS hl
  rw [hAe]
  have hx := X.1.1
  have hb := X.1.2.1
  have hown := X.1.2.2.2.1
  have hts := X.1.2.2.2.2
  replace hl : lv_has ls 3 [(0, .ref (ad 0)), (1, .int p1), (2, .int p2)] := hl
  unfold fX9_write at h
  refine lv_aload_n hx hb dX9_write_0 rfl (lv_at hl 0 rfl) ?_
  refine lv_iload_n hx hb dX9_write_1 rfl (lv_at hl 1 rfl) ?_
  have hq := bd_some h; clear h; obtain ⟨s2, h1, h⟩ := hq
  refine sw_vv (rest := []) m_good X (cX9_open_m h1) calX9_open k_846 hP hD hS 0 9 rfl rfl rfl ⟨rfl, rfl⟩ rfl hl.1 rfl (Nat.le_of_ble_eq_true rfl) dX9_write_2 (fun H locs hP hD hS => ?_)
  refine lv_aload_n hx hb dX9_write_5 rfl (lv_at hl 0 rfl) ?_
  refine lv_aload_n hx hb dX9_write_6 rfl (lv_at hl 0 rfl) ?_
  refine mg_0_6 X hP k_763 dX9_write_7 ?_
  refine lv_iconst (v := (3 : Int32)) hx hb dX9_write_10 (by decide) ?_
  refine lv_iadd hx hb dX9_write_11 ?_
  refine mp_0_6 X hP hD hS k_763 dX9_write_12 (fun H locs hP hD hS => ?_)
  refine lv_iload_n hx hb dX9_write_15 rfl (lv_at hl 1 rfl) ?_
  refine lv_sipush (v := (4095 : Int32)) hx hb dX9_write_16 (by decide) ?_
  refine lv_iand hx hb dX9_write_19 ?_
  refine lv_sipush (v := (1023 : Int32)) hx hb dX9_write_20 (by decide) ?_
  refine lv_icmp_le (tgt := 41) hx hb dX9_write_23 (by decide) (fun c3 => ?_) (fun c3 => ?_)
  · replace h := if_yes h c3
    obtain rfl := Option.some.inj h
    exact sw_vret X hP hD hS dX9_write_41
  · replace h := if_no h c3
    refine lv_aload_n hx hb dX9_write_26 rfl (lv_at hl 0 rfl) ?_
    refine mg_0_1 X hP k_758 dX9_write_27 ?_
    refine lv_iload_n hx hb dX9_write_30 rfl (lv_at hl 1 rfl) ?_
    refine lv_sipush (v := (4095 : Int32)) hx hb dX9_write_31 (by decide) ?_
    refine lv_iand hx hb dX9_write_34 ?_
    refine lv_iload_n hx hb dX9_write_35 rfl (lv_at hl 2 rfl) ?_
    refine lv_sipush (v := (255 : Int32)) hx hb dX9_write_36 (by decide) ?_
    refine lv_iand hx hb dX9_write_39 ?_
    have hq := gd_some h; clear h; obtain ⟨c4, h⟩ := hq
    refine mb_0 X hP hD hS (vin_in c4 (by decide)) dX9_write_40 (fun H locs hP hD hS => ?_)
    obtain rfl := Option.some.inj h
    exact sw_vret X hP hD hS dX9_write_41
theorem dX9_fetch_0 : decode cX9_fetch 0 = .ok (.aload_n 0, 1) := by decide +kernel
theorem dX9_fetch_1 : decode cX9_fetch 1 = .ok (.aload_n 0, 1) := by decide +kernel
theorem dX9_fetch_2 : decode cX9_fetch 2 = .ok (.getfield 46, 3) := by decide +kernel
theorem dX9_fetch_5 : decode cX9_fetch 5 = .ok (.invokevirtual 42, 3) := by decide +kernel
theorem dX9_fetch_8 : decode cX9_fetch 8 = .ok (.aload_n 0, 1) := by decide +kernel
theorem dX9_fetch_9 : decode cX9_fetch 9 = .ok (.aload_n 0, 1) := by decide +kernel
theorem dX9_fetch_10 : decode cX9_fetch 10 = .ok (.getfield 32, 3) := by decide +kernel
theorem dX9_fetch_13 : decode cX9_fetch 13 = .ok (.iconst 4, 1) := by decide +kernel
theorem dX9_fetch_14 : decode cX9_fetch 14 = .ok (.iadd, 1) := by decide +kernel
theorem dX9_fetch_15 : decode cX9_fetch 15 = .ok (.putfield 32, 3) := by decide +kernel
theorem dX9_fetch_18 : decode cX9_fetch 18 = .ok (.aload_n 0, 1) := by decide +kernel
theorem dX9_fetch_19 : decode cX9_fetch 19 = .ok (.getfield 7, 3) := by decide +kernel
theorem dX9_fetch_22 : decode cX9_fetch 22 = .ok (.aload_n 0, 1) := by decide +kernel
theorem dX9_fetch_23 : decode cX9_fetch 23 = .ok (.getfield 46, 3) := by decide +kernel
theorem dX9_fetch_26 : decode cX9_fetch 26 = .ok (.sipush 4095, 3) := by decide +kernel
theorem dX9_fetch_29 : decode cX9_fetch 29 = .ok (.iand, 1) := by decide +kernel
theorem dX9_fetch_30 : decode cX9_fetch 30 = .ok (.iaload, 1) := by decide +kernel
theorem dX9_fetch_31 : decode cX9_fetch 31 = .ok (.istore_n 1, 1) := by decide +kernel
theorem dX9_fetch_32 : decode cX9_fetch 32 = .ok (.aload_n 0, 1) := by decide +kernel
theorem dX9_fetch_33 : decode cX9_fetch 33 = .ok (.aload_n 0, 1) := by decide +kernel
theorem dX9_fetch_34 : decode cX9_fetch 34 = .ok (.getfield 46, 3) := by decide +kernel
theorem dX9_fetch_37 : decode cX9_fetch 37 = .ok (.iconst 1, 1) := by decide +kernel
theorem dX9_fetch_38 : decode cX9_fetch 38 = .ok (.iadd, 1) := by decide +kernel
theorem dX9_fetch_39 : decode cX9_fetch 39 = .ok (.ldc 49, 2) := by decide +kernel
theorem dX9_fetch_41 : decode cX9_fetch 41 = .ok (.iand, 1) := by decide +kernel
theorem dX9_fetch_42 : decode cX9_fetch 42 = .ok (.putfield 46, 3) := by decide +kernel
theorem dX9_fetch_45 : decode cX9_fetch 45 = .ok (.iload_n 1, 1) := by decide +kernel
theorem dX9_fetch_46 : decode cX9_fetch 46 = .ok (.ireturn, 1) := by decide +kernel
def fX9_fetch (s0 : zS) : Option (Int32 × zS) := bd (fX9_open (s0.1 2) s0) fun s2 => gd (0 ≤ (((st1 s2 3 ((s2.1 3) + (4 : Int32))).1 2) &&& (4095 : Int32)) ∧ (((st1 s2 3 ((s2.1 3) + (4 : Int32))).1 2) &&& (4095 : Int32)) < 4096) <| nm ((st1 s2 3 ((s2.1 3) + (4 : Int32))).2 0 ((((st1 s2 3 ((s2.1 3) + (4 : Int32))).1 2) &&& (4095 : Int32)).toNatClampNeg)) fun x4 => some (x4, (st1 (st1 s2 3 ((s2.1 3) + (4 : Int32))) 2 ((((st1 s2 3 ((s2.1 3) + (4 : Int32))).1 2) + (1 : Int32)) &&& (65535 : Int32))))
set_option maxHeartbeats 4000000 in
set_option maxRecDepth 100000 in
theorem cX9_fetch_m {l : Launch} {dC : Nat → ClassId} {dI : Nat → Nat → Nat} {ad : Nat → Nat} {cI : ClassId} {s0 : zS} {zr : Int32} {zs : zS} (h : fX9_fetch  s0 = some (zr, zs)) : sw_Mi l yX9_fetch (sw_ws yX9_fetch cX9_fetch 2 (some .int)) (sw_rm 2 43) (dC, dI) vwCl [(cI, .int)] mF [.ref (ad 0)] (mW ad cI s0) (mW ad cI zs) zr := by
  intro sz
  refine sw_of (cc := cX9_fetch) (maxL := 2) (ret := (some .int)) (by decide) rfl (Nat.le_of_ble_eq_true rfl) ?_
  intro p e s m args below meth c A ls hAe hsz X _ hP hD hS hl
  rw [hAe]
  have hx := X.1.1
  have hb := X.1.2.1
  have hown := X.1.2.2.2.1
  have hts := X.1.2.2.2.2
  replace hl : lv_has ls 2 [(0, .ref (ad 0))] := hl
  unfold fX9_fetch at h
  refine lv_aload_n hx hb dX9_fetch_0 rfl (lv_at hl 0 rfl) ?_
  refine lv_aload_n hx hb dX9_fetch_1 rfl (lv_at hl 0 rfl) ?_
  refine mg_0_5 X hP k_762 dX9_fetch_2 ?_
  have hq := bd_some h; clear h; obtain ⟨s2, h1, h⟩ := hq
  refine sw_vv (rest := []) m_good X (cX9_open_m h1) calX9_open k_846 hP hD hS 0 9 rfl rfl rfl ⟨rfl, rfl⟩ rfl hl.1 rfl (Nat.le_of_ble_eq_true rfl) dX9_fetch_5 (fun H locs hP hD hS => ?_)
  refine lv_aload_n hx hb dX9_fetch_8 rfl (lv_at hl 0 rfl) ?_
  refine lv_aload_n hx hb dX9_fetch_9 rfl (lv_at hl 0 rfl) ?_
  refine mg_0_6 X hP k_763 dX9_fetch_10 ?_
  refine lv_iconst (v := (4 : Int32)) hx hb dX9_fetch_13 (by decide) ?_
  refine lv_iadd hx hb dX9_fetch_14 ?_
  refine mp_0_6 X hP hD hS k_763 dX9_fetch_15 (fun H locs hP hD hS => ?_)
  refine lv_aload_n hx hb dX9_fetch_18 rfl (lv_at hl 0 rfl) ?_
  refine mg_0_1 X hP k_758 dX9_fetch_19 ?_
  refine lv_aload_n hx hb dX9_fetch_22 rfl (lv_at hl 0 rfl) ?_
  refine mg_0_5 X hP k_762 dX9_fetch_23 ?_
  refine lv_sipush (v := (4095 : Int32)) hx hb dX9_fetch_26 (by decide) ?_
  refine lv_iand hx hb dX9_fetch_29 ?_
  have hq := gd_some h; clear h; obtain ⟨c3, h⟩ := hq
  refine ml_0 X hP (vin_in c3 (by decide)) dX9_fetch_30 ?_
  refine lv_topi (fun x4 ex4 => ?_)
  replace h := nm_use ex4 h
  refine lv_istore_n (lv' := [(1, .int x4), (0, .ref (ad 0))]) hx hb dX9_fetch_31 rfl hl (by decide) rfl (fun ls hl => ?_)
  refine lv_aload_n hx hb dX9_fetch_32 rfl (lv_at hl 1 rfl) ?_
  refine lv_aload_n hx hb dX9_fetch_33 rfl (lv_at hl 1 rfl) ?_
  refine mg_0_5 X hP k_762 dX9_fetch_34 ?_
  refine lv_iconst (v := (1 : Int32)) hx hb dX9_fetch_37 (by decide) ?_
  refine lv_iadd hx hb dX9_fetch_38 ?_
  refine lv_ldc (v := 65535) hx hb hown (hts _ (List.mem_cons_of_mem _ k_841)) dX9_fetch_39 ?_
  refine lv_iand hx hb dX9_fetch_41 ?_
  refine mp_0_5 X hP hD hS k_762 dX9_fetch_42 (fun H locs hP hD hS => ?_)
  refine lv_iload_n hx hb dX9_fetch_45 rfl (lv_at hl 0 rfl) ?_
  obtain ⟨rfl, rfl⟩ := Prod.mk.inj (Option.some.inj h)
  exact sw_iret X hP hD hS dX9_fetch_46
theorem dX9_next_0 : decode cX9_next 0 = .ok (.aload_n 0, 1) := by decide +kernel
theorem dX9_next_1 : decode cX9_next 1 = .ok (.aload_n 0, 1) := by decide +kernel
theorem dX9_next_2 : decode cX9_next 2 = .ok (.getfield 46, 3) := by decide +kernel
theorem dX9_next_5 : decode cX9_next 5 = .ok (.invokevirtual 50, 3) := by decide +kernel
theorem dX9_next_8 : decode cX9_next 8 = .ok (.istore_n 1, 1) := by decide +kernel
theorem dX9_next_9 : decode cX9_next 9 = .ok (.aload_n 0, 1) := by decide +kernel
theorem dX9_next_10 : decode cX9_next 10 = .ok (.aload_n 0, 1) := by decide +kernel
theorem dX9_next_11 : decode cX9_next 11 = .ok (.getfield 46, 3) := by decide +kernel
theorem dX9_next_14 : decode cX9_next 14 = .ok (.iconst 1, 1) := by decide +kernel
theorem dX9_next_15 : decode cX9_next 15 = .ok (.iadd, 1) := by decide +kernel
theorem dX9_next_16 : decode cX9_next 16 = .ok (.ldc 49, 2) := by decide +kernel
theorem dX9_next_18 : decode cX9_next 18 = .ok (.iand, 1) := by decide +kernel
theorem dX9_next_19 : decode cX9_next 19 = .ok (.putfield 46, 3) := by decide +kernel
theorem dX9_next_22 : decode cX9_next 22 = .ok (.iload_n 1, 1) := by decide +kernel
theorem dX9_next_23 : decode cX9_next 23 = .ok (.ireturn, 1) := by decide +kernel
def fX9_next (s0 : zS) : Option (Int32 × zS) := bd2 (fX9_read (s0.1 2) s0) fun r2 s3 => some (r2, (st1 s3 2 (((s3.1 2) + (1 : Int32)) &&& (65535 : Int32))))
set_option maxHeartbeats 4000000 in
set_option maxRecDepth 100000 in
theorem cX9_next_m {l : Launch} {dC : Nat → ClassId} {dI : Nat → Nat → Nat} {ad : Nat → Nat} {cI : ClassId} {s0 : zS} {zr : Int32} {zs : zS} (h : fX9_next  s0 = some (zr, zs)) : sw_Mi l yX9_next (sw_ws yX9_next cX9_next 2 (some .int)) (sw_rm 3 64) (dC, dI) vwCl [(cI, .int)] mF [.ref (ad 0)] (mW ad cI s0) (mW ad cI zs) zr := by
  intro sz
  refine sw_of (cc := cX9_next) (maxL := 2) (ret := (some .int)) (by decide) rfl (Nat.le_of_ble_eq_true rfl) ?_
  intro p e s m args below meth c A ls hAe hsz X _ hP hD hS hl
  rw [hAe]
  have hx := X.1.1
  have hb := X.1.2.1
  have hown := X.1.2.2.2.1
  have hts := X.1.2.2.2.2
  replace hl : lv_has ls 2 [(0, .ref (ad 0))] := hl
  unfold fX9_next at h
  refine lv_aload_n hx hb dX9_next_0 rfl (lv_at hl 0 rfl) ?_
  refine lv_aload_n hx hb dX9_next_1 rfl (lv_at hl 0 rfl) ?_
  refine mg_0_5 X hP k_762 dX9_next_2 ?_
  have hq := bd2_some h; clear h; obtain ⟨r2, s3, h1, h⟩ := hq
  refine sw_vi (rest := []) m_good X (cX9_read_m h1) calX9_read k_882 hP hD hS 0 9 rfl rfl rfl ⟨rfl, rfl⟩ rfl hl.1 rfl (Nat.le_of_ble_eq_true rfl) dX9_next_5 (fun H locs hP hD hS => ?_)
  refine lv_istore_n (lv' := [(1, .int r2), (0, .ref (ad 0))]) hx hb dX9_next_8 rfl hl (by decide) rfl (fun ls hl => ?_)
  refine lv_aload_n hx hb dX9_next_9 rfl (lv_at hl 1 rfl) ?_
  refine lv_aload_n hx hb dX9_next_10 rfl (lv_at hl 1 rfl) ?_
  refine mg_0_5 X hP k_762 dX9_next_11 ?_
  refine lv_iconst (v := (1 : Int32)) hx hb dX9_next_14 (by decide) ?_
  refine lv_iadd hx hb dX9_next_15 ?_
  refine lv_ldc (v := 65535) hx hb hown (hts _ (List.mem_cons_of_mem _ k_841)) dX9_next_16 ?_
  refine lv_iand hx hb dX9_next_18 ?_
  refine mp_0_5 X hP hD hS k_762 dX9_next_19 (fun H locs hP hD hS => ?_)
  refine lv_iload_n hx hb dX9_next_22 rfl (lv_at hl 0 rfl) ?_
  obtain ⟨rfl, rfl⟩ := Prod.mk.inj (Option.some.inj h)
  exact sw_iret X hP hD hS dX9_next_23
theorem dX9_nextPair_0 : decode cX9_nextPair 0 = .ok (.aload_n 0, 1) := by decide +kernel
theorem dX9_nextPair_1 : decode cX9_nextPair 1 = .ok (.invokevirtual 54, 3) := by decide +kernel
theorem dX9_nextPair_4 : decode cX9_nextPair 4 = .ok (.istore_n 1, 1) := by decide +kernel
theorem dX9_nextPair_5 : decode cX9_nextPair 5 = .ok (.iload_n 1, 1) := by decide +kernel
theorem dX9_nextPair_6 : decode cX9_nextPair 6 = .ok (.aload_n 0, 1) := by decide +kernel
theorem dX9_nextPair_7 : decode cX9_nextPair 7 = .ok (.invokevirtual 54, 3) := by decide +kernel
theorem dX9_nextPair_10 : decode cX9_nextPair 10 = .ok (.bipush 8, 2) := by decide +kernel
theorem dX9_nextPair_12 : decode cX9_nextPair 12 = .ok (.ishl, 1) := by decide +kernel
theorem dX9_nextPair_13 : decode cX9_nextPair 13 = .ok (.ior, 1) := by decide +kernel
theorem dX9_nextPair_14 : decode cX9_nextPair 14 = .ok (.ireturn, 1) := by decide +kernel
def fX9_nextPair (s0 : zS) : Option (Int32 × zS) := bd2 (fX9_next  s0) fun r2 s3 => bd2 (fX9_next  s3) fun r5 s6 => some ((r2 ||| (r5 <<< ((8 : Int32) &&& 31))), s6)
set_option maxHeartbeats 4000000 in
set_option maxRecDepth 100000 in
theorem cX9_nextPair_m {l : Launch} {dC : Nat → ClassId} {dI : Nat → Nat → Nat} {ad : Nat → Nat} {cI : ClassId} {s0 : zS} {zr : Int32} {zs : zS} (h : fX9_nextPair  s0 = some (zr, zs)) : sw_Mi l yX9_nextPair (sw_ws yX9_nextPair cX9_nextPair 2 (some .int)) (sw_rm 4 85) (dC, dI) vwCl [(cI, .int)] mF [.ref (ad 0)] (mW ad cI s0) (mW ad cI zs) zr := by
  intro sz
  refine sw_of (cc := cX9_nextPair) (maxL := 2) (ret := (some .int)) (by decide) rfl (Nat.le_of_ble_eq_true rfl) ?_
  intro p e s m args below meth c A ls hAe hsz X _ hP hD hS hl
  rw [hAe]
  have hx := X.1.1
  have hb := X.1.2.1
  have hown := X.1.2.2.2.1
  have hts := X.1.2.2.2.2
  replace hl : lv_has ls 2 [(0, .ref (ad 0))] := hl
  unfold fX9_nextPair at h
  refine lv_aload_n hx hb dX9_nextPair_0 rfl (lv_at hl 0 rfl) ?_
  have hq := bd2_some h; clear h; obtain ⟨r2, s3, h1, h⟩ := hq
  refine sw_vi (rest := []) m_good X (cX9_next_m h1) calX9_next k_878 hP hD hS 0 9 rfl rfl rfl ⟨rfl, rfl⟩ rfl hl.1 rfl (Nat.le_of_ble_eq_true rfl) dX9_nextPair_1 (fun H locs hP hD hS => ?_)
  refine lv_istore_n (lv' := [(1, .int r2), (0, .ref (ad 0))]) hx hb dX9_nextPair_4 rfl hl (by decide) rfl (fun ls hl => ?_)
  refine lv_iload_n hx hb dX9_nextPair_5 rfl (lv_at hl 0 rfl) ?_
  refine lv_aload_n hx hb dX9_nextPair_6 rfl (lv_at hl 1 rfl) ?_
  have hq := bd2_some h; clear h; obtain ⟨r5, s6, h4, h⟩ := hq
  refine sw_vi (rest := [.int r2]) m_good X (cX9_next_m h4) calX9_next k_878 hP hD hS 0 9 rfl rfl rfl ⟨rfl, rfl⟩ rfl hl.1 rfl (Nat.le_of_ble_eq_true rfl) dX9_nextPair_7 (fun H locs hP hD hS => ?_)
  refine lv_bipush (v := (8 : Int32)) hx hb dX9_nextPair_10 (by decide) ?_
  refine lv_ishl hx hb dX9_nextPair_12 ?_
  refine lv_ior hx hb dX9_nextPair_13 ?_
  obtain ⟨rfl, rfl⟩ := Prod.mk.inj (Option.some.inj h)
  exact sw_iret X hP hD hS dX9_nextPair_14
theorem dX9_readPair_0 : decode cX9_readPair 0 = .ok (.aload_n 0, 1) := by decide +kernel
theorem dX9_readPair_1 : decode cX9_readPair 1 = .ok (.iload_n 1, 1) := by decide +kernel
theorem dX9_readPair_2 : decode cX9_readPair 2 = .ok (.invokevirtual 50, 3) := by decide +kernel
theorem dX9_readPair_5 : decode cX9_readPair 5 = .ok (.istore_n 2, 1) := by decide +kernel
theorem dX9_readPair_6 : decode cX9_readPair 6 = .ok (.iload_n 2, 1) := by decide +kernel
theorem dX9_readPair_7 : decode cX9_readPair 7 = .ok (.aload_n 0, 1) := by decide +kernel
theorem dX9_readPair_8 : decode cX9_readPair 8 = .ok (.iload_n 1, 1) := by decide +kernel
theorem dX9_readPair_9 : decode cX9_readPair 9 = .ok (.iconst 1, 1) := by decide +kernel
theorem dX9_readPair_10 : decode cX9_readPair 10 = .ok (.iadd, 1) := by decide +kernel
theorem dX9_readPair_11 : decode cX9_readPair 11 = .ok (.invokevirtual 50, 3) := by decide +kernel
theorem dX9_readPair_14 : decode cX9_readPair 14 = .ok (.bipush 8, 2) := by decide +kernel
theorem dX9_readPair_16 : decode cX9_readPair 16 = .ok (.ishl, 1) := by decide +kernel
theorem dX9_readPair_17 : decode cX9_readPair 17 = .ok (.ior, 1) := by decide +kernel
theorem dX9_readPair_18 : decode cX9_readPair 18 = .ok (.ireturn, 1) := by decide +kernel
def fX9_readPair (p1 : Int32) (s0 : zS) : Option (Int32 × zS) := bd2 (fX9_read p1 s0) fun r2 s3 => bd2 (fX9_read (p1 + (1 : Int32)) s3) fun r5 s6 => some ((r2 ||| (r5 <<< ((8 : Int32) &&& 31))), s6)
set_option maxHeartbeats 4000000 in
set_option maxRecDepth 100000 in
theorem cX9_readPair_m {l : Launch} {dC : Nat → ClassId} {dI : Nat → Nat → Nat} {ad : Nat → Nat} {cI : ClassId} {p1 : Int32} {s0 : zS} {zr : Int32} {zs : zS} (h : fX9_readPair p1 s0 = some (zr, zs)) : sw_Mi l yX9_readPair (sw_ws yX9_readPair cX9_readPair 3 (some .int)) (sw_rm 3 64) (dC, dI) vwCl [(cI, .int)] mF [.ref (ad 0), .int p1] (mW ad cI s0) (mW ad cI zs) zr := by
  intro sz
  refine sw_of (cc := cX9_readPair) (maxL := 3) (ret := (some .int)) (by decide) rfl (Nat.le_of_ble_eq_true rfl) ?_
  intro p e s m args below meth c A ls hAe hsz X _ hP hD hS hl
  rw [hAe]
  have hx := X.1.1
  have hb := X.1.2.1
  have hown := X.1.2.2.2.1
  have hts := X.1.2.2.2.2
  replace hl : lv_has ls 3 [(0, .ref (ad 0)), (1, .int p1)] := hl
  unfold fX9_readPair at h
  refine lv_aload_n hx hb dX9_readPair_0 rfl (lv_at hl 0 rfl) ?_
  refine lv_iload_n hx hb dX9_readPair_1 rfl (lv_at hl 1 rfl) ?_
  have hq := bd2_some h; clear h; obtain ⟨r2, s3, h1, h⟩ := hq
  refine sw_vi (rest := []) m_good X (cX9_read_m h1) calX9_read k_882 hP hD hS 0 9 rfl rfl rfl ⟨rfl, rfl⟩ rfl hl.1 rfl (Nat.le_of_ble_eq_true rfl) dX9_readPair_2 (fun H locs hP hD hS => ?_)
  refine lv_istore_n (lv' := [(2, .int r2), (0, .ref (ad 0)), (1, .int p1)]) hx hb dX9_readPair_5 rfl hl (by decide) rfl (fun ls hl => ?_)
  refine lv_iload_n hx hb dX9_readPair_6 rfl (lv_at hl 0 rfl) ?_
  refine lv_aload_n hx hb dX9_readPair_7 rfl (lv_at hl 1 rfl) ?_
  refine lv_iload_n hx hb dX9_readPair_8 rfl (lv_at hl 2 rfl) ?_
  refine lv_iconst (v := (1 : Int32)) hx hb dX9_readPair_9 (by decide) ?_
  refine lv_iadd hx hb dX9_readPair_10 ?_
  have hq := bd2_some h; clear h; obtain ⟨r5, s6, h4, h⟩ := hq
  refine sw_vi (rest := [.int r2]) m_good X (cX9_read_m h4) calX9_read k_882 hP hD hS 0 9 rfl rfl rfl ⟨rfl, rfl⟩ rfl hl.1 rfl (Nat.le_of_ble_eq_true rfl) dX9_readPair_11 (fun H locs hP hD hS => ?_)
  refine lv_bipush (v := (8 : Int32)) hx hb dX9_readPair_14 (by decide) ?_
  refine lv_ishl hx hb dX9_readPair_16 ?_
  refine lv_ior hx hb dX9_readPair_17 ?_
  obtain ⟨rfl, rfl⟩ := Prod.mk.inj (Option.some.inj h)
  exact sw_iret X hP hD hS dX9_readPair_18
theorem dX9_push_0 : decode cX9_push 0 = .ok (.aload_n 0, 1) := by decide +kernel
theorem dX9_push_1 : decode cX9_push 1 = .ok (.aload_n 0, 1) := by decide +kernel
theorem dX9_push_2 : decode cX9_push 2 = .ok (.getfield 58, 3) := by decide +kernel
theorem dX9_push_5 : decode cX9_push 5 = .ok (.iconst 1, 1) := by decide +kernel
theorem dX9_push_6 : decode cX9_push 6 = .ok (.isub, 1) := by decide +kernel
theorem dX9_push_7 : decode cX9_push 7 = .ok (.ldc 49, 2) := by decide +kernel
theorem dX9_push_9 : decode cX9_push 9 = .ok (.iand, 1) := by decide +kernel
theorem dX9_push_10 : decode cX9_push 10 = .ok (.putfield 58, 3) := by decide +kernel
theorem dX9_push_13 : decode cX9_push 13 = .ok (.aload_n 0, 1) := by decide +kernel
theorem dX9_push_14 : decode cX9_push 14 = .ok (.aload_n 0, 1) := by decide +kernel
theorem dX9_push_15 : decode cX9_push 15 = .ok (.getfield 58, 3) := by decide +kernel
theorem dX9_push_18 : decode cX9_push 18 = .ok (.iload_n 1, 1) := by decide +kernel
theorem dX9_push_19 : decode cX9_push 19 = .ok (.bipush 8, 2) := by decide +kernel
theorem dX9_push_21 : decode cX9_push 21 = .ok (.ishr, 1) := by decide +kernel
theorem dX9_push_22 : decode cX9_push 22 = .ok (.invokevirtual 61, 3) := by decide +kernel
theorem dX9_push_25 : decode cX9_push 25 = .ok (.aload_n 0, 1) := by decide +kernel
theorem dX9_push_26 : decode cX9_push 26 = .ok (.aload_n 0, 1) := by decide +kernel
theorem dX9_push_27 : decode cX9_push 27 = .ok (.getfield 58, 3) := by decide +kernel
theorem dX9_push_30 : decode cX9_push 30 = .ok (.iconst 1, 1) := by decide +kernel
theorem dX9_push_31 : decode cX9_push 31 = .ok (.isub, 1) := by decide +kernel
theorem dX9_push_32 : decode cX9_push 32 = .ok (.ldc 49, 2) := by decide +kernel
theorem dX9_push_34 : decode cX9_push 34 = .ok (.iand, 1) := by decide +kernel
theorem dX9_push_35 : decode cX9_push 35 = .ok (.putfield 58, 3) := by decide +kernel
theorem dX9_push_38 : decode cX9_push 38 = .ok (.aload_n 0, 1) := by decide +kernel
theorem dX9_push_39 : decode cX9_push 39 = .ok (.aload_n 0, 1) := by decide +kernel
theorem dX9_push_40 : decode cX9_push 40 = .ok (.getfield 58, 3) := by decide +kernel
theorem dX9_push_43 : decode cX9_push 43 = .ok (.iload_n 1, 1) := by decide +kernel
theorem dX9_push_44 : decode cX9_push 44 = .ok (.invokevirtual 61, 3) := by decide +kernel
theorem dX9_push_47 : decode cX9_push 47 = .ok (.return_, 1) := by decide +kernel
def fX9_push (p1 : Int32) (s0 : zS) : Option (zS) := bd (fX9_write ((st1 s0 1 (((s0.1 1) - (1 : Int32)) &&& (65535 : Int32))).1 1) (p1 >>> ((8 : Int32) &&& 31)) (st1 s0 1 (((s0.1 1) - (1 : Int32)) &&& (65535 : Int32)))) fun s2 => bd (fX9_write ((st1 s2 1 (((s2.1 1) - (1 : Int32)) &&& (65535 : Int32))).1 1) p1 (st1 s2 1 (((s2.1 1) - (1 : Int32)) &&& (65535 : Int32)))) fun s4 => some s4
set_option maxHeartbeats 4000000 in
set_option maxRecDepth 100000 in
theorem cX9_push_m {l : Launch} {dC : Nat → ClassId} {dI : Nat → Nat → Nat} {ad : Nat → Nat} {cI : ClassId} {p1 : Int32} {s0 : zS} {zs : zS} (h : fX9_push p1 s0 = some zs) : sw_Mv l yX9_push (sw_ws yX9_push cX9_push 2 none) (sw_rm 3 65) (dC, dI) vwCl [(cI, .int)] mF [.ref (ad 0), .int p1] (mW ad cI s0) (mW ad cI zs) := by
  intro sz
  refine sw_of (cc := cX9_push) (maxL := 2) (ret := none) (by decide) rfl (Nat.le_of_ble_eq_true rfl) ?_
  intro p e s m args below meth c A ls hAe hsz X _ hP hD hS hl
  rw [hAe]
  have hx := X.1.1
  have hb := X.1.2.1
  have hown := X.1.2.2.2.1
  have hts := X.1.2.2.2.2
  replace hl : lv_has ls 2 [(0, .ref (ad 0)), (1, .int p1)] := hl
  unfold fX9_push at h
  refine lv_aload_n hx hb dX9_push_0 rfl (lv_at hl 0 rfl) ?_
  refine lv_aload_n hx hb dX9_push_1 rfl (lv_at hl 0 rfl) ?_
  refine mg_0_4 X hP k_761 dX9_push_2 ?_
  refine lv_iconst (v := (1 : Int32)) hx hb dX9_push_5 (by decide) ?_
  refine lv_isub hx hb dX9_push_6 ?_
  refine lv_ldc (v := 65535) hx hb hown (hts _ (List.mem_cons_of_mem _ k_841)) dX9_push_7 ?_
  refine lv_iand hx hb dX9_push_9 ?_
  refine mp_0_4 X hP hD hS k_761 dX9_push_10 (fun H locs hP hD hS => ?_)
  refine lv_aload_n hx hb dX9_push_13 rfl (lv_at hl 0 rfl) ?_
  refine lv_aload_n hx hb dX9_push_14 rfl (lv_at hl 0 rfl) ?_
  refine mg_0_4 X hP k_761 dX9_push_15 ?_
  refine lv_iload_n hx hb dX9_push_18 rfl (lv_at hl 1 rfl) ?_
  refine lv_bipush (v := (8 : Int32)) hx hb dX9_push_19 (by decide) ?_
  refine lv_ishr hx hb dX9_push_21 ?_
  have hq := bd_some h; clear h; obtain ⟨s2, h1, h⟩ := hq
  refine sw_vv (rest := []) m_good X (cX9_write_m h1) calX9_write k_842 hP hD hS 0 9 rfl rfl rfl ⟨rfl, rfl⟩ rfl hl.1 rfl (Nat.le_of_ble_eq_true rfl) dX9_push_22 (fun H locs hP hD hS => ?_)
  refine lv_aload_n hx hb dX9_push_25 rfl (lv_at hl 0 rfl) ?_
  refine lv_aload_n hx hb dX9_push_26 rfl (lv_at hl 0 rfl) ?_
  refine mg_0_4 X hP k_761 dX9_push_27 ?_
  refine lv_iconst (v := (1 : Int32)) hx hb dX9_push_30 (by decide) ?_
  refine lv_isub hx hb dX9_push_31 ?_
  refine lv_ldc (v := 65535) hx hb hown (hts _ (List.mem_cons_of_mem _ k_841)) dX9_push_32 ?_
  refine lv_iand hx hb dX9_push_34 ?_
  refine mp_0_4 X hP hD hS k_761 dX9_push_35 (fun H locs hP hD hS => ?_)
  refine lv_aload_n hx hb dX9_push_38 rfl (lv_at hl 0 rfl) ?_
  refine lv_aload_n hx hb dX9_push_39 rfl (lv_at hl 0 rfl) ?_
  refine mg_0_4 X hP k_761 dX9_push_40 ?_
  refine lv_iload_n hx hb dX9_push_43 rfl (lv_at hl 1 rfl) ?_
  have hq := bd_some h; clear h; obtain ⟨s4, h3, h⟩ := hq
  refine sw_vv (rest := []) m_good X (cX9_write_m h3) calX9_write k_842 hP hD hS 0 9 rfl rfl rfl ⟨rfl, rfl⟩ rfl hl.1 rfl (Nat.le_of_ble_eq_true rfl) dX9_push_44 (fun H locs hP hD hS => ?_)
  obtain rfl := Option.some.inj h
  exact sw_vret X hP hD hS dX9_push_47
theorem dX9_pop_0 : decode cX9_pop 0 = .ok (.aload_n 0, 1) := by decide +kernel
theorem dX9_pop_1 : decode cX9_pop 1 = .ok (.aload_n 0, 1) := by decide +kernel
theorem dX9_pop_2 : decode cX9_pop 2 = .ok (.getfield 58, 3) := by decide +kernel
theorem dX9_pop_5 : decode cX9_pop 5 = .ok (.invokevirtual 65, 3) := by decide +kernel
theorem dX9_pop_8 : decode cX9_pop 8 = .ok (.istore_n 1, 1) := by decide +kernel
theorem dX9_pop_9 : decode cX9_pop 9 = .ok (.aload_n 0, 1) := by decide +kernel
theorem dX9_pop_10 : decode cX9_pop 10 = .ok (.aload_n 0, 1) := by decide +kernel
theorem dX9_pop_11 : decode cX9_pop 11 = .ok (.getfield 58, 3) := by decide +kernel
theorem dX9_pop_14 : decode cX9_pop 14 = .ok (.iconst 2, 1) := by decide +kernel
theorem dX9_pop_15 : decode cX9_pop 15 = .ok (.iadd, 1) := by decide +kernel
theorem dX9_pop_16 : decode cX9_pop 16 = .ok (.ldc 49, 2) := by decide +kernel
theorem dX9_pop_18 : decode cX9_pop 18 = .ok (.iand, 1) := by decide +kernel
theorem dX9_pop_19 : decode cX9_pop 19 = .ok (.putfield 58, 3) := by decide +kernel
theorem dX9_pop_22 : decode cX9_pop 22 = .ok (.iload_n 1, 1) := by decide +kernel
theorem dX9_pop_23 : decode cX9_pop 23 = .ok (.ireturn, 1) := by decide +kernel
def fX9_pop (s0 : zS) : Option (Int32 × zS) := bd2 (fX9_readPair (s0.1 1) s0) fun r2 s3 => some (r2, (st1 s3 1 (((s3.1 1) + (2 : Int32)) &&& (65535 : Int32))))
set_option maxHeartbeats 4000000 in
set_option maxRecDepth 100000 in
theorem cX9_pop_m {l : Launch} {dC : Nat → ClassId} {dI : Nat → Nat → Nat} {ad : Nat → Nat} {cI : ClassId} {s0 : zS} {zr : Int32} {zs : zS} (h : fX9_pop  s0 = some (zr, zs)) : sw_Mi l yX9_pop (sw_ws yX9_pop cX9_pop 2 (some .int)) (sw_rm 4 86) (dC, dI) vwCl [(cI, .int)] mF [.ref (ad 0)] (mW ad cI s0) (mW ad cI zs) zr := by
  intro sz
  refine sw_of (cc := cX9_pop) (maxL := 2) (ret := (some .int)) (by decide) rfl (Nat.le_of_ble_eq_true rfl) ?_
  intro p e s m args below meth c A ls hAe hsz X _ hP hD hS hl
  rw [hAe]
  have hx := X.1.1
  have hb := X.1.2.1
  have hown := X.1.2.2.2.1
  have hts := X.1.2.2.2.2
  replace hl : lv_has ls 2 [(0, .ref (ad 0))] := hl
  unfold fX9_pop at h
  refine lv_aload_n hx hb dX9_pop_0 rfl (lv_at hl 0 rfl) ?_
  refine lv_aload_n hx hb dX9_pop_1 rfl (lv_at hl 0 rfl) ?_
  refine mg_0_4 X hP k_761 dX9_pop_2 ?_
  have hq := bd2_some h; clear h; obtain ⟨r2, s3, h1, h⟩ := hq
  refine sw_vi (rest := []) m_good X (cX9_readPair_m h1) calX9_readPair k_968 hP hD hS 0 9 rfl rfl rfl ⟨rfl, rfl⟩ rfl hl.1 rfl (Nat.le_of_ble_eq_true rfl) dX9_pop_5 (fun H locs hP hD hS => ?_)
  refine lv_istore_n (lv' := [(1, .int r2), (0, .ref (ad 0))]) hx hb dX9_pop_8 rfl hl (by decide) rfl (fun ls hl => ?_)
  refine lv_aload_n hx hb dX9_pop_9 rfl (lv_at hl 1 rfl) ?_
  refine lv_aload_n hx hb dX9_pop_10 rfl (lv_at hl 1 rfl) ?_
  refine mg_0_4 X hP k_761 dX9_pop_11 ?_
  refine lv_iconst (v := (2 : Int32)) hx hb dX9_pop_14 (by decide) ?_
  refine lv_iadd hx hb dX9_pop_15 ?_
  refine lv_ldc (v := 65535) hx hb hown (hts _ (List.mem_cons_of_mem _ k_841)) dX9_pop_16 ?_
  refine lv_iand hx hb dX9_pop_18 ?_
  refine mp_0_4 X hP hD hS k_761 dX9_pop_19 (fun H locs hP hD hS => ?_)
  refine lv_iload_n hx hb dX9_pop_22 rfl (lv_at hl 0 rfl) ?_
  obtain ⟨rfl, rfl⟩ := Prod.mk.inj (Option.some.inj h)
  exact sw_iret X hP hD hS dX9_pop_23
theorem dX9_pair_0 : decode cX9_pair 0 = .ok (.iload_n 1, 1) := by decide +kernel
theorem dX9_pair_1 : decode cX9_pair 1 = .ok (.iconst 3, 1) := by decide +kernel
theorem dX9_pair_2 : decode cX9_pair 2 = .ok (.if_icmp .ne 10, 3) := by decide +kernel
theorem dX9_pair_5 : decode cX9_pair 5 = .ok (.aload_n 0, 1) := by decide +kernel
theorem dX9_pair_6 : decode cX9_pair 6 = .ok (.getfield 58, 3) := by decide +kernel
theorem dX9_pair_9 : decode cX9_pair 9 = .ok (.goto 25, 3) := by decide +kernel
theorem dX9_pair_12 : decode cX9_pair 12 = .ok (.aload_n 0, 1) := by decide +kernel
theorem dX9_pair_13 : decode cX9_pair 13 = .ok (.getfield 13, 3) := by decide +kernel
theorem dX9_pair_16 : decode cX9_pair 16 = .ok (.iconst 2, 1) := by decide +kernel
theorem dX9_pair_17 : decode cX9_pair 17 = .ok (.iload_n 1, 1) := by decide +kernel
theorem dX9_pair_18 : decode cX9_pair 18 = .ok (.imul, 1) := by decide +kernel
theorem dX9_pair_19 : decode cX9_pair 19 = .ok (.iaload, 1) := by decide +kernel
theorem dX9_pair_20 : decode cX9_pair 20 = .ok (.bipush 8, 2) := by decide +kernel
theorem dX9_pair_22 : decode cX9_pair 22 = .ok (.ishl, 1) := by decide +kernel
theorem dX9_pair_23 : decode cX9_pair 23 = .ok (.aload_n 0, 1) := by decide +kernel
theorem dX9_pair_24 : decode cX9_pair 24 = .ok (.getfield 13, 3) := by decide +kernel
theorem dX9_pair_27 : decode cX9_pair 27 = .ok (.iconst 2, 1) := by decide +kernel
theorem dX9_pair_28 : decode cX9_pair 28 = .ok (.iload_n 1, 1) := by decide +kernel
theorem dX9_pair_29 : decode cX9_pair 29 = .ok (.imul, 1) := by decide +kernel
theorem dX9_pair_30 : decode cX9_pair 30 = .ok (.iconst 1, 1) := by decide +kernel
theorem dX9_pair_31 : decode cX9_pair 31 = .ok (.iadd, 1) := by decide +kernel
theorem dX9_pair_32 : decode cX9_pair 32 = .ok (.iaload, 1) := by decide +kernel
theorem dX9_pair_33 : decode cX9_pair 33 = .ok (.ior, 1) := by decide +kernel
theorem dX9_pair_34 : decode cX9_pair 34 = .ok (.ireturn, 1) := by decide +kernel
def fX9_pair (p1 : Int32) (s0 : zS) : Option (Int32 × zS) := if p1 = (3 : Int32) then (some ((s0.1 1), s0)) else (gd (0 ≤ ((2 : Int32) * p1) ∧ ((2 : Int32) * p1) < 8) <| gd (0 ≤ (((2 : Int32) * p1) + (1 : Int32)) ∧ (((2 : Int32) * p1) + (1 : Int32)) < 8) <| some ((((s0.2 1 (((2 : Int32) * p1).toNatClampNeg)) <<< ((8 : Int32) &&& 31)) ||| (s0.2 1 ((((2 : Int32) * p1) + (1 : Int32)).toNatClampNeg))), s0))
set_option maxHeartbeats 4000000 in
set_option maxRecDepth 100000 in
theorem cX9_pair_m {l : Launch} {dC : Nat → ClassId} {dI : Nat → Nat → Nat} {ad : Nat → Nat} {cI : ClassId} {p1 : Int32} {s0 : zS} {zr : Int32} {zs : zS} (h : fX9_pair p1 s0 = some (zr, zs)) : sw_Mi l yX9_pair (sw_ws yX9_pair cX9_pair 2 (some .int)) (sw_rm 0 0) (dC, dI) vwCl [(cI, .int)] mF [.ref (ad 0), .int p1] (mW ad cI s0) (mW ad cI zs) zr := by
  intro sz
  refine sw_of (cc := cX9_pair) (maxL := 2) (ret := (some .int)) (by decide) rfl (Nat.le_of_ble_eq_true rfl) ?_
  intro p e s m args below meth c A ls hAe hsz X _ hP hD hS hl
  rw [hAe]
  have hx := X.1.1
  have hb := X.1.2.1
  have hown := X.1.2.2.2.1
  have hts := X.1.2.2.2.2
  replace hl : lv_has ls 2 [(0, .ref (ad 0)), (1, .int p1)] := hl
  unfold fX9_pair at h
  refine lv_iload_n hx hb dX9_pair_0 rfl (lv_at hl 1 rfl) ?_
  refine lv_iconst (v := (3 : Int32)) hx hb dX9_pair_1 (by decide) ?_
  refine lv_icmp_ne (tgt := 12) hx hb dX9_pair_2 (by decide) (fun c1 => ?_) (fun c1 => ?_)
  · replace h := if_no h c1
    refine lv_aload_n hx hb dX9_pair_12 rfl (lv_at hl 0 rfl) ?_
    refine mg_0_2 X hP k_759 dX9_pair_13 ?_
    refine lv_iconst (v := (2 : Int32)) hx hb dX9_pair_16 (by decide) ?_
    refine lv_iload_n hx hb dX9_pair_17 rfl (lv_at hl 1 rfl) ?_
    refine lv_imul hx hb dX9_pair_18 ?_
    have hq := gd_some h; clear h; obtain ⟨c2, h⟩ := hq
    refine ml_1 X hP (vin_in c2 (by decide)) dX9_pair_19 ?_
    refine lv_bipush (v := (8 : Int32)) hx hb dX9_pair_20 (by decide) ?_
    refine lv_ishl hx hb dX9_pair_22 ?_
    refine lv_aload_n hx hb dX9_pair_23 rfl (lv_at hl 0 rfl) ?_
    refine mg_0_2 X hP k_759 dX9_pair_24 ?_
    refine lv_iconst (v := (2 : Int32)) hx hb dX9_pair_27 (by decide) ?_
    refine lv_iload_n hx hb dX9_pair_28 rfl (lv_at hl 1 rfl) ?_
    refine lv_imul hx hb dX9_pair_29 ?_
    refine lv_iconst (v := (1 : Int32)) hx hb dX9_pair_30 (by decide) ?_
    refine lv_iadd hx hb dX9_pair_31 ?_
    have hq := gd_some h; clear h; obtain ⟨c3, h⟩ := hq
    refine ml_1 X hP (vin_in c3 (by decide)) dX9_pair_32 ?_
    refine lv_ior hx hb dX9_pair_33 ?_
    obtain ⟨rfl, rfl⟩ := Prod.mk.inj (Option.some.inj h)
    exact sw_iret X hP hD hS dX9_pair_34
  · replace h := if_yes h c1
    refine lv_aload_n hx hb dX9_pair_5 rfl (lv_at hl 0 rfl) ?_
    refine mg_0_4 X hP k_761 dX9_pair_6 ?_
    refine lv_goto (tgt := 34) hx hb dX9_pair_9 (by decide) ?_
    obtain ⟨rfl, rfl⟩ := Prod.mk.inj (Option.some.inj h)
    exact sw_iret X hP hD hS dX9_pair_34
theorem dX9_setPair_0 : decode cX9_setPair 0 = .ok (.iload_n 1, 1) := by decide +kernel
theorem dX9_setPair_1 : decode cX9_setPair 1 = .ok (.iconst 3, 1) := by decide +kernel
theorem dX9_setPair_2 : decode cX9_setPair 2 = .ok (.if_icmp .ne 14, 3) := by decide +kernel
theorem dX9_setPair_5 : decode cX9_setPair 5 = .ok (.aload_n 0, 1) := by decide +kernel
theorem dX9_setPair_6 : decode cX9_setPair 6 = .ok (.iload_n 2, 1) := by decide +kernel
theorem dX9_setPair_7 : decode cX9_setPair 7 = .ok (.ldc 49, 2) := by decide +kernel
theorem dX9_setPair_9 : decode cX9_setPair 9 = .ok (.iand, 1) := by decide +kernel
theorem dX9_setPair_10 : decode cX9_setPair 10 = .ok (.putfield 58, 3) := by decide +kernel
theorem dX9_setPair_13 : decode cX9_setPair 13 = .ok (.goto 34, 3) := by decide +kernel
theorem dX9_setPair_16 : decode cX9_setPair 16 = .ok (.aload_n 0, 1) := by decide +kernel
theorem dX9_setPair_17 : decode cX9_setPair 17 = .ok (.getfield 13, 3) := by decide +kernel
theorem dX9_setPair_20 : decode cX9_setPair 20 = .ok (.iconst 2, 1) := by decide +kernel
theorem dX9_setPair_21 : decode cX9_setPair 21 = .ok (.iload_n 1, 1) := by decide +kernel
theorem dX9_setPair_22 : decode cX9_setPair 22 = .ok (.imul, 1) := by decide +kernel
theorem dX9_setPair_23 : decode cX9_setPair 23 = .ok (.iload_n 2, 1) := by decide +kernel
theorem dX9_setPair_24 : decode cX9_setPair 24 = .ok (.bipush 8, 2) := by decide +kernel
theorem dX9_setPair_26 : decode cX9_setPair 26 = .ok (.ishr, 1) := by decide +kernel
theorem dX9_setPair_27 : decode cX9_setPair 27 = .ok (.sipush 255, 3) := by decide +kernel
theorem dX9_setPair_30 : decode cX9_setPair 30 = .ok (.iand, 1) := by decide +kernel
theorem dX9_setPair_31 : decode cX9_setPair 31 = .ok (.iastore, 1) := by decide +kernel
theorem dX9_setPair_32 : decode cX9_setPair 32 = .ok (.aload_n 0, 1) := by decide +kernel
theorem dX9_setPair_33 : decode cX9_setPair 33 = .ok (.getfield 13, 3) := by decide +kernel
theorem dX9_setPair_36 : decode cX9_setPair 36 = .ok (.iconst 2, 1) := by decide +kernel
theorem dX9_setPair_37 : decode cX9_setPair 37 = .ok (.iload_n 1, 1) := by decide +kernel
theorem dX9_setPair_38 : decode cX9_setPair 38 = .ok (.imul, 1) := by decide +kernel
theorem dX9_setPair_39 : decode cX9_setPair 39 = .ok (.iconst 1, 1) := by decide +kernel
theorem dX9_setPair_40 : decode cX9_setPair 40 = .ok (.iadd, 1) := by decide +kernel
theorem dX9_setPair_41 : decode cX9_setPair 41 = .ok (.iload_n 2, 1) := by decide +kernel
theorem dX9_setPair_42 : decode cX9_setPair 42 = .ok (.sipush 255, 3) := by decide +kernel
theorem dX9_setPair_45 : decode cX9_setPair 45 = .ok (.iand, 1) := by decide +kernel
theorem dX9_setPair_46 : decode cX9_setPair 46 = .ok (.iastore, 1) := by decide +kernel
theorem dX9_setPair_47 : decode cX9_setPair 47 = .ok (.return_, 1) := by decide +kernel
def fX9_setPair (p1 p2 : Int32) (s0 : zS) : Option (zS) := if p1 = (3 : Int32) then (some (st1 s0 1 (p2 &&& (65535 : Int32)))) else (gd (0 ≤ ((2 : Int32) * p1) ∧ ((2 : Int32) * p1) < 8) <| gd (0 ≤ (((2 : Int32) * p1) + (1 : Int32)) ∧ (((2 : Int32) * p1) + (1 : Int32)) < 8) <| some (st2 (st2 s0 1 (((2 : Int32) * p1).toNatClampNeg) ((p2 >>> ((8 : Int32) &&& 31)) &&& (255 : Int32))) 1 ((((2 : Int32) * p1) + (1 : Int32)).toNatClampNeg) (p2 &&& (255 : Int32))))
set_option maxHeartbeats 4000000 in
set_option maxRecDepth 100000 in
theorem cX9_setPair_m {l : Launch} {dC : Nat → ClassId} {dI : Nat → Nat → Nat} {ad : Nat → Nat} {cI : ClassId} {p1 p2 : Int32} {s0 : zS} {zs : zS} (h : fX9_setPair p1 p2 s0 = some zs) : sw_Mv l yX9_setPair (sw_ws yX9_setPair cX9_setPair 3 none) (sw_rm 0 0) (dC, dI) vwCl [(cI, .int)] mF [.ref (ad 0), .int p1, .int p2] (mW ad cI s0) (mW ad cI zs) := by
  intro sz
  refine sw_of (cc := cX9_setPair) (maxL := 3) (ret := none) (by decide) rfl (Nat.le_of_ble_eq_true rfl) ?_
  intro p e s m args below meth c A ls hAe hsz X _ hP hD hS hl
  rw [hAe]
  have hx := X.1.1
  have hb := X.1.2.1
  have hown := X.1.2.2.2.1
  have hts := X.1.2.2.2.2
  replace hl : lv_has ls 3 [(0, .ref (ad 0)), (1, .int p1), (2, .int p2)] := hl
  unfold fX9_setPair at h
  refine lv_iload_n hx hb dX9_setPair_0 rfl (lv_at hl 1 rfl) ?_
  refine lv_iconst (v := (3 : Int32)) hx hb dX9_setPair_1 (by decide) ?_
  refine lv_icmp_ne (tgt := 16) hx hb dX9_setPair_2 (by decide) (fun c1 => ?_) (fun c1 => ?_)
  · replace h := if_no h c1
    refine lv_aload_n hx hb dX9_setPair_16 rfl (lv_at hl 0 rfl) ?_
    refine mg_0_2 X hP k_759 dX9_setPair_17 ?_
    refine lv_iconst (v := (2 : Int32)) hx hb dX9_setPair_20 (by decide) ?_
    refine lv_iload_n hx hb dX9_setPair_21 rfl (lv_at hl 1 rfl) ?_
    refine lv_imul hx hb dX9_setPair_22 ?_
    refine lv_iload_n hx hb dX9_setPair_23 rfl (lv_at hl 2 rfl) ?_
    refine lv_bipush (v := (8 : Int32)) hx hb dX9_setPair_24 (by decide) ?_
    refine lv_ishr hx hb dX9_setPair_26 ?_
    refine lv_sipush (v := (255 : Int32)) hx hb dX9_setPair_27 (by decide) ?_
    refine lv_iand hx hb dX9_setPair_30 ?_
    have hq := gd_some h; clear h; obtain ⟨c2, h⟩ := hq
    refine mb_1 X hP hD hS (vin_in c2 (by decide)) dX9_setPair_31 (fun H locs hP hD hS => ?_)
    refine lv_aload_n hx hb dX9_setPair_32 rfl (lv_at hl 0 rfl) ?_
    refine mg_0_2 X hP k_759 dX9_setPair_33 ?_
    refine lv_iconst (v := (2 : Int32)) hx hb dX9_setPair_36 (by decide) ?_
    refine lv_iload_n hx hb dX9_setPair_37 rfl (lv_at hl 1 rfl) ?_
    refine lv_imul hx hb dX9_setPair_38 ?_
    refine lv_iconst (v := (1 : Int32)) hx hb dX9_setPair_39 (by decide) ?_
    refine lv_iadd hx hb dX9_setPair_40 ?_
    refine lv_iload_n hx hb dX9_setPair_41 rfl (lv_at hl 2 rfl) ?_
    refine lv_sipush (v := (255 : Int32)) hx hb dX9_setPair_42 (by decide) ?_
    refine lv_iand hx hb dX9_setPair_45 ?_
    have hq := gd_some h; clear h; obtain ⟨c3, h⟩ := hq
    refine mb_1 X hP hD hS (vin_in c3 (by decide)) dX9_setPair_46 (fun H locs hP hD hS => ?_)
    obtain rfl := Option.some.inj h
    exact sw_vret X hP hD hS dX9_setPair_47
  · replace h := if_yes h c1
    refine lv_aload_n hx hb dX9_setPair_5 rfl (lv_at hl 0 rfl) ?_
    refine lv_iload_n hx hb dX9_setPair_6 rfl (lv_at hl 2 rfl) ?_
    refine lv_ldc (v := 65535) hx hb hown (hts _ (List.mem_cons_of_mem _ k_841)) dX9_setPair_7 ?_
    refine lv_iand hx hb dX9_setPair_9 ?_
    refine mp_0_4 X hP hD hS k_761 dX9_setPair_10 (fun H locs hP hD hS => ?_)
    refine lv_goto (tgt := 47) hx hb dX9_setPair_13 (by decide) ?_
    obtain rfl := Option.some.inj h
    exact sw_vret X hP hD hS dX9_setPair_47
theorem dX9_hl_0 : decode cX9_hl 0 = .ok (.aload_n 0, 1) := by decide +kernel
theorem dX9_hl_1 : decode cX9_hl 1 = .ok (.iconst 2, 1) := by decide +kernel
theorem dX9_hl_2 : decode cX9_hl 2 = .ok (.invokevirtual 68, 3) := by decide +kernel
theorem dX9_hl_5 : decode cX9_hl 5 = .ok (.ireturn, 1) := by decide +kernel
def fX9_hl (s0 : zS) : Option (Int32 × zS) := bd2 (fX9_pair (2 : Int32) s0) fun r2 s3 => some (r2, s3)
set_option maxHeartbeats 4000000 in
set_option maxRecDepth 100000 in
theorem cX9_hl_m {l : Launch} {dC : Nat → ClassId} {dI : Nat → Nat → Nat} {ad : Nat → Nat} {cI : ClassId} {s0 : zS} {zr : Int32} {zs : zS} (h : fX9_hl  s0 = some (zr, zs)) : sw_Mi l yX9_hl (sw_ws yX9_hl cX9_hl 1 (some .int)) (sw_rm 1 21) (dC, dI) vwCl [(cI, .int)] mF [.ref (ad 0)] (mW ad cI s0) (mW ad cI zs) zr := by
  intro sz
  refine sw_of (cc := cX9_hl) (maxL := 1) (ret := (some .int)) (by decide) rfl (Nat.le_of_ble_eq_true rfl) ?_
  intro p e s m args below meth c A ls hAe hsz X _ hP hD hS hl
  rw [hAe]
  have hx := X.1.1
  have hb := X.1.2.1
  have hown := X.1.2.2.2.1
  have hts := X.1.2.2.2.2
  replace hl : lv_has ls 1 [(0, .ref (ad 0))] := hl
  unfold fX9_hl at h
  refine lv_aload_n hx hb dX9_hl_0 rfl (lv_at hl 0 rfl) ?_
  refine lv_iconst (v := (2 : Int32)) hx hb dX9_hl_1 (by decide) ?_
  have hq := bd2_some h; clear h; obtain ⟨r2, s3, h1, h⟩ := hq
  refine sw_vi (rest := []) m_good X (cX9_pair_m h1) calX9_pair k_902 hP hD hS 0 9 rfl rfl rfl ⟨rfl, rfl⟩ rfl hl.1 rfl (Nat.le_of_ble_eq_true rfl) dX9_hl_2 (fun H locs hP hD hS => ?_)
  obtain ⟨rfl, rfl⟩ := Prod.mk.inj (Option.some.inj h)
  exact sw_iret X hP hD hS dX9_hl_5
theorem dX9_operand_0 : decode cX9_operand 0 = .ok (.iload_n 1, 1) := by decide +kernel
theorem dX9_operand_1 : decode cX9_operand 1 = .ok (.bipush 6, 2) := by decide +kernel
theorem dX9_operand_3 : decode cX9_operand 3 = .ok (.if_icmp .ne 14, 3) := by decide +kernel
theorem dX9_operand_6 : decode cX9_operand 6 = .ok (.aload_n 0, 1) := by decide +kernel
theorem dX9_operand_7 : decode cX9_operand 7 = .ok (.aload_n 0, 1) := by decide +kernel
theorem dX9_operand_8 : decode cX9_operand 8 = .ok (.invokevirtual 71, 3) := by decide +kernel
theorem dX9_operand_11 : decode cX9_operand 11 = .ok (.invokevirtual 50, 3) := by decide +kernel
theorem dX9_operand_14 : decode cX9_operand 14 = .ok (.goto 9, 3) := by decide +kernel
theorem dX9_operand_17 : decode cX9_operand 17 = .ok (.aload_n 0, 1) := by decide +kernel
theorem dX9_operand_18 : decode cX9_operand 18 = .ok (.getfield 13, 3) := by decide +kernel
theorem dX9_operand_21 : decode cX9_operand 21 = .ok (.iload_n 1, 1) := by decide +kernel
theorem dX9_operand_22 : decode cX9_operand 22 = .ok (.iaload, 1) := by decide +kernel
theorem dX9_operand_23 : decode cX9_operand 23 = .ok (.ireturn, 1) := by decide +kernel
def fX9_operand (p1 : Int32) (s0 : zS) : Option (Int32 × zS) := if p1 = (6 : Int32) then (bd2 (fX9_hl  s0) fun r4 s5 => bd2 (fX9_read r4 s5) fun r7 s8 => some (r7, s8)) else (gd (0 ≤ p1 ∧ p1 < 8) <| some ((s0.2 1 (p1.toNatClampNeg)), s0))
set_option maxHeartbeats 4000000 in
set_option maxRecDepth 100000 in
theorem cX9_operand_m {l : Launch} {dC : Nat → ClassId} {dI : Nat → Nat → Nat} {ad : Nat → Nat} {cI : ClassId} {p1 : Int32} {s0 : zS} {zr : Int32} {zs : zS} (h : fX9_operand p1 s0 = some (zr, zs)) : sw_Mi l yX9_operand (sw_ws yX9_operand cX9_operand 2 (some .int)) (sw_rm 3 64) (dC, dI) vwCl [(cI, .int)] mF [.ref (ad 0), .int p1] (mW ad cI s0) (mW ad cI zs) zr := by
  intro sz
  refine sw_of (cc := cX9_operand) (maxL := 2) (ret := (some .int)) (by decide) rfl (Nat.le_of_ble_eq_true rfl) ?_
  intro p e s m args below meth c A ls hAe hsz X _ hP hD hS hl
  rw [hAe]
  have hx := X.1.1
  have hb := X.1.2.1
  have hown := X.1.2.2.2.1
  have hts := X.1.2.2.2.2
  replace hl : lv_has ls 2 [(0, .ref (ad 0)), (1, .int p1)] := hl
  unfold fX9_operand at h
  refine lv_iload_n hx hb dX9_operand_0 rfl (lv_at hl 1 rfl) ?_
  refine lv_bipush (v := (6 : Int32)) hx hb dX9_operand_1 (by decide) ?_
  refine lv_icmp_ne (tgt := 17) hx hb dX9_operand_3 (by decide) (fun c1 => ?_) (fun c1 => ?_)
  · replace h := if_no h c1
    refine lv_aload_n hx hb dX9_operand_17 rfl (lv_at hl 0 rfl) ?_
    refine mg_0_2 X hP k_759 dX9_operand_18 ?_
    refine lv_iload_n hx hb dX9_operand_21 rfl (lv_at hl 1 rfl) ?_
    have hq := gd_some h; clear h; obtain ⟨c2, h⟩ := hq
    refine ml_1 X hP (vin_in c2 (by decide)) dX9_operand_22 ?_
    obtain ⟨rfl, rfl⟩ := Prod.mk.inj (Option.some.inj h)
    exact sw_iret X hP hD hS dX9_operand_23
  · replace h := if_yes h c1
    refine lv_aload_n hx hb dX9_operand_6 rfl (lv_at hl 0 rfl) ?_
    refine lv_aload_n hx hb dX9_operand_7 rfl (lv_at hl 0 rfl) ?_
    have hq := bd2_some h; clear h; obtain ⟨r4, s5, h3, h⟩ := hq
    refine sw_vi (rest := [.ref (ad 0)]) m_good X (cX9_hl_m h3) calX9_hl k_898 hP hD hS 0 9 rfl rfl rfl ⟨rfl, rfl⟩ rfl hl.1 rfl (Nat.le_of_ble_eq_true rfl) dX9_operand_8 (fun H locs hP hD hS => ?_)
    have hq := bd2_some h; clear h; obtain ⟨r7, s8, h6, h⟩ := hq
    refine sw_vi (rest := []) m_good X (cX9_read_m h6) calX9_read k_882 hP hD hS 0 9 rfl rfl rfl ⟨rfl, rfl⟩ rfl hl.1 rfl (Nat.le_of_ble_eq_true rfl) dX9_operand_11 (fun H locs hP hD hS => ?_)
    refine lv_goto (tgt := 23) hx hb dX9_operand_14 (by decide) ?_
    obtain ⟨rfl, rfl⟩ := Prod.mk.inj (Option.some.inj h)
    exact sw_iret X hP hD hS dX9_operand_23
theorem dX9_setOperand_0 : decode cX9_setOperand 0 = .ok (.iload_n 1, 1) := by decide +kernel
theorem dX9_setOperand_1 : decode cX9_setOperand 1 = .ok (.bipush 6, 2) := by decide +kernel
theorem dX9_setOperand_3 : decode cX9_setOperand 3 = .ok (.if_icmp .ne 15, 3) := by decide +kernel
theorem dX9_setOperand_6 : decode cX9_setOperand 6 = .ok (.aload_n 0, 1) := by decide +kernel
theorem dX9_setOperand_7 : decode cX9_setOperand 7 = .ok (.aload_n 0, 1) := by decide +kernel
theorem dX9_setOperand_8 : decode cX9_setOperand 8 = .ok (.invokevirtual 71, 3) := by decide +kernel
theorem dX9_setOperand_11 : decode cX9_setOperand 11 = .ok (.iload_n 2, 1) := by decide +kernel
theorem dX9_setOperand_12 : decode cX9_setOperand 12 = .ok (.invokevirtual 61, 3) := by decide +kernel
theorem dX9_setOperand_15 : decode cX9_setOperand 15 = .ok (.goto 14, 3) := by decide +kernel
theorem dX9_setOperand_18 : decode cX9_setOperand 18 = .ok (.aload_n 0, 1) := by decide +kernel
theorem dX9_setOperand_19 : decode cX9_setOperand 19 = .ok (.getfield 13, 3) := by decide +kernel
theorem dX9_setOperand_22 : decode cX9_setOperand 22 = .ok (.iload_n 1, 1) := by decide +kernel
theorem dX9_setOperand_23 : decode cX9_setOperand 23 = .ok (.iload_n 2, 1) := by decide +kernel
theorem dX9_setOperand_24 : decode cX9_setOperand 24 = .ok (.sipush 255, 3) := by decide +kernel
theorem dX9_setOperand_27 : decode cX9_setOperand 27 = .ok (.iand, 1) := by decide +kernel
theorem dX9_setOperand_28 : decode cX9_setOperand 28 = .ok (.iastore, 1) := by decide +kernel
theorem dX9_setOperand_29 : decode cX9_setOperand 29 = .ok (.return_, 1) := by decide +kernel
def fX9_setOperand (p1 p2 : Int32) (s0 : zS) : Option (zS) := if p1 = (6 : Int32) then (bd2 (fX9_hl  s0) fun r4 s5 => bd (fX9_write r4 p2 s5) fun s7 => some s7) else (gd (0 ≤ p1 ∧ p1 < 8) <| some (st2 s0 1 (p1.toNatClampNeg) (p2 &&& (255 : Int32))))
set_option maxHeartbeats 4000000 in
set_option maxRecDepth 100000 in
theorem cX9_setOperand_m {l : Launch} {dC : Nat → ClassId} {dI : Nat → Nat → Nat} {ad : Nat → Nat} {cI : ClassId} {p1 p2 : Int32} {s0 : zS} {zs : zS} (h : fX9_setOperand p1 p2 s0 = some zs) : sw_Mv l yX9_setOperand (sw_ws yX9_setOperand cX9_setOperand 3 none) (sw_rm 3 65) (dC, dI) vwCl [(cI, .int)] mF [.ref (ad 0), .int p1, .int p2] (mW ad cI s0) (mW ad cI zs) := by
  intro sz
  refine sw_of (cc := cX9_setOperand) (maxL := 3) (ret := none) (by decide) rfl (Nat.le_of_ble_eq_true rfl) ?_
  intro p e s m args below meth c A ls hAe hsz X _ hP hD hS hl
  rw [hAe]
  have hx := X.1.1
  have hb := X.1.2.1
  have hown := X.1.2.2.2.1
  have hts := X.1.2.2.2.2
  replace hl : lv_has ls 3 [(0, .ref (ad 0)), (1, .int p1), (2, .int p2)] := hl
  unfold fX9_setOperand at h
  refine lv_iload_n hx hb dX9_setOperand_0 rfl (lv_at hl 1 rfl) ?_
  refine lv_bipush (v := (6 : Int32)) hx hb dX9_setOperand_1 (by decide) ?_
  refine lv_icmp_ne (tgt := 18) hx hb dX9_setOperand_3 (by decide) (fun c1 => ?_) (fun c1 => ?_)
  · replace h := if_no h c1
    refine lv_aload_n hx hb dX9_setOperand_18 rfl (lv_at hl 0 rfl) ?_
    refine mg_0_2 X hP k_759 dX9_setOperand_19 ?_
    refine lv_iload_n hx hb dX9_setOperand_22 rfl (lv_at hl 1 rfl) ?_
    refine lv_iload_n hx hb dX9_setOperand_23 rfl (lv_at hl 2 rfl) ?_
    refine lv_sipush (v := (255 : Int32)) hx hb dX9_setOperand_24 (by decide) ?_
    refine lv_iand hx hb dX9_setOperand_27 ?_
    have hq := gd_some h; clear h; obtain ⟨c2, h⟩ := hq
    refine mb_1 X hP hD hS (vin_in c2 (by decide)) dX9_setOperand_28 (fun H locs hP hD hS => ?_)
    obtain rfl := Option.some.inj h
    exact sw_vret X hP hD hS dX9_setOperand_29
  · replace h := if_yes h c1
    refine lv_aload_n hx hb dX9_setOperand_6 rfl (lv_at hl 0 rfl) ?_
    refine lv_aload_n hx hb dX9_setOperand_7 rfl (lv_at hl 0 rfl) ?_
    have hq := bd2_some h; clear h; obtain ⟨r4, s5, h3, h⟩ := hq
    refine sw_vi (rest := [.ref (ad 0)]) m_good X (cX9_hl_m h3) calX9_hl k_898 hP hD hS 0 9 rfl rfl rfl ⟨rfl, rfl⟩ rfl hl.1 rfl (Nat.le_of_ble_eq_true rfl) dX9_setOperand_8 (fun H locs hP hD hS => ?_)
    refine lv_iload_n hx hb dX9_setOperand_11 rfl (lv_at hl 2 rfl) ?_
    have hq := bd_some h; clear h; obtain ⟨s7, h6, h⟩ := hq
    refine sw_vv (rest := []) m_good X (cX9_write_m h6) calX9_write k_842 hP hD hS 0 9 rfl rfl rfl ⟨rfl, rfl⟩ rfl hl.1 rfl (Nat.le_of_ble_eq_true rfl) dX9_setOperand_12 (fun H locs hP hD hS => ?_)
    refine lv_goto (tgt := 29) hx hb dX9_setOperand_15 (by decide) ?_
    obtain rfl := Option.some.inj h
    exact sw_vret X hP hD hS dX9_setOperand_29
theorem dX9_carry_0 : decode cX9_carry 0 = .ok (.aload_n 0, 1) := by decide +kernel
theorem dX9_carry_1 : decode cX9_carry 1 = .ok (.getfield 13, 3) := by decide +kernel
theorem dX9_carry_4 : decode cX9_carry 4 = .ok (.bipush 6, 2) := by decide +kernel
theorem dX9_carry_6 : decode cX9_carry 6 = .ok (.iaload, 1) := by decide +kernel
theorem dX9_carry_7 : decode cX9_carry 7 = .ok (.iconst 1, 1) := by decide +kernel
theorem dX9_carry_8 : decode cX9_carry 8 = .ok (.iand, 1) := by decide +kernel
theorem dX9_carry_9 : decode cX9_carry 9 = .ok (.ireturn, 1) := by decide +kernel
def fX9_carry (s0 : zS) : Option (Int32 × zS) := some (((s0.2 1 ((6 : Int32).toNatClampNeg)) &&& (1 : Int32)), s0)
set_option maxHeartbeats 4000000 in
set_option maxRecDepth 100000 in
theorem cX9_carry_m {l : Launch} {dC : Nat → ClassId} {dI : Nat → Nat → Nat} {ad : Nat → Nat} {cI : ClassId} {s0 : zS} {zr : Int32} {zs : zS} (h : fX9_carry  s0 = some (zr, zs)) : sw_Mi l yX9_carry (sw_ws yX9_carry cX9_carry 1 (some .int)) (sw_rm 0 0) (dC, dI) vwCl [(cI, .int)] mF [.ref (ad 0)] (mW ad cI s0) (mW ad cI zs) zr := by
  intro sz
  refine sw_of (cc := cX9_carry) (maxL := 1) (ret := (some .int)) (by decide) rfl (Nat.le_of_ble_eq_true rfl) ?_
  intro p e s m args below meth c A ls hAe hsz X _ hP hD hS hl
  rw [hAe]
  have hx := X.1.1
  have hb := X.1.2.1
  have hown := X.1.2.2.2.1
  have hts := X.1.2.2.2.2
  replace hl : lv_has ls 1 [(0, .ref (ad 0))] := hl
  unfold fX9_carry at h
  refine lv_aload_n hx hb dX9_carry_0 rfl (lv_at hl 0 rfl) ?_
  refine mg_0_2 X hP k_759 dX9_carry_1 ?_
  refine lv_bipush (v := (6 : Int32)) hx hb dX9_carry_4 (by decide) ?_
  refine ml_1 X hP (vin_in (i := (6 : Int32)) (n := 8) (by decide) (by decide)) dX9_carry_6 ?_
  refine lv_iconst (v := (1 : Int32)) hx hb dX9_carry_7 (by decide) ?_
  refine lv_iand hx hb dX9_carry_8 ?_
  obtain ⟨rfl, rfl⟩ := Prod.mk.inj (Option.some.inj h)
  exact sw_iret X hP hD hS dX9_carry_9
theorem dX9_holds_0 : decode cX9_holds 0 = .ok (.aload_n 0, 1) := by decide +kernel
theorem dX9_holds_1 : decode cX9_holds 1 = .ok (.getfield 13, 3) := by decide +kernel
theorem dX9_holds_4 : decode cX9_holds 4 = .ok (.bipush 6, 2) := by decide +kernel
theorem dX9_holds_6 : decode cX9_holds 6 = .ok (.iaload, 1) := by decide +kernel
theorem dX9_holds_7 : decode cX9_holds 7 = .ok (.istore_n 2, 1) := by decide +kernel
theorem dX9_holds_8 : decode cX9_holds 8 = .ok (.iload_n 1, 1) := by decide +kernel
theorem dX9_holds_9 : decode cX9_holds 9 = .ok (.iconst 2, 1) := by decide +kernel
theorem dX9_holds_10 : decode cX9_holds 10 = .ok (.idiv, 1) := by decide +kernel
theorem dX9_holds_11 : decode cX9_holds 11 = .ok (.ifCond .ne 10, 3) := by decide +kernel
theorem dX9_holds_14 : decode cX9_holds 14 = .ok (.iload_n 2, 1) := by decide +kernel
theorem dX9_holds_15 : decode cX9_holds 15 = .ok (.bipush 64, 2) := by decide +kernel
theorem dX9_holds_17 : decode cX9_holds 17 = .ok (.iand, 1) := by decide +kernel
theorem dX9_holds_18 : decode cX9_holds 18 = .ok (.goto 34, 3) := by decide +kernel
theorem dX9_holds_21 : decode cX9_holds 21 = .ok (.iload_n 1, 1) := by decide +kernel
theorem dX9_holds_22 : decode cX9_holds 22 = .ok (.iconst 2, 1) := by decide +kernel
theorem dX9_holds_23 : decode cX9_holds 23 = .ok (.idiv, 1) := by decide +kernel
theorem dX9_holds_24 : decode cX9_holds 24 = .ok (.iconst 1, 1) := by decide +kernel
theorem dX9_holds_25 : decode cX9_holds 25 = .ok (.if_icmp .ne 9, 3) := by decide +kernel
theorem dX9_holds_28 : decode cX9_holds 28 = .ok (.iload_n 2, 1) := by decide +kernel
theorem dX9_holds_29 : decode cX9_holds 29 = .ok (.iconst 1, 1) := by decide +kernel
theorem dX9_holds_30 : decode cX9_holds 30 = .ok (.iand, 1) := by decide +kernel
theorem dX9_holds_31 : decode cX9_holds 31 = .ok (.goto 21, 3) := by decide +kernel
theorem dX9_holds_34 : decode cX9_holds 34 = .ok (.iload_n 1, 1) := by decide +kernel
theorem dX9_holds_35 : decode cX9_holds 35 = .ok (.iconst 2, 1) := by decide +kernel
theorem dX9_holds_36 : decode cX9_holds 36 = .ok (.idiv, 1) := by decide +kernel
theorem dX9_holds_37 : decode cX9_holds 37 = .ok (.iconst 2, 1) := by decide +kernel
theorem dX9_holds_38 : decode cX9_holds 38 = .ok (.if_icmp .ne 9, 3) := by decide +kernel
theorem dX9_holds_41 : decode cX9_holds 41 = .ok (.iload_n 2, 1) := by decide +kernel
theorem dX9_holds_42 : decode cX9_holds 42 = .ok (.iconst 4, 1) := by decide +kernel
theorem dX9_holds_43 : decode cX9_holds 43 = .ok (.iand, 1) := by decide +kernel
theorem dX9_holds_44 : decode cX9_holds 44 = .ok (.goto 8, 3) := by decide +kernel
theorem dX9_holds_47 : decode cX9_holds 47 = .ok (.iload_n 2, 1) := by decide +kernel
theorem dX9_holds_48 : decode cX9_holds 48 = .ok (.sipush 128, 3) := by decide +kernel
theorem dX9_holds_51 : decode cX9_holds 51 = .ok (.iand, 1) := by decide +kernel
theorem dX9_holds_52 : decode cX9_holds 52 = .ok (.istore_n 3, 1) := by decide +kernel
theorem dX9_holds_53 : decode cX9_holds 53 = .ok (.iload_n 3, 1) := by decide +kernel
theorem dX9_holds_54 : decode cX9_holds 54 = .ok (.ifCond .eq 7, 3) := by decide +kernel
theorem dX9_holds_57 : decode cX9_holds 57 = .ok (.iconst 1, 1) := by decide +kernel
theorem dX9_holds_58 : decode cX9_holds 58 = .ok (.goto 4, 3) := by decide +kernel
theorem dX9_holds_61 : decode cX9_holds 61 = .ok (.iconst 0, 1) := by decide +kernel
theorem dX9_holds_62 : decode cX9_holds 62 = .ok (.iload_n 1, 1) := by decide +kernel
theorem dX9_holds_63 : decode cX9_holds 63 = .ok (.iconst 2, 1) := by decide +kernel
theorem dX9_holds_64 : decode cX9_holds 64 = .ok (.irem, 1) := by decide +kernel
theorem dX9_holds_65 : decode cX9_holds 65 = .ok (.iconst 1, 1) := by decide +kernel
theorem dX9_holds_66 : decode cX9_holds 66 = .ok (.if_icmp .ne 7, 3) := by decide +kernel
theorem dX9_holds_69 : decode cX9_holds 69 = .ok (.iconst 1, 1) := by decide +kernel
theorem dX9_holds_70 : decode cX9_holds 70 = .ok (.goto 4, 3) := by decide +kernel
theorem dX9_holds_73 : decode cX9_holds 73 = .ok (.iconst 0, 1) := by decide +kernel
theorem dX9_holds_74 : decode cX9_holds 74 = .ok (.if_icmp .ne 7, 3) := by decide +kernel
theorem dX9_holds_77 : decode cX9_holds 77 = .ok (.iconst 1, 1) := by decide +kernel
theorem dX9_holds_78 : decode cX9_holds 78 = .ok (.goto 4, 3) := by decide +kernel
theorem dX9_holds_81 : decode cX9_holds 81 = .ok (.iconst 0, 1) := by decide +kernel
theorem dX9_holds_82 : decode cX9_holds 82 = .ok (.ireturn, 1) := by decide +kernel
def fX9_holds (p1 : Int32) (s0 : zS) : Option (Int32 × zS) := nm (s0.2 1 ((6 : Int32).toNatClampNeg)) fun x1 => bd (if (p1 / (2 : Int32)) = (0 : Int32) then (some (x1 &&& (64 : Int32))) else (bd (if (p1 / (2 : Int32)) = (1 : Int32) then (some (x1 &&& (1 : Int32))) else (bd (if (p1 / (2 : Int32)) = (2 : Int32) then (some (x1 &&& (4 : Int32))) else (some (x1 &&& (128 : Int32)))) fun x8 => some x8)) fun x10 => some x10)) fun x12 => bd (if x12 = (0 : Int32) then (some (0 : Int32)) else (some (1 : Int32))) fun x16 => bd (if (p1 - p1 / (2 : Int32) * (2 : Int32)) = (1 : Int32) then (some (1 : Int32)) else (some (0 : Int32))) fun x20 => if x16 = x20 then (some ((1 : Int32), s0)) else (some ((0 : Int32), s0))
set_option maxHeartbeats 4000000 in
set_option maxRecDepth 100000 in
theorem cX9_holds_m {l : Launch} {dC : Nat → ClassId} {dI : Nat → Nat → Nat} {ad : Nat → Nat} {cI : ClassId} {p1 : Int32} {s0 : zS} {zr : Int32} {zs : zS} (h : fX9_holds p1 s0 = some (zr, zs)) : sw_Mi l yX9_holds (sw_ws yX9_holds cX9_holds 4 (some .boolean)) (sw_rm 0 0) (dC, dI) vwCl [(cI, .int)] mF [.ref (ad 0), .int p1] (mW ad cI s0) (mW ad cI zs) zr := by
  intro sz
  refine sw_of (cc := cX9_holds) (maxL := 4) (ret := (some .boolean)) (by decide) rfl (Nat.le_of_ble_eq_true rfl) ?_
  intro p e s m args below meth c A ls hAe hsz X _ hP hD hS hl
  rw [hAe]
  have hx := X.1.1
  have hb := X.1.2.1
  have hown := X.1.2.2.2.1
  have hts := X.1.2.2.2.2
  replace hl : lv_has ls 4 [(0, .ref (ad 0)), (1, .int p1)] := hl
  unfold fX9_holds at h
  refine lv_aload_n hx hb dX9_holds_0 rfl (lv_at hl 0 rfl) ?_
  refine mg_0_2 X hP k_759 dX9_holds_1 ?_
  refine lv_bipush (v := (6 : Int32)) hx hb dX9_holds_4 (by decide) ?_
  refine ml_1 X hP (vin_in (i := (6 : Int32)) (n := 8) (by decide) (by decide)) dX9_holds_6 ?_
  refine lv_topi (fun x1 ex1 => ?_)
  replace h := nm_use ex1 h
  refine lv_istore_n (lv' := [(2, .int x1), (0, .ref (ad 0)), (1, .int p1)]) hx hb dX9_holds_7 rfl hl (by decide) rfl (fun ls hl => ?_)
  refine lv_iload_n hx hb dX9_holds_8 rfl (lv_at hl 2 rfl) ?_
  refine lv_iconst (v := (2 : Int32)) hx hb dX9_holds_9 (by decide) ?_
  refine lv_idiv hx hb dX9_holds_10 (by decide) ?_
  have hq := bd_some h; clear h; obtain ⟨x12, h13, h⟩ := hq
  have K2 : ∀ (H : Heap) (locs : List Loc), va_P (dC, dI) vwCl (mW ad cI s0) H → va_D A (mW ad cI s0) → va_S A s.heap H locs → W p l e (sw_rm 0 0) s m args below meth c H locs 0 0 (MQ below (sw_Qi (dC, dI) vwCl [(cI, .int)] A (mW ad cI zs) zr) args s 0 0 A) (F0 m 52 ls [.int x12]) := by
    intro H locs hP hD hS
    refine lv_istore_n (lv' := [(3, .int x12), (2, .int x1), (0, .ref (ad 0)), (1, .int p1)]) hx hb dX9_holds_52 rfl hl (by decide) rfl (fun ls hl => ?_)
    refine lv_iload_n hx hb dX9_holds_53 rfl (lv_at hl 0 rfl) ?_
    have hq := bd_some h; clear h; obtain ⟨x16, h17, h⟩ := hq
    have K14 : ∀ (H : Heap) (locs : List Loc), va_P (dC, dI) vwCl (mW ad cI s0) H → va_D A (mW ad cI s0) → va_S A s.heap H locs → W p l e (sw_rm 0 0) s m args below meth c H locs 0 0 (MQ below (sw_Qi (dC, dI) vwCl [(cI, .int)] A (mW ad cI zs) zr) args s 0 0 A) (F0 m 62 ls [.int x16]) := by
      intro H locs hP hD hS
      refine lv_iload_n hx hb dX9_holds_62 rfl (lv_at hl 3 rfl) ?_
      refine lv_iconst (v := (2 : Int32)) hx hb dX9_holds_63 (by decide) ?_
      refine lv_irem hx hb dX9_holds_64 (by decide) ?_
      refine lv_iconst (v := (1 : Int32)) hx hb dX9_holds_65 (by decide) ?_
      have hq := bd_some h; clear h; obtain ⟨x20, h21, h⟩ := hq
      have K18 : ∀ (H : Heap) (locs : List Loc), va_P (dC, dI) vwCl (mW ad cI s0) H → va_D A (mW ad cI s0) → va_S A s.heap H locs → W p l e (sw_rm 0 0) s m args below meth c H locs 0 0 (MQ below (sw_Qi (dC, dI) vwCl [(cI, .int)] A (mW ad cI zs) zr) args s 0 0 A) (F0 m 74 ls [.int x20, .int x16]) := by
        intro H locs hP hD hS
        refine lv_icmp_ne (tgt := 81) hx hb dX9_holds_74 (by decide) (fun c22 => ?_) (fun c22 => ?_)
        · replace h := if_no h c22
          refine lv_iconst (v := (0 : Int32)) hx hb dX9_holds_81 (by decide) ?_
          obtain ⟨rfl, rfl⟩ := Prod.mk.inj (Option.some.inj h)
          exact sw_bret X (bz_n (by decide)) hP hD hS dX9_holds_82
        · replace h := if_yes h c22
          refine lv_iconst (v := (1 : Int32)) hx hb dX9_holds_77 (by decide) ?_
          refine lv_goto (tgt := 82) hx hb dX9_holds_78 (by decide) ?_
          obtain ⟨rfl, rfl⟩ := Prod.mk.inj (Option.some.inj h)
          exact sw_bret X (bz_n (by decide)) hP hD hS dX9_holds_82
      replace h := h21
      clear h21
      refine lv_icmp_ne (tgt := 73) hx hb dX9_holds_66 (by decide) (fun c19 => ?_) (fun c19 => ?_)
      · replace h := if_no h c19
        refine lv_iconst (v := (0 : Int32)) hx hb dX9_holds_73 (by decide) ?_
        obtain rfl := Option.some.inj h
        exact K18 _ _ hP hD hS
      · replace h := if_yes h c19
        refine lv_iconst (v := (1 : Int32)) hx hb dX9_holds_69 (by decide) ?_
        refine lv_goto (tgt := 74) hx hb dX9_holds_70 (by decide) ?_
        obtain rfl := Option.some.inj h
        exact K18 _ _ hP hD hS
    replace h := h17
    clear h17
    refine lv_if_eq (tgt := 61) hx hb dX9_holds_54 (by decide) (fun c15 => ?_) (fun c15 => ?_)
    · replace h := if_yes h c15
      refine lv_iconst (v := (0 : Int32)) hx hb dX9_holds_61 (by decide) ?_
      obtain rfl := Option.some.inj h
      exact K14 _ _ hP hD hS
    · replace h := if_no h c15
      refine lv_iconst (v := (1 : Int32)) hx hb dX9_holds_57 (by decide) ?_
      refine lv_goto (tgt := 62) hx hb dX9_holds_58 (by decide) ?_
      obtain rfl := Option.some.inj h
      exact K14 _ _ hP hD hS
  replace h := h13
  clear h13
  refine lv_if_ne (tgt := 21) hx hb dX9_holds_11 (by decide) (fun c3 => ?_) (fun c3 => ?_)
  · replace h := if_no h c3
    refine lv_iload_n hx hb dX9_holds_21 rfl (lv_at hl 2 rfl) ?_
    refine lv_iconst (v := (2 : Int32)) hx hb dX9_holds_22 (by decide) ?_
    refine lv_idiv hx hb dX9_holds_23 (by decide) ?_
    refine lv_iconst (v := (1 : Int32)) hx hb dX9_holds_24 (by decide) ?_
    have hq := bd_some h; clear h; obtain ⟨x10, h11, h⟩ := hq
    have K4 : ∀ (H : Heap) (locs : List Loc), va_P (dC, dI) vwCl (mW ad cI s0) H → va_D A (mW ad cI s0) → va_S A s.heap H locs → W p l e (sw_rm 0 0) s m args below meth c H locs 0 0 (MQ below (sw_Qi (dC, dI) vwCl [(cI, .int)] A (mW ad cI zs) zr) args s 0 0 A) (F0 m 52 ls [.int x10]) := by
      intro H locs hP hD hS
      obtain rfl := Option.some.inj h
      exact K2 _ _ hP hD hS
    replace h := h11
    clear h11
    refine lv_icmp_ne (tgt := 34) hx hb dX9_holds_25 (by decide) (fun c5 => ?_) (fun c5 => ?_)
    · replace h := if_no h c5
      refine lv_iload_n hx hb dX9_holds_34 rfl (lv_at hl 2 rfl) ?_
      refine lv_iconst (v := (2 : Int32)) hx hb dX9_holds_35 (by decide) ?_
      refine lv_idiv hx hb dX9_holds_36 (by decide) ?_
      refine lv_iconst (v := (2 : Int32)) hx hb dX9_holds_37 (by decide) ?_
      have hq := bd_some h; clear h; obtain ⟨x8, h9, h⟩ := hq
      have K6 : ∀ (H : Heap) (locs : List Loc), va_P (dC, dI) vwCl (mW ad cI s0) H → va_D A (mW ad cI s0) → va_S A s.heap H locs → W p l e (sw_rm 0 0) s m args below meth c H locs 0 0 (MQ below (sw_Qi (dC, dI) vwCl [(cI, .int)] A (mW ad cI zs) zr) args s 0 0 A) (F0 m 52 ls [.int x8]) := by
        intro H locs hP hD hS
        obtain rfl := Option.some.inj h
        exact K4 _ _ hP hD hS
      replace h := h9
      clear h9
      refine lv_icmp_ne (tgt := 47) hx hb dX9_holds_38 (by decide) (fun c7 => ?_) (fun c7 => ?_)
      · replace h := if_no h c7
        refine lv_iload_n hx hb dX9_holds_47 rfl (lv_at hl 0 rfl) ?_
        refine lv_sipush (v := (128 : Int32)) hx hb dX9_holds_48 (by decide) ?_
        refine lv_iand hx hb dX9_holds_51 ?_
        obtain rfl := Option.some.inj h
        exact K6 _ _ hP hD hS
      · replace h := if_yes h c7
        refine lv_iload_n hx hb dX9_holds_41 rfl (lv_at hl 0 rfl) ?_
        refine lv_iconst (v := (4 : Int32)) hx hb dX9_holds_42 (by decide) ?_
        refine lv_iand hx hb dX9_holds_43 ?_
        refine lv_goto (tgt := 52) hx hb dX9_holds_44 (by decide) ?_
        obtain rfl := Option.some.inj h
        exact K6 _ _ hP hD hS
    · replace h := if_yes h c5
      refine lv_iload_n hx hb dX9_holds_28 rfl (lv_at hl 0 rfl) ?_
      refine lv_iconst (v := (1 : Int32)) hx hb dX9_holds_29 (by decide) ?_
      refine lv_iand hx hb dX9_holds_30 ?_
      refine lv_goto (tgt := 52) hx hb dX9_holds_31 (by decide) ?_
      obtain rfl := Option.some.inj h
      exact K4 _ _ hP hD hS
  · replace h := if_yes h c3
    refine lv_iload_n hx hb dX9_holds_14 rfl (lv_at hl 0 rfl) ?_
    refine lv_bipush (v := (64 : Int32)) hx hb dX9_holds_15 (by decide) ?_
    refine lv_iand hx hb dX9_holds_17 ?_
    refine lv_goto (tgt := 52) hx hb dX9_holds_18 (by decide) ?_
    obtain rfl := Option.some.inj h
    exact K2 _ _ hP hD hS
