theorem dX6_pairWith_0 : decode cX6_pairWith 0 = .ok (.iload_n 0, 1) := by decide +kernel
theorem dX6_pairWith_1 : decode cX6_pairWith 1 = .ok (.bipush 7, 2) := by decide +kernel
theorem dX6_pairWith_3 : decode cX6_pairWith 3 = .ok (.if_icmp .ne 7, 3) := by decide +kernel
theorem dX6_pairWith_6 : decode cX6_pairWith 6 = .ok (.iconst 0, 1) := by decide +kernel
theorem dX6_pairWith_7 : decode cX6_pairWith 7 = .ok (.goto 8, 3) := by decide +kernel
theorem dX6_pairWith_10 : decode cX6_pairWith 10 = .ok (.iconst 1, 1) := by decide +kernel
theorem dX6_pairWith_11 : decode cX6_pairWith 11 = .ok (.iload_n 0, 1) := by decide +kernel
theorem dX6_pairWith_12 : decode cX6_pairWith 12 = .ok (.iconst 1, 1) := by decide +kernel
theorem dX6_pairWith_13 : decode cX6_pairWith 13 = .ok (.ishr, 1) := by decide +kernel
theorem dX6_pairWith_14 : decode cX6_pairWith 14 = .ok (.iadd, 1) := by decide +kernel
theorem dX6_pairWith_15 : decode cX6_pairWith 15 = .ok (.ireturn, 1) := by decide +kernel
def fX6_pairWith (p1 : Int32) : Option (Int32) := if p1 = (7 : Int32) then (some (0 : Int32)) else (some ((1 : Int32) + (p1 >>> ((1 : Int32) &&& 31))))
set_option maxHeartbeats 4000000 in
set_option maxRecDepth 100000 in
theorem cX6_pairWith_m {l : Launch} {dC : Nat → ClassId} {dI : Nat → Nat → Nat} {cI : ClassId} {w : va_W} {p1 : Int32} {zr : Int32} (h : fX6_pairWith p1 = some zr) : sw_Mi l yX6_pairWith (sw_ws yX6_pairWith cX6_pairWith 1 (some .int)) (sw_rm 0 0) (dC, dI) vwCl [(cI, .int)] cF [.int p1] w w zr := by
  intro sz
  refine sw_of (cc := cX6_pairWith) (maxL := 1) (ret := (some .int)) (by decide) rfl (Nat.le_of_ble_eq_true rfl) ?_
  intro p e s m args below meth c A ls hAe hsz X _ hP hD hS hl
  rw [hAe]
  have hx := X.1.1
  have hb := X.1.2.1
  have hown := X.1.2.2.2.1
  have hts := X.1.2.2.2.2
  replace hl : lv_has ls 1 [(0, .int p1)] := hl
  unfold fX6_pairWith at h
  refine lv_iload_n hx hb dX6_pairWith_0 rfl (lv_at hl 0 rfl) ?_
  refine lv_bipush (v := (7 : Int32)) hx hb dX6_pairWith_1 (by decide) ?_
  refine lv_icmp_ne (tgt := 10) hx hb dX6_pairWith_3 (by decide) (fun c1 => ?_) (fun c1 => ?_)
  · replace h := if_no h c1
    refine lv_iconst (v := (1 : Int32)) hx hb dX6_pairWith_10 (by decide) ?_
    refine lv_iload_n hx hb dX6_pairWith_11 rfl (lv_at hl 0 rfl) ?_
    refine lv_iconst (v := (1 : Int32)) hx hb dX6_pairWith_12 (by decide) ?_
    refine lv_ishr hx hb dX6_pairWith_13 ?_
    refine lv_iadd hx hb dX6_pairWith_14 ?_
    obtain rfl := Option.some.inj h
    exact sw_iret X hP hD hS dX6_pairWith_15
  · replace h := if_yes h c1
    refine lv_iconst (v := (0 : Int32)) hx hb dX6_pairWith_6 (by decide) ?_
    refine lv_goto (tgt := 15) hx hb dX6_pairWith_7 (by decide) ?_
    obtain rfl := Option.some.inj h
    exact sw_iret X hP hD hS dX6_pairWith_15
theorem dX6_isHigher_0 : decode cX6_isHigher 0 = .ok (.iload_n 0, 1) := by decide +kernel
theorem dX6_isHigher_1 : decode cX6_isHigher 1 = .ok (.bipush 7, 2) := by decide +kernel
theorem dX6_isHigher_3 : decode cX6_isHigher 3 = .ok (.if_icmp .eq 9, 3) := by decide +kernel
theorem dX6_isHigher_6 : decode cX6_isHigher 6 = .ok (.iload_n 0, 1) := by decide +kernel
theorem dX6_isHigher_7 : decode cX6_isHigher 7 = .ok (.iconst 1, 1) := by decide +kernel
theorem dX6_isHigher_8 : decode cX6_isHigher 8 = .ok (.iand, 1) := by decide +kernel
theorem dX6_isHigher_9 : decode cX6_isHigher 9 = .ok (.ifCond .ne 7, 3) := by decide +kernel
theorem dX6_isHigher_12 : decode cX6_isHigher 12 = .ok (.iconst 1, 1) := by decide +kernel
theorem dX6_isHigher_13 : decode cX6_isHigher 13 = .ok (.goto 4, 3) := by decide +kernel
theorem dX6_isHigher_16 : decode cX6_isHigher 16 = .ok (.iconst 0, 1) := by decide +kernel
theorem dX6_isHigher_17 : decode cX6_isHigher 17 = .ok (.ireturn, 1) := by decide +kernel
def fX6_isHigher (p1 : Int32) : Option (Int32) := if p1 = (7 : Int32) then (some (1 : Int32)) else (if (p1 &&& (1 : Int32)) = (0 : Int32) then (some (1 : Int32)) else (some (0 : Int32)))
set_option maxHeartbeats 4000000 in
set_option maxRecDepth 100000 in
theorem cX6_isHigher_m {l : Launch} {dC : Nat → ClassId} {dI : Nat → Nat → Nat} {cI : ClassId} {w : va_W} {p1 : Int32} {zr : Int32} (h : fX6_isHigher p1 = some zr) : sw_Mi l yX6_isHigher (sw_ws yX6_isHigher cX6_isHigher 1 (some .boolean)) (sw_rm 0 0) (dC, dI) vwCl [(cI, .int)] cF [.int p1] w w zr := by
  intro sz
  refine sw_of (cc := cX6_isHigher) (maxL := 1) (ret := (some .boolean)) (by decide) rfl (Nat.le_of_ble_eq_true rfl) ?_
  intro p e s m args below meth c A ls hAe hsz X _ hP hD hS hl
  rw [hAe]
  have hx := X.1.1
  have hb := X.1.2.1
  have hown := X.1.2.2.2.1
  have hts := X.1.2.2.2.2
  replace hl : lv_has ls 1 [(0, .int p1)] := hl
  unfold fX6_isHigher at h
  refine lv_iload_n hx hb dX6_isHigher_0 rfl (lv_at hl 0 rfl) ?_
  refine lv_bipush (v := (7 : Int32)) hx hb dX6_isHigher_1 (by decide) ?_
  refine lv_icmp_eq (tgt := 12) hx hb dX6_isHigher_3 (by decide) (fun c1 => ?_) (fun c1 => ?_)
  · replace h := if_yes h c1
    refine lv_iconst (v := (1 : Int32)) hx hb dX6_isHigher_12 (by decide) ?_
    refine lv_goto (tgt := 17) hx hb dX6_isHigher_13 (by decide) ?_
    obtain rfl := Option.some.inj h
    exact sw_bret X (bz_n (by decide)) hP hD hS dX6_isHigher_17
  · replace h := if_no h c1
    refine lv_iload_n hx hb dX6_isHigher_6 rfl (lv_at hl 0 rfl) ?_
    refine lv_iconst (v := (1 : Int32)) hx hb dX6_isHigher_7 (by decide) ?_
    refine lv_iand hx hb dX6_isHigher_8 ?_
    refine lv_if_ne (tgt := 16) hx hb dX6_isHigher_9 (by decide) (fun c2 => ?_) (fun c2 => ?_)
    · replace h := if_no h c2
      refine lv_iconst (v := (0 : Int32)) hx hb dX6_isHigher_16 (by decide) ?_
      obtain rfl := Option.some.inj h
      exact sw_bret X (bz_n (by decide)) hP hD hS dX6_isHigher_17
    · replace h := if_yes h c2
      refine lv_iconst (v := (1 : Int32)) hx hb dX6_isHigher_12 (by decide) ?_
      refine lv_goto (tgt := 17) hx hb dX6_isHigher_13 (by decide) ?_
      obtain rfl := Option.some.inj h
      exact sw_bret X (bz_n (by decide)) hP hD hS dX6_isHigher_17
theorem dX6_single_0 : decode cX6_single 0 = .ok (.aload_n 0, 1) := by decide +kernel
theorem dX6_single_1 : decode cX6_single 1 = .ok (.getfield 9, 3) := by decide +kernel
theorem dX6_single_4 : decode cX6_single 4 = .ok (.iload_n 1, 1) := by decide +kernel
theorem dX6_single_5 : decode cX6_single 5 = .ok (.invokestatic 19, 3) := by decide +kernel
theorem dX6_single_8 : decode cX6_single 8 = .ok (.iaload, 1) := by decide +kernel
theorem dX6_single_9 : decode cX6_single 9 = .ok (.istore_n 2, 1) := by decide +kernel
theorem dX6_single_10 : decode cX6_single 10 = .ok (.iload_n 1, 1) := by decide +kernel
theorem dX6_single_11 : decode cX6_single 11 = .ok (.invokestatic 23, 3) := by decide +kernel
theorem dX6_single_14 : decode cX6_single 14 = .ok (.ifCond .eq 10, 3) := by decide +kernel
theorem dX6_single_17 : decode cX6_single 17 = .ok (.iload_n 2, 1) := by decide +kernel
theorem dX6_single_18 : decode cX6_single 18 = .ok (.bipush 8, 2) := by decide +kernel
theorem dX6_single_20 : decode cX6_single 20 = .ok (.ishr, 1) := by decide +kernel
theorem dX6_single_21 : decode cX6_single 21 = .ok (.goto 8, 3) := by decide +kernel
theorem dX6_single_24 : decode cX6_single 24 = .ok (.iload_n 2, 1) := by decide +kernel
theorem dX6_single_25 : decode cX6_single 25 = .ok (.sipush 255, 3) := by decide +kernel
theorem dX6_single_28 : decode cX6_single 28 = .ok (.iand, 1) := by decide +kernel
theorem dX6_single_29 : decode cX6_single 29 = .ok (.ireturn, 1) := by decide +kernel
def fX6_single (p1 : Int32) (s0 : zS) : Option (Int32 × zS) := bd (fX6_pairWith p1) fun r2 => gd (0 ≤ r2 ∧ r2 < 10) <| nm (s0.2 4 (r2.toNatClampNeg)) fun x4 => bd (fX6_isHigher p1) fun r6 => if r6 = (0 : Int32) then (some ((x4 &&& (255 : Int32)), s0)) else (some ((x4 >>> ((8 : Int32) &&& 31)), s0))
set_option maxHeartbeats 4000000 in
set_option maxRecDepth 100000 in
theorem cX6_single_m {l : Launch} {dC : Nat → ClassId} {dI : Nat → Nat → Nat} {ad : Nat → Nat} {cI : ClassId} {p1 : Int32} {s0 : zS} {zr : Int32} {zs : zS} (h : fX6_single p1 s0 = some (zr, zs)) : sw_Mi l yX6_single (sw_ws yX6_single cX6_single 3 (some .int)) (sw_rm 1 20) (dC, dI) vwCl [(cI, .int)] cF [.ref (ad 4), .int p1] (cW ad cI s0) (cW ad cI zs) zr := by
  intro sz
  refine sw_of (cc := cX6_single) (maxL := 3) (ret := (some .int)) (by decide) rfl (Nat.le_of_ble_eq_true rfl) ?_
  intro p e s m args below meth c A ls hAe hsz X _ hP hD hS hl
  rw [hAe]
  have hx := X.1.1
  have hb := X.1.2.1
  have hown := X.1.2.2.2.1
  have hts := X.1.2.2.2.2
  replace hl : lv_has ls 3 [(0, .ref (ad 4)), (1, .int p1)] := hl
  unfold fX6_single at h
  refine lv_aload_n hx hb dX6_single_0 rfl (lv_at hl 0 rfl) ?_
  refine cg_4_0 X hP k_106 dX6_single_1 ?_
  refine lv_iload_n hx hb dX6_single_4 rfl (lv_at hl 1 rfl) ?_
  have hq := bd_some h; clear h; obtain ⟨r2, h1, h⟩ := hq
  refine sw_si (rest := [.ref (ad 13)]) c_good X (cX6_pairWith_m h1) calX6_pairWith k_458 hP hD hS ⟨rfl, rfl⟩ rfl hl.1 rfl (Nat.le_of_ble_eq_true rfl) dX6_single_5 (fun H locs hP hD hS => ?_)
  have hq := gd_some h; clear h; obtain ⟨c3, h⟩ := hq
  refine cl_4 X hP (vin_in c3 (by decide)) dX6_single_8 ?_
  refine lv_topi (fun x4 ex4 => ?_)
  replace h := nm_use ex4 h
  refine lv_istore_n (lv' := [(2, .int x4), (0, .ref (ad 4)), (1, .int p1)]) hx hb dX6_single_9 rfl hl (by decide) rfl (fun ls hl => ?_)
  refine lv_iload_n hx hb dX6_single_10 rfl (lv_at hl 2 rfl) ?_
  have hq := bd_some h; clear h; obtain ⟨r6, h5, h⟩ := hq
  refine sw_si (rest := []) c_good X (cX6_isHigher_m h5) calX6_isHigher k_461 hP hD hS ⟨rfl, rfl⟩ rfl hl.1 rfl (Nat.le_of_ble_eq_true rfl) dX6_single_11 (fun H locs hP hD hS => ?_)
  refine lv_if_eq (tgt := 24) hx hb dX6_single_14 (by decide) (fun c7 => ?_) (fun c7 => ?_)
  · replace h := if_yes h c7
    refine lv_iload_n hx hb dX6_single_24 rfl (lv_at hl 0 rfl) ?_
    refine lv_sipush (v := (255 : Int32)) hx hb dX6_single_25 (by decide) ?_
    refine lv_iand hx hb dX6_single_28 ?_
    obtain ⟨rfl, rfl⟩ := Prod.mk.inj (Option.some.inj h)
    exact sw_iret X hP hD hS dX6_single_29
  · replace h := if_no h c7
    refine lv_iload_n hx hb dX6_single_17 rfl (lv_at hl 0 rfl) ?_
    refine lv_bipush (v := (8 : Int32)) hx hb dX6_single_18 (by decide) ?_
    refine lv_ishr hx hb dX6_single_20 ?_
    refine lv_goto (tgt := 29) hx hb dX6_single_21 (by decide) ?_
    obtain ⟨rfl, rfl⟩ := Prod.mk.inj (Option.some.inj h)
    exact sw_iret X hP hD hS dX6_single_29
theorem dX6_flags_0 : decode cX6_flags 0 = .ok (.aload_n 0, 1) := by decide +kernel
theorem dX6_flags_1 : decode cX6_flags 1 = .ok (.getfield 9, 3) := by decide +kernel
theorem dX6_flags_4 : decode cX6_flags 4 = .ok (.iconst 0, 1) := by decide +kernel
theorem dX6_flags_5 : decode cX6_flags 5 = .ok (.iaload, 1) := by decide +kernel
theorem dX6_flags_6 : decode cX6_flags 6 = .ok (.sipush 255, 3) := by decide +kernel
theorem dX6_flags_9 : decode cX6_flags 9 = .ok (.iand, 1) := by decide +kernel
theorem dX6_flags_10 : decode cX6_flags 10 = .ok (.ireturn, 1) := by decide +kernel
def fX6_flags (s0 : zS) : Option (Int32 × zS) := some (((s0.2 4 ((0 : Int32).toNatClampNeg)) &&& (255 : Int32)), s0)
set_option maxHeartbeats 4000000 in
set_option maxRecDepth 100000 in
theorem cX6_flags_m {l : Launch} {dC : Nat → ClassId} {dI : Nat → Nat → Nat} {ad : Nat → Nat} {cI : ClassId} {s0 : zS} {zr : Int32} {zs : zS} (h : fX6_flags  s0 = some (zr, zs)) : sw_Mi l yX6_flags (sw_ws yX6_flags cX6_flags 1 (some .int)) (sw_rm 0 0) (dC, dI) vwCl [(cI, .int)] cF [.ref (ad 4)] (cW ad cI s0) (cW ad cI zs) zr := by
  intro sz
  refine sw_of (cc := cX6_flags) (maxL := 1) (ret := (some .int)) (by decide) rfl (Nat.le_of_ble_eq_true rfl) ?_
  intro p e s m args below meth c A ls hAe hsz X _ hP hD hS hl
  rw [hAe]
  have hx := X.1.1
  have hb := X.1.2.1
  have hown := X.1.2.2.2.1
  have hts := X.1.2.2.2.2
  replace hl : lv_has ls 1 [(0, .ref (ad 4))] := hl
  unfold fX6_flags at h
  refine lv_aload_n hx hb dX6_flags_0 rfl (lv_at hl 0 rfl) ?_
  refine cg_4_0 X hP k_106 dX6_flags_1 ?_
  refine lv_iconst (v := (0 : Int32)) hx hb dX6_flags_4 (by decide) ?_
  refine cl_4 X hP (vin_in (i := (0 : Int32)) (n := 10) (by decide) (by decide)) dX6_flags_5 ?_
  refine lv_sipush (v := (255 : Int32)) hx hb dX6_flags_6 (by decide) ?_
  refine lv_iand hx hb dX6_flags_9 ?_
  obtain ⟨rfl, rfl⟩ := Prod.mk.inj (Option.some.inj h)
  exact sw_iret X hP hD hS dX6_flags_10
theorem dX0_signAndZero_0 : decode cX0_signAndZero 0 = .ok (.iload_n 0, 1) := by decide +kernel
theorem dX0_signAndZero_1 : decode cX0_signAndZero 1 = .ok (.sipush 128, 3) := by decide +kernel
theorem dX0_signAndZero_4 : decode cX0_signAndZero 4 = .ok (.iand, 1) := by decide +kernel
theorem dX0_signAndZero_5 : decode cX0_signAndZero 5 = .ok (.iload_n 0, 1) := by decide +kernel
theorem dX0_signAndZero_6 : decode cX0_signAndZero 6 = .ok (.ifCond .ne 8, 3) := by decide +kernel
theorem dX0_signAndZero_9 : decode cX0_signAndZero 9 = .ok (.bipush 64, 2) := by decide +kernel
theorem dX0_signAndZero_11 : decode cX0_signAndZero 11 = .ok (.goto 4, 3) := by decide +kernel
theorem dX0_signAndZero_14 : decode cX0_signAndZero 14 = .ok (.iconst 0, 1) := by decide +kernel
theorem dX0_signAndZero_15 : decode cX0_signAndZero 15 = .ok (.ior, 1) := by decide +kernel
theorem dX0_signAndZero_16 : decode cX0_signAndZero 16 = .ok (.ireturn, 1) := by decide +kernel
def fX0_signAndZero (p1 : Int32) : Option (Int32) := bd (if p1 = (0 : Int32) then (some (64 : Int32)) else (some (0 : Int32))) fun x3 => some ((p1 &&& (128 : Int32)) ||| x3)
set_option maxHeartbeats 4000000 in
set_option maxRecDepth 100000 in
theorem cX0_signAndZero_m {l : Launch} {dC : Nat → ClassId} {dI : Nat → Nat → Nat} {cI : ClassId} {w : va_W} {p1 : Int32} {zr : Int32} (h : fX0_signAndZero p1 = some zr) : sw_Mi l yX0_signAndZero (sw_ws yX0_signAndZero cX0_signAndZero 1 (some .int)) (sw_rm 0 0) (dC, dI) vwCl [(cI, .int)] cF [.int p1] w w zr := by
  intro sz
  refine sw_of (cc := cX0_signAndZero) (maxL := 1) (ret := (some .int)) (by decide) rfl (Nat.le_of_ble_eq_true rfl) ?_
  intro p e s m args below meth c A ls hAe hsz X _ hP hD hS hl
  rw [hAe]
  have hx := X.1.1
  have hb := X.1.2.1
  have hown := X.1.2.2.2.1
  have hts := X.1.2.2.2.2
  replace hl : lv_has ls 1 [(0, .int p1)] := hl
  unfold fX0_signAndZero at h
  refine lv_iload_n hx hb dX0_signAndZero_0 rfl (lv_at hl 0 rfl) ?_
  refine lv_sipush (v := (128 : Int32)) hx hb dX0_signAndZero_1 (by decide) ?_
  refine lv_iand hx hb dX0_signAndZero_4 ?_
  refine lv_iload_n hx hb dX0_signAndZero_5 rfl (lv_at hl 0 rfl) ?_
  have hq := bd_some h; clear h; obtain ⟨x3, h4, h⟩ := hq
  have K1 : ∀ (H : Heap) (locs : List Loc), va_P (dC, dI) vwCl w H → va_D A w → va_S A s.heap H locs → W p l e (sw_rm 0 0) s m args below meth c H locs 0 0 (MQ below (sw_Qi (dC, dI) vwCl [(cI, .int)] A w zr) args s 0 0 A) (F0 m 15 ls [.int x3, .int (p1 &&& (128 : Int32))]) := by
    intro H locs hP hD hS
    refine lv_ior hx hb dX0_signAndZero_15 ?_
    obtain rfl := Option.some.inj h
    exact sw_iret X hP hD hS dX0_signAndZero_16
  replace h := h4
  clear h4
  refine lv_if_ne (tgt := 14) hx hb dX0_signAndZero_6 (by decide) (fun c2 => ?_) (fun c2 => ?_)
  · replace h := if_no h c2
    refine lv_iconst (v := (0 : Int32)) hx hb dX0_signAndZero_14 (by decide) ?_
    obtain rfl := Option.some.inj h
    exact K1 _ _ hP hD hS
  · replace h := if_yes h c2
    refine lv_bipush (v := (64 : Int32)) hx hb dX0_signAndZero_9 (by decide) ?_
    refine lv_goto (tgt := 15) hx hb dX0_signAndZero_11 (by decide) ?_
    obtain rfl := Option.some.inj h
    exact K1 _ _ hP hD hS
theorem dX6_loadFlags_0 : decode cX6_loadFlags 0 = .ok (.aload_n 0, 1) := by decide +kernel
theorem dX6_loadFlags_1 : decode cX6_loadFlags 1 = .ok (.getfield 9, 3) := by decide +kernel
theorem dX6_loadFlags_4 : decode cX6_loadFlags 4 = .ok (.iconst 0, 1) := by decide +kernel
theorem dX6_loadFlags_5 : decode cX6_loadFlags 5 = .ok (.aload_n 0, 1) := by decide +kernel
theorem dX6_loadFlags_6 : decode cX6_loadFlags 6 = .ok (.getfield 9, 3) := by decide +kernel
theorem dX6_loadFlags_9 : decode cX6_loadFlags 9 = .ok (.iconst 0, 1) := by decide +kernel
theorem dX6_loadFlags_10 : decode cX6_loadFlags 10 = .ok (.iaload, 1) := by decide +kernel
theorem dX6_loadFlags_11 : decode cX6_loadFlags 11 = .ok (.ldc 27, 2) := by decide +kernel
theorem dX6_loadFlags_13 : decode cX6_loadFlags 13 = .ok (.iand, 1) := by decide +kernel
theorem dX6_loadFlags_14 : decode cX6_loadFlags 14 = .ok (.iload_n 1, 1) := by decide +kernel
theorem dX6_loadFlags_15 : decode cX6_loadFlags 15 = .ok (.ior, 1) := by decide +kernel
theorem dX6_loadFlags_16 : decode cX6_loadFlags 16 = .ok (.iastore, 1) := by decide +kernel
theorem dX6_loadFlags_17 : decode cX6_loadFlags 17 = .ok (.return_, 1) := by decide +kernel
def fX6_loadFlags (p1 : Int32) (s0 : zS) : Option (zS) := some (st2 s0 4 ((0 : Int32).toNatClampNeg) (((s0.2 4 ((0 : Int32).toNatClampNeg)) &&& (65280 : Int32)) ||| p1))
set_option maxHeartbeats 4000000 in
set_option maxRecDepth 100000 in
theorem cX6_loadFlags_m {l : Launch} {dC : Nat → ClassId} {dI : Nat → Nat → Nat} {ad : Nat → Nat} {cI : ClassId} {p1 : Int32} {s0 : zS} {zs : zS} (h : fX6_loadFlags p1 s0 = some zs) : sw_Mv l yX6_loadFlags (sw_ws yX6_loadFlags cX6_loadFlags 2 none) (sw_rm 0 0) (dC, dI) vwCl [(cI, .int)] cF [.ref (ad 4), .int p1] (cW ad cI s0) (cW ad cI zs) := by
  intro sz
  refine sw_of (cc := cX6_loadFlags) (maxL := 2) (ret := none) (by decide) rfl (Nat.le_of_ble_eq_true rfl) ?_
  intro p e s m args below meth c A ls hAe hsz X _ hP hD hS hl
  rw [hAe]
  have hx := X.1.1
  have hb := X.1.2.1
  have hown := X.1.2.2.2.1
  have hts := X.1.2.2.2.2
  replace hl : lv_has ls 2 [(0, .ref (ad 4)), (1, .int p1)] := hl
  unfold fX6_loadFlags at h
  refine lv_aload_n hx hb dX6_loadFlags_0 rfl (lv_at hl 0 rfl) ?_
  refine cg_4_0 X hP k_106 dX6_loadFlags_1 ?_
  refine lv_iconst (v := (0 : Int32)) hx hb dX6_loadFlags_4 (by decide) ?_
  refine lv_aload_n hx hb dX6_loadFlags_5 rfl (lv_at hl 0 rfl) ?_
  refine cg_4_0 X hP k_106 dX6_loadFlags_6 ?_
  refine lv_iconst (v := (0 : Int32)) hx hb dX6_loadFlags_9 (by decide) ?_
  refine cl_4 X hP (vin_in (i := (0 : Int32)) (n := 10) (by decide) (by decide)) dX6_loadFlags_10 ?_
  refine lv_ldc (v := 65280) hx hb hown (hts _ (List.mem_cons_of_mem _ k_468)) dX6_loadFlags_11 ?_
  refine lv_iand hx hb dX6_loadFlags_13 ?_
  refine lv_iload_n hx hb dX6_loadFlags_14 rfl (lv_at hl 1 rfl) ?_
  refine lv_ior hx hb dX6_loadFlags_15 ?_
  refine cb_4 X hP hD hS (vin_in (i := (0 : Int32)) (n := 10) (by decide) (by decide)) dX6_loadFlags_16 (fun H locs hP hD hS => ?_)
  obtain rfl := Option.some.inj h
  exact sw_vret X hP hD hS dX6_loadFlags_17
theorem dX0_sum_0 : decode cX0_sum 0 = .ok (.iload_n 1, 1) := by decide +kernel
theorem dX0_sum_1 : decode cX0_sum 1 = .ok (.iload_n 2, 1) := by decide +kernel
theorem dX0_sum_2 : decode cX0_sum 2 = .ok (.iadd, 1) := by decide +kernel
theorem dX0_sum_3 : decode cX0_sum 3 = .ok (.iload_n 3, 1) := by decide +kernel
theorem dX0_sum_4 : decode cX0_sum 4 = .ok (.iadd, 1) := by decide +kernel
theorem dX0_sum_5 : decode cX0_sum 5 = .ok (.istore 4, 2) := by decide +kernel
theorem dX0_sum_7 : decode cX0_sum 7 = .ok (.iload 4, 2) := by decide +kernel
theorem dX0_sum_9 : decode cX0_sum 9 = .ok (.sipush 255, 3) := by decide +kernel
theorem dX0_sum_12 : decode cX0_sum 12 = .ok (.iand, 1) := by decide +kernel
theorem dX0_sum_13 : decode cX0_sum 13 = .ok (.istore 5, 2) := by decide +kernel
theorem dX0_sum_15 : decode cX0_sum 15 = .ok (.iload_n 1, 1) := by decide +kernel
theorem dX0_sum_16 : decode cX0_sum 16 = .ok (.iload 4, 2) := by decide +kernel
theorem dX0_sum_18 : decode cX0_sum 18 = .ok (.ixor, 1) := by decide +kernel
theorem dX0_sum_19 : decode cX0_sum 19 = .ok (.iload_n 2, 1) := by decide +kernel
theorem dX0_sum_20 : decode cX0_sum 20 = .ok (.iload 4, 2) := by decide +kernel
theorem dX0_sum_22 : decode cX0_sum 22 = .ok (.ixor, 1) := by decide +kernel
theorem dX0_sum_23 : decode cX0_sum 23 = .ok (.iand, 1) := by decide +kernel
theorem dX0_sum_24 : decode cX0_sum 24 = .ok (.sipush 128, 3) := by decide +kernel
theorem dX0_sum_27 : decode cX0_sum 27 = .ok (.iand, 1) := by decide +kernel
theorem dX0_sum_28 : decode cX0_sum 28 = .ok (.istore 6, 2) := by decide +kernel
theorem dX0_sum_30 : decode cX0_sum 30 = .ok (.iload_n 1, 1) := by decide +kernel
theorem dX0_sum_31 : decode cX0_sum 31 = .ok (.iload_n 2, 1) := by decide +kernel
theorem dX0_sum_32 : decode cX0_sum 32 = .ok (.ixor, 1) := by decide +kernel
theorem dX0_sum_33 : decode cX0_sum 33 = .ok (.iload 4, 2) := by decide +kernel
theorem dX0_sum_35 : decode cX0_sum 35 = .ok (.ixor, 1) := by decide +kernel
theorem dX0_sum_36 : decode cX0_sum 36 = .ok (.bipush 16, 2) := by decide +kernel
theorem dX0_sum_38 : decode cX0_sum 38 = .ok (.iand, 1) := by decide +kernel
theorem dX0_sum_39 : decode cX0_sum 39 = .ok (.istore 7, 2) := by decide +kernel
theorem dX0_sum_41 : decode cX0_sum 41 = .ok (.aload_n 0, 1) := by decide +kernel
theorem dX0_sum_42 : decode cX0_sum 42 = .ok (.getfield 7, 3) := by decide +kernel
theorem dX0_sum_45 : decode cX0_sum 45 = .ok (.iload 5, 2) := by decide +kernel
theorem dX0_sum_47 : decode cX0_sum 47 = .ok (.invokestatic 37, 3) := by decide +kernel
theorem dX0_sum_50 : decode cX0_sum 50 = .ok (.iload 7, 2) := by decide +kernel
theorem dX0_sum_52 : decode cX0_sum 52 = .ok (.ior, 1) := by decide +kernel
theorem dX0_sum_53 : decode cX0_sum 53 = .ok (.iload 6, 2) := by decide +kernel
theorem dX0_sum_55 : decode cX0_sum 55 = .ok (.iconst 5, 1) := by decide +kernel
theorem dX0_sum_56 : decode cX0_sum 56 = .ok (.ishr, 1) := by decide +kernel
theorem dX0_sum_57 : decode cX0_sum 57 = .ok (.ior, 1) := by decide +kernel
theorem dX0_sum_58 : decode cX0_sum 58 = .ok (.iload 4, 2) := by decide +kernel
theorem dX0_sum_60 : decode cX0_sum 60 = .ok (.bipush 8, 2) := by decide +kernel
theorem dX0_sum_62 : decode cX0_sum 62 = .ok (.ishr, 1) := by decide +kernel
theorem dX0_sum_63 : decode cX0_sum 63 = .ok (.ior, 1) := by decide +kernel
theorem dX0_sum_64 : decode cX0_sum 64 = .ok (.invokevirtual 40, 3) := by decide +kernel
theorem dX0_sum_67 : decode cX0_sum 67 = .ok (.iload 5, 2) := by decide +kernel
theorem dX0_sum_69 : decode cX0_sum 69 = .ok (.ireturn, 1) := by decide +kernel
def fX0_sum (p1 p2 p3 : Int32) (s0 : zS) : Option (Int32 × zS) := nm ((p1 + p2) + p3) fun x1 => nm (x1 &&& (255 : Int32)) fun x2 => nm (((p1 ^^^ x1) &&& (p2 ^^^ x1)) &&& (128 : Int32)) fun x3 => nm (((p1 ^^^ p2) ^^^ x1) &&& (16 : Int32)) fun x4 => bd (fX0_signAndZero x2) fun r6 => bd (fX6_loadFlags (((r6 ||| x4) ||| (x3 >>> ((5 : Int32) &&& 31))) ||| (x1 >>> ((8 : Int32) &&& 31))) s0) fun s8 => some (x2, s8)
set_option maxHeartbeats 4000000 in
set_option maxRecDepth 100000 in
theorem cX0_sum_m {l : Launch} {dC : Nat → ClassId} {dI : Nat → Nat → Nat} {ad : Nat → Nat} {cI : ClassId} {p1 p2 p3 : Int32} {s0 : zS} {zr : Int32} {zs : zS} (h : fX0_sum p1 p2 p3 s0 = some (zr, zs)) : sw_Mi l yX0_sum (sw_ws yX0_sum cX0_sum 8 (some .int)) (sw_rm 1 21) (dC, dI) vwCl [(cI, .int)] cF [.ref (ad 6), .int p1, .int p2, .int p3] (cW ad cI s0) (cW ad cI zs) zr := by
  intro sz
  refine sw_of (cc := cX0_sum) (maxL := 8) (ret := (some .int)) (by decide) rfl (Nat.le_of_ble_eq_true rfl) ?_
  intro p e s m args below meth c A ls hAe hsz X _ hP hD hS hl
  rw [hAe]
  have hx := X.1.1
  have hb := X.1.2.1
  have hown := X.1.2.2.2.1
  have hts := X.1.2.2.2.2
  replace hl : lv_has ls 8 [(0, .ref (ad 6)), (1, .int p1), (2, .int p2), (3, .int p3)] := hl
  unfold fX0_sum at h
  refine lv_iload_n hx hb dX0_sum_0 rfl (lv_at hl 1 rfl) ?_
  refine lv_iload_n hx hb dX0_sum_1 rfl (lv_at hl 2 rfl) ?_
  refine lv_iadd hx hb dX0_sum_2 ?_
  refine lv_iload_n hx hb dX0_sum_3 rfl (lv_at hl 3 rfl) ?_
  refine lv_iadd hx hb dX0_sum_4 ?_
  refine lv_topi (fun x1 ex1 => ?_)
  replace h := nm_use ex1 h
  refine lv_istore (lv' := [(4, .int x1), (0, .ref (ad 6)), (1, .int p1), (2, .int p2), (3, .int p3)]) hx hb dX0_sum_5 hl (by decide) rfl (fun ls hl => ?_)
  refine lv_iload hx hb dX0_sum_7 (lv_at hl 0 rfl) ?_
  refine lv_sipush (v := (255 : Int32)) hx hb dX0_sum_9 (by decide) ?_
  refine lv_iand hx hb dX0_sum_12 ?_
  refine lv_topi (fun x2 ex2 => ?_)
  replace h := nm_use ex2 h
  refine lv_istore (lv' := [(5, .int x2), (4, .int x1), (0, .ref (ad 6)), (1, .int p1), (2, .int p2), (3, .int p3)]) hx hb dX0_sum_13 hl (by decide) rfl (fun ls hl => ?_)
  refine lv_iload_n hx hb dX0_sum_15 rfl (lv_at hl 3 rfl) ?_
  refine lv_iload hx hb dX0_sum_16 (lv_at hl 1 rfl) ?_
  refine lv_ixor hx hb dX0_sum_18 ?_
  refine lv_iload_n hx hb dX0_sum_19 rfl (lv_at hl 4 rfl) ?_
  refine lv_iload hx hb dX0_sum_20 (lv_at hl 1 rfl) ?_
  refine lv_ixor hx hb dX0_sum_22 ?_
  refine lv_iand hx hb dX0_sum_23 ?_
  refine lv_sipush (v := (128 : Int32)) hx hb dX0_sum_24 (by decide) ?_
  refine lv_iand hx hb dX0_sum_27 ?_
  refine lv_topi (fun x3 ex3 => ?_)
  replace h := nm_use ex3 h
  refine lv_istore (lv' := [(6, .int x3), (5, .int x2), (4, .int x1), (0, .ref (ad 6)), (1, .int p1), (2, .int p2), (3, .int p3)]) hx hb dX0_sum_28 hl (by decide) rfl (fun ls hl => ?_)
  refine lv_iload_n hx hb dX0_sum_30 rfl (lv_at hl 4 rfl) ?_
  refine lv_iload_n hx hb dX0_sum_31 rfl (lv_at hl 5 rfl) ?_
  refine lv_ixor hx hb dX0_sum_32 ?_
  refine lv_iload hx hb dX0_sum_33 (lv_at hl 2 rfl) ?_
  refine lv_ixor hx hb dX0_sum_35 ?_
  refine lv_bipush (v := (16 : Int32)) hx hb dX0_sum_36 (by decide) ?_
  refine lv_iand hx hb dX0_sum_38 ?_
  refine lv_topi (fun x4 ex4 => ?_)
  replace h := nm_use ex4 h
  refine lv_istore (lv' := [(7, .int x4), (6, .int x3), (5, .int x2), (4, .int x1), (0, .ref (ad 6)), (1, .int p1), (2, .int p2), (3, .int p3)]) hx hb dX0_sum_39 hl (by decide) rfl (fun ls hl => ?_)
  refine lv_aload_n hx hb dX0_sum_41 rfl (lv_at hl 4 rfl) ?_
  refine cg_6_0 X hP k_122 dX0_sum_42 ?_
  refine lv_iload hx hb dX0_sum_45 (lv_at hl 2 rfl) ?_
  have hq := bd_some h; clear h; obtain ⟨r6, h5, h⟩ := hq
  refine sw_si (rest := [.ref (ad 4)]) c_good X (cX0_signAndZero_m h5) calX0_signAndZero k_548 hP hD hS ⟨rfl, rfl⟩ rfl hl.1 rfl (Nat.le_of_ble_eq_true rfl) dX0_sum_47 (fun H locs hP hD hS => ?_)
  refine lv_iload hx hb dX0_sum_50 (lv_at hl 0 rfl) ?_
  refine lv_ior hx hb dX0_sum_52 ?_
  refine lv_iload hx hb dX0_sum_53 (lv_at hl 1 rfl) ?_
  refine lv_iconst (v := (5 : Int32)) hx hb dX0_sum_55 (by decide) ?_
  refine lv_ishr hx hb dX0_sum_56 ?_
  refine lv_ior hx hb dX0_sum_57 ?_
  refine lv_iload hx hb dX0_sum_58 (lv_at hl 3 rfl) ?_
  refine lv_bipush (v := (8 : Int32)) hx hb dX0_sum_60 (by decide) ?_
  refine lv_ishr hx hb dX0_sum_62 ?_
  refine lv_ior hx hb dX0_sum_63 ?_
  have hq := bd_some h; clear h; obtain ⟨s8, h7, h⟩ := hq
  refine sw_vv (rest := []) c_good X (cX6_loadFlags_m h7) calX6_loadFlags k_502 hP hD hS 4 6 rfl rfl rfl ⟨rfl, rfl⟩ rfl hl.1 rfl (Nat.le_of_ble_eq_true rfl) dX0_sum_64 (fun H locs hP hD hS => ?_)
  refine lv_iload hx hb dX0_sum_67 (lv_at hl 2 rfl) ?_
  obtain ⟨rfl, rfl⟩ := Prod.mk.inj (Option.some.inj h)
  exact sw_iret X hP hD hS dX0_sum_69
theorem dX6_loadSingle_0 : decode cX6_loadSingle 0 = .ok (.iload_n 1, 1) := by decide +kernel
theorem dX6_loadSingle_1 : decode cX6_loadSingle 1 = .ok (.invokestatic 19, 3) := by decide +kernel
theorem dX6_loadSingle_4 : decode cX6_loadSingle 4 = .ok (.istore_n 3, 1) := by decide +kernel
theorem dX6_loadSingle_5 : decode cX6_loadSingle 5 = .ok (.aload_n 0, 1) := by decide +kernel
theorem dX6_loadSingle_6 : decode cX6_loadSingle 6 = .ok (.getfield 9, 3) := by decide +kernel
theorem dX6_loadSingle_9 : decode cX6_loadSingle 9 = .ok (.iload_n 3, 1) := by decide +kernel
theorem dX6_loadSingle_10 : decode cX6_loadSingle 10 = .ok (.iaload, 1) := by decide +kernel
theorem dX6_loadSingle_11 : decode cX6_loadSingle 11 = .ok (.istore 4, 2) := by decide +kernel
theorem dX6_loadSingle_13 : decode cX6_loadSingle 13 = .ok (.aload_n 0, 1) := by decide +kernel
theorem dX6_loadSingle_14 : decode cX6_loadSingle 14 = .ok (.getfield 9, 3) := by decide +kernel
theorem dX6_loadSingle_17 : decode cX6_loadSingle 17 = .ok (.iload_n 3, 1) := by decide +kernel
theorem dX6_loadSingle_18 : decode cX6_loadSingle 18 = .ok (.iload_n 1, 1) := by decide +kernel
theorem dX6_loadSingle_19 : decode cX6_loadSingle 19 = .ok (.invokestatic 23, 3) := by decide +kernel
theorem dX6_loadSingle_22 : decode cX6_loadSingle 22 = .ok (.ifCond .eq 17, 3) := by decide +kernel
theorem dX6_loadSingle_25 : decode cX6_loadSingle 25 = .ok (.iload_n 2, 1) := by decide +kernel
theorem dX6_loadSingle_26 : decode cX6_loadSingle 26 = .ok (.bipush 8, 2) := by decide +kernel
theorem dX6_loadSingle_28 : decode cX6_loadSingle 28 = .ok (.ishl, 1) := by decide +kernel
theorem dX6_loadSingle_29 : decode cX6_loadSingle 29 = .ok (.iload 4, 2) := by decide +kernel
theorem dX6_loadSingle_31 : decode cX6_loadSingle 31 = .ok (.sipush 255, 3) := by decide +kernel
theorem dX6_loadSingle_34 : decode cX6_loadSingle 34 = .ok (.iand, 1) := by decide +kernel
theorem dX6_loadSingle_35 : decode cX6_loadSingle 35 = .ok (.ior, 1) := by decide +kernel
theorem dX6_loadSingle_36 : decode cX6_loadSingle 36 = .ok (.goto 10, 3) := by decide +kernel
theorem dX6_loadSingle_39 : decode cX6_loadSingle 39 = .ok (.iload 4, 2) := by decide +kernel
theorem dX6_loadSingle_41 : decode cX6_loadSingle 41 = .ok (.ldc 27, 2) := by decide +kernel
theorem dX6_loadSingle_43 : decode cX6_loadSingle 43 = .ok (.iand, 1) := by decide +kernel
theorem dX6_loadSingle_44 : decode cX6_loadSingle 44 = .ok (.iload_n 2, 1) := by decide +kernel
theorem dX6_loadSingle_45 : decode cX6_loadSingle 45 = .ok (.ior, 1) := by decide +kernel
theorem dX6_loadSingle_46 : decode cX6_loadSingle 46 = .ok (.iastore, 1) := by decide +kernel
theorem dX6_loadSingle_47 : decode cX6_loadSingle 47 = .ok (.return_, 1) := by decide +kernel
def fX6_loadSingle (p1 p2 : Int32) (s0 : zS) : Option (zS) := bd (fX6_pairWith p1) fun r2 => gd (0 ≤ r2 ∧ r2 < 10) <| nm (s0.2 4 (r2.toNatClampNeg)) fun x4 => bd (fX6_isHigher p1) fun r6 => bd (if r6 = (0 : Int32) then (some ((x4 &&& (65280 : Int32)) ||| p2)) else (some ((p2 <<< ((8 : Int32) &&& 31)) ||| (x4 &&& (255 : Int32))))) fun x9 => gd (0 ≤ r2 ∧ r2 < 10) <| some (st2 s0 4 (r2.toNatClampNeg) x9)
set_option maxHeartbeats 4000000 in
set_option maxRecDepth 100000 in
theorem cX6_loadSingle_m {l : Launch} {dC : Nat → ClassId} {dI : Nat → Nat → Nat} {ad : Nat → Nat} {cI : ClassId} {p1 p2 : Int32} {s0 : zS} {zs : zS} (h : fX6_loadSingle p1 p2 s0 = some zs) : sw_Mv l yX6_loadSingle (sw_ws yX6_loadSingle cX6_loadSingle 5 none) (sw_rm 1 20) (dC, dI) vwCl [(cI, .int)] cF [.ref (ad 4), .int p1, .int p2] (cW ad cI s0) (cW ad cI zs) := by
  intro sz
  refine sw_of (cc := cX6_loadSingle) (maxL := 5) (ret := none) (by decide) rfl (Nat.le_of_ble_eq_true rfl) ?_
  intro p e s m args below meth c A ls hAe hsz X _ hP hD hS hl
  rw [hAe]
  have hx := X.1.1
  have hb := X.1.2.1
  have hown := X.1.2.2.2.1
  have hts := X.1.2.2.2.2
  replace hl : lv_has ls 5 [(0, .ref (ad 4)), (1, .int p1), (2, .int p2)] := hl
  unfold fX6_loadSingle at h
  refine lv_iload_n hx hb dX6_loadSingle_0 rfl (lv_at hl 1 rfl) ?_
  have hq := bd_some h; clear h; obtain ⟨r2, h1, h⟩ := hq
  refine sw_si (rest := []) c_good X (cX6_pairWith_m h1) calX6_pairWith k_458 hP hD hS ⟨rfl, rfl⟩ rfl hl.1 rfl (Nat.le_of_ble_eq_true rfl) dX6_loadSingle_1 (fun H locs hP hD hS => ?_)
  refine lv_istore_n (lv' := [(3, .int r2), (0, .ref (ad 4)), (1, .int p1), (2, .int p2)]) hx hb dX6_loadSingle_4 rfl hl (by decide) rfl (fun ls hl => ?_)
  refine lv_aload_n hx hb dX6_loadSingle_5 rfl (lv_at hl 1 rfl) ?_
  refine cg_4_0 X hP k_106 dX6_loadSingle_6 ?_
  refine lv_iload_n hx hb dX6_loadSingle_9 rfl (lv_at hl 0 rfl) ?_
  have hq := gd_some h; clear h; obtain ⟨c3, h⟩ := hq
  refine cl_4 X hP (vin_in c3 (by decide)) dX6_loadSingle_10 ?_
  refine lv_topi (fun x4 ex4 => ?_)
  replace h := nm_use ex4 h
  refine lv_istore (lv' := [(4, .int x4), (3, .int r2), (0, .ref (ad 4)), (1, .int p1), (2, .int p2)]) hx hb dX6_loadSingle_11 hl (by decide) rfl (fun ls hl => ?_)
  refine lv_aload_n hx hb dX6_loadSingle_13 rfl (lv_at hl 2 rfl) ?_
  refine cg_4_0 X hP k_106 dX6_loadSingle_14 ?_
  refine lv_iload_n hx hb dX6_loadSingle_17 rfl (lv_at hl 1 rfl) ?_
  refine lv_iload_n hx hb dX6_loadSingle_18 rfl (lv_at hl 3 rfl) ?_
  have hq := bd_some h; clear h; obtain ⟨r6, h5, h⟩ := hq
  refine sw_si (rest := [.int r2, .ref (ad 13)]) c_good X (cX6_isHigher_m h5) calX6_isHigher k_461 hP hD hS ⟨rfl, rfl⟩ rfl hl.1 rfl (Nat.le_of_ble_eq_true rfl) dX6_loadSingle_19 (fun H locs hP hD hS => ?_)
  have hq := bd_some h; clear h; obtain ⟨x9, h10, h⟩ := hq
  have K7 : ∀ (H : Heap) (locs : List Loc), va_P (dC, dI) vwCl (cW ad cI s0) H → va_D A (cW ad cI s0) → va_S A s.heap H locs → W p l e (sw_rm 1 20) s m args below meth c H locs 0 0 (MQ below (sw_Qv (dC, dI) vwCl [(cI, .int)] A (cW ad cI zs)) args s 0 0 A) (F0 m 46 ls [.int x9, .int r2, .ref (ad 13)]) := by
    intro H locs hP hD hS
    have hq := gd_some h; clear h; obtain ⟨c11, h⟩ := hq
    refine cb_4 X hP hD hS (vin_in c11 (by decide)) dX6_loadSingle_46 (fun H locs hP hD hS => ?_)
    obtain rfl := Option.some.inj h
    exact sw_vret X hP hD hS dX6_loadSingle_47
  replace h := h10
  clear h10
  refine lv_if_eq (tgt := 39) hx hb dX6_loadSingle_22 (by decide) (fun c8 => ?_) (fun c8 => ?_)
  · replace h := if_yes h c8
    refine lv_iload hx hb dX6_loadSingle_39 (lv_at hl 0 rfl) ?_
    refine lv_ldc (v := 65280) hx hb hown (hts _ (List.mem_cons_of_mem _ k_468)) dX6_loadSingle_41 ?_
    refine lv_iand hx hb dX6_loadSingle_43 ?_
    refine lv_iload_n hx hb dX6_loadSingle_44 rfl (lv_at hl 4 rfl) ?_
    refine lv_ior hx hb dX6_loadSingle_45 ?_
    obtain rfl := Option.some.inj h
    exact K7 _ _ hP hD hS
  · replace h := if_no h c8
    refine lv_iload_n hx hb dX6_loadSingle_25 rfl (lv_at hl 4 rfl) ?_
    refine lv_bipush (v := (8 : Int32)) hx hb dX6_loadSingle_26 (by decide) ?_
    refine lv_ishl hx hb dX6_loadSingle_28 ?_
    refine lv_iload hx hb dX6_loadSingle_29 (lv_at hl 0 rfl) ?_
    refine lv_sipush (v := (255 : Int32)) hx hb dX6_loadSingle_31 (by decide) ?_
    refine lv_iand hx hb dX6_loadSingle_34 ?_
    refine lv_ior hx hb dX6_loadSingle_35 ?_
    refine lv_goto (tgt := 46) hx hb dX6_loadSingle_36 (by decide) ?_
    obtain rfl := Option.some.inj h
    exact K7 _ _ hP hD hS
theorem dX0_difference_0 : decode cX0_difference 0 = .ok (.iload_n 1, 1) := by decide +kernel
theorem dX0_difference_1 : decode cX0_difference 1 = .ok (.iload_n 2, 1) := by decide +kernel
theorem dX0_difference_2 : decode cX0_difference 2 = .ok (.isub, 1) := by decide +kernel
theorem dX0_difference_3 : decode cX0_difference 3 = .ok (.iload_n 3, 1) := by decide +kernel
theorem dX0_difference_4 : decode cX0_difference 4 = .ok (.isub, 1) := by decide +kernel
theorem dX0_difference_5 : decode cX0_difference 5 = .ok (.istore 4, 2) := by decide +kernel
theorem dX0_difference_7 : decode cX0_difference 7 = .ok (.iload 4, 2) := by decide +kernel
theorem dX0_difference_9 : decode cX0_difference 9 = .ok (.sipush 255, 3) := by decide +kernel
theorem dX0_difference_12 : decode cX0_difference 12 = .ok (.iand, 1) := by decide +kernel
theorem dX0_difference_13 : decode cX0_difference 13 = .ok (.istore 5, 2) := by decide +kernel
theorem dX0_difference_15 : decode cX0_difference 15 = .ok (.iload_n 1, 1) := by decide +kernel
theorem dX0_difference_16 : decode cX0_difference 16 = .ok (.iload_n 2, 1) := by decide +kernel
theorem dX0_difference_17 : decode cX0_difference 17 = .ok (.ixor, 1) := by decide +kernel
theorem dX0_difference_18 : decode cX0_difference 18 = .ok (.iload_n 1, 1) := by decide +kernel
theorem dX0_difference_19 : decode cX0_difference 19 = .ok (.iload 4, 2) := by decide +kernel
theorem dX0_difference_21 : decode cX0_difference 21 = .ok (.ixor, 1) := by decide +kernel
theorem dX0_difference_22 : decode cX0_difference 22 = .ok (.iand, 1) := by decide +kernel
theorem dX0_difference_23 : decode cX0_difference 23 = .ok (.sipush 128, 3) := by decide +kernel
theorem dX0_difference_26 : decode cX0_difference 26 = .ok (.iand, 1) := by decide +kernel
theorem dX0_difference_27 : decode cX0_difference 27 = .ok (.istore 6, 2) := by decide +kernel
theorem dX0_difference_29 : decode cX0_difference 29 = .ok (.iload_n 1, 1) := by decide +kernel
theorem dX0_difference_30 : decode cX0_difference 30 = .ok (.iload_n 2, 1) := by decide +kernel
theorem dX0_difference_31 : decode cX0_difference 31 = .ok (.ixor, 1) := by decide +kernel
theorem dX0_difference_32 : decode cX0_difference 32 = .ok (.iload 4, 2) := by decide +kernel
theorem dX0_difference_34 : decode cX0_difference 34 = .ok (.ixor, 1) := by decide +kernel
theorem dX0_difference_35 : decode cX0_difference 35 = .ok (.bipush 16, 2) := by decide +kernel
theorem dX0_difference_37 : decode cX0_difference 37 = .ok (.iand, 1) := by decide +kernel
theorem dX0_difference_38 : decode cX0_difference 38 = .ok (.istore 7, 2) := by decide +kernel
theorem dX0_difference_40 : decode cX0_difference 40 = .ok (.aload_n 0, 1) := by decide +kernel
theorem dX0_difference_41 : decode cX0_difference 41 = .ok (.getfield 7, 3) := by decide +kernel
theorem dX0_difference_44 : decode cX0_difference 44 = .ok (.iload 5, 2) := by decide +kernel
theorem dX0_difference_46 : decode cX0_difference 46 = .ok (.invokestatic 37, 3) := by decide +kernel
theorem dX0_difference_49 : decode cX0_difference 49 = .ok (.iload 7, 2) := by decide +kernel
theorem dX0_difference_51 : decode cX0_difference 51 = .ok (.ior, 1) := by decide +kernel
theorem dX0_difference_52 : decode cX0_difference 52 = .ok (.iload 6, 2) := by decide +kernel
theorem dX0_difference_54 : decode cX0_difference 54 = .ok (.iconst 5, 1) := by decide +kernel
theorem dX0_difference_55 : decode cX0_difference 55 = .ok (.ishr, 1) := by decide +kernel
theorem dX0_difference_56 : decode cX0_difference 56 = .ok (.ior, 1) := by decide +kernel
theorem dX0_difference_57 : decode cX0_difference 57 = .ok (.iconst 2, 1) := by decide +kernel
theorem dX0_difference_58 : decode cX0_difference 58 = .ok (.ior, 1) := by decide +kernel
theorem dX0_difference_59 : decode cX0_difference 59 = .ok (.iload 4, 2) := by decide +kernel
theorem dX0_difference_61 : decode cX0_difference 61 = .ok (.bipush 8, 2) := by decide +kernel
theorem dX0_difference_63 : decode cX0_difference 63 = .ok (.ishr, 1) := by decide +kernel
theorem dX0_difference_64 : decode cX0_difference 64 = .ok (.iconst 1, 1) := by decide +kernel
theorem dX0_difference_65 : decode cX0_difference 65 = .ok (.iand, 1) := by decide +kernel
theorem dX0_difference_66 : decode cX0_difference 66 = .ok (.ior, 1) := by decide +kernel
theorem dX0_difference_67 : decode cX0_difference 67 = .ok (.invokevirtual 40, 3) := by decide +kernel
theorem dX0_difference_70 : decode cX0_difference 70 = .ok (.iload 5, 2) := by decide +kernel
theorem dX0_difference_72 : decode cX0_difference 72 = .ok (.ireturn, 1) := by decide +kernel
def fX0_difference (p1 p2 p3 : Int32) (s0 : zS) : Option (Int32 × zS) := nm ((p1 - p2) - p3) fun x1 => nm (x1 &&& (255 : Int32)) fun x2 => nm (((p1 ^^^ p2) &&& (p1 ^^^ x1)) &&& (128 : Int32)) fun x3 => nm (((p1 ^^^ p2) ^^^ x1) &&& (16 : Int32)) fun x4 => bd (fX0_signAndZero x2) fun r6 => bd (fX6_loadFlags ((((r6 ||| x4) ||| (x3 >>> ((5 : Int32) &&& 31))) ||| (2 : Int32)) ||| ((x1 >>> ((8 : Int32) &&& 31)) &&& (1 : Int32))) s0) fun s8 => some (x2, s8)
set_option maxHeartbeats 4000000 in
set_option maxRecDepth 100000 in
theorem cX0_difference_m {l : Launch} {dC : Nat → ClassId} {dI : Nat → Nat → Nat} {ad : Nat → Nat} {cI : ClassId} {p1 p2 p3 : Int32} {s0 : zS} {zr : Int32} {zs : zS} (h : fX0_difference p1 p2 p3 s0 = some (zr, zs)) : sw_Mi l yX0_difference (sw_ws yX0_difference cX0_difference 8 (some .int)) (sw_rm 1 21) (dC, dI) vwCl [(cI, .int)] cF [.ref (ad 6), .int p1, .int p2, .int p3] (cW ad cI s0) (cW ad cI zs) zr := by
  intro sz
  refine sw_of (cc := cX0_difference) (maxL := 8) (ret := (some .int)) (by decide) rfl (Nat.le_of_ble_eq_true rfl) ?_
  intro p e s m args below meth c A ls hAe hsz X _ hP hD hS hl
  rw [hAe]
  have hx := X.1.1
  have hb := X.1.2.1
  have hown := X.1.2.2.2.1
  have hts := X.1.2.2.2.2
  replace hl : lv_has ls 8 [(0, .ref (ad 6)), (1, .int p1), (2, .int p2), (3, .int p3)] := hl
  unfold fX0_difference at h
  refine lv_iload_n hx hb dX0_difference_0 rfl (lv_at hl 1 rfl) ?_
  refine lv_iload_n hx hb dX0_difference_1 rfl (lv_at hl 2 rfl) ?_
  refine lv_isub hx hb dX0_difference_2 ?_
  refine lv_iload_n hx hb dX0_difference_3 rfl (lv_at hl 3 rfl) ?_
  refine lv_isub hx hb dX0_difference_4 ?_
  refine lv_topi (fun x1 ex1 => ?_)
  replace h := nm_use ex1 h
  refine lv_istore (lv' := [(4, .int x1), (0, .ref (ad 6)), (1, .int p1), (2, .int p2), (3, .int p3)]) hx hb dX0_difference_5 hl (by decide) rfl (fun ls hl => ?_)
  refine lv_iload hx hb dX0_difference_7 (lv_at hl 0 rfl) ?_
  refine lv_sipush (v := (255 : Int32)) hx hb dX0_difference_9 (by decide) ?_
  refine lv_iand hx hb dX0_difference_12 ?_
  refine lv_topi (fun x2 ex2 => ?_)
  replace h := nm_use ex2 h
  refine lv_istore (lv' := [(5, .int x2), (4, .int x1), (0, .ref (ad 6)), (1, .int p1), (2, .int p2), (3, .int p3)]) hx hb dX0_difference_13 hl (by decide) rfl (fun ls hl => ?_)
  refine lv_iload_n hx hb dX0_difference_15 rfl (lv_at hl 3 rfl) ?_
  refine lv_iload_n hx hb dX0_difference_16 rfl (lv_at hl 4 rfl) ?_
  refine lv_ixor hx hb dX0_difference_17 ?_
  refine lv_iload_n hx hb dX0_difference_18 rfl (lv_at hl 3 rfl) ?_
  refine lv_iload hx hb dX0_difference_19 (lv_at hl 1 rfl) ?_
  refine lv_ixor hx hb dX0_difference_21 ?_
  refine lv_iand hx hb dX0_difference_22 ?_
  refine lv_sipush (v := (128 : Int32)) hx hb dX0_difference_23 (by decide) ?_
  refine lv_iand hx hb dX0_difference_26 ?_
  refine lv_topi (fun x3 ex3 => ?_)
  replace h := nm_use ex3 h
  refine lv_istore (lv' := [(6, .int x3), (5, .int x2), (4, .int x1), (0, .ref (ad 6)), (1, .int p1), (2, .int p2), (3, .int p3)]) hx hb dX0_difference_27 hl (by decide) rfl (fun ls hl => ?_)
  refine lv_iload_n hx hb dX0_difference_29 rfl (lv_at hl 4 rfl) ?_
  refine lv_iload_n hx hb dX0_difference_30 rfl (lv_at hl 5 rfl) ?_
  refine lv_ixor hx hb dX0_difference_31 ?_
  refine lv_iload hx hb dX0_difference_32 (lv_at hl 2 rfl) ?_
  refine lv_ixor hx hb dX0_difference_34 ?_
  refine lv_bipush (v := (16 : Int32)) hx hb dX0_difference_35 (by decide) ?_
  refine lv_iand hx hb dX0_difference_37 ?_
  refine lv_topi (fun x4 ex4 => ?_)
  replace h := nm_use ex4 h
  refine lv_istore (lv' := [(7, .int x4), (6, .int x3), (5, .int x2), (4, .int x1), (0, .ref (ad 6)), (1, .int p1), (2, .int p2), (3, .int p3)]) hx hb dX0_difference_38 hl (by decide) rfl (fun ls hl => ?_)
  refine lv_aload_n hx hb dX0_difference_40 rfl (lv_at hl 4 rfl) ?_
  refine cg_6_0 X hP k_122 dX0_difference_41 ?_
  refine lv_iload hx hb dX0_difference_44 (lv_at hl 2 rfl) ?_
  have hq := bd_some h; clear h; obtain ⟨r6, h5, h⟩ := hq
  refine sw_si (rest := [.ref (ad 4)]) c_good X (cX0_signAndZero_m h5) calX0_signAndZero k_548 hP hD hS ⟨rfl, rfl⟩ rfl hl.1 rfl (Nat.le_of_ble_eq_true rfl) dX0_difference_46 (fun H locs hP hD hS => ?_)
  refine lv_iload hx hb dX0_difference_49 (lv_at hl 0 rfl) ?_
  refine lv_ior hx hb dX0_difference_51 ?_
  refine lv_iload hx hb dX0_difference_52 (lv_at hl 1 rfl) ?_
  refine lv_iconst (v := (5 : Int32)) hx hb dX0_difference_54 (by decide) ?_
  refine lv_ishr hx hb dX0_difference_55 ?_
  refine lv_ior hx hb dX0_difference_56 ?_
  refine lv_iconst (v := (2 : Int32)) hx hb dX0_difference_57 (by decide) ?_
  refine lv_ior hx hb dX0_difference_58 ?_
  refine lv_iload hx hb dX0_difference_59 (lv_at hl 3 rfl) ?_
  refine lv_bipush (v := (8 : Int32)) hx hb dX0_difference_61 (by decide) ?_
  refine lv_ishr hx hb dX0_difference_63 ?_
  refine lv_iconst (v := (1 : Int32)) hx hb dX0_difference_64 (by decide) ?_
  refine lv_iand hx hb dX0_difference_65 ?_
  refine lv_ior hx hb dX0_difference_66 ?_
  have hq := bd_some h; clear h; obtain ⟨s8, h7, h⟩ := hq
  refine sw_vv (rest := []) c_good X (cX6_loadFlags_m h7) calX6_loadFlags k_502 hP hD hS 4 6 rfl rfl rfl ⟨rfl, rfl⟩ rfl hl.1 rfl (Nat.le_of_ble_eq_true rfl) dX0_difference_67 (fun H locs hP hD hS => ?_)
  refine lv_iload hx hb dX0_difference_70 (lv_at hl 2 rfl) ?_
  obtain ⟨rfl, rfl⟩ := Prod.mk.inj (Option.some.inj h)
  exact sw_iret X hP hD hS dX0_difference_72
theorem dJ6_bitCount_0f7a4_0 : decode cJ6_bitCount_0f7a4 0 = .ok (.iload_n 0, 1) := by decide +kernel
theorem dJ6_bitCount_0f7a4_1 : decode cJ6_bitCount_0f7a4 1 = .ok (.iload_n 0, 1) := by decide +kernel
theorem dJ6_bitCount_0f7a4_2 : decode cJ6_bitCount_0f7a4 2 = .ok (.iconst 1, 1) := by decide +kernel
theorem dJ6_bitCount_0f7a4_3 : decode cJ6_bitCount_0f7a4 3 = .ok (.iushr, 1) := by decide +kernel
theorem dJ6_bitCount_0f7a4_4 : decode cJ6_bitCount_0f7a4 4 = .ok (.ldc_w 265, 3) := by decide +kernel
theorem dJ6_bitCount_0f7a4_7 : decode cJ6_bitCount_0f7a4 7 = .ok (.iand, 1) := by decide +kernel
theorem dJ6_bitCount_0f7a4_8 : decode cJ6_bitCount_0f7a4 8 = .ok (.isub, 1) := by decide +kernel
theorem dJ6_bitCount_0f7a4_9 : decode cJ6_bitCount_0f7a4 9 = .ok (.istore_n 0, 1) := by decide +kernel
theorem dJ6_bitCount_0f7a4_10 : decode cJ6_bitCount_0f7a4 10 = .ok (.iload_n 0, 1) := by decide +kernel
theorem dJ6_bitCount_0f7a4_11 : decode cJ6_bitCount_0f7a4 11 = .ok (.ldc_w 266, 3) := by decide +kernel
theorem dJ6_bitCount_0f7a4_14 : decode cJ6_bitCount_0f7a4 14 = .ok (.iand, 1) := by decide +kernel
theorem dJ6_bitCount_0f7a4_15 : decode cJ6_bitCount_0f7a4 15 = .ok (.iload_n 0, 1) := by decide +kernel
theorem dJ6_bitCount_0f7a4_16 : decode cJ6_bitCount_0f7a4 16 = .ok (.iconst 2, 1) := by decide +kernel
theorem dJ6_bitCount_0f7a4_17 : decode cJ6_bitCount_0f7a4 17 = .ok (.iushr, 1) := by decide +kernel
theorem dJ6_bitCount_0f7a4_18 : decode cJ6_bitCount_0f7a4 18 = .ok (.ldc_w 266, 3) := by decide +kernel
theorem dJ6_bitCount_0f7a4_21 : decode cJ6_bitCount_0f7a4 21 = .ok (.iand, 1) := by decide +kernel
theorem dJ6_bitCount_0f7a4_22 : decode cJ6_bitCount_0f7a4 22 = .ok (.iadd, 1) := by decide +kernel
theorem dJ6_bitCount_0f7a4_23 : decode cJ6_bitCount_0f7a4 23 = .ok (.istore_n 0, 1) := by decide +kernel
theorem dJ6_bitCount_0f7a4_24 : decode cJ6_bitCount_0f7a4 24 = .ok (.iload_n 0, 1) := by decide +kernel
theorem dJ6_bitCount_0f7a4_25 : decode cJ6_bitCount_0f7a4 25 = .ok (.iload_n 0, 1) := by decide +kernel
theorem dJ6_bitCount_0f7a4_26 : decode cJ6_bitCount_0f7a4 26 = .ok (.iconst 4, 1) := by decide +kernel
theorem dJ6_bitCount_0f7a4_27 : decode cJ6_bitCount_0f7a4 27 = .ok (.iushr, 1) := by decide +kernel
theorem dJ6_bitCount_0f7a4_28 : decode cJ6_bitCount_0f7a4 28 = .ok (.iadd, 1) := by decide +kernel
theorem dJ6_bitCount_0f7a4_29 : decode cJ6_bitCount_0f7a4 29 = .ok (.ldc_w 267, 3) := by decide +kernel
theorem dJ6_bitCount_0f7a4_32 : decode cJ6_bitCount_0f7a4 32 = .ok (.iand, 1) := by decide +kernel
theorem dJ6_bitCount_0f7a4_33 : decode cJ6_bitCount_0f7a4 33 = .ok (.istore_n 0, 1) := by decide +kernel
theorem dJ6_bitCount_0f7a4_34 : decode cJ6_bitCount_0f7a4 34 = .ok (.iload_n 0, 1) := by decide +kernel
theorem dJ6_bitCount_0f7a4_35 : decode cJ6_bitCount_0f7a4 35 = .ok (.iload_n 0, 1) := by decide +kernel
theorem dJ6_bitCount_0f7a4_36 : decode cJ6_bitCount_0f7a4 36 = .ok (.bipush 8, 2) := by decide +kernel
theorem dJ6_bitCount_0f7a4_38 : decode cJ6_bitCount_0f7a4 38 = .ok (.iushr, 1) := by decide +kernel
theorem dJ6_bitCount_0f7a4_39 : decode cJ6_bitCount_0f7a4 39 = .ok (.iadd, 1) := by decide +kernel
theorem dJ6_bitCount_0f7a4_40 : decode cJ6_bitCount_0f7a4 40 = .ok (.istore_n 0, 1) := by decide +kernel
theorem dJ6_bitCount_0f7a4_41 : decode cJ6_bitCount_0f7a4 41 = .ok (.iload_n 0, 1) := by decide +kernel
theorem dJ6_bitCount_0f7a4_42 : decode cJ6_bitCount_0f7a4 42 = .ok (.iload_n 0, 1) := by decide +kernel
theorem dJ6_bitCount_0f7a4_43 : decode cJ6_bitCount_0f7a4 43 = .ok (.bipush 16, 2) := by decide +kernel
theorem dJ6_bitCount_0f7a4_45 : decode cJ6_bitCount_0f7a4 45 = .ok (.iushr, 1) := by decide +kernel
theorem dJ6_bitCount_0f7a4_46 : decode cJ6_bitCount_0f7a4 46 = .ok (.iadd, 1) := by decide +kernel
theorem dJ6_bitCount_0f7a4_47 : decode cJ6_bitCount_0f7a4 47 = .ok (.istore_n 0, 1) := by decide +kernel
theorem dJ6_bitCount_0f7a4_48 : decode cJ6_bitCount_0f7a4 48 = .ok (.iload_n 0, 1) := by decide +kernel
theorem dJ6_bitCount_0f7a4_49 : decode cJ6_bitCount_0f7a4 49 = .ok (.bipush 63, 2) := by decide +kernel
theorem dJ6_bitCount_0f7a4_51 : decode cJ6_bitCount_0f7a4 51 = .ok (.iand, 1) := by decide +kernel
theorem dJ6_bitCount_0f7a4_52 : decode cJ6_bitCount_0f7a4 52 = .ok (.ireturn, 1) := by decide +kernel
def fJ6_bitCount_0f7a4 (p1 : Int32) : Option (Int32) := nm (p1 - ((p1.toUInt32 >>> (Int32.toUInt32 (1 : Int32) &&& Int32.toUInt32 31)).toInt32 &&& (1431655765 : Int32))) fun x1 => nm ((x1 &&& (858993459 : Int32)) + ((x1.toUInt32 >>> (Int32.toUInt32 (2 : Int32) &&& Int32.toUInt32 31)).toInt32 &&& (858993459 : Int32))) fun x2 => nm ((x2 + (x2.toUInt32 >>> (Int32.toUInt32 (4 : Int32) &&& Int32.toUInt32 31)).toInt32) &&& (252645135 : Int32)) fun x3 => nm (x3 + (x3.toUInt32 >>> (Int32.toUInt32 (8 : Int32) &&& Int32.toUInt32 31)).toInt32) fun x4 => nm (x4 + (x4.toUInt32 >>> (Int32.toUInt32 (16 : Int32) &&& Int32.toUInt32 31)).toInt32) fun x5 => some (x5 &&& (63 : Int32))
set_option maxHeartbeats 4000000 in
set_option maxRecDepth 100000 in
theorem cJ6_bitCount_0f7a4_m {l : Launch} {dC : Nat → ClassId} {dI : Nat → Nat → Nat} {cI : ClassId} {w : va_W} {p1 : Int32} {zr : Int32} (h : fJ6_bitCount_0f7a4 p1 = some zr) : sw_Mi l yJ6_bitCount_0f7a4 (sw_ws yJ6_bitCount_0f7a4 cJ6_bitCount_0f7a4 1 (some .int)) (sw_rm 0 0) (dC, dI) vwCl [(cI, .int)] cF [.int p1] w w zr := by
  intro sz
  refine sw_of (cc := cJ6_bitCount_0f7a4) (maxL := 1) (ret := (some .int)) (by decide) rfl (Nat.le_of_ble_eq_true rfl) ?_
  intro p e s m args below meth c A ls hAe hsz X _ hP hD hS hl
  rw [hAe]
  have hx := X.1.1
  have hb := X.1.2.1
  have hown := X.1.2.2.2.1
  have hts := X.1.2.2.2.2
  replace hl : lv_has ls 1 [(0, .int p1)] := hl
  unfold fJ6_bitCount_0f7a4 at h
  refine lv_iload_n hx hb dJ6_bitCount_0f7a4_0 rfl (lv_at hl 0 rfl) ?_
  refine lv_iload_n hx hb dJ6_bitCount_0f7a4_1 rfl (lv_at hl 0 rfl) ?_
  refine lv_iconst (v := (1 : Int32)) hx hb dJ6_bitCount_0f7a4_2 (by decide) ?_
  refine lv_iushr (v := (p1.toUInt32 >>> (Int32.toUInt32 (1 : Int32) &&& Int32.toUInt32 31)).toInt32) hx hb dJ6_bitCount_0f7a4_3 rfl ?_
  refine lv_ldcw (v := 1431655765) hx hb hown (hts _ (List.mem_cons_of_mem _ k_577)) dJ6_bitCount_0f7a4_4 ?_
  refine lv_iand hx hb dJ6_bitCount_0f7a4_7 ?_
  refine lv_isub hx hb dJ6_bitCount_0f7a4_8 ?_
  refine lv_topi (fun x1 ex1 => ?_)
  replace h := nm_use ex1 h
  refine lv_istore_n (lv' := [(0, .int x1)]) hx hb dJ6_bitCount_0f7a4_9 rfl hl (by decide) rfl (fun ls hl => ?_)
  refine lv_iload_n hx hb dJ6_bitCount_0f7a4_10 rfl (lv_at hl 0 rfl) ?_
  refine lv_ldcw (v := 858993459) hx hb hown (hts _ (List.mem_cons_of_mem _ k_578)) dJ6_bitCount_0f7a4_11 ?_
  refine lv_iand hx hb dJ6_bitCount_0f7a4_14 ?_
  refine lv_iload_n hx hb dJ6_bitCount_0f7a4_15 rfl (lv_at hl 0 rfl) ?_
  refine lv_iconst (v := (2 : Int32)) hx hb dJ6_bitCount_0f7a4_16 (by decide) ?_
  refine lv_iushr (v := (x1.toUInt32 >>> (Int32.toUInt32 (2 : Int32) &&& Int32.toUInt32 31)).toInt32) hx hb dJ6_bitCount_0f7a4_17 rfl ?_
  refine lv_ldcw (v := 858993459) hx hb hown (hts _ (List.mem_cons_of_mem _ k_578)) dJ6_bitCount_0f7a4_18 ?_
  refine lv_iand hx hb dJ6_bitCount_0f7a4_21 ?_
  refine lv_iadd hx hb dJ6_bitCount_0f7a4_22 ?_
  refine lv_topi (fun x2 ex2 => ?_)
  replace h := nm_use ex2 h
  refine lv_istore_n (lv' := [(0, .int x2)]) hx hb dJ6_bitCount_0f7a4_23 rfl hl (by decide) rfl (fun ls hl => ?_)
  refine lv_iload_n hx hb dJ6_bitCount_0f7a4_24 rfl (lv_at hl 0 rfl) ?_
  refine lv_iload_n hx hb dJ6_bitCount_0f7a4_25 rfl (lv_at hl 0 rfl) ?_
  refine lv_iconst (v := (4 : Int32)) hx hb dJ6_bitCount_0f7a4_26 (by decide) ?_
  refine lv_iushr (v := (x2.toUInt32 >>> (Int32.toUInt32 (4 : Int32) &&& Int32.toUInt32 31)).toInt32) hx hb dJ6_bitCount_0f7a4_27 rfl ?_
  refine lv_iadd hx hb dJ6_bitCount_0f7a4_28 ?_
  refine lv_ldcw (v := 252645135) hx hb hown (hts _ (List.mem_cons_of_mem _ k_579)) dJ6_bitCount_0f7a4_29 ?_
  refine lv_iand hx hb dJ6_bitCount_0f7a4_32 ?_
  refine lv_topi (fun x3 ex3 => ?_)
  replace h := nm_use ex3 h
  refine lv_istore_n (lv' := [(0, .int x3)]) hx hb dJ6_bitCount_0f7a4_33 rfl hl (by decide) rfl (fun ls hl => ?_)
  refine lv_iload_n hx hb dJ6_bitCount_0f7a4_34 rfl (lv_at hl 0 rfl) ?_
  refine lv_iload_n hx hb dJ6_bitCount_0f7a4_35 rfl (lv_at hl 0 rfl) ?_
  refine lv_bipush (v := (8 : Int32)) hx hb dJ6_bitCount_0f7a4_36 (by decide) ?_
  refine lv_iushr (v := (x3.toUInt32 >>> (Int32.toUInt32 (8 : Int32) &&& Int32.toUInt32 31)).toInt32) hx hb dJ6_bitCount_0f7a4_38 rfl ?_
  refine lv_iadd hx hb dJ6_bitCount_0f7a4_39 ?_
  refine lv_topi (fun x4 ex4 => ?_)
  replace h := nm_use ex4 h
  refine lv_istore_n (lv' := [(0, .int x4)]) hx hb dJ6_bitCount_0f7a4_40 rfl hl (by decide) rfl (fun ls hl => ?_)
  refine lv_iload_n hx hb dJ6_bitCount_0f7a4_41 rfl (lv_at hl 0 rfl) ?_
  refine lv_iload_n hx hb dJ6_bitCount_0f7a4_42 rfl (lv_at hl 0 rfl) ?_
  refine lv_bipush (v := (16 : Int32)) hx hb dJ6_bitCount_0f7a4_43 (by decide) ?_
  refine lv_iushr (v := (x4.toUInt32 >>> (Int32.toUInt32 (16 : Int32) &&& Int32.toUInt32 31)).toInt32) hx hb dJ6_bitCount_0f7a4_45 rfl ?_
  refine lv_iadd hx hb dJ6_bitCount_0f7a4_46 ?_
  refine lv_topi (fun x5 ex5 => ?_)
  replace h := nm_use ex5 h
  refine lv_istore_n (lv' := [(0, .int x5)]) hx hb dJ6_bitCount_0f7a4_47 rfl hl (by decide) rfl (fun ls hl => ?_)
  refine lv_iload_n hx hb dJ6_bitCount_0f7a4_48 rfl (lv_at hl 0 rfl) ?_
  refine lv_bipush (v := (63 : Int32)) hx hb dJ6_bitCount_0f7a4_49 (by decide) ?_
  refine lv_iand hx hb dJ6_bitCount_0f7a4_51 ?_
  obtain rfl := Option.some.inj h
  exact sw_iret X hP hD hS dJ6_bitCount_0f7a4_52
theorem dX0_even_0 : decode cX0_even 0 = .ok (.iload_n 0, 1) := by decide +kernel
theorem dX0_even_1 : decode cX0_even 1 = .ok (.invokestatic 65, 3) := by decide +kernel
theorem dX0_even_4 : decode cX0_even 4 = .ok (.iconst 1, 1) := by decide +kernel
theorem dX0_even_5 : decode cX0_even 5 = .ok (.iand, 1) := by decide +kernel
theorem dX0_even_6 : decode cX0_even 6 = .ok (.ifCond .ne 7, 3) := by decide +kernel
theorem dX0_even_9 : decode cX0_even 9 = .ok (.iconst 4, 1) := by decide +kernel
theorem dX0_even_10 : decode cX0_even 10 = .ok (.goto 4, 3) := by decide +kernel
theorem dX0_even_13 : decode cX0_even 13 = .ok (.iconst 0, 1) := by decide +kernel
theorem dX0_even_14 : decode cX0_even 14 = .ok (.ireturn, 1) := by decide +kernel
def fX0_even (p1 : Int32) : Option (Int32) := bd (fJ6_bitCount_0f7a4 p1) fun r2 => if (r2 &&& (1 : Int32)) = (0 : Int32) then (some (4 : Int32)) else (some (0 : Int32))
set_option maxHeartbeats 4000000 in
set_option maxRecDepth 100000 in
theorem cX0_even_m {l : Launch} {dC : Nat → ClassId} {dI : Nat → Nat → Nat} {cI : ClassId} {w : va_W} {p1 : Int32} {zr : Int32} (h : fX0_even p1 = some zr) : sw_Mi l yX0_even (sw_ws yX0_even cX0_even 1 (some .int)) (sw_rm 1 20) (dC, dI) vwCl [(cI, .int)] cF [.int p1] w w zr := by
  intro sz
  refine sw_of (cc := cX0_even) (maxL := 1) (ret := (some .int)) (by decide) rfl (Nat.le_of_ble_eq_true rfl) ?_
  intro p e s m args below meth c A ls hAe hsz X _ hP hD hS hl
  rw [hAe]
  have hx := X.1.1
  have hb := X.1.2.1
  have hown := X.1.2.2.2.1
  have hts := X.1.2.2.2.2
  replace hl : lv_has ls 1 [(0, .int p1)] := hl
  unfold fX0_even at h
  refine lv_iload_n hx hb dX0_even_0 rfl (lv_at hl 0 rfl) ?_
  have hq := bd_some h; clear h; obtain ⟨r2, h1, h⟩ := hq
  refine sw_si (rest := []) c_good X (cJ6_bitCount_0f7a4_m h1) calJ6_bitCount_0f7a4 k_574 hP hD hS ⟨rfl, rfl⟩ rfl hl.1 rfl (Nat.le_of_ble_eq_true rfl) dX0_even_1 (fun H locs hP hD hS => ?_)
  refine lv_iconst (v := (1 : Int32)) hx hb dX0_even_4 (by decide) ?_
  refine lv_iand hx hb dX0_even_5 ?_
  refine lv_if_ne (tgt := 13) hx hb dX0_even_6 (by decide) (fun c3 => ?_) (fun c3 => ?_)
  · replace h := if_no h c3
    refine lv_iconst (v := (0 : Int32)) hx hb dX0_even_13 (by decide) ?_
    obtain rfl := Option.some.inj h
    exact sw_iret X hP hD hS dX0_even_14
  · replace h := if_yes h c3
    refine lv_iconst (v := (4 : Int32)) hx hb dX0_even_9 (by decide) ?_
    refine lv_goto (tgt := 14) hx hb dX0_even_10 (by decide) ?_
    obtain rfl := Option.some.inj h
    exact sw_iret X hP hD hS dX0_even_14
theorem dX0_logical_0 : decode cX0_logical 0 = .ok (.aload_n 0, 1) := by decide +kernel
theorem dX0_logical_1 : decode cX0_logical 1 = .ok (.getfield 7, 3) := by decide +kernel
theorem dX0_logical_4 : decode cX0_logical 4 = .ok (.bipush 7, 2) := by decide +kernel
theorem dX0_logical_6 : decode cX0_logical 6 = .ok (.iload_n 1, 1) := by decide +kernel
theorem dX0_logical_7 : decode cX0_logical 7 = .ok (.invokevirtual 27, 3) := by decide +kernel
theorem dX0_logical_10 : decode cX0_logical 10 = .ok (.aload_n 0, 1) := by decide +kernel
theorem dX0_logical_11 : decode cX0_logical 11 = .ok (.getfield 7, 3) := by decide +kernel
theorem dX0_logical_14 : decode cX0_logical 14 = .ok (.iload_n 1, 1) := by decide +kernel
theorem dX0_logical_15 : decode cX0_logical 15 = .ok (.invokestatic 37, 3) := by decide +kernel
theorem dX0_logical_18 : decode cX0_logical 18 = .ok (.iload_n 1, 1) := by decide +kernel
theorem dX0_logical_19 : decode cX0_logical 19 = .ok (.invokestatic 44, 3) := by decide +kernel
theorem dX0_logical_22 : decode cX0_logical 22 = .ok (.ior, 1) := by decide +kernel
theorem dX0_logical_23 : decode cX0_logical 23 = .ok (.iload_n 2, 1) := by decide +kernel
theorem dX0_logical_24 : decode cX0_logical 24 = .ok (.ior, 1) := by decide +kernel
theorem dX0_logical_25 : decode cX0_logical 25 = .ok (.invokevirtual 40, 3) := by decide +kernel
theorem dX0_logical_28 : decode cX0_logical 28 = .ok (.return_, 1) := by decide +kernel
def fX0_logical (p1 p2 : Int32) (s0 : zS) : Option (zS) := bd (fX6_loadSingle (7 : Int32) p1 s0) fun s2 => bd (fX0_signAndZero p1) fun r4 => bd (fX0_even p1) fun r6 => bd (fX6_loadFlags ((r4 ||| r6) ||| p2) s2) fun s8 => some s8
set_option maxHeartbeats 4000000 in
set_option maxRecDepth 100000 in
theorem cX0_logical_m {l : Launch} {dC : Nat → ClassId} {dI : Nat → Nat → Nat} {ad : Nat → Nat} {cI : ClassId} {p1 p2 : Int32} {s0 : zS} {zs : zS} (h : fX0_logical p1 p2 s0 = some zs) : sw_Mv l yX0_logical (sw_ws yX0_logical cX0_logical 3 none) (sw_rm 2 44) (dC, dI) vwCl [(cI, .int)] cF [.ref (ad 6), .int p1, .int p2] (cW ad cI s0) (cW ad cI zs) := by
  intro sz
  refine sw_of (cc := cX0_logical) (maxL := 3) (ret := none) (by decide) rfl (Nat.le_of_ble_eq_true rfl) ?_
  intro p e s m args below meth c A ls hAe hsz X _ hP hD hS hl
  rw [hAe]
  have hx := X.1.1
  have hb := X.1.2.1
  have hown := X.1.2.2.2.1
  have hts := X.1.2.2.2.2
  replace hl : lv_has ls 3 [(0, .ref (ad 6)), (1, .int p1), (2, .int p2)] := hl
  unfold fX0_logical at h
  refine lv_aload_n hx hb dX0_logical_0 rfl (lv_at hl 0 rfl) ?_
  refine cg_6_0 X hP k_122 dX0_logical_1 ?_
  refine lv_bipush (v := (7 : Int32)) hx hb dX0_logical_4 (by decide) ?_
  refine lv_iload_n hx hb dX0_logical_6 rfl (lv_at hl 1 rfl) ?_
  have hq := bd_some h; clear h; obtain ⟨s2, h1, h⟩ := hq
  refine sw_vv (rest := []) c_good X (cX6_loadSingle_m h1) calX6_loadSingle k_570 hP hD hS 4 6 rfl rfl rfl ⟨rfl, rfl⟩ rfl hl.1 rfl (Nat.le_of_ble_eq_true rfl) dX0_logical_7 (fun H locs hP hD hS => ?_)
  refine lv_aload_n hx hb dX0_logical_10 rfl (lv_at hl 0 rfl) ?_
  refine cg_6_0 X hP k_122 dX0_logical_11 ?_
  refine lv_iload_n hx hb dX0_logical_14 rfl (lv_at hl 1 rfl) ?_
  have hq := bd_some h; clear h; obtain ⟨r4, h3, h⟩ := hq
  refine sw_si (rest := [.ref (ad 4)]) c_good X (cX0_signAndZero_m h3) calX0_signAndZero k_548 hP hD hS ⟨rfl, rfl⟩ rfl hl.1 rfl (Nat.le_of_ble_eq_true rfl) dX0_logical_15 (fun H locs hP hD hS => ?_)
  refine lv_iload_n hx hb dX0_logical_18 rfl (lv_at hl 1 rfl) ?_
  have hq := bd_some h; clear h; obtain ⟨r6, h5, h⟩ := hq
  refine sw_si (rest := [.int r4, .ref (ad 4)]) c_good X (cX0_even_m h5) calX0_even k_571 hP hD hS ⟨rfl, rfl⟩ rfl hl.1 rfl (Nat.le_of_ble_eq_true rfl) dX0_logical_19 (fun H locs hP hD hS => ?_)
  refine lv_ior hx hb dX0_logical_22 ?_
  refine lv_iload_n hx hb dX0_logical_23 rfl (lv_at hl 2 rfl) ?_
  refine lv_ior hx hb dX0_logical_24 ?_
  have hq := bd_some h; clear h; obtain ⟨s8, h7, h⟩ := hq
  refine sw_vv (rest := []) c_good X (cX6_loadFlags_m h7) calX6_loadFlags k_502 hP hD hS 4 6 rfl rfl rfl ⟨rfl, rfl⟩ rfl hl.1 rfl (Nat.le_of_ble_eq_true rfl) dX0_logical_25 (fun H locs hP hD hS => ?_)
  obtain rfl := Option.some.inj h
  exact sw_vret X hP hD hS dX0_logical_28
theorem dX0_withA_0 : decode cX0_withA 0 = .ok (.aload_n 0, 1) := by decide +kernel
theorem dX0_withA_1 : decode cX0_withA 1 = .ok (.getfield 7, 3) := by decide +kernel
theorem dX0_withA_4 : decode cX0_withA 4 = .ok (.bipush 7, 2) := by decide +kernel
theorem dX0_withA_6 : decode cX0_withA 6 = .ok (.invokevirtual 15, 3) := by decide +kernel
theorem dX0_withA_9 : decode cX0_withA 9 = .ok (.istore_n 3, 1) := by decide +kernel
theorem dX0_withA_10 : decode cX0_withA 10 = .ok (.aload_n 0, 1) := by decide +kernel
theorem dX0_withA_11 : decode cX0_withA 11 = .ok (.getfield 7, 3) := by decide +kernel
theorem dX0_withA_14 : decode cX0_withA 14 = .ok (.invokevirtual 19, 3) := by decide +kernel
theorem dX0_withA_17 : decode cX0_withA 17 = .ok (.iconst 1, 1) := by decide +kernel
theorem dX0_withA_18 : decode cX0_withA 18 = .ok (.iand, 1) := by decide +kernel
theorem dX0_withA_19 : decode cX0_withA 19 = .ok (.istore 4, 2) := by decide +kernel
theorem dX0_withA_21 : decode cX0_withA 21 = .ok (.iload_n 1, 1) := by decide +kernel
theorem dX0_withA_22 : decode cX0_withA 22 = .ok (.tableswitch 154 0 6 #[42, 61, 81, 100, 120, 132, 143], 42) := by decide +kernel
theorem dX0_withA_64 : decode cX0_withA 64 = .ok (.aload_n 0, 1) := by decide +kernel
theorem dX0_withA_65 : decode cX0_withA 65 = .ok (.getfield 7, 3) := by decide +kernel
theorem dX0_withA_68 : decode cX0_withA 68 = .ok (.bipush 7, 2) := by decide +kernel
theorem dX0_withA_70 : decode cX0_withA 70 = .ok (.aload_n 0, 1) := by decide +kernel
theorem dX0_withA_71 : decode cX0_withA 71 = .ok (.iload_n 3, 1) := by decide +kernel
theorem dX0_withA_72 : decode cX0_withA 72 = .ok (.iload_n 2, 1) := by decide +kernel
theorem dX0_withA_73 : decode cX0_withA 73 = .ok (.iconst 0, 1) := by decide +kernel
theorem dX0_withA_74 : decode cX0_withA 74 = .ok (.invokevirtual 23, 3) := by decide +kernel
theorem dX0_withA_77 : decode cX0_withA 77 = .ok (.invokevirtual 27, 3) := by decide +kernel
theorem dX0_withA_80 : decode cX0_withA 80 = .ok (.goto 104, 3) := by decide +kernel
theorem dX0_withA_83 : decode cX0_withA 83 = .ok (.aload_n 0, 1) := by decide +kernel
theorem dX0_withA_84 : decode cX0_withA 84 = .ok (.getfield 7, 3) := by decide +kernel
theorem dX0_withA_87 : decode cX0_withA 87 = .ok (.bipush 7, 2) := by decide +kernel
theorem dX0_withA_89 : decode cX0_withA 89 = .ok (.aload_n 0, 1) := by decide +kernel
theorem dX0_withA_90 : decode cX0_withA 90 = .ok (.iload_n 3, 1) := by decide +kernel
theorem dX0_withA_91 : decode cX0_withA 91 = .ok (.iload_n 2, 1) := by decide +kernel
theorem dX0_withA_92 : decode cX0_withA 92 = .ok (.iload 4, 2) := by decide +kernel
theorem dX0_withA_94 : decode cX0_withA 94 = .ok (.invokevirtual 23, 3) := by decide +kernel
theorem dX0_withA_97 : decode cX0_withA 97 = .ok (.invokevirtual 27, 3) := by decide +kernel
theorem dX0_withA_100 : decode cX0_withA 100 = .ok (.goto 84, 3) := by decide +kernel
theorem dX0_withA_103 : decode cX0_withA 103 = .ok (.aload_n 0, 1) := by decide +kernel
theorem dX0_withA_104 : decode cX0_withA 104 = .ok (.getfield 7, 3) := by decide +kernel
theorem dX0_withA_107 : decode cX0_withA 107 = .ok (.bipush 7, 2) := by decide +kernel
theorem dX0_withA_109 : decode cX0_withA 109 = .ok (.aload_n 0, 1) := by decide +kernel
theorem dX0_withA_110 : decode cX0_withA 110 = .ok (.iload_n 3, 1) := by decide +kernel
theorem dX0_withA_111 : decode cX0_withA 111 = .ok (.iload_n 2, 1) := by decide +kernel
theorem dX0_withA_112 : decode cX0_withA 112 = .ok (.iconst 0, 1) := by decide +kernel
theorem dX0_withA_113 : decode cX0_withA 113 = .ok (.invokevirtual 31, 3) := by decide +kernel
theorem dX0_withA_116 : decode cX0_withA 116 = .ok (.invokevirtual 27, 3) := by decide +kernel
theorem dX0_withA_119 : decode cX0_withA 119 = .ok (.goto 65, 3) := by decide +kernel
theorem dX0_withA_122 : decode cX0_withA 122 = .ok (.aload_n 0, 1) := by decide +kernel
theorem dX0_withA_123 : decode cX0_withA 123 = .ok (.getfield 7, 3) := by decide +kernel
theorem dX0_withA_126 : decode cX0_withA 126 = .ok (.bipush 7, 2) := by decide +kernel
theorem dX0_withA_128 : decode cX0_withA 128 = .ok (.aload_n 0, 1) := by decide +kernel
theorem dX0_withA_129 : decode cX0_withA 129 = .ok (.iload_n 3, 1) := by decide +kernel
theorem dX0_withA_130 : decode cX0_withA 130 = .ok (.iload_n 2, 1) := by decide +kernel
theorem dX0_withA_131 : decode cX0_withA 131 = .ok (.iload 4, 2) := by decide +kernel
theorem dX0_withA_133 : decode cX0_withA 133 = .ok (.invokevirtual 31, 3) := by decide +kernel
theorem dX0_withA_136 : decode cX0_withA 136 = .ok (.invokevirtual 27, 3) := by decide +kernel
theorem dX0_withA_139 : decode cX0_withA 139 = .ok (.goto 45, 3) := by decide +kernel
theorem dX0_withA_142 : decode cX0_withA 142 = .ok (.aload_n 0, 1) := by decide +kernel
theorem dX0_withA_143 : decode cX0_withA 143 = .ok (.iload_n 3, 1) := by decide +kernel
theorem dX0_withA_144 : decode cX0_withA 144 = .ok (.iload_n 2, 1) := by decide +kernel
theorem dX0_withA_145 : decode cX0_withA 145 = .ok (.iand, 1) := by decide +kernel
theorem dX0_withA_146 : decode cX0_withA 146 = .ok (.bipush 16, 2) := by decide +kernel
theorem dX0_withA_148 : decode cX0_withA 148 = .ok (.invokevirtual 34, 3) := by decide +kernel
theorem dX0_withA_151 : decode cX0_withA 151 = .ok (.goto 33, 3) := by decide +kernel
theorem dX0_withA_154 : decode cX0_withA 154 = .ok (.aload_n 0, 1) := by decide +kernel
theorem dX0_withA_155 : decode cX0_withA 155 = .ok (.iload_n 3, 1) := by decide +kernel
theorem dX0_withA_156 : decode cX0_withA 156 = .ok (.iload_n 2, 1) := by decide +kernel
theorem dX0_withA_157 : decode cX0_withA 157 = .ok (.ixor, 1) := by decide +kernel
theorem dX0_withA_158 : decode cX0_withA 158 = .ok (.iconst 0, 1) := by decide +kernel
theorem dX0_withA_159 : decode cX0_withA 159 = .ok (.invokevirtual 34, 3) := by decide +kernel
theorem dX0_withA_162 : decode cX0_withA 162 = .ok (.goto 22, 3) := by decide +kernel
theorem dX0_withA_165 : decode cX0_withA 165 = .ok (.aload_n 0, 1) := by decide +kernel
theorem dX0_withA_166 : decode cX0_withA 166 = .ok (.iload_n 3, 1) := by decide +kernel
theorem dX0_withA_167 : decode cX0_withA 167 = .ok (.iload_n 2, 1) := by decide +kernel
theorem dX0_withA_168 : decode cX0_withA 168 = .ok (.ior, 1) := by decide +kernel
theorem dX0_withA_169 : decode cX0_withA 169 = .ok (.iconst 0, 1) := by decide +kernel
theorem dX0_withA_170 : decode cX0_withA 170 = .ok (.invokevirtual 34, 3) := by decide +kernel
theorem dX0_withA_173 : decode cX0_withA 173 = .ok (.goto 11, 3) := by decide +kernel
theorem dX0_withA_176 : decode cX0_withA 176 = .ok (.aload_n 0, 1) := by decide +kernel
theorem dX0_withA_177 : decode cX0_withA 177 = .ok (.iload_n 3, 1) := by decide +kernel
theorem dX0_withA_178 : decode cX0_withA 178 = .ok (.iload_n 2, 1) := by decide +kernel
theorem dX0_withA_179 : decode cX0_withA 179 = .ok (.iconst 0, 1) := by decide +kernel
theorem dX0_withA_180 : decode cX0_withA 180 = .ok (.invokevirtual 31, 3) := by decide +kernel
theorem dX0_withA_183 : decode cX0_withA 183 = .ok (.pop, 1) := by decide +kernel
theorem dX0_withA_184 : decode cX0_withA 184 = .ok (.return_, 1) := by decide +kernel
def fX0_withA (p1 p2 : Int32) (s0 : zS) : Option (zS) := bd2 (fX6_single (7 : Int32) s0) fun r2 s3 => bd2 (fX6_flags  s3) fun r5 s6 => nm (r5 &&& (1 : Int32)) fun x7 => if p1 ∈ ([(0 : Int32)] : List Int32) then (bd2 (fX0_sum r2 p2 (0 : Int32) s6) fun r10 s11 => bd (fX6_loadSingle (7 : Int32) r10 s11) fun s13 => some s13) else if p1 ∈ ([(1 : Int32)] : List Int32) then (bd2 (fX0_sum r2 p2 x7 s6) fun r16 s17 => bd (fX6_loadSingle (7 : Int32) r16 s17) fun s19 => some s19) else if p1 ∈ ([(2 : Int32)] : List Int32) then (bd2 (fX0_difference r2 p2 (0 : Int32) s6) fun r22 s23 => bd (fX6_loadSingle (7 : Int32) r22 s23) fun s25 => some s25) else if p1 ∈ ([(3 : Int32)] : List Int32) then (bd2 (fX0_difference r2 p2 x7 s6) fun r28 s29 => bd (fX6_loadSingle (7 : Int32) r28 s29) fun s31 => some s31) else if p1 ∈ ([(4 : Int32)] : List Int32) then (bd (fX0_logical (r2 &&& p2) (16 : Int32) s6) fun s34 => some s34) else if p1 ∈ ([(5 : Int32)] : List Int32) then (bd (fX0_logical (r2 ^^^ p2) (0 : Int32) s6) fun s37 => some s37) else if p1 ∈ ([(6 : Int32)] : List Int32) then (bd (fX0_logical (r2 ||| p2) (0 : Int32) s6) fun s40 => some s40) else (bd2 (fX0_difference r2 p2 (0 : Int32) s6) fun r42 s43 => some s43)
set_option maxHeartbeats 4000000 in
set_option maxRecDepth 100000 in
theorem cX0_withA_m {l : Launch} {dC : Nat → ClassId} {dI : Nat → Nat → Nat} {ad : Nat → Nat} {cI : ClassId} {p1 p2 : Int32} {s0 : zS} {zs : zS} (h : fX0_withA p1 p2 s0 = some zs) : sw_Mv l yX0_withA (sw_ws yX0_withA cX0_withA 5 none) (sw_rm 3 66) (dC, dI) vwCl [(cI, .int)] cF [.ref (ad 6), .int p1, .int p2] (cW ad cI s0) (cW ad cI zs) := by
  intro sz
  refine sw_of (cc := cX0_withA) (maxL := 5) (ret := none) (by decide) rfl (Nat.le_of_ble_eq_true rfl) ?_
  intro p e s m args below meth c A ls hAe hsz X _ hP hD hS hl
  rw [hAe]
  have hx := X.1.1
  have hb := X.1.2.1
  have hown := X.1.2.2.2.1
  have hts := X.1.2.2.2.2
  replace hl : lv_has ls 5 [(0, .ref (ad 6)), (1, .int p1), (2, .int p2)] := hl
  unfold fX0_withA at h
  refine lv_aload_n hx hb dX0_withA_0 rfl (lv_at hl 0 rfl) ?_
  refine cg_6_0 X hP k_122 dX0_withA_1 ?_
  refine lv_bipush (v := (7 : Int32)) hx hb dX0_withA_4 (by decide) ?_
  have hq := bd2_some h; clear h; obtain ⟨r2, s3, h1, h⟩ := hq
  refine sw_vi (rest := []) c_good X (cX6_single_m h1) calX6_single k_569 hP hD hS 4 6 rfl rfl rfl ⟨rfl, rfl⟩ rfl hl.1 rfl (Nat.le_of_ble_eq_true rfl) dX0_withA_6 (fun H locs hP hD hS => ?_)
  refine lv_istore_n (lv' := [(3, .int r2), (0, .ref (ad 6)), (1, .int p1), (2, .int p2)]) hx hb dX0_withA_9 rfl hl (by decide) rfl (fun ls hl => ?_)
  refine lv_aload_n hx hb dX0_withA_10 rfl (lv_at hl 1 rfl) ?_
  refine cg_6_0 X hP k_122 dX0_withA_11 ?_
  have hq := bd2_some h; clear h; obtain ⟨r5, s6, h4, h⟩ := hq
  refine sw_vi (rest := []) c_good X (cX6_flags_m h4) calX6_flags k_501 hP hD hS 4 6 rfl rfl rfl ⟨rfl, rfl⟩ rfl hl.1 rfl (Nat.le_of_ble_eq_true rfl) dX0_withA_14 (fun H locs hP hD hS => ?_)
  refine lv_iconst (v := (1 : Int32)) hx hb dX0_withA_17 (by decide) ?_
  refine lv_iand hx hb dX0_withA_18 ?_
  refine lv_topi (fun x7 ex7 => ?_)
  replace h := nm_use ex7 h
  refine lv_istore (lv' := [(4, .int x7), (3, .int r2), (0, .ref (ad 6)), (1, .int p1), (2, .int p2)]) hx hb dX0_withA_19 hl (by decide) rfl (fun ls hl => ?_)
  refine lv_iload_n hx hb dX0_withA_21 rfl (lv_at hl 3 rfl) ?_
  by_cases c8 : p1 ∈ ([(0 : Int32)] : List Int32)
  · replace h := if_yes h c8
    refine sw_tabK (tgt := 64) (off := 42) hx hb dX0_withA_22 _ c8 (by decide +kernel) (by decide) ?_
    refine lv_aload_n hx hb dX0_withA_64 rfl (lv_at hl 2 rfl) ?_
    refine cg_6_0 X hP k_122 dX0_withA_65 ?_
    refine lv_bipush (v := (7 : Int32)) hx hb dX0_withA_68 (by decide) ?_
    refine lv_aload_n hx hb dX0_withA_70 rfl (lv_at hl 2 rfl) ?_
    refine lv_iload_n hx hb dX0_withA_71 rfl (lv_at hl 1 rfl) ?_
    refine lv_iload_n hx hb dX0_withA_72 rfl (lv_at hl 4 rfl) ?_
    refine lv_iconst (v := (0 : Int32)) hx hb dX0_withA_73 (by decide) ?_
    have hq := bd2_some h; clear h; obtain ⟨r10, s11, h9, h⟩ := hq
    refine sw_vi (rest := [.int (7 : Int32), .ref (ad 4)]) c_good X (cX0_sum_m h9) calX0_sum k_610 hP hD hS 6 0 rfl rfl rfl ⟨rfl, rfl⟩ rfl hl.1 rfl (Nat.le_of_ble_eq_true rfl) dX0_withA_74 (fun H locs hP hD hS => ?_)
    have hq := bd_some h; clear h; obtain ⟨s13, h12, h⟩ := hq
    refine sw_vv (rest := []) c_good X (cX6_loadSingle_m h12) calX6_loadSingle k_570 hP hD hS 4 6 rfl rfl rfl ⟨rfl, rfl⟩ rfl hl.1 rfl (Nat.le_of_ble_eq_true rfl) dX0_withA_77 (fun H locs hP hD hS => ?_)
    refine lv_goto (tgt := 184) hx hb dX0_withA_80 (by decide) ?_
    obtain rfl := Option.some.inj h
    exact sw_vret X hP hD hS dX0_withA_184
  · replace h := if_no h c8
    by_cases c14 : p1 ∈ ([(1 : Int32)] : List Int32)
    · replace h := if_yes h c14
      refine sw_tabK (tgt := 83) (off := 61) hx hb dX0_withA_22 _ c14 (by decide +kernel) (by decide) ?_
      refine lv_aload_n hx hb dX0_withA_83 rfl (lv_at hl 2 rfl) ?_
      refine cg_6_0 X hP k_122 dX0_withA_84 ?_
      refine lv_bipush (v := (7 : Int32)) hx hb dX0_withA_87 (by decide) ?_
      refine lv_aload_n hx hb dX0_withA_89 rfl (lv_at hl 2 rfl) ?_
      refine lv_iload_n hx hb dX0_withA_90 rfl (lv_at hl 1 rfl) ?_
      refine lv_iload_n hx hb dX0_withA_91 rfl (lv_at hl 4 rfl) ?_
      refine lv_iload hx hb dX0_withA_92 (lv_at hl 0 rfl) ?_
      have hq := bd2_some h; clear h; obtain ⟨r16, s17, h15, h⟩ := hq
      refine sw_vi (rest := [.int (7 : Int32), .ref (ad 4)]) c_good X (cX0_sum_m h15) calX0_sum k_610 hP hD hS 6 0 rfl rfl rfl ⟨rfl, rfl⟩ rfl hl.1 rfl (Nat.le_of_ble_eq_true rfl) dX0_withA_94 (fun H locs hP hD hS => ?_)
      have hq := bd_some h; clear h; obtain ⟨s19, h18, h⟩ := hq
      refine sw_vv (rest := []) c_good X (cX6_loadSingle_m h18) calX6_loadSingle k_570 hP hD hS 4 6 rfl rfl rfl ⟨rfl, rfl⟩ rfl hl.1 rfl (Nat.le_of_ble_eq_true rfl) dX0_withA_97 (fun H locs hP hD hS => ?_)
      refine lv_goto (tgt := 184) hx hb dX0_withA_100 (by decide) ?_
      obtain rfl := Option.some.inj h
      exact sw_vret X hP hD hS dX0_withA_184
    · replace h := if_no h c14
      by_cases c20 : p1 ∈ ([(2 : Int32)] : List Int32)
      · replace h := if_yes h c20
        refine sw_tabK (tgt := 103) (off := 81) hx hb dX0_withA_22 _ c20 (by decide +kernel) (by decide) ?_
        refine lv_aload_n hx hb dX0_withA_103 rfl (lv_at hl 2 rfl) ?_
        refine cg_6_0 X hP k_122 dX0_withA_104 ?_
        refine lv_bipush (v := (7 : Int32)) hx hb dX0_withA_107 (by decide) ?_
        refine lv_aload_n hx hb dX0_withA_109 rfl (lv_at hl 2 rfl) ?_
        refine lv_iload_n hx hb dX0_withA_110 rfl (lv_at hl 1 rfl) ?_
        refine lv_iload_n hx hb dX0_withA_111 rfl (lv_at hl 4 rfl) ?_
        refine lv_iconst (v := (0 : Int32)) hx hb dX0_withA_112 (by decide) ?_
        have hq := bd2_some h; clear h; obtain ⟨r22, s23, h21, h⟩ := hq
        refine sw_vi (rest := [.int (7 : Int32), .ref (ad 4)]) c_good X (cX0_difference_m h21) calX0_difference k_614 hP hD hS 6 0 rfl rfl rfl ⟨rfl, rfl⟩ rfl hl.1 rfl (Nat.le_of_ble_eq_true rfl) dX0_withA_113 (fun H locs hP hD hS => ?_)
        have hq := bd_some h; clear h; obtain ⟨s25, h24, h⟩ := hq
        refine sw_vv (rest := []) c_good X (cX6_loadSingle_m h24) calX6_loadSingle k_570 hP hD hS 4 6 rfl rfl rfl ⟨rfl, rfl⟩ rfl hl.1 rfl (Nat.le_of_ble_eq_true rfl) dX0_withA_116 (fun H locs hP hD hS => ?_)
        refine lv_goto (tgt := 184) hx hb dX0_withA_119 (by decide) ?_
        obtain rfl := Option.some.inj h
        exact sw_vret X hP hD hS dX0_withA_184
      · replace h := if_no h c20
        by_cases c26 : p1 ∈ ([(3 : Int32)] : List Int32)
        · replace h := if_yes h c26
          refine sw_tabK (tgt := 122) (off := 100) hx hb dX0_withA_22 _ c26 (by decide +kernel) (by decide) ?_
          refine lv_aload_n hx hb dX0_withA_122 rfl (lv_at hl 2 rfl) ?_
          refine cg_6_0 X hP k_122 dX0_withA_123 ?_
          refine lv_bipush (v := (7 : Int32)) hx hb dX0_withA_126 (by decide) ?_
          refine lv_aload_n hx hb dX0_withA_128 rfl (lv_at hl 2 rfl) ?_
          refine lv_iload_n hx hb dX0_withA_129 rfl (lv_at hl 1 rfl) ?_
          refine lv_iload_n hx hb dX0_withA_130 rfl (lv_at hl 4 rfl) ?_
          refine lv_iload hx hb dX0_withA_131 (lv_at hl 0 rfl) ?_
          have hq := bd2_some h; clear h; obtain ⟨r28, s29, h27, h⟩ := hq
          refine sw_vi (rest := [.int (7 : Int32), .ref (ad 4)]) c_good X (cX0_difference_m h27) calX0_difference k_614 hP hD hS 6 0 rfl rfl rfl ⟨rfl, rfl⟩ rfl hl.1 rfl (Nat.le_of_ble_eq_true rfl) dX0_withA_133 (fun H locs hP hD hS => ?_)
          have hq := bd_some h; clear h; obtain ⟨s31, h30, h⟩ := hq
          refine sw_vv (rest := []) c_good X (cX6_loadSingle_m h30) calX6_loadSingle k_570 hP hD hS 4 6 rfl rfl rfl ⟨rfl, rfl⟩ rfl hl.1 rfl (Nat.le_of_ble_eq_true rfl) dX0_withA_136 (fun H locs hP hD hS => ?_)
          refine lv_goto (tgt := 184) hx hb dX0_withA_139 (by decide) ?_
          obtain rfl := Option.some.inj h
          exact sw_vret X hP hD hS dX0_withA_184
        · replace h := if_no h c26
          by_cases c32 : p1 ∈ ([(4 : Int32)] : List Int32)
          · replace h := if_yes h c32
            refine sw_tabK (tgt := 142) (off := 120) hx hb dX0_withA_22 _ c32 (by decide +kernel) (by decide) ?_
            refine lv_aload_n hx hb dX0_withA_142 rfl (lv_at hl 2 rfl) ?_
            refine lv_iload_n hx hb dX0_withA_143 rfl (lv_at hl 1 rfl) ?_
            refine lv_iload_n hx hb dX0_withA_144 rfl (lv_at hl 4 rfl) ?_
            refine lv_iand hx hb dX0_withA_145 ?_
            refine lv_bipush (v := (16 : Int32)) hx hb dX0_withA_146 (by decide) ?_
            have hq := bd_some h; clear h; obtain ⟨s34, h33, h⟩ := hq
            refine sw_vv (rest := []) c_good X (cX0_logical_m h33) calX0_logical k_618 hP hD hS 6 0 rfl rfl rfl ⟨rfl, rfl⟩ rfl hl.1 rfl (Nat.le_of_ble_eq_true rfl) dX0_withA_148 (fun H locs hP hD hS => ?_)
            refine lv_goto (tgt := 184) hx hb dX0_withA_151 (by decide) ?_
            obtain rfl := Option.some.inj h
            exact sw_vret X hP hD hS dX0_withA_184
          · replace h := if_no h c32
            by_cases c35 : p1 ∈ ([(5 : Int32)] : List Int32)
            · replace h := if_yes h c35
              refine sw_tabK (tgt := 154) (off := 132) hx hb dX0_withA_22 _ c35 (by decide +kernel) (by decide) ?_
              refine lv_aload_n hx hb dX0_withA_154 rfl (lv_at hl 2 rfl) ?_
              refine lv_iload_n hx hb dX0_withA_155 rfl (lv_at hl 1 rfl) ?_
              refine lv_iload_n hx hb dX0_withA_156 rfl (lv_at hl 4 rfl) ?_
              refine lv_ixor hx hb dX0_withA_157 ?_
              refine lv_iconst (v := (0 : Int32)) hx hb dX0_withA_158 (by decide) ?_
              have hq := bd_some h; clear h; obtain ⟨s37, h36, h⟩ := hq
              refine sw_vv (rest := []) c_good X (cX0_logical_m h36) calX0_logical k_618 hP hD hS 6 0 rfl rfl rfl ⟨rfl, rfl⟩ rfl hl.1 rfl (Nat.le_of_ble_eq_true rfl) dX0_withA_159 (fun H locs hP hD hS => ?_)
              refine lv_goto (tgt := 184) hx hb dX0_withA_162 (by decide) ?_
              obtain rfl := Option.some.inj h
              exact sw_vret X hP hD hS dX0_withA_184
            · replace h := if_no h c35
              by_cases c38 : p1 ∈ ([(6 : Int32)] : List Int32)
              · replace h := if_yes h c38
                refine sw_tabK (tgt := 165) (off := 143) hx hb dX0_withA_22 _ c38 (by decide +kernel) (by decide) ?_
                refine lv_aload_n hx hb dX0_withA_165 rfl (lv_at hl 2 rfl) ?_
                refine lv_iload_n hx hb dX0_withA_166 rfl (lv_at hl 1 rfl) ?_
                refine lv_iload_n hx hb dX0_withA_167 rfl (lv_at hl 4 rfl) ?_
                refine lv_ior hx hb dX0_withA_168 ?_
                refine lv_iconst (v := (0 : Int32)) hx hb dX0_withA_169 (by decide) ?_
                have hq := bd_some h; clear h; obtain ⟨s40, h39, h⟩ := hq
                refine sw_vv (rest := []) c_good X (cX0_logical_m h39) calX0_logical k_618 hP hD hS 6 0 rfl rfl rfl ⟨rfl, rfl⟩ rfl hl.1 rfl (Nat.le_of_ble_eq_true rfl) dX0_withA_170 (fun H locs hP hD hS => ?_)
                refine lv_goto (tgt := 184) hx hb dX0_withA_173 (by decide) ?_
                obtain rfl := Option.some.inj h
                exact sw_vret X hP hD hS dX0_withA_184
              · replace h := if_no h c38
                refine sw_tabD (tgt := 176) hx hb dX0_withA_22 (([(0 : Int32)] : List Int32) ++ (([(1 : Int32)] : List Int32) ++ (([(2 : Int32)] : List Int32) ++ (([(3 : Int32)] : List Int32) ++ (([(4 : Int32)] : List Int32) ++ (([(5 : Int32)] : List Int32) ++ ([(6 : Int32)] : List Int32))))))) (fun hm => (List.mem_append.mp hm).elim c8 (fun hm => (List.mem_append.mp hm).elim c14 (fun hm => (List.mem_append.mp hm).elim c20 (fun hm => (List.mem_append.mp hm).elim c26 (fun hm => (List.mem_append.mp hm).elim c32 (fun hm => (List.mem_append.mp hm).elim c35 c38)))))) (by decide +kernel) (by decide) ?_
                refine lv_aload_n hx hb dX0_withA_176 rfl (lv_at hl 2 rfl) ?_
                refine lv_iload_n hx hb dX0_withA_177 rfl (lv_at hl 1 rfl) ?_
                refine lv_iload_n hx hb dX0_withA_178 rfl (lv_at hl 4 rfl) ?_
                refine lv_iconst (v := (0 : Int32)) hx hb dX0_withA_179 (by decide) ?_
                have hq := bd2_some h; clear h; obtain ⟨r42, s43, h41, h⟩ := hq
                refine sw_vi (rest := []) c_good X (cX0_difference_m h41) calX0_difference k_614 hP hD hS 6 0 rfl rfl rfl ⟨rfl, rfl⟩ rfl hl.1 rfl (Nat.le_of_ble_eq_true rfl) dX0_withA_180 (fun H locs hP hD hS => ?_)
                refine lv_pop hx hb dX0_withA_183 rfl ?_
                obtain rfl := Option.some.inj h
                exact sw_vret X hP hD hS dX0_withA_184
theorem dX0_negate_0 : decode cX0_negate 0 = .ok (.aload_n 0, 1) := by decide +kernel
theorem dX0_negate_1 : decode cX0_negate 1 = .ok (.getfield 7, 3) := by decide +kernel
theorem dX0_negate_4 : decode cX0_negate 4 = .ok (.bipush 7, 2) := by decide +kernel
theorem dX0_negate_6 : decode cX0_negate 6 = .ok (.invokevirtual 15, 3) := by decide +kernel
theorem dX0_negate_9 : decode cX0_negate 9 = .ok (.istore_n 1, 1) := by decide +kernel
theorem dX0_negate_10 : decode cX0_negate 10 = .ok (.aload_n 0, 1) := by decide +kernel
theorem dX0_negate_11 : decode cX0_negate 11 = .ok (.getfield 7, 3) := by decide +kernel
theorem dX0_negate_14 : decode cX0_negate 14 = .ok (.bipush 7, 2) := by decide +kernel
theorem dX0_negate_16 : decode cX0_negate 16 = .ok (.aload_n 0, 1) := by decide +kernel
theorem dX0_negate_17 : decode cX0_negate 17 = .ok (.iconst 0, 1) := by decide +kernel
theorem dX0_negate_18 : decode cX0_negate 18 = .ok (.iload_n 1, 1) := by decide +kernel
theorem dX0_negate_19 : decode cX0_negate 19 = .ok (.iconst 0, 1) := by decide +kernel
theorem dX0_negate_20 : decode cX0_negate 20 = .ok (.invokevirtual 31, 3) := by decide +kernel
theorem dX0_negate_23 : decode cX0_negate 23 = .ok (.invokevirtual 27, 3) := by decide +kernel
theorem dX0_negate_26 : decode cX0_negate 26 = .ok (.return_, 1) := by decide +kernel
def fX0_negate (s0 : zS) : Option (zS) := bd2 (fX6_single (7 : Int32) s0) fun r2 s3 => bd2 (fX0_difference (0 : Int32) r2 (0 : Int32) s3) fun r5 s6 => bd (fX6_loadSingle (7 : Int32) r5 s6) fun s8 => some s8
set_option maxHeartbeats 4000000 in
set_option maxRecDepth 100000 in
theorem cX0_negate_m {l : Launch} {dC : Nat → ClassId} {dI : Nat → Nat → Nat} {ad : Nat → Nat} {cI : ClassId} {s0 : zS} {zs : zS} (h : fX0_negate  s0 = some zs) : sw_Mv l yX0_negate (sw_ws yX0_negate cX0_negate 2 none) (sw_rm 2 48) (dC, dI) vwCl [(cI, .int)] cF [.ref (ad 6)] (cW ad cI s0) (cW ad cI zs) := by
  intro sz
  refine sw_of (cc := cX0_negate) (maxL := 2) (ret := none) (by decide) rfl (Nat.le_of_ble_eq_true rfl) ?_
  intro p e s m args below meth c A ls hAe hsz X _ hP hD hS hl
  rw [hAe]
  have hx := X.1.1
  have hb := X.1.2.1
  have hown := X.1.2.2.2.1
  have hts := X.1.2.2.2.2
  replace hl : lv_has ls 2 [(0, .ref (ad 6))] := hl
  unfold fX0_negate at h
  refine lv_aload_n hx hb dX0_negate_0 rfl (lv_at hl 0 rfl) ?_
  refine cg_6_0 X hP k_122 dX0_negate_1 ?_
  refine lv_bipush (v := (7 : Int32)) hx hb dX0_negate_4 (by decide) ?_
  have hq := bd2_some h; clear h; obtain ⟨r2, s3, h1, h⟩ := hq
  refine sw_vi (rest := []) c_good X (cX6_single_m h1) calX6_single k_569 hP hD hS 4 6 rfl rfl rfl ⟨rfl, rfl⟩ rfl hl.1 rfl (Nat.le_of_ble_eq_true rfl) dX0_negate_6 (fun H locs hP hD hS => ?_)
  refine lv_istore_n (lv' := [(1, .int r2), (0, .ref (ad 6))]) hx hb dX0_negate_9 rfl hl (by decide) rfl (fun ls hl => ?_)
  refine lv_aload_n hx hb dX0_negate_10 rfl (lv_at hl 1 rfl) ?_
  refine cg_6_0 X hP k_122 dX0_negate_11 ?_
  refine lv_bipush (v := (7 : Int32)) hx hb dX0_negate_14 (by decide) ?_
  refine lv_aload_n hx hb dX0_negate_16 rfl (lv_at hl 1 rfl) ?_
  refine lv_iconst (v := (0 : Int32)) hx hb dX0_negate_17 (by decide) ?_
  refine lv_iload_n hx hb dX0_negate_18 rfl (lv_at hl 0 rfl) ?_
  refine lv_iconst (v := (0 : Int32)) hx hb dX0_negate_19 (by decide) ?_
  have hq := bd2_some h; clear h; obtain ⟨r5, s6, h4, h⟩ := hq
  refine sw_vi (rest := [.int (7 : Int32), .ref (ad 4)]) c_good X (cX0_difference_m h4) calX0_difference k_614 hP hD hS 6 0 rfl rfl rfl ⟨rfl, rfl⟩ rfl hl.1 rfl (Nat.le_of_ble_eq_true rfl) dX0_negate_20 (fun H locs hP hD hS => ?_)
  have hq := bd_some h; clear h; obtain ⟨s8, h7, h⟩ := hq
  refine sw_vv (rest := []) c_good X (cX6_loadSingle_m h7) calX6_loadSingle k_570 hP hD hS 4 6 rfl rfl rfl ⟨rfl, rfl⟩ rfl hl.1 rfl (Nat.le_of_ble_eq_true rfl) dX0_negate_23 (fun H locs hP hD hS => ?_)
  obtain rfl := Option.some.inj h
  exact sw_vret X hP hD hS dX0_negate_26
