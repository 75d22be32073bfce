theorem dX3_isAtHl_0 : decode cX3_isAtHl 0 = .ok (.iload_n 0, 1) := by decide +kernel
theorem dX3_isAtHl_1 : decode cX3_isAtHl 1 = .ok (.bipush 6, 2) := by decide +kernel
theorem dX3_isAtHl_3 : decode cX3_isAtHl 3 = .ok (.if_icmp .ne 7, 3) := by decide +kernel
theorem dX3_isAtHl_6 : decode cX3_isAtHl 6 = .ok (.iconst 1, 1) := by decide +kernel
theorem dX3_isAtHl_7 : decode cX3_isAtHl 7 = .ok (.goto 4, 3) := by decide +kernel
theorem dX3_isAtHl_10 : decode cX3_isAtHl 10 = .ok (.iconst 0, 1) := by decide +kernel
theorem dX3_isAtHl_11 : decode cX3_isAtHl 11 = .ok (.ireturn, 1) := by decide +kernel
def fX3_isAtHl (p1 : Int32) : Option (Int32) := if p1 = (6 : Int32) then (some (1 : Int32)) else (some (0 : Int32))
set_option maxHeartbeats 4000000 in
set_option maxRecDepth 100000 in
theorem cX3_isAtHl_m {l : Launch} {dC : Nat → ClassId} {dI : Nat → Nat → Nat} {cI : ClassId} {w : va_W} {p1 : Int32} {zr : Int32} (h : fX3_isAtHl p1 = some zr) : sw_Mi l yX3_isAtHl (sw_ws yX3_isAtHl cX3_isAtHl 1 (some .boolean)) (sw_rm 0 0) (dC, dI) vwCl [(cI, .int)] cF [.int p1] w w zr := by
  intro sz
  refine sw_of (cc := cX3_isAtHl) (maxL := 1) (ret := (some .boolean)) (by decide) rfl (Nat.le_of_ble_eq_true rfl) ?_
  intro p e s m args below meth c A ls hAe hsz X _ hP hD hS hl
  rw [hAe]
  have hx := X.1.1
  have hb := X.1.2.1
  have hown := X.1.2.2.2.1
  have hts := X.1.2.2.2.2
  replace hl : lv_has ls 1 [(0, .int p1)] := hl
  unfold fX3_isAtHl at h
  refine lv_iload_n hx hb dX3_isAtHl_0 rfl (lv_at hl 0 rfl) ?_
  refine lv_bipush (v := (6 : Int32)) hx hb dX3_isAtHl_1 (by decide) ?_
  refine lv_icmp_ne (tgt := 10) hx hb dX3_isAtHl_3 (by decide) (fun c1 => ?_) (fun c1 => ?_)
  · replace h := if_no h c1
    refine lv_iconst (v := (0 : Int32)) hx hb dX3_isAtHl_10 (by decide) ?_
    obtain rfl := Option.some.inj h
    exact sw_bret X (bz_n (by decide)) hP hD hS dX3_isAtHl_11
  · replace h := if_yes h c1
    refine lv_iconst (v := (1 : Int32)) hx hb dX3_isAtHl_6 (by decide) ?_
    refine lv_goto (tgt := 11) hx hb dX3_isAtHl_7 (by decide) ?_
    obtain rfl := Option.some.inj h
    exact sw_bret X (bz_n (by decide)) hP hD hS dX3_isAtHl_11
theorem dX3_pairOf_0 : decode cX3_pairOf 0 = .ok (.iload_n 0, 1) := by decide +kernel
theorem dX3_pairOf_1 : decode cX3_pairOf 1 = .ok (.iconst 3, 1) := by decide +kernel
theorem dX3_pairOf_2 : decode cX3_pairOf 2 = .ok (.if_icmp .ne 8, 3) := by decide +kernel
theorem dX3_pairOf_5 : decode cX3_pairOf 5 = .ok (.bipush 8, 2) := by decide +kernel
theorem dX3_pairOf_7 : decode cX3_pairOf 7 = .ok (.goto 6, 3) := by decide +kernel
theorem dX3_pairOf_10 : decode cX3_pairOf 10 = .ok (.iconst 1, 1) := by decide +kernel
theorem dX3_pairOf_11 : decode cX3_pairOf 11 = .ok (.iload_n 0, 1) := by decide +kernel
theorem dX3_pairOf_12 : decode cX3_pairOf 12 = .ok (.iadd, 1) := by decide +kernel
theorem dX3_pairOf_13 : decode cX3_pairOf 13 = .ok (.ireturn, 1) := by decide +kernel
def fX3_pairOf (p1 : Int32) : Option (Int32) := if p1 = (3 : Int32) then (some (8 : Int32)) else (some ((1 : Int32) + p1))
set_option maxHeartbeats 4000000 in
set_option maxRecDepth 100000 in
theorem cX3_pairOf_m {l : Launch} {dC : Nat → ClassId} {dI : Nat → Nat → Nat} {cI : ClassId} {w : va_W} {p1 : Int32} {zr : Int32} (h : fX3_pairOf p1 = some zr) : sw_Mi l yX3_pairOf (sw_ws yX3_pairOf cX3_pairOf 1 (some .int)) (sw_rm 0 0) (dC, dI) vwCl [(cI, .int)] cF [.int p1] w w zr := by
  intro sz
  refine sw_of (cc := cX3_pairOf) (maxL := 1) (ret := (some .int)) (by decide) rfl (Nat.le_of_ble_eq_true rfl) ?_
  intro p e s m args below meth c A ls hAe hsz X _ hP hD hS hl
  rw [hAe]
  have hx := X.1.1
  have hb := X.1.2.1
  have hown := X.1.2.2.2.1
  have hts := X.1.2.2.2.2
  replace hl : lv_has ls 1 [(0, .int p1)] := hl
  unfold fX3_pairOf at h
  refine lv_iload_n hx hb dX3_pairOf_0 rfl (lv_at hl 0 rfl) ?_
  refine lv_iconst (v := (3 : Int32)) hx hb dX3_pairOf_1 (by decide) ?_
  refine lv_icmp_ne (tgt := 10) hx hb dX3_pairOf_2 (by decide) (fun c1 => ?_) (fun c1 => ?_)
  · replace h := if_no h c1
    refine lv_iconst (v := (1 : Int32)) hx hb dX3_pairOf_10 (by decide) ?_
    refine lv_iload_n hx hb dX3_pairOf_11 rfl (lv_at hl 0 rfl) ?_
    refine lv_iadd hx hb dX3_pairOf_12 ?_
    obtain rfl := Option.some.inj h
    exact sw_iret X hP hD hS dX3_pairOf_13
  · replace h := if_yes h c1
    refine lv_bipush (v := (8 : Int32)) hx hb dX3_pairOf_5 (by decide) ?_
    refine lv_goto (tgt := 13) hx hb dX3_pairOf_7 (by decide) ?_
    obtain rfl := Option.some.inj h
    exact sw_iret X hP hD hS dX3_pairOf_13
theorem dX3_stackPairOf_0 : decode cX3_stackPairOf 0 = .ok (.iload_n 0, 1) := by decide +kernel
theorem dX3_stackPairOf_1 : decode cX3_stackPairOf 1 = .ok (.iconst 3, 1) := by decide +kernel
theorem dX3_stackPairOf_2 : decode cX3_stackPairOf 2 = .ok (.if_icmp .ne 7, 3) := by decide +kernel
theorem dX3_stackPairOf_5 : decode cX3_stackPairOf 5 = .ok (.iconst 0, 1) := by decide +kernel
theorem dX3_stackPairOf_6 : decode cX3_stackPairOf 6 = .ok (.goto 6, 3) := by decide +kernel
theorem dX3_stackPairOf_9 : decode cX3_stackPairOf 9 = .ok (.iconst 1, 1) := by decide +kernel
theorem dX3_stackPairOf_10 : decode cX3_stackPairOf 10 = .ok (.iload_n 0, 1) := by decide +kernel
theorem dX3_stackPairOf_11 : decode cX3_stackPairOf 11 = .ok (.iadd, 1) := by decide +kernel
theorem dX3_stackPairOf_12 : decode cX3_stackPairOf 12 = .ok (.ireturn, 1) := by decide +kernel
def fX3_stackPairOf (p1 : Int32) : Option (Int32) := if p1 = (3 : Int32) then (some (0 : Int32)) else (some ((1 : Int32) + p1))
set_option maxHeartbeats 4000000 in
set_option maxRecDepth 100000 in
theorem cX3_stackPairOf_m {l : Launch} {dC : Nat → ClassId} {dI : Nat → Nat → Nat} {cI : ClassId} {w : va_W} {p1 : Int32} {zr : Int32} (h : fX3_stackPairOf p1 = some zr) : sw_Mi l yX3_stackPairOf (sw_ws yX3_stackPairOf cX3_stackPairOf 1 (some .int)) (sw_rm 0 0) (dC, dI) vwCl [(cI, .int)] cF [.int p1] w w zr := by
  intro sz
  refine sw_of (cc := cX3_stackPairOf) (maxL := 1) (ret := (some .int)) (by decide) rfl (Nat.le_of_ble_eq_true rfl) ?_
  intro p e s m args below meth c A ls hAe hsz X _ hP hD hS hl
  rw [hAe]
  have hx := X.1.1
  have hb := X.1.2.1
  have hown := X.1.2.2.2.1
  have hts := X.1.2.2.2.2
  replace hl : lv_has ls 1 [(0, .int p1)] := hl
  unfold fX3_stackPairOf at h
  refine lv_iload_n hx hb dX3_stackPairOf_0 rfl (lv_at hl 0 rfl) ?_
  refine lv_iconst (v := (3 : Int32)) hx hb dX3_stackPairOf_1 (by decide) ?_
  refine lv_icmp_ne (tgt := 9) hx hb dX3_stackPairOf_2 (by decide) (fun c1 => ?_) (fun c1 => ?_)
  · replace h := if_no h c1
    refine lv_iconst (v := (1 : Int32)) hx hb dX3_stackPairOf_9 (by decide) ?_
    refine lv_iload_n hx hb dX3_stackPairOf_10 rfl (lv_at hl 0 rfl) ?_
    refine lv_iadd hx hb dX3_stackPairOf_11 ?_
    obtain rfl := Option.some.inj h
    exact sw_iret X hP hD hS dX3_stackPairOf_12
  · replace h := if_yes h c1
    refine lv_iconst (v := (0 : Int32)) hx hb dX3_stackPairOf_5 (by decide) ?_
    refine lv_goto (tgt := 12) hx hb dX3_stackPairOf_6 (by decide) ?_
    obtain rfl := Option.some.inj h
    exact sw_iret X hP hD hS dX3_stackPairOf_12
theorem dX3_holds_0 : decode cX3_holds 0 = .ok (.iload_n 1, 1) := by decide +kernel
theorem dX3_holds_1 : decode cX3_holds 1 = .ok (.iconst 1, 1) := by decide +kernel
theorem dX3_holds_2 : decode cX3_holds 2 = .ok (.iand, 1) := by decide +kernel
theorem dX3_holds_3 : decode cX3_holds 3 = .ok (.ifCond .eq 7, 3) := by decide +kernel
theorem dX3_holds_6 : decode cX3_holds 6 = .ok (.iconst 1, 1) := by decide +kernel
theorem dX3_holds_7 : decode cX3_holds 7 = .ok (.goto 4, 3) := by decide +kernel
theorem dX3_holds_10 : decode cX3_holds 10 = .ok (.iconst 0, 1) := by decide +kernel
theorem dX3_holds_11 : decode cX3_holds 11 = .ok (.istore_n 2, 1) := by decide +kernel
theorem dX3_holds_12 : decode cX3_holds 12 = .ok (.getstatic 19, 3) := by decide +kernel
theorem dX3_holds_15 : decode cX3_holds 15 = .ok (.iload_n 1, 1) := by decide +kernel
theorem dX3_holds_16 : decode cX3_holds 16 = .ok (.iconst 1, 1) := by decide +kernel
theorem dX3_holds_17 : decode cX3_holds 17 = .ok (.ishr, 1) := by decide +kernel
theorem dX3_holds_18 : decode cX3_holds 18 = .ok (.iconst 3, 1) := by decide +kernel
theorem dX3_holds_19 : decode cX3_holds 19 = .ok (.iand, 1) := by decide +kernel
theorem dX3_holds_20 : decode cX3_holds 20 = .ok (.iaload, 1) := by decide +kernel
theorem dX3_holds_21 : decode cX3_holds 21 = .ok (.istore_n 3, 1) := by decide +kernel
theorem dX3_holds_22 : decode cX3_holds 22 = .ok (.aload_n 0, 1) := by decide +kernel
theorem dX3_holds_23 : decode cX3_holds 23 = .ok (.getfield 13, 3) := by decide +kernel
theorem dX3_holds_26 : decode cX3_holds 26 = .ok (.invokevirtual 23, 3) := by decide +kernel
theorem dX3_holds_29 : decode cX3_holds 29 = .ok (.iload_n 3, 1) := by decide +kernel
theorem dX3_holds_30 : decode cX3_holds 30 = .ok (.iand, 1) := by decide +kernel
theorem dX3_holds_31 : decode cX3_holds 31 = .ok (.ifCond .eq 7, 3) := by decide +kernel
theorem dX3_holds_34 : decode cX3_holds 34 = .ok (.iconst 1, 1) := by decide +kernel
theorem dX3_holds_35 : decode cX3_holds 35 = .ok (.goto 4, 3) := by decide +kernel
theorem dX3_holds_38 : decode cX3_holds 38 = .ok (.iconst 0, 1) := by decide +kernel
theorem dX3_holds_39 : decode cX3_holds 39 = .ok (.iload_n 2, 1) := by decide +kernel
theorem dX3_holds_40 : decode cX3_holds 40 = .ok (.if_icmp .ne 7, 3) := by decide +kernel
theorem dX3_holds_43 : decode cX3_holds 43 = .ok (.iconst 1, 1) := by decide +kernel
theorem dX3_holds_44 : decode cX3_holds 44 = .ok (.goto 4, 3) := by decide +kernel
theorem dX3_holds_47 : decode cX3_holds 47 = .ok (.iconst 0, 1) := by decide +kernel
theorem dX3_holds_48 : decode cX3_holds 48 = .ok (.ireturn, 1) := by decide +kernel
def fX3_holds (p1 : Int32) (s0 : zS) : Option (Int32 × zS) := bd (if (p1 &&& (1 : Int32)) = (0 : Int32) then (some (0 : Int32)) else (some (1 : Int32))) fun x3 => gd (0 ≤ ((p1 >>> ((1 : Int32) &&& 31)) &&& (3 : Int32)) ∧ ((p1 >>> ((1 : Int32) &&& 31)) &&& (3 : Int32)) < 4) <| nm (ct1 (((p1 >>> ((1 : Int32) &&& 31)) &&& (3 : Int32)).toNatClampNeg)) fun x7 => bd2 (fX6_flags  s0) fun r9 s10 => bd (if (r9 &&& x7) = (0 : Int32) then (some (0 : Int32)) else (some (1 : Int32))) fun x13 => if x13 = x3 then (some ((1 : Int32), s10)) else (some ((0 : Int32), s10))
set_option maxHeartbeats 4000000 in
set_option maxRecDepth 100000 in
theorem cX3_holds_m {l : Launch} {dC : Nat → ClassId} {dI : Nat → Nat → Nat} {ad : Nat → Nat} {cI : ClassId} {p1 : Int32} {s0 : zS} {zr : Int32} {zs : zS} (h : fX3_holds p1 s0 = some (zr, zs)) : sw_Mi l yX3_holds (sw_ws yX3_holds cX3_holds 4 (some .boolean)) (sw_rm 1 20) (dC, dI) vwCl [(cI, .int)] cF [.ref (ad 7), .int p1] (cW ad cI s0) (cW ad cI zs) zr := by
  intro sz
  refine sw_of (cc := cX3_holds) (maxL := 4) (ret := (some .boolean)) (by decide) rfl (Nat.le_of_ble_eq_true rfl) ?_
  intro p e s m args below meth c A ls hAe hsz X _ hP hD hS hl
  rw [hAe]
  have hx := X.1.1
  have hb := X.1.2.1
  have hown := X.1.2.2.2.1
  have hts := X.1.2.2.2.2
  replace hl : lv_has ls 4 [(0, .ref (ad 7)), (1, .int p1)] := hl
  unfold fX3_holds at h
  refine lv_iload_n hx hb dX3_holds_0 rfl (lv_at hl 1 rfl) ?_
  refine lv_iconst (v := (1 : Int32)) hx hb dX3_holds_1 (by decide) ?_
  refine lv_iand hx hb dX3_holds_2 ?_
  have hq := bd_some h; clear h; obtain ⟨x3, h4, h⟩ := hq
  have K1 : ∀ (H : Heap) (locs : List Loc), va_P (dC, dI) vwCl (cW ad cI s0) H → va_D A (cW ad cI s0) → va_S A s.heap H locs → W p l e (sw_rm 1 20) s m args below meth c H locs 0 0 (MQ below (sw_Qi (dC, dI) vwCl [(cI, .int)] A (cW ad cI zs) zr) args s 0 0 A) (F0 m 11 ls [.int x3]) := by
    intro H locs hP hD hS
    refine lv_istore_n (lv' := [(2, .int x3), (0, .ref (ad 7)), (1, .int p1)]) hx hb dX3_holds_11 rfl hl (by decide) rfl (fun ls hl => ?_)
    obtain ⟨t5, hZt5, hTt5⟩ := X.2.2.2.2.2.2
    refine va_gets hx hb hZt5 hS hown (hts _ (List.mem_cons_of_mem _ k_478)) (fun _ h9 => h9) dX3_holds_12 ?_
    refine lv_iload_n hx hb dX3_holds_15 rfl (lv_at hl 2 rfl) ?_
    refine lv_iconst (v := (1 : Int32)) hx hb dX3_holds_16 (by decide) ?_
    refine lv_ishr hx hb dX3_holds_17 ?_
    refine lv_iconst (v := (3 : Int32)) hx hb dX3_holds_18 (by decide) ?_
    refine lv_iand hx hb dX3_holds_19 ?_
    have hq := gd_some h; clear h; obtain ⟨c6, h⟩ := hq
    refine va_ti hx hb hTt5 hS (vin_in c6 (by decide)) rfl dX3_holds_20 ?_
    refine lv_topi (fun x7 ex7 => ?_)
    replace h := nm_use ex7 h
    refine lv_istore_n (lv' := [(3, .int x7), (2, .int x3), (0, .ref (ad 7)), (1, .int p1)]) hx hb dX3_holds_21 rfl hl (by decide) rfl (fun ls hl => ?_)
    refine lv_aload_n hx hb dX3_holds_22 rfl (lv_at hl 2 rfl) ?_
    refine cg_7_1 X hP k_133 dX3_holds_23 ?_
    have hq := bd2_some h; clear h; obtain ⟨r9, s10, h8, h⟩ := hq
    refine sw_vi (rest := []) c_good X (cX6_flags_m h8) calX6_flags k_480 hP hD hS 4 6 rfl rfl rfl ⟨rfl, rfl⟩ rfl hl.1 rfl (Nat.le_of_ble_eq_true rfl) dX3_holds_26 (fun H locs hP hD hS => ?_)
    refine lv_iload_n hx hb dX3_holds_29 rfl (lv_at hl 0 rfl) ?_
    refine lv_iand hx hb dX3_holds_30 ?_
    have hq := bd_some h; clear h; obtain ⟨x13, h14, h⟩ := hq
    have K11 : ∀ (H : Heap) (locs : List Loc), va_P (dC, dI) vwCl (cW ad cI s10) H → va_D A (cW ad cI s10) → va_S A s.heap H locs → W p l e (sw_rm 1 20) s m args below meth c H locs 0 0 (MQ below (sw_Qi (dC, dI) vwCl [(cI, .int)] A (cW ad cI zs) zr) args s 0 0 A) (F0 m 39 ls [.int x13]) := by
      intro H locs hP hD hS
      refine lv_iload_n hx hb dX3_holds_39 rfl (lv_at hl 1 rfl) ?_
      refine lv_icmp_ne (tgt := 47) hx hb dX3_holds_40 (by decide) (fun c15 => ?_) (fun c15 => ?_)
      · replace h := if_no h c15
        refine lv_iconst (v := (0 : Int32)) hx hb dX3_holds_47 (by decide) ?_
        obtain ⟨rfl, rfl⟩ := Prod.mk.inj (Option.some.inj h)
        exact sw_bret X (bz_n (by decide)) hP hD hS dX3_holds_48
      · replace h := if_yes h c15
        refine lv_iconst (v := (1 : Int32)) hx hb dX3_holds_43 (by decide) ?_
        refine lv_goto (tgt := 48) hx hb dX3_holds_44 (by decide) ?_
        obtain ⟨rfl, rfl⟩ := Prod.mk.inj (Option.some.inj h)
        exact sw_bret X (bz_n (by decide)) hP hD hS dX3_holds_48
    replace h := h14
    clear h14
    refine lv_if_eq (tgt := 38) hx hb dX3_holds_31 (by decide) (fun c12 => ?_) (fun c12 => ?_)
    · replace h := if_yes h c12
      refine lv_iconst (v := (0 : Int32)) hx hb dX3_holds_38 (by decide) ?_
      obtain rfl := Option.some.inj h
      exact K11 _ _ hP hD hS
    · replace h := if_no h c12
      refine lv_iconst (v := (1 : Int32)) hx hb dX3_holds_34 (by decide) ?_
      refine lv_goto (tgt := 39) hx hb dX3_holds_35 (by decide) ?_
      obtain rfl := Option.some.inj h
      exact K11 _ _ hP hD hS
  replace h := h4
  clear h4
  refine lv_if_eq (tgt := 10) hx hb dX3_holds_3 (by decide) (fun c2 => ?_) (fun c2 => ?_)
  · replace h := if_yes h c2
    refine lv_iconst (v := (0 : Int32)) hx hb dX3_holds_10 (by decide) ?_
    obtain rfl := Option.some.inj h
    exact K1 _ _ hP hD hS
  · replace h := if_no h c2
    refine lv_iconst (v := (1 : Int32)) hx hb dX3_holds_6 (by decide) ?_
    refine lv_goto (tgt := 11) hx hb dX3_holds_7 (by decide) ?_
    obtain rfl := Option.some.inj h
    exact K1 _ _ hP hD hS
theorem dX6_move_0 : decode cX6_move 0 = .ok (.aload_n 0, 1) := by decide +kernel
theorem dX6_move_1 : decode cX6_move 1 = .ok (.iload_n 1, 1) := by decide +kernel
theorem dX6_move_2 : decode cX6_move 2 = .ok (.aload_n 0, 1) := by decide +kernel
theorem dX6_move_3 : decode cX6_move 3 = .ok (.getfield 9, 3) := by decide +kernel
theorem dX6_move_6 : decode cX6_move 6 = .ok (.iload_n 1, 1) := by decide +kernel
theorem dX6_move_7 : decode cX6_move 7 = .ok (.iaload, 1) := by decide +kernel
theorem dX6_move_8 : decode cX6_move 8 = .ok (.iload_n 2, 1) := by decide +kernel
theorem dX6_move_9 : decode cX6_move 9 = .ok (.iadd, 1) := by decide +kernel
theorem dX6_move_10 : decode cX6_move 10 = .ok (.invokevirtual 15, 3) := by decide +kernel
theorem dX6_move_13 : decode cX6_move 13 = .ok (.return_, 1) := by decide +kernel
def fX6_move (p1 p2 : Int32) (s0 : zS) : Option (zS) := gd (0 ≤ p1 ∧ p1 < 10) <| bd (fX6_load p1 ((s0.2 4 (p1.toNatClampNeg)) + p2) s0) fun s3 => some s3
set_option maxHeartbeats 4000000 in
set_option maxRecDepth 100000 in
theorem cX6_move_m {l : Launch} {dC : Nat → ClassId} {dI : Nat → Nat → Nat} {ad : Nat → Nat} {cI : ClassId} {p1 p2 : Int32} {s0 : zS} {zs : zS} (h : fX6_move p1 p2 s0 = some zs) : sw_Mv l yX6_move (sw_ws yX6_move cX6_move 3 none) (sw_rm 1 23) (dC, dI) vwCl [(cI, .int)] cF [.ref (ad 4), .int p1, .int p2] (cW ad cI s0) (cW ad cI zs) := by
  intro sz
  refine sw_of (cc := cX6_move) (maxL := 3) (ret := none) (by decide) rfl (Nat.le_of_ble_eq_true rfl) ?_
  intro p e s m args below meth c A ls hAe hsz X _ hP hD hS hl
  rw [hAe]
  have hx := X.1.1
  have hb := X.1.2.1
  have hown := X.1.2.2.2.1
  have hts := X.1.2.2.2.2
  replace hl : lv_has ls 3 [(0, .ref (ad 4)), (1, .int p1), (2, .int p2)] := hl
  unfold fX6_move at h
  refine lv_aload_n hx hb dX6_move_0 rfl (lv_at hl 0 rfl) ?_
  refine lv_iload_n hx hb dX6_move_1 rfl (lv_at hl 1 rfl) ?_
  refine lv_aload_n hx hb dX6_move_2 rfl (lv_at hl 0 rfl) ?_
  refine cg_4_0 X hP k_106 dX6_move_3 ?_
  refine lv_iload_n hx hb dX6_move_6 rfl (lv_at hl 1 rfl) ?_
  have hq := gd_some h; clear h; obtain ⟨c1, h⟩ := hq
  refine cl_4 X hP (vin_in c1 (by decide)) dX6_move_7 ?_
  refine lv_iload_n hx hb dX6_move_8 rfl (lv_at hl 2 rfl) ?_
  refine lv_iadd hx hb dX6_move_9 ?_
  have hq := bd_some h; clear h; obtain ⟨s3, h2, h⟩ := hq
  refine sw_vv (rest := []) c_good X (cX6_load_m h2) calX6_load k_411 hP hD hS 4 6 rfl rfl rfl ⟨rfl, rfl⟩ rfl hl.1 rfl (Nat.le_of_ble_eq_true rfl) dX6_move_10 (fun H locs hP hD hS => ?_)
  obtain rfl := Option.some.inj h
  exact sw_vret X hP hD hS dX6_move_13
theorem dX3_fetchNext_0 : decode cX3_fetchNext 0 = .ok (.aload_n 0, 1) := by decide +kernel
theorem dX3_fetchNext_1 : decode cX3_fetchNext 1 = .ok (.getfield 7, 3) := by decide +kernel
theorem dX3_fetchNext_4 : decode cX3_fetchNext 4 = .ok (.aload_n 0, 1) := by decide +kernel
theorem dX3_fetchNext_5 : decode cX3_fetchNext 5 = .ok (.getfield 13, 3) := by decide +kernel
theorem dX3_fetchNext_8 : decode cX3_fetchNext 8 = .ok (.bipush 9, 2) := by decide +kernel
theorem dX3_fetchNext_10 : decode cX3_fetchNext 10 = .ok (.invokevirtual 27, 3) := by decide +kernel
theorem dX3_fetchNext_13 : decode cX3_fetchNext 13 = .ok (.invokevirtual 31, 3) := by decide +kernel
theorem dX3_fetchNext_16 : decode cX3_fetchNext 16 = .ok (.istore_n 1, 1) := by decide +kernel
theorem dX3_fetchNext_17 : decode cX3_fetchNext 17 = .ok (.aload_n 0, 1) := by decide +kernel
theorem dX3_fetchNext_18 : decode cX3_fetchNext 18 = .ok (.getfield 13, 3) := by decide +kernel
theorem dX3_fetchNext_21 : decode cX3_fetchNext 21 = .ok (.bipush 9, 2) := by decide +kernel
theorem dX3_fetchNext_23 : decode cX3_fetchNext 23 = .ok (.iconst 1, 1) := by decide +kernel
theorem dX3_fetchNext_24 : decode cX3_fetchNext 24 = .ok (.invokevirtual 36, 3) := by decide +kernel
theorem dX3_fetchNext_27 : decode cX3_fetchNext 27 = .ok (.iload_n 1, 1) := by decide +kernel
theorem dX3_fetchNext_28 : decode cX3_fetchNext 28 = .ok (.ireturn, 1) := by decide +kernel
def fX3_fetchNext (s0 : zS) : Option (Int32 × zS) := bd2 (fX6_pair (9 : Int32) s0) fun r2 s3 => bd2 (fX2_fetch r2 s3) fun r5 s6 => bd (fX6_move (9 : Int32) (1 : Int32) s6) fun s8 => some (r5, s8)
set_option maxHeartbeats 4000000 in
set_option maxRecDepth 100000 in
theorem cX3_fetchNext_m {l : Launch} {dC : Nat → ClassId} {dI : Nat → Nat → Nat} {ad : Nat → Nat} {cI : ClassId} {s0 : zS} {zr : Int32} {zs : zS} (h : fX3_fetchNext  s0 = some (zr, zs)) : sw_Mi l yX3_fetchNext (sw_ws yX3_fetchNext cX3_fetchNext 2 (some .int)) (sw_rm 2 45) (dC, dI) vwCl [(cI, .int)] cF [.ref (ad 7)] (cW ad cI s0) (cW ad cI zs) zr := by
  intro sz
  refine sw_of (cc := cX3_fetchNext) (maxL := 2) (ret := (some .int)) (by decide) rfl (Nat.le_of_ble_eq_true rfl) ?_
  intro p e s m args below meth c A ls hAe hsz X _ hP hD hS hl
  rw [hAe]
  have hx := X.1.1
  have hb := X.1.2.1
  have hown := X.1.2.2.2.1
  have hts := X.1.2.2.2.2
  replace hl : lv_has ls 2 [(0, .ref (ad 7))] := hl
  unfold fX3_fetchNext at h
  refine lv_aload_n hx hb dX3_fetchNext_0 rfl (lv_at hl 0 rfl) ?_
  refine cg_7_0 X hP k_132 dX3_fetchNext_1 ?_
  refine lv_aload_n hx hb dX3_fetchNext_4 rfl (lv_at hl 0 rfl) ?_
  refine cg_7_1 X hP k_133 dX3_fetchNext_5 ?_
  refine lv_bipush (v := (9 : Int32)) hx hb dX3_fetchNext_8 (by decide) ?_
  have hq := bd2_some h; clear h; obtain ⟨r2, s3, h1, h⟩ := hq
  refine sw_vi (rest := [.ref (ad 2)]) c_good X (cX6_pair_m h1) calX6_pair k_390 hP hD hS 4 6 rfl rfl rfl ⟨rfl, rfl⟩ rfl hl.1 rfl (Nat.le_of_ble_eq_true rfl) dX3_fetchNext_10 (fun H locs hP hD hS => ?_)
  have hq := bd2_some h; clear h; obtain ⟨r5, s6, h4, h⟩ := hq
  refine sw_vi (rest := []) c_good X (cX2_fetch_m h4) calX2_fetch k_425 hP hD hS 2 2 rfl rfl rfl ⟨rfl, rfl⟩ rfl hl.1 rfl (Nat.le_of_ble_eq_true rfl) dX3_fetchNext_13 (fun H locs hP hD hS => ?_)
  refine lv_istore_n (lv' := [(1, .int r5), (0, .ref (ad 7))]) hx hb dX3_fetchNext_16 rfl hl (by decide) rfl (fun ls hl => ?_)
  refine lv_aload_n hx hb dX3_fetchNext_17 rfl (lv_at hl 1 rfl) ?_
  refine cg_7_1 X hP k_133 dX3_fetchNext_18 ?_
  refine lv_bipush (v := (9 : Int32)) hx hb dX3_fetchNext_21 (by decide) ?_
  refine lv_iconst (v := (1 : Int32)) hx hb dX3_fetchNext_23 (by decide) ?_
  have hq := bd_some h; clear h; obtain ⟨s8, h7, h⟩ := hq
  refine sw_vv (rest := []) c_good X (cX6_move_m h7) calX6_move k_407 hP hD hS 4 6 rfl rfl rfl ⟨rfl, rfl⟩ rfl hl.1 rfl (Nat.le_of_ble_eq_true rfl) dX3_fetchNext_24 (fun H locs hP hD hS => ?_)
  refine lv_iload_n hx hb dX3_fetchNext_27 rfl (lv_at hl 0 rfl) ?_
  obtain ⟨rfl, rfl⟩ := Prod.mk.inj (Option.some.inj h)
  exact sw_iret X hP hD hS dX3_fetchNext_28
theorem dX3_next_0 : decode cX3_next 0 = .ok (.aload_n 0, 1) := by decide +kernel
theorem dX3_next_1 : decode cX3_next 1 = .ok (.getfield 7, 3) := by decide +kernel
theorem dX3_next_4 : decode cX3_next 4 = .ok (.aload_n 0, 1) := by decide +kernel
theorem dX3_next_5 : decode cX3_next 5 = .ok (.getfield 13, 3) := by decide +kernel
theorem dX3_next_8 : decode cX3_next 8 = .ok (.bipush 9, 2) := by decide +kernel
theorem dX3_next_10 : decode cX3_next 10 = .ok (.invokevirtual 27, 3) := by decide +kernel
theorem dX3_next_13 : decode cX3_next 13 = .ok (.invokevirtual 40, 3) := by decide +kernel
theorem dX3_next_16 : decode cX3_next 16 = .ok (.istore_n 1, 1) := by decide +kernel
theorem dX3_next_17 : decode cX3_next 17 = .ok (.aload_n 0, 1) := by decide +kernel
theorem dX3_next_18 : decode cX3_next 18 = .ok (.getfield 13, 3) := by decide +kernel
theorem dX3_next_21 : decode cX3_next 21 = .ok (.bipush 9, 2) := by decide +kernel
theorem dX3_next_23 : decode cX3_next 23 = .ok (.iconst 1, 1) := by decide +kernel
theorem dX3_next_24 : decode cX3_next 24 = .ok (.invokevirtual 36, 3) := by decide +kernel
theorem dX3_next_27 : decode cX3_next 27 = .ok (.iload_n 1, 1) := by decide +kernel
theorem dX3_next_28 : decode cX3_next 28 = .ok (.ireturn, 1) := by decide +kernel
def fX3_next (s0 : zS) : Option (Int32 × zS) := bd2 (fX6_pair (9 : Int32) s0) fun r2 s3 => bd2 (fX2_read r2 s3) fun r5 s6 => bd (fX6_move (9 : Int32) (1 : Int32) s6) fun s8 => some (r5, s8)
set_option maxHeartbeats 4000000 in
set_option maxRecDepth 100000 in
theorem cX3_next_m {l : Launch} {dC : Nat → ClassId} {dI : Nat → Nat → Nat} {ad : Nat → Nat} {cI : ClassId} {s0 : zS} {zr : Int32} {zs : zS} (h : fX3_next  s0 = some (zr, zs)) : sw_Mi l yX3_next (sw_ws yX3_next cX3_next 2 (some .int)) (sw_rm 2 45) (dC, dI) vwCl [(cI, .int)] cF [.ref (ad 7)] (cW ad cI s0) (cW ad cI zs) zr := by
  intro sz
  refine sw_of (cc := cX3_next) (maxL := 2) (ret := (some .int)) (by decide) rfl (Nat.le_of_ble_eq_true rfl) ?_
  intro p e s m args below meth c A ls hAe hsz X _ hP hD hS hl
  rw [hAe]
  have hx := X.1.1
  have hb := X.1.2.1
  have hown := X.1.2.2.2.1
  have hts := X.1.2.2.2.2
  replace hl : lv_has ls 2 [(0, .ref (ad 7))] := hl
  unfold fX3_next at h
  refine lv_aload_n hx hb dX3_next_0 rfl (lv_at hl 0 rfl) ?_
  refine cg_7_0 X hP k_132 dX3_next_1 ?_
  refine lv_aload_n hx hb dX3_next_4 rfl (lv_at hl 0 rfl) ?_
  refine cg_7_1 X hP k_133 dX3_next_5 ?_
  refine lv_bipush (v := (9 : Int32)) hx hb dX3_next_8 (by decide) ?_
  have hq := bd2_some h; clear h; obtain ⟨r2, s3, h1, h⟩ := hq
  refine sw_vi (rest := [.ref (ad 2)]) c_good X (cX6_pair_m h1) calX6_pair k_390 hP hD hS 4 6 rfl rfl rfl ⟨rfl, rfl⟩ rfl hl.1 rfl (Nat.le_of_ble_eq_true rfl) dX3_next_10 (fun H locs hP hD hS => ?_)
  have hq := bd2_some h; clear h; obtain ⟨r5, s6, h4, h⟩ := hq
  refine sw_vi (rest := []) c_good X (cX2_read_m h4) calX2_read k_446 hP hD hS 2 2 rfl rfl rfl ⟨rfl, rfl⟩ rfl hl.1 rfl (Nat.le_of_ble_eq_true rfl) dX3_next_13 (fun H locs hP hD hS => ?_)
  refine lv_istore_n (lv' := [(1, .int r5), (0, .ref (ad 7))]) hx hb dX3_next_16 rfl hl (by decide) rfl (fun ls hl => ?_)
  refine lv_aload_n hx hb dX3_next_17 rfl (lv_at hl 1 rfl) ?_
  refine cg_7_1 X hP k_133 dX3_next_18 ?_
  refine lv_bipush (v := (9 : Int32)) hx hb dX3_next_21 (by decide) ?_
  refine lv_iconst (v := (1 : Int32)) hx hb dX3_next_23 (by decide) ?_
  have hq := bd_some h; clear h; obtain ⟨s8, h7, h⟩ := hq
  refine sw_vv (rest := []) c_good X (cX6_move_m h7) calX6_move k_407 hP hD hS 4 6 rfl rfl rfl ⟨rfl, rfl⟩ rfl hl.1 rfl (Nat.le_of_ble_eq_true rfl) dX3_next_24 (fun H locs hP hD hS => ?_)
  refine lv_iload_n hx hb dX3_next_27 rfl (lv_at hl 0 rfl) ?_
  obtain ⟨rfl, rfl⟩ := Prod.mk.inj (Option.some.inj h)
  exact sw_iret X hP hD hS dX3_next_28
theorem dX3_nextPair_0 : decode cX3_nextPair 0 = .ok (.aload_n 0, 1) := by decide +kernel
theorem dX3_nextPair_1 : decode cX3_nextPair 1 = .ok (.getfield 13, 3) := by decide +kernel
theorem dX3_nextPair_4 : decode cX3_nextPair 4 = .ok (.bipush 9, 2) := by decide +kernel
theorem dX3_nextPair_6 : decode cX3_nextPair 6 = .ok (.invokevirtual 27, 3) := by decide +kernel
theorem dX3_nextPair_9 : decode cX3_nextPair 9 = .ok (.istore_n 1, 1) := by decide +kernel
theorem dX3_nextPair_10 : decode cX3_nextPair 10 = .ok (.aload_n 0, 1) := by decide +kernel
theorem dX3_nextPair_11 : decode cX3_nextPair 11 = .ok (.getfield 13, 3) := by decide +kernel
theorem dX3_nextPair_14 : decode cX3_nextPair 14 = .ok (.bipush 9, 2) := by decide +kernel
theorem dX3_nextPair_16 : decode cX3_nextPair 16 = .ok (.iconst 2, 1) := by decide +kernel
theorem dX3_nextPair_17 : decode cX3_nextPair 17 = .ok (.invokevirtual 36, 3) := by decide +kernel
theorem dX3_nextPair_20 : decode cX3_nextPair 20 = .ok (.aload_n 0, 1) := by decide +kernel
theorem dX3_nextPair_21 : decode cX3_nextPair 21 = .ok (.getfield 7, 3) := by decide +kernel
theorem dX3_nextPair_24 : decode cX3_nextPair 24 = .ok (.iload_n 1, 1) := by decide +kernel
theorem dX3_nextPair_25 : decode cX3_nextPair 25 = .ok (.invokevirtual 40, 3) := by decide +kernel
theorem dX3_nextPair_28 : decode cX3_nextPair 28 = .ok (.istore_n 2, 1) := by decide +kernel
theorem dX3_nextPair_29 : decode cX3_nextPair 29 = .ok (.aload_n 0, 1) := by decide +kernel
theorem dX3_nextPair_30 : decode cX3_nextPair 30 = .ok (.getfield 7, 3) := by decide +kernel
theorem dX3_nextPair_33 : decode cX3_nextPair 33 = .ok (.iload_n 1, 1) := by decide +kernel
theorem dX3_nextPair_34 : decode cX3_nextPair 34 = .ok (.iconst 1, 1) := by decide +kernel
theorem dX3_nextPair_35 : decode cX3_nextPair 35 = .ok (.iadd, 1) := by decide +kernel
theorem dX3_nextPair_36 : decode cX3_nextPair 36 = .ok (.invokevirtual 40, 3) := by decide +kernel
theorem dX3_nextPair_39 : decode cX3_nextPair 39 = .ok (.bipush 8, 2) := by decide +kernel
theorem dX3_nextPair_41 : decode cX3_nextPair 41 = .ok (.ishl, 1) := by decide +kernel
theorem dX3_nextPair_42 : decode cX3_nextPair 42 = .ok (.iload_n 2, 1) := by decide +kernel
theorem dX3_nextPair_43 : decode cX3_nextPair 43 = .ok (.ior, 1) := by decide +kernel
theorem dX3_nextPair_44 : decode cX3_nextPair 44 = .ok (.ireturn, 1) := by decide +kernel
def fX3_nextPair (s0 : zS) : Option (Int32 × zS) := bd2 (fX6_pair (9 : Int32) s0) fun r2 s3 => bd (fX6_move (9 : Int32) (2 : Int32) s3) fun s5 => bd2 (fX2_read r2 s5) fun r7 s8 => bd2 (fX2_read (r2 + (1 : Int32)) s8) fun r10 s11 => some (((r10 <<< ((8 : Int32) &&& 31)) ||| r7), s11)
set_option maxHeartbeats 4000000 in
set_option maxRecDepth 100000 in
theorem cX3_nextPair_m {l : Launch} {dC : Nat → ClassId} {dI : Nat → Nat → Nat} {ad : Nat → Nat} {cI : ClassId} {s0 : zS} {zr : Int32} {zs : zS} (h : fX3_nextPair  s0 = some (zr, zs)) : sw_Mi l yX3_nextPair (sw_ws yX3_nextPair cX3_nextPair 3 (some .int)) (sw_rm 2 45) (dC, dI) vwCl [(cI, .int)] cF [.ref (ad 7)] (cW ad cI s0) (cW ad cI zs) zr := by
  intro sz
  refine sw_of (cc := cX3_nextPair) (maxL := 3) (ret := (some .int)) (by decide) rfl (Nat.le_of_ble_eq_true rfl) ?_
  intro p e s m args below meth c A ls hAe hsz X _ hP hD hS hl
  rw [hAe]
  have hx := X.1.1
  have hb := X.1.2.1
  have hown := X.1.2.2.2.1
  have hts := X.1.2.2.2.2
  replace hl : lv_has ls 3 [(0, .ref (ad 7))] := hl
  unfold fX3_nextPair at h
  refine lv_aload_n hx hb dX3_nextPair_0 rfl (lv_at hl 0 rfl) ?_
  refine cg_7_1 X hP k_133 dX3_nextPair_1 ?_
  refine lv_bipush (v := (9 : Int32)) hx hb dX3_nextPair_4 (by decide) ?_
  have hq := bd2_some h; clear h; obtain ⟨r2, s3, h1, h⟩ := hq
  refine sw_vi (rest := []) c_good X (cX6_pair_m h1) calX6_pair k_390 hP hD hS 4 6 rfl rfl rfl ⟨rfl, rfl⟩ rfl hl.1 rfl (Nat.le_of_ble_eq_true rfl) dX3_nextPair_6 (fun H locs hP hD hS => ?_)
  refine lv_istore_n (lv' := [(1, .int r2), (0, .ref (ad 7))]) hx hb dX3_nextPair_9 rfl hl (by decide) rfl (fun ls hl => ?_)
  refine lv_aload_n hx hb dX3_nextPair_10 rfl (lv_at hl 1 rfl) ?_
  refine cg_7_1 X hP k_133 dX3_nextPair_11 ?_
  refine lv_bipush (v := (9 : Int32)) hx hb dX3_nextPair_14 (by decide) ?_
  refine lv_iconst (v := (2 : Int32)) hx hb dX3_nextPair_16 (by decide) ?_
  have hq := bd_some h; clear h; obtain ⟨s5, h4, h⟩ := hq
  refine sw_vv (rest := []) c_good X (cX6_move_m h4) calX6_move k_407 hP hD hS 4 6 rfl rfl rfl ⟨rfl, rfl⟩ rfl hl.1 rfl (Nat.le_of_ble_eq_true rfl) dX3_nextPair_17 (fun H locs hP hD hS => ?_)
  refine lv_aload_n hx hb dX3_nextPair_20 rfl (lv_at hl 1 rfl) ?_
  refine cg_7_0 X hP k_132 dX3_nextPair_21 ?_
  refine lv_iload_n hx hb dX3_nextPair_24 rfl (lv_at hl 0 rfl) ?_
  have hq := bd2_some h; clear h; obtain ⟨r7, s8, h6, h⟩ := hq
  refine sw_vi (rest := []) c_good X (cX2_read_m h6) calX2_read k_446 hP hD hS 2 2 rfl rfl rfl ⟨rfl, rfl⟩ rfl hl.1 rfl (Nat.le_of_ble_eq_true rfl) dX3_nextPair_25 (fun H locs hP hD hS => ?_)
  refine lv_istore_n (lv' := [(2, .int r7), (1, .int r2), (0, .ref (ad 7))]) hx hb dX3_nextPair_28 rfl hl (by decide) rfl (fun ls hl => ?_)
  refine lv_aload_n hx hb dX3_nextPair_29 rfl (lv_at hl 2 rfl) ?_
  refine cg_7_0 X hP k_132 dX3_nextPair_30 ?_
  refine lv_iload_n hx hb dX3_nextPair_33 rfl (lv_at hl 1 rfl) ?_
  refine lv_iconst (v := (1 : Int32)) hx hb dX3_nextPair_34 (by decide) ?_
  refine lv_iadd hx hb dX3_nextPair_35 ?_
  have hq := bd2_some h; clear h; obtain ⟨r10, s11, h9, h⟩ := hq
  refine sw_vi (rest := []) c_good X (cX2_read_m h9) calX2_read k_446 hP hD hS 2 2 rfl rfl rfl ⟨rfl, rfl⟩ rfl hl.1 rfl (Nat.le_of_ble_eq_true rfl) dX3_nextPair_36 (fun H locs hP hD hS => ?_)
  refine lv_bipush (v := (8 : Int32)) hx hb dX3_nextPair_39 (by decide) ?_
  refine lv_ishl hx hb dX3_nextPair_41 ?_
  refine lv_iload_n hx hb dX3_nextPair_42 rfl (lv_at hl 0 rfl) ?_
  refine lv_ior hx hb dX3_nextPair_43 ?_
  obtain ⟨rfl, rfl⟩ := Prod.mk.inj (Option.some.inj h)
  exact sw_iret X hP hD hS dX3_nextPair_44
theorem dX3_value_0 : decode cX3_value 0 = .ok (.iload_n 1, 1) := by decide +kernel
theorem dX3_value_1 : decode cX3_value 1 = .ok (.invokestatic 43, 3) := by decide +kernel
theorem dX3_value_4 : decode cX3_value 4 = .ok (.ifCond .eq 21, 3) := by decide +kernel
theorem dX3_value_7 : decode cX3_value 7 = .ok (.aload_n 0, 1) := by decide +kernel
theorem dX3_value_8 : decode cX3_value 8 = .ok (.getfield 7, 3) := by decide +kernel
theorem dX3_value_11 : decode cX3_value 11 = .ok (.aload_n 0, 1) := by decide +kernel
theorem dX3_value_12 : decode cX3_value 12 = .ok (.getfield 13, 3) := by decide +kernel
theorem dX3_value_15 : decode cX3_value 15 = .ok (.iconst 3, 1) := by decide +kernel
theorem dX3_value_16 : decode cX3_value 16 = .ok (.invokevirtual 27, 3) := by decide +kernel
theorem dX3_value_19 : decode cX3_value 19 = .ok (.invokevirtual 40, 3) := by decide +kernel
theorem dX3_value_22 : decode cX3_value 22 = .ok (.goto 11, 3) := by decide +kernel
theorem dX3_value_25 : decode cX3_value 25 = .ok (.aload_n 0, 1) := by decide +kernel
theorem dX3_value_26 : decode cX3_value 26 = .ok (.getfield 13, 3) := by decide +kernel
theorem dX3_value_29 : decode cX3_value 29 = .ok (.iload_n 1, 1) := by decide +kernel
theorem dX3_value_30 : decode cX3_value 30 = .ok (.invokevirtual 47, 3) := by decide +kernel
theorem dX3_value_33 : decode cX3_value 33 = .ok (.ireturn, 1) := by decide +kernel
def fX3_value (p1 : Int32) (s0 : zS) : Option (Int32 × zS) := bd (fX3_isAtHl p1) fun r2 => if r2 = (0 : Int32) then (bd2 (fX6_single p1 s0) fun r5 s6 => some (r5, s6)) else (bd2 (fX6_pair (3 : Int32) s0) fun r8 s9 => bd2 (fX2_read r8 s9) fun r11 s12 => some (r11, s12))
set_option maxHeartbeats 4000000 in
set_option maxRecDepth 100000 in
theorem cX3_value_m {l : Launch} {dC : Nat → ClassId} {dI : Nat → Nat → Nat} {ad : Nat → Nat} {cI : ClassId} {p1 : Int32} {s0 : zS} {zr : Int32} {zs : zS} (h : fX3_value p1 s0 = some (zr, zs)) : sw_Mi l yX3_value (sw_ws yX3_value cX3_value 2 (some .int)) (sw_rm 2 44) (dC, dI) vwCl [(cI, .int)] cF [.ref (ad 7), .int p1] (cW ad cI s0) (cW ad cI zs) zr := by
  intro sz
  refine sw_of (cc := cX3_value) (maxL := 2) (ret := (some .int)) (by decide) rfl (Nat.le_of_ble_eq_true rfl) ?_
  intro p e s m args below meth c A ls hAe hsz X _ hP hD hS hl
  rw [hAe]
  have hx := X.1.1
  have hb := X.1.2.1
  have hown := X.1.2.2.2.1
  have hts := X.1.2.2.2.2
  replace hl : lv_has ls 2 [(0, .ref (ad 7)), (1, .int p1)] := hl
  unfold fX3_value at h
  refine lv_iload_n hx hb dX3_value_0 rfl (lv_at hl 1 rfl) ?_
  have hq := bd_some h; clear h; obtain ⟨r2, h1, h⟩ := hq
  refine sw_si (rest := []) c_good X (cX3_isAtHl_m h1) calX3_isAtHl k_540 hP hD hS ⟨rfl, rfl⟩ rfl hl.1 rfl (Nat.le_of_ble_eq_true rfl) dX3_value_1 (fun H locs hP hD hS => ?_)
  refine lv_if_eq (tgt := 25) hx hb dX3_value_4 (by decide) (fun c3 => ?_) (fun c3 => ?_)
  · replace h := if_yes h c3
    refine lv_aload_n hx hb dX3_value_25 rfl (lv_at hl 0 rfl) ?_
    refine cg_7_1 X hP k_133 dX3_value_26 ?_
    refine lv_iload_n hx hb dX3_value_29 rfl (lv_at hl 1 rfl) ?_
    have hq := bd2_some h; clear h; obtain ⟨r5, s6, h4, h⟩ := hq
    refine sw_vi (rest := []) c_good X (cX6_single_m h4) calX6_single k_543 hP hD hS 4 6 rfl rfl rfl ⟨rfl, rfl⟩ rfl hl.1 rfl (Nat.le_of_ble_eq_true rfl) dX3_value_30 (fun H locs hP hD hS => ?_)
    obtain ⟨rfl, rfl⟩ := Prod.mk.inj (Option.some.inj h)
    exact sw_iret X hP hD hS dX3_value_33
  · replace h := if_no h c3
    refine lv_aload_n hx hb dX3_value_7 rfl (lv_at hl 0 rfl) ?_
    refine cg_7_0 X hP k_132 dX3_value_8 ?_
    refine lv_aload_n hx hb dX3_value_11 rfl (lv_at hl 0 rfl) ?_
    refine cg_7_1 X hP k_133 dX3_value_12 ?_
    refine lv_iconst (v := (3 : Int32)) hx hb dX3_value_15 (by decide) ?_
    have hq := bd2_some h; clear h; obtain ⟨r8, s9, h7, h⟩ := hq
    refine sw_vi (rest := [.ref (ad 2)]) c_good X (cX6_pair_m h7) calX6_pair k_390 hP hD hS 4 6 rfl rfl rfl ⟨rfl, rfl⟩ rfl hl.1 rfl (Nat.le_of_ble_eq_true rfl) dX3_value_16 (fun H locs hP hD hS => ?_)
    have hq := bd2_some h; clear h; obtain ⟨r11, s12, h10, h⟩ := hq
    refine sw_vi (rest := []) c_good X (cX2_read_m h10) calX2_read k_446 hP hD hS 2 2 rfl rfl rfl ⟨rfl, rfl⟩ rfl hl.1 rfl (Nat.le_of_ble_eq_true rfl) dX3_value_19 (fun H locs hP hD hS => ?_)
    refine lv_goto (tgt := 33) hx hb dX3_value_22 (by decide) ?_
    obtain ⟨rfl, rfl⟩ := Prod.mk.inj (Option.some.inj h)
    exact sw_iret X hP hD hS dX3_value_33
theorem dX3_store_0 : decode cX3_store 0 = .ok (.iload_n 1, 1) := by decide +kernel
theorem dX3_store_1 : decode cX3_store 1 = .ok (.invokestatic 43, 3) := by decide +kernel
theorem dX3_store_4 : decode cX3_store 4 = .ok (.ifCond .eq 22, 3) := by decide +kernel
theorem dX3_store_7 : decode cX3_store 7 = .ok (.aload_n 0, 1) := by decide +kernel
theorem dX3_store_8 : decode cX3_store 8 = .ok (.getfield 7, 3) := by decide +kernel
theorem dX3_store_11 : decode cX3_store 11 = .ok (.aload_n 0, 1) := by decide +kernel
theorem dX3_store_12 : decode cX3_store 12 = .ok (.getfield 13, 3) := by decide +kernel
theorem dX3_store_15 : decode cX3_store 15 = .ok (.iconst 3, 1) := by decide +kernel
theorem dX3_store_16 : decode cX3_store 16 = .ok (.invokevirtual 27, 3) := by decide +kernel
theorem dX3_store_19 : decode cX3_store 19 = .ok (.iload_n 2, 1) := by decide +kernel
theorem dX3_store_20 : decode cX3_store 20 = .ok (.invokevirtual 50, 3) := by decide +kernel
theorem dX3_store_23 : decode cX3_store 23 = .ok (.goto 12, 3) := by decide +kernel
theorem dX3_store_26 : decode cX3_store 26 = .ok (.aload_n 0, 1) := by decide +kernel
theorem dX3_store_27 : decode cX3_store 27 = .ok (.getfield 13, 3) := by decide +kernel
theorem dX3_store_30 : decode cX3_store 30 = .ok (.iload_n 1, 1) := by decide +kernel
theorem dX3_store_31 : decode cX3_store 31 = .ok (.iload_n 2, 1) := by decide +kernel
theorem dX3_store_32 : decode cX3_store 32 = .ok (.invokevirtual 53, 3) := by decide +kernel
theorem dX3_store_35 : decode cX3_store 35 = .ok (.return_, 1) := by decide +kernel
def fX3_store (p1 p2 : Int32) (s0 : zS) : Option (zS) := bd (fX3_isAtHl p1) fun r2 => if r2 = (0 : Int32) then (bd (fX6_loadSingle p1 p2 s0) fun s5 => some s5) else (bd2 (fX6_pair (3 : Int32) s0) fun r7 s8 => bd (fX2_write r7 p2 s8) fun s10 => some s10)
set_option maxHeartbeats 4000000 in
set_option maxRecDepth 100000 in
theorem cX3_store_m {l : Launch} {dC : Nat → ClassId} {dI : Nat → Nat → Nat} {ad : Nat → Nat} {cI : ClassId} {p1 p2 : Int32} {s0 : zS} {zs : zS} (h : fX3_store p1 p2 s0 = some zs) : sw_Mv l yX3_store (sw_ws yX3_store cX3_store 3 none) (sw_rm 2 45) (dC, dI) vwCl [(cI, .int)] cF [.ref (ad 7), .int p1, .int p2] (cW ad cI s0) (cW ad cI zs) := by
  intro sz
  refine sw_of (cc := cX3_store) (maxL := 3) (ret := none) (by decide) rfl (Nat.le_of_ble_eq_true rfl) ?_
  intro p e s m args below meth c A ls hAe hsz X _ hP hD hS hl
  rw [hAe]
  have hx := X.1.1
  have hb := X.1.2.1
  have hown := X.1.2.2.2.1
  have hts := X.1.2.2.2.2
  replace hl : lv_has ls 3 [(0, .ref (ad 7)), (1, .int p1), (2, .int p2)] := hl
  unfold fX3_store at h
  refine lv_iload_n hx hb dX3_store_0 rfl (lv_at hl 1 rfl) ?_
  have hq := bd_some h; clear h; obtain ⟨r2, h1, h⟩ := hq
  refine sw_si (rest := []) c_good X (cX3_isAtHl_m h1) calX3_isAtHl k_540 hP hD hS ⟨rfl, rfl⟩ rfl hl.1 rfl (Nat.le_of_ble_eq_true rfl) dX3_store_1 (fun H locs hP hD hS => ?_)
  refine lv_if_eq (tgt := 26) hx hb dX3_store_4 (by decide) (fun c3 => ?_) (fun c3 => ?_)
  · replace h := if_yes h c3
    refine lv_aload_n hx hb dX3_store_26 rfl (lv_at hl 0 rfl) ?_
    refine cg_7_1 X hP k_133 dX3_store_27 ?_
    refine lv_iload_n hx hb dX3_store_30 rfl (lv_at hl 1 rfl) ?_
    refine lv_iload_n hx hb dX3_store_31 rfl (lv_at hl 2 rfl) ?_
    have hq := bd_some h; clear h; obtain ⟨s5, h4, h⟩ := hq
    refine sw_vv (rest := []) c_good X (cX6_loadSingle_m h4) calX6_loadSingle k_560 hP hD hS 4 6 rfl rfl rfl ⟨rfl, rfl⟩ rfl hl.1 rfl (Nat.le_of_ble_eq_true rfl) dX3_store_32 (fun H locs hP hD hS => ?_)
    obtain rfl := Option.some.inj h
    exact sw_vret X hP hD hS dX3_store_35
  · replace h := if_no h c3
    refine lv_aload_n hx hb dX3_store_7 rfl (lv_at hl 0 rfl) ?_
    refine cg_7_0 X hP k_132 dX3_store_8 ?_
    refine lv_aload_n hx hb dX3_store_11 rfl (lv_at hl 0 rfl) ?_
    refine cg_7_1 X hP k_133 dX3_store_12 ?_
    refine lv_iconst (v := (3 : Int32)) hx hb dX3_store_15 (by decide) ?_
    have hq := bd2_some h; clear h; obtain ⟨r7, s8, h6, h⟩ := hq
    refine sw_vi (rest := [.ref (ad 2)]) c_good X (cX6_pair_m h6) calX6_pair k_390 hP hD hS 4 6 rfl rfl rfl ⟨rfl, rfl⟩ rfl hl.1 rfl (Nat.le_of_ble_eq_true rfl) dX3_store_16 (fun H locs hP hD hS => ?_)
    refine lv_iload_n hx hb dX3_store_19 rfl (lv_at hl 2 rfl) ?_
    have hq := bd_some h; clear h; obtain ⟨s10, h9, h⟩ := hq
    refine sw_vv (rest := []) c_good X (cX2_write_m h9) calX2_write k_391 hP hD hS 2 2 rfl rfl rfl ⟨rfl, rfl⟩ rfl hl.1 rfl (Nat.le_of_ble_eq_true rfl) dX3_store_20 (fun H locs hP hD hS => ?_)
    refine lv_goto (tgt := 35) hx hb dX3_store_23 (by decide) ?_
    obtain rfl := Option.some.inj h
    exact sw_vret X hP hD hS dX3_store_35
theorem dX3_readPair_0 : decode cX3_readPair 0 = .ok (.aload_n 0, 1) := by decide +kernel
theorem dX3_readPair_1 : decode cX3_readPair 1 = .ok (.getfield 7, 3) := by decide +kernel
theorem dX3_readPair_4 : decode cX3_readPair 4 = .ok (.iload_n 1, 1) := by decide +kernel
theorem dX3_readPair_5 : decode cX3_readPair 5 = .ok (.invokevirtual 40, 3) := by decide +kernel
theorem dX3_readPair_8 : decode cX3_readPair 8 = .ok (.istore_n 2, 1) := by decide +kernel
theorem dX3_readPair_9 : decode cX3_readPair 9 = .ok (.aload_n 0, 1) := by decide +kernel
theorem dX3_readPair_10 : decode cX3_readPair 10 = .ok (.getfield 7, 3) := by decide +kernel
theorem dX3_readPair_13 : decode cX3_readPair 13 = .ok (.iload_n 1, 1) := by decide +kernel
theorem dX3_readPair_14 : decode cX3_readPair 14 = .ok (.iconst 1, 1) := by decide +kernel
theorem dX3_readPair_15 : decode cX3_readPair 15 = .ok (.iadd, 1) := by decide +kernel
theorem dX3_readPair_16 : decode cX3_readPair 16 = .ok (.invokevirtual 40, 3) := by decide +kernel
theorem dX3_readPair_19 : decode cX3_readPair 19 = .ok (.bipush 8, 2) := by decide +kernel
theorem dX3_readPair_21 : decode cX3_readPair 21 = .ok (.ishl, 1) := by decide +kernel
theorem dX3_readPair_22 : decode cX3_readPair 22 = .ok (.iload_n 2, 1) := by decide +kernel
theorem dX3_readPair_23 : decode cX3_readPair 23 = .ok (.ior, 1) := by decide +kernel
theorem dX3_readPair_24 : decode cX3_readPair 24 = .ok (.ireturn, 1) := by decide +kernel
def fX3_readPair (p1 : Int32) (s0 : zS) : Option (Int32 × zS) := bd2 (fX2_read p1 s0) fun r2 s3 => bd2 (fX2_read (p1 + (1 : Int32)) s3) fun r5 s6 => some (((r5 <<< ((8 : Int32) &&& 31)) ||| r2), s6)
set_option maxHeartbeats 4000000 in
set_option maxRecDepth 100000 in
theorem cX3_readPair_m {l : Launch} {dC : Nat → ClassId} {dI : Nat → Nat → Nat} {ad : Nat → Nat} {cI : ClassId} {p1 : Int32} {s0 : zS} {zr : Int32} {zs : zS} (h : fX3_readPair p1 s0 = some (zr, zs)) : sw_Mi l yX3_readPair (sw_ws yX3_readPair cX3_readPair 3 (some .int)) (sw_rm 2 44) (dC, dI) vwCl [(cI, .int)] cF [.ref (ad 7), .int p1] (cW ad cI s0) (cW ad cI zs) zr := by
  intro sz
  refine sw_of (cc := cX3_readPair) (maxL := 3) (ret := (some .int)) (by decide) rfl (Nat.le_of_ble_eq_true rfl) ?_
  intro p e s m args below meth c A ls hAe hsz X _ hP hD hS hl
  rw [hAe]
  have hx := X.1.1
  have hb := X.1.2.1
  have hown := X.1.2.2.2.1
  have hts := X.1.2.2.2.2
  replace hl : lv_has ls 3 [(0, .ref (ad 7)), (1, .int p1)] := hl
  unfold fX3_readPair at h
  refine lv_aload_n hx hb dX3_readPair_0 rfl (lv_at hl 0 rfl) ?_
  refine cg_7_0 X hP k_132 dX3_readPair_1 ?_
  refine lv_iload_n hx hb dX3_readPair_4 rfl (lv_at hl 1 rfl) ?_
  have hq := bd2_some h; clear h; obtain ⟨r2, s3, h1, h⟩ := hq
  refine sw_vi (rest := []) c_good X (cX2_read_m h1) calX2_read k_446 hP hD hS 2 2 rfl rfl rfl ⟨rfl, rfl⟩ rfl hl.1 rfl (Nat.le_of_ble_eq_true rfl) dX3_readPair_5 (fun H locs hP hD hS => ?_)
  refine lv_istore_n (lv' := [(2, .int r2), (0, .ref (ad 7)), (1, .int p1)]) hx hb dX3_readPair_8 rfl hl (by decide) rfl (fun ls hl => ?_)
  refine lv_aload_n hx hb dX3_readPair_9 rfl (lv_at hl 1 rfl) ?_
  refine cg_7_0 X hP k_132 dX3_readPair_10 ?_
  refine lv_iload_n hx hb dX3_readPair_13 rfl (lv_at hl 2 rfl) ?_
  refine lv_iconst (v := (1 : Int32)) hx hb dX3_readPair_14 (by decide) ?_
  refine lv_iadd hx hb dX3_readPair_15 ?_
  have hq := bd2_some h; clear h; obtain ⟨r5, s6, h4, h⟩ := hq
  refine sw_vi (rest := []) c_good X (cX2_read_m h4) calX2_read k_446 hP hD hS 2 2 rfl rfl rfl ⟨rfl, rfl⟩ rfl hl.1 rfl (Nat.le_of_ble_eq_true rfl) dX3_readPair_16 (fun H locs hP hD hS => ?_)
  refine lv_bipush (v := (8 : Int32)) hx hb dX3_readPair_19 (by decide) ?_
  refine lv_ishl hx hb dX3_readPair_21 ?_
  refine lv_iload_n hx hb dX3_readPair_22 rfl (lv_at hl 0 rfl) ?_
  refine lv_ior hx hb dX3_readPair_23 ?_
  obtain ⟨rfl, rfl⟩ := Prod.mk.inj (Option.some.inj h)
  exact sw_iret X hP hD hS dX3_readPair_24
theorem dX3_writePair_0 : decode cX3_writePair 0 = .ok (.aload_n 0, 1) := by decide +kernel
theorem dX3_writePair_1 : decode cX3_writePair 1 = .ok (.getfield 7, 3) := by decide +kernel
theorem dX3_writePair_4 : decode cX3_writePair 4 = .ok (.iload_n 1, 1) := by decide +kernel
theorem dX3_writePair_5 : decode cX3_writePair 5 = .ok (.iload_n 2, 1) := by decide +kernel
theorem dX3_writePair_6 : decode cX3_writePair 6 = .ok (.sipush 255, 3) := by decide +kernel
theorem dX3_writePair_9 : decode cX3_writePair 9 = .ok (.iand, 1) := by decide +kernel
theorem dX3_writePair_10 : decode cX3_writePair 10 = .ok (.invokevirtual 50, 3) := by decide +kernel
theorem dX3_writePair_13 : decode cX3_writePair 13 = .ok (.aload_n 0, 1) := by decide +kernel
theorem dX3_writePair_14 : decode cX3_writePair 14 = .ok (.getfield 7, 3) := by decide +kernel
theorem dX3_writePair_17 : decode cX3_writePair 17 = .ok (.iload_n 1, 1) := by decide +kernel
theorem dX3_writePair_18 : decode cX3_writePair 18 = .ok (.iconst 1, 1) := by decide +kernel
theorem dX3_writePair_19 : decode cX3_writePair 19 = .ok (.iadd, 1) := by decide +kernel
theorem dX3_writePair_20 : decode cX3_writePair 20 = .ok (.iload_n 2, 1) := by decide +kernel
theorem dX3_writePair_21 : decode cX3_writePair 21 = .ok (.bipush 8, 2) := by decide +kernel
theorem dX3_writePair_23 : decode cX3_writePair 23 = .ok (.ishr, 1) := by decide +kernel
theorem dX3_writePair_24 : decode cX3_writePair 24 = .ok (.invokevirtual 50, 3) := by decide +kernel
theorem dX3_writePair_27 : decode cX3_writePair 27 = .ok (.return_, 1) := by decide +kernel
def fX3_writePair (p1 p2 : Int32) (s0 : zS) : Option (zS) := bd (fX2_write p1 (p2 &&& (255 : Int32)) s0) fun s2 => bd (fX2_write (p1 + (1 : Int32)) (p2 >>> ((8 : Int32) &&& 31)) s2) fun s4 => some s4
set_option maxHeartbeats 4000000 in
set_option maxRecDepth 100000 in
theorem cX3_writePair_m {l : Launch} {dC : Nat → ClassId} {dI : Nat → Nat → Nat} {ad : Nat → Nat} {cI : ClassId} {p1 p2 : Int32} {s0 : zS} {zs : zS} (h : fX3_writePair p1 p2 s0 = some zs) : sw_Mv l yX3_writePair (sw_ws yX3_writePair cX3_writePair 3 none) (sw_rm 2 45) (dC, dI) vwCl [(cI, .int)] cF [.ref (ad 7), .int p1, .int p2] (cW ad cI s0) (cW ad cI zs) := by
  intro sz
  refine sw_of (cc := cX3_writePair) (maxL := 3) (ret := none) (by decide) rfl (Nat.le_of_ble_eq_true rfl) ?_
  intro p e s m args below meth c A ls hAe hsz X _ hP hD hS hl
  rw [hAe]
  have hx := X.1.1
  have hb := X.1.2.1
  have hown := X.1.2.2.2.1
  have hts := X.1.2.2.2.2
  replace hl : lv_has ls 3 [(0, .ref (ad 7)), (1, .int p1), (2, .int p2)] := hl
  unfold fX3_writePair at h
  refine lv_aload_n hx hb dX3_writePair_0 rfl (lv_at hl 0 rfl) ?_
  refine cg_7_0 X hP k_132 dX3_writePair_1 ?_
  refine lv_iload_n hx hb dX3_writePair_4 rfl (lv_at hl 1 rfl) ?_
  refine lv_iload_n hx hb dX3_writePair_5 rfl (lv_at hl 2 rfl) ?_
  refine lv_sipush (v := (255 : Int32)) hx hb dX3_writePair_6 (by decide) ?_
  refine lv_iand hx hb dX3_writePair_9 ?_
  have hq := bd_some h; clear h; obtain ⟨s2, h1, h⟩ := hq
  refine sw_vv (rest := []) c_good X (cX2_write_m h1) calX2_write k_391 hP hD hS 2 2 rfl rfl rfl ⟨rfl, rfl⟩ rfl hl.1 rfl (Nat.le_of_ble_eq_true rfl) dX3_writePair_10 (fun H locs hP hD hS => ?_)
  refine lv_aload_n hx hb dX3_writePair_13 rfl (lv_at hl 0 rfl) ?_
  refine cg_7_0 X hP k_132 dX3_writePair_14 ?_
  refine lv_iload_n hx hb dX3_writePair_17 rfl (lv_at hl 1 rfl) ?_
  refine lv_iconst (v := (1 : Int32)) hx hb dX3_writePair_18 (by decide) ?_
  refine lv_iadd hx hb dX3_writePair_19 ?_
  refine lv_iload_n hx hb dX3_writePair_20 rfl (lv_at hl 2 rfl) ?_
  refine lv_bipush (v := (8 : Int32)) hx hb dX3_writePair_21 (by decide) ?_
  refine lv_ishr hx hb dX3_writePair_23 ?_
  have hq := bd_some h; clear h; obtain ⟨s4, h3, h⟩ := hq
  refine sw_vv (rest := []) c_good X (cX2_write_m h3) calX2_write k_391 hP hD hS 2 2 rfl rfl rfl ⟨rfl, rfl⟩ rfl hl.1 rfl (Nat.le_of_ble_eq_true rfl) dX3_writePair_24 (fun H locs hP hD hS => ?_)
  obtain rfl := Option.some.inj h
  exact sw_vret X hP hD hS dX3_writePair_27
theorem dX3_push_0 : decode cX3_push 0 = .ok (.aload_n 0, 1) := by decide +kernel
theorem dX3_push_1 : decode cX3_push 1 = .ok (.getfield 13, 3) := by decide +kernel
theorem dX3_push_4 : decode cX3_push 4 = .ok (.bipush 8, 2) := by decide +kernel
theorem dX3_push_6 : decode cX3_push 6 = .ok (.invokevirtual 27, 3) := by decide +kernel
theorem dX3_push_9 : decode cX3_push 9 = .ok (.istore_n 2, 1) := by decide +kernel
theorem dX3_push_10 : decode cX3_push 10 = .ok (.aload_n 0, 1) := by decide +kernel
theorem dX3_push_11 : decode cX3_push 11 = .ok (.getfield 7, 3) := by decide +kernel
theorem dX3_push_14 : decode cX3_push 14 = .ok (.iload_n 2, 1) := by decide +kernel
theorem dX3_push_15 : decode cX3_push 15 = .ok (.iconst 1, 1) := by decide +kernel
theorem dX3_push_16 : decode cX3_push 16 = .ok (.isub, 1) := by decide +kernel
theorem dX3_push_17 : decode cX3_push 17 = .ok (.iload_n 1, 1) := by decide +kernel
theorem dX3_push_18 : decode cX3_push 18 = .ok (.bipush 8, 2) := by decide +kernel
theorem dX3_push_20 : decode cX3_push 20 = .ok (.ishr, 1) := by decide +kernel
theorem dX3_push_21 : decode cX3_push 21 = .ok (.invokevirtual 50, 3) := by decide +kernel
theorem dX3_push_24 : decode cX3_push 24 = .ok (.aload_n 0, 1) := by decide +kernel
theorem dX3_push_25 : decode cX3_push 25 = .ok (.getfield 7, 3) := by decide +kernel
theorem dX3_push_28 : decode cX3_push 28 = .ok (.iload_n 2, 1) := by decide +kernel
theorem dX3_push_29 : decode cX3_push 29 = .ok (.iconst 2, 1) := by decide +kernel
theorem dX3_push_30 : decode cX3_push 30 = .ok (.isub, 1) := by decide +kernel
theorem dX3_push_31 : decode cX3_push 31 = .ok (.iload_n 1, 1) := by decide +kernel
theorem dX3_push_32 : decode cX3_push 32 = .ok (.sipush 255, 3) := by decide +kernel
theorem dX3_push_35 : decode cX3_push 35 = .ok (.iand, 1) := by decide +kernel
theorem dX3_push_36 : decode cX3_push 36 = .ok (.invokevirtual 50, 3) := by decide +kernel
theorem dX3_push_39 : decode cX3_push 39 = .ok (.aload_n 0, 1) := by decide +kernel
theorem dX3_push_40 : decode cX3_push 40 = .ok (.getfield 13, 3) := by decide +kernel
theorem dX3_push_43 : decode cX3_push 43 = .ok (.bipush 8, 2) := by decide +kernel
theorem dX3_push_45 : decode cX3_push 45 = .ok (.bipush (-2), 2) := by decide +kernel
theorem dX3_push_47 : decode cX3_push 47 = .ok (.invokevirtual 36, 3) := by decide +kernel
theorem dX3_push_50 : decode cX3_push 50 = .ok (.return_, 1) := by decide +kernel
def fX3_push (p1 : Int32) (s0 : zS) : Option (zS) := bd2 (fX6_pair (8 : Int32) s0) fun r2 s3 => bd (fX2_write (r2 - (1 : Int32)) (p1 >>> ((8 : Int32) &&& 31)) s3) fun s5 => bd (fX2_write (r2 - (2 : Int32)) (p1 &&& (255 : Int32)) s5) fun s7 => bd (fX6_move (8 : Int32) (-2 : Int32) s7) fun s9 => some s9
set_option maxHeartbeats 4000000 in
set_option maxRecDepth 100000 in
theorem cX3_push_m {l : Launch} {dC : Nat → ClassId} {dI : Nat → Nat → Nat} {ad : Nat → Nat} {cI : ClassId} {p1 : Int32} {s0 : zS} {zs : zS} (h : fX3_push p1 s0 = some zs) : sw_Mv l yX3_push (sw_ws yX3_push cX3_push 3 none) (sw_rm 2 45) (dC, dI) vwCl [(cI, .int)] cF [.ref (ad 7), .int p1] (cW ad cI s0) (cW ad cI zs) := by
  intro sz
  refine sw_of (cc := cX3_push) (maxL := 3) (ret := none) (by decide) rfl (Nat.le_of_ble_eq_true rfl) ?_
  intro p e s m args below meth c A ls hAe hsz X _ hP hD hS hl
  rw [hAe]
  have hx := X.1.1
  have hb := X.1.2.1
  have hown := X.1.2.2.2.1
  have hts := X.1.2.2.2.2
  replace hl : lv_has ls 3 [(0, .ref (ad 7)), (1, .int p1)] := hl
  unfold fX3_push at h
  refine lv_aload_n hx hb dX3_push_0 rfl (lv_at hl 0 rfl) ?_
  refine cg_7_1 X hP k_133 dX3_push_1 ?_
  refine lv_bipush (v := (8 : Int32)) hx hb dX3_push_4 (by decide) ?_
  have hq := bd2_some h; clear h; obtain ⟨r2, s3, h1, h⟩ := hq
  refine sw_vi (rest := []) c_good X (cX6_pair_m h1) calX6_pair k_390 hP hD hS 4 6 rfl rfl rfl ⟨rfl, rfl⟩ rfl hl.1 rfl (Nat.le_of_ble_eq_true rfl) dX3_push_6 (fun H locs hP hD hS => ?_)
  refine lv_istore_n (lv' := [(2, .int r2), (0, .ref (ad 7)), (1, .int p1)]) hx hb dX3_push_9 rfl hl (by decide) rfl (fun ls hl => ?_)
  refine lv_aload_n hx hb dX3_push_10 rfl (lv_at hl 1 rfl) ?_
  refine cg_7_0 X hP k_132 dX3_push_11 ?_
  refine lv_iload_n hx hb dX3_push_14 rfl (lv_at hl 0 rfl) ?_
  refine lv_iconst (v := (1 : Int32)) hx hb dX3_push_15 (by decide) ?_
  refine lv_isub hx hb dX3_push_16 ?_
  refine lv_iload_n hx hb dX3_push_17 rfl (lv_at hl 2 rfl) ?_
  refine lv_bipush (v := (8 : Int32)) hx hb dX3_push_18 (by decide) ?_
  refine lv_ishr hx hb dX3_push_20 ?_
  have hq := bd_some h; clear h; obtain ⟨s5, h4, h⟩ := hq
  refine sw_vv (rest := []) c_good X (cX2_write_m h4) calX2_write k_391 hP hD hS 2 2 rfl rfl rfl ⟨rfl, rfl⟩ rfl hl.1 rfl (Nat.le_of_ble_eq_true rfl) dX3_push_21 (fun H locs hP hD hS => ?_)
  refine lv_aload_n hx hb dX3_push_24 rfl (lv_at hl 1 rfl) ?_
  refine cg_7_0 X hP k_132 dX3_push_25 ?_
  refine lv_iload_n hx hb dX3_push_28 rfl (lv_at hl 0 rfl) ?_
  refine lv_iconst (v := (2 : Int32)) hx hb dX3_push_29 (by decide) ?_
  refine lv_isub hx hb dX3_push_30 ?_
  refine lv_iload_n hx hb dX3_push_31 rfl (lv_at hl 2 rfl) ?_
  refine lv_sipush (v := (255 : Int32)) hx hb dX3_push_32 (by decide) ?_
  refine lv_iand hx hb dX3_push_35 ?_
  have hq := bd_some h; clear h; obtain ⟨s7, h6, h⟩ := hq
  refine sw_vv (rest := []) c_good X (cX2_write_m h6) calX2_write k_391 hP hD hS 2 2 rfl rfl rfl ⟨rfl, rfl⟩ rfl hl.1 rfl (Nat.le_of_ble_eq_true rfl) dX3_push_36 (fun H locs hP hD hS => ?_)
  refine lv_aload_n hx hb dX3_push_39 rfl (lv_at hl 1 rfl) ?_
  refine cg_7_1 X hP k_133 dX3_push_40 ?_
  refine lv_bipush (v := (8 : Int32)) hx hb dX3_push_43 (by decide) ?_
  refine lv_bipush (v := (-2 : Int32)) hx hb dX3_push_45 (by decide) ?_
  have hq := bd_some h; clear h; obtain ⟨s9, h8, h⟩ := hq
  refine sw_vv (rest := []) c_good X (cX6_move_m h8) calX6_move k_407 hP hD hS 4 6 rfl rfl rfl ⟨rfl, rfl⟩ rfl hl.1 rfl (Nat.le_of_ble_eq_true rfl) dX3_push_47 (fun H locs hP hD hS => ?_)
  obtain rfl := Option.some.inj h
  exact sw_vret X hP hD hS dX3_push_50
theorem dX3_pop_0 : decode cX3_pop 0 = .ok (.aload_n 0, 1) := by decide +kernel
theorem dX3_pop_1 : decode cX3_pop 1 = .ok (.getfield 13, 3) := by decide +kernel
theorem dX3_pop_4 : decode cX3_pop 4 = .ok (.bipush 8, 2) := by decide +kernel
theorem dX3_pop_6 : decode cX3_pop 6 = .ok (.invokevirtual 27, 3) := by decide +kernel
theorem dX3_pop_9 : decode cX3_pop 9 = .ok (.istore_n 1, 1) := by decide +kernel
theorem dX3_pop_10 : decode cX3_pop 10 = .ok (.aload_n 0, 1) := by decide +kernel
theorem dX3_pop_11 : decode cX3_pop 11 = .ok (.getfield 13, 3) := by decide +kernel
theorem dX3_pop_14 : decode cX3_pop 14 = .ok (.bipush 8, 2) := by decide +kernel
theorem dX3_pop_16 : decode cX3_pop 16 = .ok (.iconst 2, 1) := by decide +kernel
theorem dX3_pop_17 : decode cX3_pop 17 = .ok (.invokevirtual 36, 3) := by decide +kernel
theorem dX3_pop_20 : decode cX3_pop 20 = .ok (.aload_n 0, 1) := by decide +kernel
theorem dX3_pop_21 : decode cX3_pop 21 = .ok (.getfield 7, 3) := by decide +kernel
theorem dX3_pop_24 : decode cX3_pop 24 = .ok (.iload_n 1, 1) := by decide +kernel
theorem dX3_pop_25 : decode cX3_pop 25 = .ok (.invokevirtual 40, 3) := by decide +kernel
theorem dX3_pop_28 : decode cX3_pop 28 = .ok (.istore_n 2, 1) := by decide +kernel
theorem dX3_pop_29 : decode cX3_pop 29 = .ok (.aload_n 0, 1) := by decide +kernel
theorem dX3_pop_30 : decode cX3_pop 30 = .ok (.getfield 7, 3) := by decide +kernel
theorem dX3_pop_33 : decode cX3_pop 33 = .ok (.iload_n 1, 1) := by decide +kernel
theorem dX3_pop_34 : decode cX3_pop 34 = .ok (.iconst 1, 1) := by decide +kernel
theorem dX3_pop_35 : decode cX3_pop 35 = .ok (.iadd, 1) := by decide +kernel
theorem dX3_pop_36 : decode cX3_pop 36 = .ok (.invokevirtual 40, 3) := by decide +kernel
theorem dX3_pop_39 : decode cX3_pop 39 = .ok (.bipush 8, 2) := by decide +kernel
theorem dX3_pop_41 : decode cX3_pop 41 = .ok (.ishl, 1) := by decide +kernel
theorem dX3_pop_42 : decode cX3_pop 42 = .ok (.iload_n 2, 1) := by decide +kernel
theorem dX3_pop_43 : decode cX3_pop 43 = .ok (.ior, 1) := by decide +kernel
theorem dX3_pop_44 : decode cX3_pop 44 = .ok (.ireturn, 1) := by decide +kernel
def fX3_pop (s0 : zS) : Option (Int32 × zS) := bd2 (fX6_pair (8 : Int32) s0) fun r2 s3 => bd (fX6_move (8 : Int32) (2 : Int32) s3) fun s5 => bd2 (fX2_read r2 s5) fun r7 s8 => bd2 (fX2_read (r2 + (1 : Int32)) s8) fun r10 s11 => some (((r10 <<< ((8 : Int32) &&& 31)) ||| r7), s11)
set_option maxHeartbeats 4000000 in
set_option maxRecDepth 100000 in
theorem cX3_pop_m {l : Launch} {dC : Nat → ClassId} {dI : Nat → Nat → Nat} {ad : Nat → Nat} {cI : ClassId} {s0 : zS} {zr : Int32} {zs : zS} (h : fX3_pop  s0 = some (zr, zs)) : sw_Mi l yX3_pop (sw_ws yX3_pop cX3_pop 3 (some .int)) (sw_rm 2 45) (dC, dI) vwCl [(cI, .int)] cF [.ref (ad 7)] (cW ad cI s0) (cW ad cI zs) zr := by
  intro sz
  refine sw_of (cc := cX3_pop) (maxL := 3) (ret := (some .int)) (by decide) rfl (Nat.le_of_ble_eq_true rfl) ?_
  intro p e s m args below meth c A ls hAe hsz X _ hP hD hS hl
  rw [hAe]
  have hx := X.1.1
  have hb := X.1.2.1
  have hown := X.1.2.2.2.1
  have hts := X.1.2.2.2.2
  replace hl : lv_has ls 3 [(0, .ref (ad 7))] := hl
  unfold fX3_pop at h
  refine lv_aload_n hx hb dX3_pop_0 rfl (lv_at hl 0 rfl) ?_
  refine cg_7_1 X hP k_133 dX3_pop_1 ?_
  refine lv_bipush (v := (8 : Int32)) hx hb dX3_pop_4 (by decide) ?_
  have hq := bd2_some h; clear h; obtain ⟨r2, s3, h1, h⟩ := hq
  refine sw_vi (rest := []) c_good X (cX6_pair_m h1) calX6_pair k_390 hP hD hS 4 6 rfl rfl rfl ⟨rfl, rfl⟩ rfl hl.1 rfl (Nat.le_of_ble_eq_true rfl) dX3_pop_6 (fun H locs hP hD hS => ?_)
  refine lv_istore_n (lv' := [(1, .int r2), (0, .ref (ad 7))]) hx hb dX3_pop_9 rfl hl (by decide) rfl (fun ls hl => ?_)
  refine lv_aload_n hx hb dX3_pop_10 rfl (lv_at hl 1 rfl) ?_
  refine cg_7_1 X hP k_133 dX3_pop_11 ?_
  refine lv_bipush (v := (8 : Int32)) hx hb dX3_pop_14 (by decide) ?_
  refine lv_iconst (v := (2 : Int32)) hx hb dX3_pop_16 (by decide) ?_
  have hq := bd_some h; clear h; obtain ⟨s5, h4, h⟩ := hq
  refine sw_vv (rest := []) c_good X (cX6_move_m h4) calX6_move k_407 hP hD hS 4 6 rfl rfl rfl ⟨rfl, rfl⟩ rfl hl.1 rfl (Nat.le_of_ble_eq_true rfl) dX3_pop_17 (fun H locs hP hD hS => ?_)
  refine lv_aload_n hx hb dX3_pop_20 rfl (lv_at hl 1 rfl) ?_
  refine cg_7_0 X hP k_132 dX3_pop_21 ?_
  refine lv_iload_n hx hb dX3_pop_24 rfl (lv_at hl 0 rfl) ?_
  have hq := bd2_some h; clear h; obtain ⟨r7, s8, h6, h⟩ := hq
  refine sw_vi (rest := []) c_good X (cX2_read_m h6) calX2_read k_446 hP hD hS 2 2 rfl rfl rfl ⟨rfl, rfl⟩ rfl hl.1 rfl (Nat.le_of_ble_eq_true rfl) dX3_pop_25 (fun H locs hP hD hS => ?_)
  refine lv_istore_n (lv' := [(2, .int r7), (1, .int r2), (0, .ref (ad 7))]) hx hb dX3_pop_28 rfl hl (by decide) rfl (fun ls hl => ?_)
  refine lv_aload_n hx hb dX3_pop_29 rfl (lv_at hl 2 rfl) ?_
  refine cg_7_0 X hP k_132 dX3_pop_30 ?_
  refine lv_iload_n hx hb dX3_pop_33 rfl (lv_at hl 1 rfl) ?_
  refine lv_iconst (v := (1 : Int32)) hx hb dX3_pop_34 (by decide) ?_
  refine lv_iadd hx hb dX3_pop_35 ?_
  have hq := bd2_some h; clear h; obtain ⟨r10, s11, h9, h⟩ := hq
  refine sw_vi (rest := []) c_good X (cX2_read_m h9) calX2_read k_446 hP hD hS 2 2 rfl rfl rfl ⟨rfl, rfl⟩ rfl hl.1 rfl (Nat.le_of_ble_eq_true rfl) dX3_pop_36 (fun H locs hP hD hS => ?_)
  refine lv_bipush (v := (8 : Int32)) hx hb dX3_pop_39 (by decide) ?_
  refine lv_ishl hx hb dX3_pop_41 ?_
  refine lv_iload_n hx hb dX3_pop_42 rfl (lv_at hl 0 rfl) ?_
  refine lv_ior hx hb dX3_pop_43 ?_
  obtain ⟨rfl, rfl⟩ := Prod.mk.inj (Option.some.inj h)
  exact sw_iret X hP hD hS dX3_pop_44
theorem dX4_isWaitedFor_0 : decode cX4_isWaitedFor 0 = .ok (.iload_n 0, 1) := by decide +kernel
theorem dX4_isWaitedFor_1 : decode cX4_isWaitedFor 1 = .ok (.iconst 1, 1) := by decide +kernel
theorem dX4_isWaitedFor_2 : decode cX4_isWaitedFor 2 = .ok (.iand, 1) := by decide +kernel
theorem dX4_isWaitedFor_3 : decode cX4_isWaitedFor 3 = .ok (.ifCond .ne 7, 3) := by decide +kernel
theorem dX4_isWaitedFor_6 : decode cX4_isWaitedFor 6 = .ok (.iconst 1, 1) := by decide +kernel
theorem dX4_isWaitedFor_7 : decode cX4_isWaitedFor 7 = .ok (.goto 4, 3) := by decide +kernel
theorem dX4_isWaitedFor_10 : decode cX4_isWaitedFor 10 = .ok (.iconst 0, 1) := by decide +kernel
theorem dX4_isWaitedFor_11 : decode cX4_isWaitedFor 11 = .ok (.ireturn, 1) := by decide +kernel
def fX4_isWaitedFor (p1 : Int32) : Option (Int32) := if (p1 &&& (1 : Int32)) = (0 : Int32) then (some (1 : Int32)) else (some (0 : Int32))
set_option maxHeartbeats 4000000 in
set_option maxRecDepth 100000 in
theorem cX4_isWaitedFor_m {l : Launch} {dC : Nat → ClassId} {dI : Nat → Nat → Nat} {cI : ClassId} {w : va_W} {p1 : Int32} {zr : Int32} (h : fX4_isWaitedFor p1 = some zr) : sw_Mi l yX4_isWaitedFor (sw_ws yX4_isWaitedFor cX4_isWaitedFor 1 (some .boolean)) (sw_rm 0 0) (dC, dI) vwCl [(cI, .int)] cF [.int p1] w w zr := by
  intro sz
  refine sw_of (cc := cX4_isWaitedFor) (maxL := 1) (ret := (some .boolean)) (by decide) rfl (Nat.le_of_ble_eq_true rfl) ?_
  intro p e s m args below meth c A ls hAe hsz X _ hP hD hS hl
  rw [hAe]
  have hx := X.1.1
  have hb := X.1.2.1
  have hown := X.1.2.2.2.1
  have hts := X.1.2.2.2.2
  replace hl : lv_has ls 1 [(0, .int p1)] := hl
  unfold fX4_isWaitedFor at h
  refine lv_iload_n hx hb dX4_isWaitedFor_0 rfl (lv_at hl 0 rfl) ?_
  refine lv_iconst (v := (1 : Int32)) hx hb dX4_isWaitedFor_1 (by decide) ?_
  refine lv_iand hx hb dX4_isWaitedFor_2 ?_
  refine lv_if_ne (tgt := 10) hx hb dX4_isWaitedFor_3 (by decide) (fun c1 => ?_) (fun c1 => ?_)
  · replace h := if_no h c1
    refine lv_iconst (v := (0 : Int32)) hx hb dX4_isWaitedFor_10 (by decide) ?_
    obtain rfl := Option.some.inj h
    exact sw_bret X (bz_n (by decide)) hP hD hS dX4_isWaitedFor_11
  · replace h := if_yes h c1
    refine lv_iconst (v := (1 : Int32)) hx hb dX4_isWaitedFor_6 (by decide) ?_
    refine lv_goto (tgt := 11) hx hb dX4_isWaitedFor_7 (by decide) ?_
    obtain rfl := Option.some.inj h
    exact sw_bret X (bz_n (by decide)) hP hD hS dX4_isWaitedFor_11
theorem dX7_ear_0 : decode cX7_ear 0 = .ok (.iconst 0, 1) := by decide +kernel
theorem dX7_ear_1 : decode cX7_ear 1 = .ok (.istore_n 2, 1) := by decide +kernel
theorem dX7_ear_2 : decode cX7_ear 2 = .ok (.iload_n 2, 1) := by decide +kernel
theorem dX7_ear_3 : decode cX7_ear 3 = .ok (.aload_n 0, 1) := by decide +kernel
theorem dX7_ear_4 : decode cX7_ear 4 = .ok (.getfield 13, 3) := by decide +kernel
theorem dX7_ear_7 : decode cX7_ear 7 = .ok (.if_icmp .ge 19, 3) := by decide +kernel
theorem dX7_ear_10 : decode cX7_ear 10 = .ok (.aload_n 0, 1) := by decide +kernel
theorem dX7_ear_11 : decode cX7_ear 11 = .ok (.getfield 9, 3) := by decide +kernel
theorem dX7_ear_14 : decode cX7_ear 14 = .ok (.iload_n 2, 1) := by decide +kernel
theorem dX7_ear_15 : decode cX7_ear 15 = .ok (.iaload, 1) := by decide +kernel
theorem dX7_ear_16 : decode cX7_ear 16 = .ok (.iload_n 1, 1) := by decide +kernel
theorem dX7_ear_17 : decode cX7_ear 17 = .ok (.if_icmp .ge 9, 3) := by decide +kernel
theorem dX7_ear_20 : decode cX7_ear 20 = .ok (.iinc 2 1, 3) := by decide +kernel
theorem dX7_ear_23 : decode cX7_ear 23 = .ok (.goto (-21), 3) := by decide +kernel
theorem dX7_ear_26 : decode cX7_ear 26 = .ok (.iload_n 2, 1) := by decide +kernel
theorem dX7_ear_27 : decode cX7_ear 27 = .ok (.iconst 1, 1) := by decide +kernel
theorem dX7_ear_28 : decode cX7_ear 28 = .ok (.iand, 1) := by decide +kernel
theorem dX7_ear_29 : decode cX7_ear 29 = .ok (.ireturn, 1) := by decide +kernel
def fX7_ear_L2 : Nat → Int32 → Int32 → zS → Option (Int32 × zS)
  | 0, _, _, _ => none
  | n + 1, v1, v2, s0 => if (s0.1 9) ≤ v2 then (some ((v2 &&& (1 : Int32)), s0)) else (gd (0 ≤ v2 ∧ v2 < 64) <| if v1 ≤ (s0.2 3 (v2.toNatClampNeg)) then (some ((v2 &&& (1 : Int32)), s0)) else (nm (v2 + (1 : Int32)) fun x4 => fX7_ear_L2 n v1 x4 s0))
set_option maxHeartbeats 4000000 in
set_option maxRecDepth 100000 in
theorem cX7_ear_lp2 {l : Launch} {dC : Nat → ClassId} {dI : Nat → Nat → Nat} {ad : Nat → Nat} {cI : ClassId} {zr : Int32} {zs : zS} {p : Program} {e : Env} {s : State} {m : MethodId} {args : Array Value} {below : List Frame} {meth : Method} {c : Code} {A : Nat → Prop} (X : sw_X p s m args meth c cX7_ear 3 RX7 (some .int) (sw_ws yX7_ear cX7_ear 3 (some .int)) (dC, dI) vwCl [(cI, .int)] cF A) : ∀ (n : Nat) {v1 v2 : Int32} {s0 : zS} {H : Heap} {locs : List Loc} {ls : Array Slot}, fX7_ear_L2 n v1 v2 s0 = some (zr, zs) → va_P (dC, dI) vwCl (cW ad cI s0) H → va_D A (cW ad cI s0) → va_S A s.heap H locs → lv_has ls 3 [(0, .ref (ad 8)), (1, .int v1), (2, .int v2)] → W p l e (sw_rm 0 0) s m args below meth c H locs 0 0 (MQ below (sw_Qi (dC, dI) vwCl [(cI, .int)] A (cW ad cI zs) zr) args s 0 0 A) (F0 m 2 ls []) := by
  have hx := X.1.1
  have hb := X.1.2.1
  have hown := X.1.2.2.2.1
  have hts := X.1.2.2.2.2
  intro n
  induction n with
  | zero =>
    intro v1 v2 s0 H locs ls h
    rw [fX7_ear_L2] at h
    exact absurd h (fun h9 => by cases h9)
  | succ n ih =>
    intro v1 v2 s0 H locs ls h hP hD hS hl
    rw [fX7_ear_L2] at h
    refine lv_iload_n hx hb dX7_ear_2 rfl (lv_at hl 2 rfl) ?_
    refine lv_aload_n hx hb dX7_ear_3 rfl (lv_at hl 0 rfl) ?_
    refine cg_8_1 X hP k_64 dX7_ear_4 ?_
    refine lv_icmp_ge (tgt := 26) hx hb dX7_ear_7 (by decide) (fun c1 => ?_) (fun c1 => ?_)
    · replace h := if_yes h c1
      refine lv_iload_n hx hb dX7_ear_26 rfl (lv_at hl 2 rfl) ?_
      refine lv_iconst (v := (1 : Int32)) hx hb dX7_ear_27 (by decide) ?_
      refine lv_iand hx hb dX7_ear_28 ?_
      obtain ⟨rfl, rfl⟩ := Prod.mk.inj (Option.some.inj h)
      exact sw_iret X hP hD hS dX7_ear_29
    · replace h := if_no h c1
      refine lv_aload_n hx hb dX7_ear_10 rfl (lv_at hl 0 rfl) ?_
      refine cg_8_0 X hP k_63 dX7_ear_11 ?_
      refine lv_iload_n hx hb dX7_ear_14 rfl (lv_at hl 2 rfl) ?_
      have hq := gd_some h; clear h; obtain ⟨c2, h⟩ := hq
      refine cl_3 X hP (vin_in c2 (by decide)) dX7_ear_15 ?_
      refine lv_iload_n hx hb dX7_ear_16 rfl (lv_at hl 1 rfl) ?_
      refine lv_icmp_ge (tgt := 26) hx hb dX7_ear_17 (by decide) (fun c3 => ?_) (fun c3 => ?_)
      · replace h := if_yes h c3
        refine lv_iload_n hx hb dX7_ear_26 rfl (lv_at hl 2 rfl) ?_
        refine lv_iconst (v := (1 : Int32)) hx hb dX7_ear_27 (by decide) ?_
        refine lv_iand hx hb dX7_ear_28 ?_
        obtain ⟨rfl, rfl⟩ := Prod.mk.inj (Option.some.inj h)
        exact sw_iret X hP hD hS dX7_ear_29
      · replace h := if_no h c3
        obtain ⟨x4, ex4⟩ : ∃ y : Int32, y = v2 + (1 : Int32) := ⟨_, rfl⟩
        replace h := nm_use ex4 h
        refine lv_iinc (v := x4) (lv' := [(2, .int x4), (0, .ref (ad 8)), (1, .int v1)]) hx hb dX7_ear_20 hl (k := 2) rfl (by rw [ex4]; rfl) (by decide) rfl (fun ls hl => ?_)
        refine lv_goto (tgt := 2) hx hb dX7_ear_23 (by decide) ?_
        exact ih  h hP hD hS (lv_sub hl [1, 2, 0] rfl)
def fX7_ear (p1 : Int32) (s0 : zS) : Option (Int32 × zS) := fX7_ear_L2 20001 p1 (0 : Int32) s0
set_option maxHeartbeats 4000000 in
set_option maxRecDepth 100000 in
theorem cX7_ear_m {l : Launch} {dC : Nat → ClassId} {dI : Nat → Nat → Nat} {ad : Nat → Nat} {cI : ClassId} {p1 : Int32} {s0 : zS} {zr : Int32} {zs : zS} (h : fX7_ear p1 s0 = some (zr, zs)) : sw_Mi l yX7_ear (sw_ws yX7_ear cX7_ear 3 (some .int)) (sw_rm 0 0) (dC, dI) vwCl [(cI, .int)] cF [.ref (ad 8), .int p1] (cW ad cI s0) (cW ad cI zs) zr := by
  intro sz
  refine sw_of (cc := cX7_ear) (maxL := 3) (ret := (some .int)) (by decide) rfl (Nat.le_of_ble_eq_true rfl) ?_
  intro p e s m args below meth c A ls hAe hsz X _ hP hD hS hl
  rw [hAe]
  have hx := X.1.1
  have hb := X.1.2.1
  have hown := X.1.2.2.2.1
  have hts := X.1.2.2.2.2
  replace hl : lv_has ls 3 [(0, .ref (ad 8)), (1, .int p1)] := hl
  unfold fX7_ear at h
  refine lv_iconst (v := (0 : Int32)) hx hb dX7_ear_0 (by decide) ?_
  refine lv_istore_n (lv' := [(2, .int (0 : Int32)), (0, .ref (ad 8)), (1, .int p1)]) hx hb dX7_ear_1 rfl hl (by decide) rfl (fun ls hl => ?_)
  exact cX7_ear_lp2 X 20001 h hP hD hS (lv_sub hl [1, 2, 0] rfl)
theorem dX4_keysOf_0 : decode cX4_keysOf 0 = .ok (.bipush 31, 2) := by decide +kernel
theorem dX4_keysOf_2 : decode cX4_keysOf 2 = .ok (.istore_n 2, 1) := by decide +kernel
theorem dX4_keysOf_3 : decode cX4_keysOf 3 = .ok (.iconst 0, 1) := by decide +kernel
theorem dX4_keysOf_4 : decode cX4_keysOf 4 = .ok (.istore_n 3, 1) := by decide +kernel
theorem dX4_keysOf_5 : decode cX4_keysOf 5 = .ok (.iload_n 3, 1) := by decide +kernel
theorem dX4_keysOf_6 : decode cX4_keysOf 6 = .ok (.bipush 8, 2) := by decide +kernel
theorem dX4_keysOf_8 : decode cX4_keysOf 8 = .ok (.if_icmp .ge 26, 3) := by decide +kernel
theorem dX4_keysOf_11 : decode cX4_keysOf 11 = .ok (.iload_n 1, 1) := by decide +kernel
theorem dX4_keysOf_12 : decode cX4_keysOf 12 = .ok (.iload_n 3, 1) := by decide +kernel
theorem dX4_keysOf_13 : decode cX4_keysOf 13 = .ok (.ishr, 1) := by decide +kernel
theorem dX4_keysOf_14 : decode cX4_keysOf 14 = .ok (.iconst 1, 1) := by decide +kernel
theorem dX4_keysOf_15 : decode cX4_keysOf 15 = .ok (.iand, 1) := by decide +kernel
theorem dX4_keysOf_16 : decode cX4_keysOf 16 = .ok (.ifCond .ne 12, 3) := by decide +kernel
theorem dX4_keysOf_19 : decode cX4_keysOf 19 = .ok (.iload_n 2, 1) := by decide +kernel
theorem dX4_keysOf_20 : decode cX4_keysOf 20 = .ok (.aload_n 0, 1) := by decide +kernel
theorem dX4_keysOf_21 : decode cX4_keysOf 21 = .ok (.getfield 18, 3) := by decide +kernel
theorem dX4_keysOf_24 : decode cX4_keysOf 24 = .ok (.iload_n 3, 1) := by decide +kernel
theorem dX4_keysOf_25 : decode cX4_keysOf 25 = .ok (.iaload, 1) := by decide +kernel
theorem dX4_keysOf_26 : decode cX4_keysOf 26 = .ok (.iand, 1) := by decide +kernel
theorem dX4_keysOf_27 : decode cX4_keysOf 27 = .ok (.istore_n 2, 1) := by decide +kernel
theorem dX4_keysOf_28 : decode cX4_keysOf 28 = .ok (.iinc 3 1, 3) := by decide +kernel
theorem dX4_keysOf_31 : decode cX4_keysOf 31 = .ok (.goto (-26), 3) := by decide +kernel
theorem dX4_keysOf_34 : decode cX4_keysOf 34 = .ok (.iload_n 2, 1) := by decide +kernel
theorem dX4_keysOf_35 : decode cX4_keysOf 35 = .ok (.ireturn, 1) := by decide +kernel
def fX4_keysOf_L5 : Nat → Int32 → Int32 → Int32 → zS → Option (Int32 × zS)
  | 0, _, _, _, _ => none
  | n + 1, v1, v2, v3, s0 => if (8 : Int32) ≤ v3 then (some (v2, s0)) else (if ((v1 >>> (v3 &&& 31)) &&& (1 : Int32)) = (0 : Int32) then (gd (0 ≤ v3 ∧ v3 < 8) <| nm (v2 &&& (s0.2 1 (v3.toNatClampNeg))) fun x5 => nm (v3 + (1 : Int32)) fun x6 => fX4_keysOf_L5 n v1 x5 x6 s0) else (nm (v3 + (1 : Int32)) fun x3 => fX4_keysOf_L5 n v1 v2 x3 s0))
set_option maxHeartbeats 4000000 in
set_option maxRecDepth 100000 in
theorem cX4_keysOf_lp5 {l : Launch} {dC : Nat → ClassId} {dI : Nat → Nat → Nat} {ad : Nat → Nat} {cI : ClassId} {zr : Int32} {zs : zS} {p : Program} {e : Env} {s : State} {m : MethodId} {args : Array Value} {below : List Frame} {meth : Method} {c : Code} {A : Nat → Prop} (X : sw_X p s m args meth c cX4_keysOf 4 RX4 (some .int) (sw_ws yX4_keysOf cX4_keysOf 4 (some .int)) (dC, dI) vwCl [(cI, .int)] cF A) : ∀ (n : Nat) {v1 v2 v3 : Int32} {s0 : zS} {H : Heap} {locs : List Loc} {ls : Array Slot}, fX4_keysOf_L5 n v1 v2 v3 s0 = some (zr, zs) → va_P (dC, dI) vwCl (cW ad cI s0) H → va_D A (cW ad cI s0) → va_S A s.heap H locs → lv_has ls 4 [(0, .ref (ad 3)), (1, .int v1), (2, .int v2), (3, .int v3)] → W p l e (sw_rm 0 0) s m args below meth c H locs 0 0 (MQ below (sw_Qi (dC, dI) vwCl [(cI, .int)] A (cW ad cI zs) zr) args s 0 0 A) (F0 m 5 ls []) := by
  have hx := X.1.1
  have hb := X.1.2.1
  have hown := X.1.2.2.2.1
  have hts := X.1.2.2.2.2
  intro n
  induction n with
  | zero =>
    intro v1 v2 v3 s0 H locs ls h
    rw [fX4_keysOf_L5] at h
    exact absurd h (fun h9 => by cases h9)
  | succ n ih =>
    intro v1 v2 v3 s0 H locs ls h hP hD hS hl
    rw [fX4_keysOf_L5] at h
    refine lv_iload_n hx hb dX4_keysOf_5 rfl (lv_at hl 3 rfl) ?_
    refine lv_bipush (v := (8 : Int32)) hx hb dX4_keysOf_6 (by decide) ?_
    refine lv_icmp_ge (tgt := 34) hx hb dX4_keysOf_8 (by decide) (fun c1 => ?_) (fun c1 => ?_)
    · replace h := if_yes h c1
      refine lv_iload_n hx hb dX4_keysOf_34 rfl (lv_at hl 2 rfl) ?_
      obtain ⟨rfl, rfl⟩ := Prod.mk.inj (Option.some.inj h)
      exact sw_iret X hP hD hS dX4_keysOf_35
    · replace h := if_no h c1
      refine lv_iload_n hx hb dX4_keysOf_11 rfl (lv_at hl 1 rfl) ?_
      refine lv_iload_n hx hb dX4_keysOf_12 rfl (lv_at hl 3 rfl) ?_
      refine lv_ishr hx hb dX4_keysOf_13 ?_
      refine lv_iconst (v := (1 : Int32)) hx hb dX4_keysOf_14 (by decide) ?_
      refine lv_iand hx hb dX4_keysOf_15 ?_
      refine lv_if_ne (tgt := 28) hx hb dX4_keysOf_16 (by decide) (fun c2 => ?_) (fun c2 => ?_)
      · replace h := if_no h c2
        obtain ⟨x3, ex3⟩ : ∃ y : Int32, y = v3 + (1 : Int32) := ⟨_, rfl⟩
        replace h := nm_use ex3 h
        refine lv_iinc (v := x3) (lv' := [(3, .int x3), (0, .ref (ad 3)), (1, .int v1), (2, .int v2)]) hx hb dX4_keysOf_28 hl (k := 3) rfl (by rw [ex3]; rfl) (by decide) rfl (fun ls hl => ?_)
        refine lv_goto (tgt := 5) hx hb dX4_keysOf_31 (by decide) ?_
        exact ih  h hP hD hS (lv_sub hl [1, 2, 3, 0] rfl)
      · replace h := if_yes h c2
        refine lv_iload_n hx hb dX4_keysOf_19 rfl (lv_at hl 2 rfl) ?_
        refine lv_aload_n hx hb dX4_keysOf_20 rfl (lv_at hl 0 rfl) ?_
        refine cg_3_2 X hP k_76 dX4_keysOf_21 ?_
        refine lv_iload_n hx hb dX4_keysOf_24 rfl (lv_at hl 3 rfl) ?_
        have hq := gd_some h; clear h; obtain ⟨c4, h⟩ := hq
        refine cl_1 X hP (vin_in c4 (by decide)) dX4_keysOf_25 ?_
        refine lv_iand hx hb dX4_keysOf_26 ?_
        refine lv_topi (fun x5 ex5 => ?_)
        replace h := nm_use ex5 h
        refine lv_istore_n (lv' := [(2, .int x5), (0, .ref (ad 3)), (1, .int v1), (3, .int v3)]) hx hb dX4_keysOf_27 rfl hl (by decide) rfl (fun ls hl => ?_)
        obtain ⟨x6, ex6⟩ : ∃ y : Int32, y = v3 + (1 : Int32) := ⟨_, rfl⟩
        replace h := nm_use ex6 h
        refine lv_iinc (v := x6) (lv' := [(3, .int x6), (2, .int x5), (0, .ref (ad 3)), (1, .int v1)]) hx hb dX4_keysOf_28 hl (k := 3) rfl (by rw [ex6]; rfl) (by decide) rfl (fun ls hl => ?_)
        refine lv_goto (tgt := 5) hx hb dX4_keysOf_31 (by decide) ?_
        exact ih  h hP hD hS (lv_sub hl [2, 3, 1, 0] rfl)
def fX4_keysOf (p1 : Int32) (s0 : zS) : Option (Int32 × zS) := fX4_keysOf_L5 20001 p1 (31 : Int32) (0 : Int32) s0
set_option maxHeartbeats 4000000 in
set_option maxRecDepth 100000 in
theorem cX4_keysOf_m {l : Launch} {dC : Nat → ClassId} {dI : Nat → Nat → Nat} {ad : Nat → Nat} {cI : ClassId} {p1 : Int32} {s0 : zS} {zr : Int32} {zs : zS} (h : fX4_keysOf p1 s0 = some (zr, zs)) : sw_Mi l yX4_keysOf (sw_ws yX4_keysOf cX4_keysOf 4 (some .int)) (sw_rm 0 0) (dC, dI) vwCl [(cI, .int)] cF [.ref (ad 3), .int p1] (cW ad cI s0) (cW ad cI zs) zr := by
  intro sz
  refine sw_of (cc := cX4_keysOf) (maxL := 4) (ret := (some .int)) (by decide) rfl (Nat.le_of_ble_eq_true rfl) ?_
  intro p e s m args below meth c A ls hAe hsz X _ hP hD hS hl
  rw [hAe]
  have hx := X.1.1
  have hb := X.1.2.1
  have hown := X.1.2.2.2.1
  have hts := X.1.2.2.2.2
  replace hl : lv_has ls 4 [(0, .ref (ad 3)), (1, .int p1)] := hl
  unfold fX4_keysOf at h
  refine lv_bipush (v := (31 : Int32)) hx hb dX4_keysOf_0 (by decide) ?_
  refine lv_istore_n (lv' := [(2, .int (31 : Int32)), (0, .ref (ad 3)), (1, .int p1)]) hx hb dX4_keysOf_2 rfl hl (by decide) rfl (fun ls hl => ?_)
  refine lv_iconst (v := (0 : Int32)) hx hb dX4_keysOf_3 (by decide) ?_
  refine lv_istore_n (lv' := [(3, .int (0 : Int32)), (2, .int (31 : Int32)), (0, .ref (ad 3)), (1, .int p1)]) hx hb dX4_keysOf_4 rfl hl (by decide) rfl (fun ls hl => ?_)
  exact cX4_keysOf_lp5 X 20001 h hP hD hS (lv_sub hl [2, 3, 1, 0] rfl)
theorem dX4_input_0 : decode cX4_input 0 = .ok (.aload_n 0, 1) := by decide +kernel
theorem dX4_input_1 : decode cX4_input 1 = .ok (.getfield 25, 3) := by decide +kernel
theorem dX4_input_4 : decode cX4_input 4 = .ok (.iload_n 1, 1) := by decide +kernel
theorem dX4_input_5 : decode cX4_input 5 = .ok (.invokestatic 29, 3) := by decide +kernel
theorem dX4_input_8 : decode cX4_input 8 = .ok (.invokevirtual 33, 3) := by decide +kernel
theorem dX4_input_11 : decode cX4_input 11 = .ok (.sipush 255, 3) := by decide +kernel
theorem dX4_input_14 : decode cX4_input 14 = .ok (.istore_n 3, 1) := by decide +kernel
theorem dX4_input_15 : decode cX4_input 15 = .ok (.iload_n 1, 1) := by decide +kernel
theorem dX4_input_16 : decode cX4_input 16 = .ok (.sipush 254, 3) := by decide +kernel
theorem dX4_input_19 : decode cX4_input 19 = .ok (.if_icmp .ne 31, 3) := by decide +kernel
theorem dX4_input_22 : decode cX4_input 22 = .ok (.sipush 160, 3) := by decide +kernel
theorem dX4_input_25 : decode cX4_input 25 = .ok (.aload_n 0, 1) := by decide +kernel
theorem dX4_input_26 : decode cX4_input 26 = .ok (.getfield 12, 3) := by decide +kernel
theorem dX4_input_29 : decode cX4_input 29 = .ok (.aload_n 0, 1) := by decide +kernel
theorem dX4_input_30 : decode cX4_input 30 = .ok (.getfield 25, 3) := by decide +kernel
theorem dX4_input_33 : decode cX4_input 33 = .ok (.getfield 39, 3) := by decide +kernel
theorem dX4_input_36 : decode cX4_input 36 = .ok (.invokevirtual 43, 3) := by decide +kernel
theorem dX4_input_39 : decode cX4_input 39 = .ok (.bipush 6, 2) := by decide +kernel
theorem dX4_input_41 : decode cX4_input 41 = .ok (.ishl, 1) := by decide +kernel
theorem dX4_input_42 : decode cX4_input 42 = .ok (.ior, 1) := by decide +kernel
theorem dX4_input_43 : decode cX4_input 43 = .ok (.aload_n 0, 1) := by decide +kernel
theorem dX4_input_44 : decode cX4_input 44 = .ok (.iload_n 2, 1) := by decide +kernel
theorem dX4_input_45 : decode cX4_input 45 = .ok (.invokevirtual 47, 3) := by decide +kernel
theorem dX4_input_48 : decode cX4_input 48 = .ok (.ior, 1) := by decide +kernel
theorem dX4_input_49 : decode cX4_input 49 = .ok (.istore_n 3, 1) := by decide +kernel
theorem dX4_input_50 : decode cX4_input 50 = .ok (.aload_n 0, 1) := by decide +kernel
theorem dX4_input_51 : decode cX4_input 51 = .ok (.getfield 25, 3) := by decide +kernel
theorem dX4_input_54 : decode cX4_input 54 = .ok (.iconst 4, 1) := by decide +kernel
theorem dX4_input_55 : decode cX4_input 55 = .ok (.invokevirtual 50, 3) := by decide +kernel
theorem dX4_input_58 : decode cX4_input 58 = .ok (.iload_n 3, 1) := by decide +kernel
theorem dX4_input_59 : decode cX4_input 59 = .ok (.ireturn, 1) := by decide +kernel
def fX4_input (p1 p2 : Int32) (s0 : zS) : Option (Int32 × zS) := bd (fX4_isWaitedFor p1) fun r2 => bd (fX1_waitForPictureIf r2 s0) fun s4 => if p1 = (254 : Int32) then (bd2 (fX7_ear (s4.1 0) s4) fun r9 s10 => bd2 (fX4_keysOf p2 s10) fun r12 s13 => nm (((160 : Int32) ||| (r9 <<< ((6 : Int32) &&& 31))) ||| r12) fun x14 => bd (fX1_pass (4 : Int32) s13) fun s16 => some (x14, s16)) else (bd (fX1_pass (4 : Int32) s4) fun s7 => some ((255 : Int32), s7))
set_option maxHeartbeats 4000000 in
set_option maxRecDepth 100000 in
theorem cX4_input_m {l : Launch} {dC : Nat → ClassId} {dI : Nat → Nat → Nat} {ad : Nat → Nat} {cI : ClassId} {p1 p2 : Int32} {s0 : zS} {zr : Int32} {zs : zS} (h : fX4_input p1 p2 s0 = some (zr, zs)) : sw_Mi l yX4_input (sw_ws yX4_input cX4_input 4 (some .int)) (sw_rm 1 23) (dC, dI) vwCl [(cI, .int)] cF [.ref (ad 3), .int p1, .int p2] (cW ad cI s0) (cW ad cI zs) zr := by
  intro sz
  refine sw_of (cc := cX4_input) (maxL := 4) (ret := (some .int)) (by decide) rfl (Nat.le_of_ble_eq_true rfl) ?_
  intro p e s m args below meth c A ls hAe hsz X _ hP hD hS hl
  rw [hAe]
  have hx := X.1.1
  have hb := X.1.2.1
  have hown := X.1.2.2.2.1
  have hts := X.1.2.2.2.2
  replace hl : lv_has ls 4 [(0, .ref (ad 3)), (1, .int p1), (2, .int p2)] := hl
  unfold fX4_input at h
  refine lv_aload_n hx hb dX4_input_0 rfl (lv_at hl 0 rfl) ?_
  refine cg_3_0 X hP k_73 dX4_input_1 ?_
  refine lv_iload_n hx hb dX4_input_4 rfl (lv_at hl 1 rfl) ?_
  have hq := bd_some h; clear h; obtain ⟨r2, h1, h⟩ := hq
  refine sw_si (rest := [.ref (ad 1)]) c_good X (cX4_isWaitedFor_m h1) calX4_isWaitedFor k_657 hP hD hS ⟨rfl, rfl⟩ rfl hl.1 rfl (Nat.le_of_ble_eq_true rfl) dX4_input_5 (fun H locs hP hD hS => ?_)
  have hq := bd_some h; clear h; obtain ⟨s4, h3, h⟩ := hq
  refine sw_vv (rest := []) c_good X (cX1_waitForPictureIf_m h3) calX1_waitForPictureIf k_660 hP hD hS 1 1 rfl rfl rfl ⟨rfl, rfl⟩ rfl hl.1 rfl (Nat.le_of_ble_eq_true rfl) dX4_input_8 (fun H locs hP hD hS => ?_)
  refine lv_sipush (v := (255 : Int32)) hx hb dX4_input_11 (by decide) ?_
  refine lv_istore_n (lv' := [(3, .int (255 : Int32)), (0, .ref (ad 3)), (1, .int p1), (2, .int p2)]) hx hb dX4_input_14 rfl hl (by decide) rfl (fun ls hl => ?_)
  refine lv_iload_n hx hb dX4_input_15 rfl (lv_at hl 2 rfl) ?_
  refine lv_sipush (v := (254 : Int32)) hx hb dX4_input_16 (by decide) ?_
  refine lv_icmp_ne (tgt := 50) hx hb dX4_input_19 (by decide) (fun c5 => ?_) (fun c5 => ?_)
  · replace h := if_no h c5
    refine lv_aload_n hx hb dX4_input_50 rfl (lv_at hl 1 rfl) ?_
    refine cg_3_0 X hP k_73 dX4_input_51 ?_
    refine lv_iconst (v := (4 : Int32)) hx hb dX4_input_54 (by decide) ?_
    have hq := bd_some h; clear h; obtain ⟨s7, h6, h⟩ := hq
    refine sw_vv (rest := []) c_good X (cX1_pass_m h6) calX1_pass k_665 hP hD hS 1 1 rfl rfl rfl ⟨rfl, rfl⟩ rfl hl.1 rfl (Nat.le_of_ble_eq_true rfl) dX4_input_55 (fun H locs hP hD hS => ?_)
    refine lv_iload_n hx hb dX4_input_58 rfl (lv_at hl 0 rfl) ?_
    obtain ⟨rfl, rfl⟩ := Prod.mk.inj (Option.some.inj h)
    exact sw_iret X hP hD hS dX4_input_59
  · replace h := if_yes h c5
    refine lv_sipush (v := (160 : Int32)) hx hb dX4_input_22 (by decide) ?_
    refine lv_aload_n hx hb dX4_input_25 rfl (lv_at hl 1 rfl) ?_
    refine cg_3_1 X hP k_74 dX4_input_26 ?_
    refine lv_aload_n hx hb dX4_input_29 rfl (lv_at hl 1 rfl) ?_
    refine cg_3_0 X hP k_73 dX4_input_30 ?_
    refine cg_1_0 X hP k_32 dX4_input_33 ?_
    have hq := bd2_some h; clear h; obtain ⟨r9, s10, h8, h⟩ := hq
    refine sw_vi (rest := [.int (160 : Int32)]) c_good X (cX7_ear_m h8) calX7_ear k_678 hP hD hS 8 7 rfl rfl rfl ⟨rfl, rfl⟩ rfl hl.1 rfl (Nat.le_of_ble_eq_true rfl) dX4_input_36 (fun H locs hP hD hS => ?_)
    refine lv_bipush (v := (6 : Int32)) hx hb dX4_input_39 (by decide) ?_
    refine lv_ishl hx hb dX4_input_41 ?_
    refine lv_ior hx hb dX4_input_42 ?_
    refine lv_aload_n hx hb dX4_input_43 rfl (lv_at hl 1 rfl) ?_
    refine lv_iload_n hx hb dX4_input_44 rfl (lv_at hl 3 rfl) ?_
    have hq := bd2_some h; clear h; obtain ⟨r12, s13, h11, h⟩ := hq
    refine sw_vi (rest := [.int ((160 : Int32) ||| (r9 <<< ((6 : Int32) &&& 31)))]) c_good X (cX4_keysOf_m h11) calX4_keysOf k_682 hP hD hS 3 4 rfl rfl rfl ⟨rfl, rfl⟩ rfl hl.1 rfl (Nat.le_of_ble_eq_true rfl) dX4_input_45 (fun H locs hP hD hS => ?_)
    refine lv_ior hx hb dX4_input_48 ?_
    refine lv_topi (fun x14 ex14 => ?_)
    replace h := nm_use ex14 h
    refine lv_istore_n (lv' := [(3, .int x14), (0, .ref (ad 3)), (1, .int p1), (2, .int p2)]) hx hb dX4_input_49 rfl hl (by decide) rfl (fun ls hl => ?_)
    refine lv_aload_n hx hb dX4_input_50 rfl (lv_at hl 1 rfl) ?_
    refine cg_3_0 X hP k_73 dX4_input_51 ?_
    refine lv_iconst (v := (4 : Int32)) hx hb dX4_input_54 (by decide) ?_
    have hq := bd_some h; clear h; obtain ⟨s16, h15, h⟩ := hq
    refine sw_vv (rest := []) c_good X (cX1_pass_m h15) calX1_pass k_665 hP hD hS 1 1 rfl rfl rfl ⟨rfl, rfl⟩ rfl hl.1 rfl (Nat.le_of_ble_eq_true rfl) dX4_input_55 (fun H locs hP hD hS => ?_)
    refine lv_iload_n hx hb dX4_input_58 rfl (lv_at hl 0 rfl) ?_
    obtain ⟨rfl, rfl⟩ := Prod.mk.inj (Option.some.inj h)
    exact sw_iret X hP hD hS dX4_input_59
theorem dX4_isKept_0 : decode cX4_isKept 0 = .ok (.iload_n 0, 1) := by decide +kernel
theorem dX4_isKept_1 : decode cX4_isKept 1 = .ok (.ifCond .lt 13, 3) := by decide +kernel
theorem dX4_isKept_4 : decode cX4_isKept 4 = .ok (.iload_n 0, 1) := by decide +kernel
theorem dX4_isKept_5 : decode cX4_isKept 5 = .ok (.bipush 100, 2) := by decide +kernel
theorem dX4_isKept_7 : decode cX4_isKept 7 = .ok (.if_icmp .ge 7, 3) := by decide +kernel
theorem dX4_isKept_10 : decode cX4_isKept 10 = .ok (.iconst 1, 1) := by decide +kernel
theorem dX4_isKept_11 : decode cX4_isKept 11 = .ok (.goto 4, 3) := by decide +kernel
theorem dX4_isKept_14 : decode cX4_isKept 14 = .ok (.iconst 0, 1) := by decide +kernel
theorem dX4_isKept_15 : decode cX4_isKept 15 = .ok (.ireturn, 1) := by decide +kernel
def fX4_isKept (p1 : Int32) : Option (Int32) := if p1 < (0 : Int32) then (some (0 : Int32)) else (if (100 : Int32) ≤ p1 then (some (0 : Int32)) else (some (1 : Int32)))
set_option maxHeartbeats 4000000 in
set_option maxRecDepth 100000 in
theorem cX4_isKept_m {l : Launch} {dC : Nat → ClassId} {dI : Nat → Nat → Nat} {cI : ClassId} {w : va_W} {p1 : Int32} {zr : Int32} (h : fX4_isKept p1 = some zr) : sw_Mi l yX4_isKept (sw_ws yX4_isKept cX4_isKept 1 (some .boolean)) (sw_rm 0 0) (dC, dI) vwCl [(cI, .int)] cF [.int p1] w w zr := by
  intro sz
  refine sw_of (cc := cX4_isKept) (maxL := 1) (ret := (some .boolean)) (by decide) rfl (Nat.le_of_ble_eq_true rfl) ?_
  intro p e s m args below meth c A ls hAe hsz X _ hP hD hS hl
  rw [hAe]
  have hx := X.1.1
  have hb := X.1.2.1
  have hown := X.1.2.2.2.1
  have hts := X.1.2.2.2.2
  replace hl : lv_has ls 1 [(0, .int p1)] := hl
  unfold fX4_isKept at h
  refine lv_iload_n hx hb dX4_isKept_0 rfl (lv_at hl 0 rfl) ?_
  refine lv_if_lt (tgt := 14) hx hb dX4_isKept_1 (by decide) (fun c1 => ?_) (fun c1 => ?_)
  · replace h := if_yes h c1
    refine lv_iconst (v := (0 : Int32)) hx hb dX4_isKept_14 (by decide) ?_
    obtain rfl := Option.some.inj h
    exact sw_bret X (bz_n (by decide)) hP hD hS dX4_isKept_15
  · replace h := if_no h c1
    refine lv_iload_n hx hb dX4_isKept_4 rfl (lv_at hl 0 rfl) ?_
    refine lv_bipush (v := (100 : Int32)) hx hb dX4_isKept_5 (by decide) ?_
    refine lv_icmp_ge (tgt := 14) hx hb dX4_isKept_7 (by decide) (fun c2 => ?_) (fun c2 => ?_)
    · replace h := if_yes h c2
      refine lv_iconst (v := (0 : Int32)) hx hb dX4_isKept_14 (by decide) ?_
      obtain rfl := Option.some.inj h
      exact sw_bret X (bz_n (by decide)) hP hD hS dX4_isKept_15
    · replace h := if_no h c2
      refine lv_iconst (v := (1 : Int32)) hx hb dX4_isKept_10 (by decide) ?_
      refine lv_goto (tgt := 15) hx hb dX4_isKept_11 (by decide) ?_
      obtain rfl := Option.some.inj h
      exact sw_bret X (bz_n (by decide)) hP hD hS dX4_isKept_15
