theorem dX9_signs_0 : decode cX9_signs 0 = .ok (.iload_n 0, 1) := by decide +kernel
theorem dX9_signs_1 : decode cX9_signs 1 = .ok (.sipush 128, 3) := by decide +kernel
theorem dX9_signs_4 : decode cX9_signs 4 = .ok (.iand, 1) := by decide +kernel
theorem dX9_signs_5 : decode cX9_signs 5 = .ok (.iload_n 0, 1) := by decide +kernel
theorem dX9_signs_6 : decode cX9_signs 6 = .ok (.sipush 255, 3) := by decide +kernel
theorem dX9_signs_9 : decode cX9_signs 9 = .ok (.iand, 1) := by decide +kernel
theorem dX9_signs_10 : decode cX9_signs 10 = .ok (.ifCond .ne 8, 3) := by decide +kernel
theorem dX9_signs_13 : decode cX9_signs 13 = .ok (.bipush 64, 2) := by decide +kernel
theorem dX9_signs_15 : decode cX9_signs 15 = .ok (.goto 4, 3) := by decide +kernel
theorem dX9_signs_18 : decode cX9_signs 18 = .ok (.iconst 0, 1) := by decide +kernel
theorem dX9_signs_19 : decode cX9_signs 19 = .ok (.ior, 1) := by decide +kernel
theorem dX9_signs_20 : decode cX9_signs 20 = .ok (.ireturn, 1) := by decide +kernel
def fX9_signs (p1 : Int32) : Option (Int32) := bd (if (p1 &&& (255 : Int32)) = (0 : Int32) then (some (64 : Int32)) else (some (0 : Int32))) fun x3 => some ((p1 &&& (128 : Int32)) ||| x3)
set_option maxHeartbeats 4000000 in
set_option maxRecDepth 100000 in
theorem cX9_signs_m {l : Launch} {dC : Nat → ClassId} {dI : Nat → Nat → Nat} {cI : ClassId} {w : va_W} {p1 : Int32} {zr : Int32} (h : fX9_signs p1 = some zr) : sw_Mi l yX9_signs (sw_ws yX9_signs cX9_signs 1 (some .int)) (sw_rm 0 0) (dC, dI) vwCl [(cI, .int)] mF [.int p1] w w zr := by
  intro sz
  refine sw_of (cc := cX9_signs) (maxL := 1) (ret := (some .int)) (by decide) rfl (Nat.le_of_ble_eq_true rfl) ?_
  intro p e s m args below meth c A ls hAe hsz X _ hP hD hS hl
  rw [hAe]
  have hx := X.1.1
  have hb := X.1.2.1
  have hown := X.1.2.2.2.1
  have hts := X.1.2.2.2.2
  replace hl : lv_has ls 1 [(0, .int p1)] := hl
  unfold fX9_signs at h
  refine lv_iload_n hx hb dX9_signs_0 rfl (lv_at hl 0 rfl) ?_
  refine lv_sipush (v := (128 : Int32)) hx hb dX9_signs_1 (by decide) ?_
  refine lv_iand hx hb dX9_signs_4 ?_
  refine lv_iload_n hx hb dX9_signs_5 rfl (lv_at hl 0 rfl) ?_
  refine lv_sipush (v := (255 : Int32)) hx hb dX9_signs_6 (by decide) ?_
  refine lv_iand hx hb dX9_signs_9 ?_
  have hq := bd_some h; clear h; obtain ⟨x3, h4, h⟩ := hq
  have K1 : ∀ (H : Heap) (locs : List Loc), va_P (dC, dI) vwCl w H → va_D A w → va_S A s.heap H locs → W p l e (sw_rm 0 0) s m args below meth c H locs 0 0 (MQ below (sw_Qi (dC, dI) vwCl [(cI, .int)] A w zr) args s 0 0 A) (F0 m 19 ls [.int x3, .int (p1 &&& (128 : Int32))]) := by
    intro H locs hP hD hS
    refine lv_ior hx hb dX9_signs_19 ?_
    obtain rfl := Option.some.inj h
    exact sw_iret X hP hD hS dX9_signs_20
  replace h := h4
  clear h4
  refine lv_if_ne (tgt := 18) hx hb dX9_signs_10 (by decide) (fun c2 => ?_) (fun c2 => ?_)
  · replace h := if_no h c2
    refine lv_iconst (v := (0 : Int32)) hx hb dX9_signs_18 (by decide) ?_
    obtain rfl := Option.some.inj h
    exact K1 _ _ hP hD hS
  · replace h := if_yes h c2
    refine lv_bipush (v := (64 : Int32)) hx hb dX9_signs_13 (by decide) ?_
    refine lv_goto (tgt := 19) hx hb dX9_signs_15 (by decide) ?_
    obtain rfl := Option.some.inj h
    exact K1 _ _ hP hD hS
theorem dX9_even_0 : decode cX9_even 0 = .ok (.iconst 0, 1) := by decide +kernel
theorem dX9_even_1 : decode cX9_even 1 = .ok (.istore_n 1, 1) := by decide +kernel
theorem dX9_even_2 : decode cX9_even 2 = .ok (.iconst 0, 1) := by decide +kernel
theorem dX9_even_3 : decode cX9_even 3 = .ok (.istore_n 2, 1) := by decide +kernel
theorem dX9_even_4 : decode cX9_even 4 = .ok (.iload_n 2, 1) := by decide +kernel
theorem dX9_even_5 : decode cX9_even 5 = .ok (.bipush 8, 2) := by decide +kernel
theorem dX9_even_7 : decode cX9_even 7 = .ok (.if_icmp .ge 17, 3) := by decide +kernel
theorem dX9_even_10 : decode cX9_even 10 = .ok (.iload_n 1, 1) := by decide +kernel
theorem dX9_even_11 : decode cX9_even 11 = .ok (.iload_n 0, 1) := by decide +kernel
theorem dX9_even_12 : decode cX9_even 12 = .ok (.iload_n 2, 1) := by decide +kernel
theorem dX9_even_13 : decode cX9_even 13 = .ok (.ishr, 1) := by decide +kernel
theorem dX9_even_14 : decode cX9_even 14 = .ok (.iconst 1, 1) := by decide +kernel
theorem dX9_even_15 : decode cX9_even 15 = .ok (.iand, 1) := by decide +kernel
theorem dX9_even_16 : decode cX9_even 16 = .ok (.iadd, 1) := by decide +kernel
theorem dX9_even_17 : decode cX9_even 17 = .ok (.istore_n 1, 1) := by decide +kernel
theorem dX9_even_18 : decode cX9_even 18 = .ok (.iinc 2 1, 3) := by decide +kernel
theorem dX9_even_21 : decode cX9_even 21 = .ok (.goto (-17), 3) := by decide +kernel
theorem dX9_even_24 : decode cX9_even 24 = .ok (.iload_n 1, 1) := by decide +kernel
theorem dX9_even_25 : decode cX9_even 25 = .ok (.iconst 2, 1) := by decide +kernel
theorem dX9_even_26 : decode cX9_even 26 = .ok (.irem, 1) := by decide +kernel
theorem dX9_even_27 : decode cX9_even 27 = .ok (.ifCond .ne 7, 3) := by decide +kernel
theorem dX9_even_30 : decode cX9_even 30 = .ok (.iconst 4, 1) := by decide +kernel
theorem dX9_even_31 : decode cX9_even 31 = .ok (.goto 4, 3) := by decide +kernel
theorem dX9_even_34 : decode cX9_even 34 = .ok (.iconst 0, 1) := by decide +kernel
theorem dX9_even_35 : decode cX9_even 35 = .ok (.ireturn, 1) := by decide +kernel
def fX9_even (p1 : Int32) : Option (Int32) := nm ((0 : Int32) + ((p1 >>> ((0 : Int32) &&& 31)) &&& (1 : Int32))) fun x1 => nm (x1 + ((p1 >>> ((1 : Int32) &&& 31)) &&& (1 : Int32))) fun x2 => nm (x2 + ((p1 >>> ((2 : Int32) &&& 31)) &&& (1 : Int32))) fun x3 => nm (x3 + ((p1 >>> ((3 : Int32) &&& 31)) &&& (1 : Int32))) fun x4 => nm (x4 + ((p1 >>> ((4 : Int32) &&& 31)) &&& (1 : Int32))) fun x5 => nm (x5 + ((p1 >>> ((5 : Int32) &&& 31)) &&& (1 : Int32))) fun x6 => nm (x6 + ((p1 >>> ((6 : Int32) &&& 31)) &&& (1 : Int32))) fun x7 => nm (x7 + ((p1 >>> ((7 : Int32) &&& 31)) &&& (1 : Int32))) fun x8 => if (x8 - x8 / (2 : Int32) * (2 : Int32)) = (0 : Int32) then (some (4 : Int32)) else (some (0 : Int32))
set_option maxHeartbeats 4000000 in
set_option maxRecDepth 100000 in
theorem cX9_even_m {l : Launch} {dC : Nat → ClassId} {dI : Nat → Nat → Nat} {cI : ClassId} {w : va_W} {p1 : Int32} {zr : Int32} (h : fX9_even p1 = some zr) : sw_Mi l yX9_even (sw_ws yX9_even cX9_even 3 (some .int)) (sw_rm 0 0) (dC, dI) vwCl [(cI, .int)] mF [.int p1] w w zr := by
  intro sz
  refine sw_of (cc := cX9_even) (maxL := 3) (ret := (some .int)) (by decide) rfl (Nat.le_of_ble_eq_true rfl) ?_
  intro p e s m args below meth c A ls hAe hsz X _ hP hD hS hl
  rw [hAe]
  have hx := X.1.1
  have hb := X.1.2.1
  have hown := X.1.2.2.2.1
  have hts := X.1.2.2.2.2
  replace hl : lv_has ls 3 [(0, .int p1)] := hl
  unfold fX9_even at h
  refine lv_iconst (v := (0 : Int32)) hx hb dX9_even_0 (by decide) ?_
  refine lv_istore_n (lv' := [(1, .int (0 : Int32)), (0, .int p1)]) hx hb dX9_even_1 rfl hl (by decide) rfl (fun ls hl => ?_)
  refine lv_iconst (v := (0 : Int32)) hx hb dX9_even_2 (by decide) ?_
  refine lv_istore_n (lv' := [(2, .int (0 : Int32)), (1, .int (0 : Int32)), (0, .int p1)]) hx hb dX9_even_3 rfl hl (by decide) rfl (fun ls hl => ?_)
  refine lv_iload_n hx hb dX9_even_4 rfl (lv_at hl 0 rfl) ?_
  refine lv_bipush (v := (8 : Int32)) hx hb dX9_even_5 (by decide) ?_
  refine lv_icmp_ge (tgt := 24) hx hb dX9_even_7 (by decide) (fun c => absurd c (by decide)) (fun _ => ?_)
  refine lv_iload_n hx hb dX9_even_10 rfl (lv_at hl 1 rfl) ?_
  refine lv_iload_n hx hb dX9_even_11 rfl (lv_at hl 2 rfl) ?_
  refine lv_iload_n hx hb dX9_even_12 rfl (lv_at hl 0 rfl) ?_
  refine lv_ishr hx hb dX9_even_13 ?_
  refine lv_iconst (v := (1 : Int32)) hx hb dX9_even_14 (by decide) ?_
  refine lv_iand hx hb dX9_even_15 ?_
  refine lv_iadd hx hb dX9_even_16 ?_
  refine lv_topi (fun x1 ex1 => ?_)
  replace h := nm_use ex1 h
  refine lv_istore_n (lv' := [(1, .int x1), (2, .int (0 : Int32)), (0, .int p1)]) hx hb dX9_even_17 rfl hl (by decide) rfl (fun ls hl => ?_)
  refine lv_iinc (v := (1 : Int32)) (lv' := [(2, .int (1 : Int32)), (1, .int x1), (0, .int p1)]) hx hb dX9_even_18 hl (k := 1) rfl (by decide) (by decide) rfl (fun ls hl => ?_)
  refine lv_goto (tgt := 4) hx hb dX9_even_21 (by decide) ?_
  refine lv_iload_n hx hb dX9_even_4 rfl (lv_at hl 0 rfl) ?_
  refine lv_bipush (v := (8 : Int32)) hx hb dX9_even_5 (by decide) ?_
  refine lv_icmp_ge (tgt := 24) hx hb dX9_even_7 (by decide) (fun c => absurd c (by decide)) (fun _ => ?_)
  refine lv_iload_n hx hb dX9_even_10 rfl (lv_at hl 1 rfl) ?_
  refine lv_iload_n hx hb dX9_even_11 rfl (lv_at hl 2 rfl) ?_
  refine lv_iload_n hx hb dX9_even_12 rfl (lv_at hl 0 rfl) ?_
  refine lv_ishr hx hb dX9_even_13 ?_
  refine lv_iconst (v := (1 : Int32)) hx hb dX9_even_14 (by decide) ?_
  refine lv_iand hx hb dX9_even_15 ?_
  refine lv_iadd hx hb dX9_even_16 ?_
  refine lv_topi (fun x2 ex2 => ?_)
  replace h := nm_use ex2 h
  refine lv_istore_n (lv' := [(1, .int x2), (2, .int (1 : Int32)), (0, .int p1)]) hx hb dX9_even_17 rfl hl (by decide) rfl (fun ls hl => ?_)
  refine lv_iinc (v := (2 : Int32)) (lv' := [(2, .int (2 : Int32)), (1, .int x2), (0, .int p1)]) hx hb dX9_even_18 hl (k := 1) rfl (by decide) (by decide) rfl (fun ls hl => ?_)
  refine lv_goto (tgt := 4) hx hb dX9_even_21 (by decide) ?_
  refine lv_iload_n hx hb dX9_even_4 rfl (lv_at hl 0 rfl) ?_
  refine lv_bipush (v := (8 : Int32)) hx hb dX9_even_5 (by decide) ?_
  refine lv_icmp_ge (tgt := 24) hx hb dX9_even_7 (by decide) (fun c => absurd c (by decide)) (fun _ => ?_)
  refine lv_iload_n hx hb dX9_even_10 rfl (lv_at hl 1 rfl) ?_
  refine lv_iload_n hx hb dX9_even_11 rfl (lv_at hl 2 rfl) ?_
  refine lv_iload_n hx hb dX9_even_12 rfl (lv_at hl 0 rfl) ?_
  refine lv_ishr hx hb dX9_even_13 ?_
  refine lv_iconst (v := (1 : Int32)) hx hb dX9_even_14 (by decide) ?_
  refine lv_iand hx hb dX9_even_15 ?_
  refine lv_iadd hx hb dX9_even_16 ?_
  refine lv_topi (fun x3 ex3 => ?_)
  replace h := nm_use ex3 h
  refine lv_istore_n (lv' := [(1, .int x3), (2, .int (2 : Int32)), (0, .int p1)]) hx hb dX9_even_17 rfl hl (by decide) rfl (fun ls hl => ?_)
  refine lv_iinc (v := (3 : Int32)) (lv' := [(2, .int (3 : Int32)), (1, .int x3), (0, .int p1)]) hx hb dX9_even_18 hl (k := 1) rfl (by decide) (by decide) rfl (fun ls hl => ?_)
  refine lv_goto (tgt := 4) hx hb dX9_even_21 (by decide) ?_
  refine lv_iload_n hx hb dX9_even_4 rfl (lv_at hl 0 rfl) ?_
  refine lv_bipush (v := (8 : Int32)) hx hb dX9_even_5 (by decide) ?_
  refine lv_icmp_ge (tgt := 24) hx hb dX9_even_7 (by decide) (fun c => absurd c (by decide)) (fun _ => ?_)
  refine lv_iload_n hx hb dX9_even_10 rfl (lv_at hl 1 rfl) ?_
  refine lv_iload_n hx hb dX9_even_11 rfl (lv_at hl 2 rfl) ?_
  refine lv_iload_n hx hb dX9_even_12 rfl (lv_at hl 0 rfl) ?_
  refine lv_ishr hx hb dX9_even_13 ?_
  refine lv_iconst (v := (1 : Int32)) hx hb dX9_even_14 (by decide) ?_
  refine lv_iand hx hb dX9_even_15 ?_
  refine lv_iadd hx hb dX9_even_16 ?_
  refine lv_topi (fun x4 ex4 => ?_)
  replace h := nm_use ex4 h
  refine lv_istore_n (lv' := [(1, .int x4), (2, .int (3 : Int32)), (0, .int p1)]) hx hb dX9_even_17 rfl hl (by decide) rfl (fun ls hl => ?_)
  refine lv_iinc (v := (4 : Int32)) (lv' := [(2, .int (4 : Int32)), (1, .int x4), (0, .int p1)]) hx hb dX9_even_18 hl (k := 1) rfl (by decide) (by decide) rfl (fun ls hl => ?_)
  refine lv_goto (tgt := 4) hx hb dX9_even_21 (by decide) ?_
  refine lv_iload_n hx hb dX9_even_4 rfl (lv_at hl 0 rfl) ?_
  refine lv_bipush (v := (8 : Int32)) hx hb dX9_even_5 (by decide) ?_
  refine lv_icmp_ge (tgt := 24) hx hb dX9_even_7 (by decide) (fun c => absurd c (by decide)) (fun _ => ?_)
  refine lv_iload_n hx hb dX9_even_10 rfl (lv_at hl 1 rfl) ?_
  refine lv_iload_n hx hb dX9_even_11 rfl (lv_at hl 2 rfl) ?_
  refine lv_iload_n hx hb dX9_even_12 rfl (lv_at hl 0 rfl) ?_
  refine lv_ishr hx hb dX9_even_13 ?_
  refine lv_iconst (v := (1 : Int32)) hx hb dX9_even_14 (by decide) ?_
  refine lv_iand hx hb dX9_even_15 ?_
  refine lv_iadd hx hb dX9_even_16 ?_
  refine lv_topi (fun x5 ex5 => ?_)
  replace h := nm_use ex5 h
  refine lv_istore_n (lv' := [(1, .int x5), (2, .int (4 : Int32)), (0, .int p1)]) hx hb dX9_even_17 rfl hl (by decide) rfl (fun ls hl => ?_)
  refine lv_iinc (v := (5 : Int32)) (lv' := [(2, .int (5 : Int32)), (1, .int x5), (0, .int p1)]) hx hb dX9_even_18 hl (k := 1) rfl (by decide) (by decide) rfl (fun ls hl => ?_)
  refine lv_goto (tgt := 4) hx hb dX9_even_21 (by decide) ?_
  refine lv_iload_n hx hb dX9_even_4 rfl (lv_at hl 0 rfl) ?_
  refine lv_bipush (v := (8 : Int32)) hx hb dX9_even_5 (by decide) ?_
  refine lv_icmp_ge (tgt := 24) hx hb dX9_even_7 (by decide) (fun c => absurd c (by decide)) (fun _ => ?_)
  refine lv_iload_n hx hb dX9_even_10 rfl (lv_at hl 1 rfl) ?_
  refine lv_iload_n hx hb dX9_even_11 rfl (lv_at hl 2 rfl) ?_
  refine lv_iload_n hx hb dX9_even_12 rfl (lv_at hl 0 rfl) ?_
  refine lv_ishr hx hb dX9_even_13 ?_
  refine lv_iconst (v := (1 : Int32)) hx hb dX9_even_14 (by decide) ?_
  refine lv_iand hx hb dX9_even_15 ?_
  refine lv_iadd hx hb dX9_even_16 ?_
  refine lv_topi (fun x6 ex6 => ?_)
  replace h := nm_use ex6 h
  refine lv_istore_n (lv' := [(1, .int x6), (2, .int (5 : Int32)), (0, .int p1)]) hx hb dX9_even_17 rfl hl (by decide) rfl (fun ls hl => ?_)
  refine lv_iinc (v := (6 : Int32)) (lv' := [(2, .int (6 : Int32)), (1, .int x6), (0, .int p1)]) hx hb dX9_even_18 hl (k := 1) rfl (by decide) (by decide) rfl (fun ls hl => ?_)
  refine lv_goto (tgt := 4) hx hb dX9_even_21 (by decide) ?_
  refine lv_iload_n hx hb dX9_even_4 rfl (lv_at hl 0 rfl) ?_
  refine lv_bipush (v := (8 : Int32)) hx hb dX9_even_5 (by decide) ?_
  refine lv_icmp_ge (tgt := 24) hx hb dX9_even_7 (by decide) (fun c => absurd c (by decide)) (fun _ => ?_)
  refine lv_iload_n hx hb dX9_even_10 rfl (lv_at hl 1 rfl) ?_
  refine lv_iload_n hx hb dX9_even_11 rfl (lv_at hl 2 rfl) ?_
  refine lv_iload_n hx hb dX9_even_12 rfl (lv_at hl 0 rfl) ?_
  refine lv_ishr hx hb dX9_even_13 ?_
  refine lv_iconst (v := (1 : Int32)) hx hb dX9_even_14 (by decide) ?_
  refine lv_iand hx hb dX9_even_15 ?_
  refine lv_iadd hx hb dX9_even_16 ?_
  refine lv_topi (fun x7 ex7 => ?_)
  replace h := nm_use ex7 h
  refine lv_istore_n (lv' := [(1, .int x7), (2, .int (6 : Int32)), (0, .int p1)]) hx hb dX9_even_17 rfl hl (by decide) rfl (fun ls hl => ?_)
  refine lv_iinc (v := (7 : Int32)) (lv' := [(2, .int (7 : Int32)), (1, .int x7), (0, .int p1)]) hx hb dX9_even_18 hl (k := 1) rfl (by decide) (by decide) rfl (fun ls hl => ?_)
  refine lv_goto (tgt := 4) hx hb dX9_even_21 (by decide) ?_
  refine lv_iload_n hx hb dX9_even_4 rfl (lv_at hl 0 rfl) ?_
  refine lv_bipush (v := (8 : Int32)) hx hb dX9_even_5 (by decide) ?_
  refine lv_icmp_ge (tgt := 24) hx hb dX9_even_7 (by decide) (fun c => absurd c (by decide)) (fun _ => ?_)
  refine lv_iload_n hx hb dX9_even_10 rfl (lv_at hl 1 rfl) ?_
  refine lv_iload_n hx hb dX9_even_11 rfl (lv_at hl 2 rfl) ?_
  refine lv_iload_n hx hb dX9_even_12 rfl (lv_at hl 0 rfl) ?_
  refine lv_ishr hx hb dX9_even_13 ?_
  refine lv_iconst (v := (1 : Int32)) hx hb dX9_even_14 (by decide) ?_
  refine lv_iand hx hb dX9_even_15 ?_
  refine lv_iadd hx hb dX9_even_16 ?_
  refine lv_topi (fun x8 ex8 => ?_)
  replace h := nm_use ex8 h
  refine lv_istore_n (lv' := [(1, .int x8), (2, .int (7 : Int32)), (0, .int p1)]) hx hb dX9_even_17 rfl hl (by decide) rfl (fun ls hl => ?_)
  refine lv_iinc (v := (8 : Int32)) (lv' := [(2, .int (8 : Int32)), (1, .int x8), (0, .int p1)]) hx hb dX9_even_18 hl (k := 1) rfl (by decide) (by decide) rfl (fun ls hl => ?_)
  refine lv_goto (tgt := 4) hx hb dX9_even_21 (by decide) ?_
  refine lv_iload_n hx hb dX9_even_4 rfl (lv_at hl 0 rfl) ?_
  refine lv_bipush (v := (8 : Int32)) hx hb dX9_even_5 (by decide) ?_
  refine lv_icmp_ge (tgt := 24) hx hb dX9_even_7 (by decide) (fun _ => ?_) (fun c => absurd c (by decide))
  refine lv_iload_n hx hb dX9_even_24 rfl (lv_at hl 1 rfl) ?_
  refine lv_iconst (v := (2 : Int32)) hx hb dX9_even_25 (by decide) ?_
  refine lv_irem hx hb dX9_even_26 (by decide) ?_
  refine lv_if_ne (tgt := 34) hx hb dX9_even_27 (by decide) (fun c9 => ?_) (fun c9 => ?_)
  · replace h := if_no h c9
    refine lv_iconst (v := (0 : Int32)) hx hb dX9_even_34 (by decide) ?_
    obtain rfl := Option.some.inj h
    exact sw_iret X hP hD hS dX9_even_35
  · replace h := if_yes h c9
    refine lv_iconst (v := (4 : Int32)) hx hb dX9_even_30 (by decide) ?_
    refine lv_goto (tgt := 35) hx hb dX9_even_31 (by decide) ?_
    obtain rfl := Option.some.inj h
    exact sw_iret X hP hD hS dX9_even_35
theorem dX9_plus_0 : decode cX9_plus 0 = .ok (.iload_n 1, 1) := by decide +kernel
theorem dX9_plus_1 : decode cX9_plus 1 = .ok (.iload_n 2, 1) := by decide +kernel
theorem dX9_plus_2 : decode cX9_plus 2 = .ok (.iadd, 1) := by decide +kernel
theorem dX9_plus_3 : decode cX9_plus 3 = .ok (.iload_n 3, 1) := by decide +kernel
theorem dX9_plus_4 : decode cX9_plus 4 = .ok (.iadd, 1) := by decide +kernel
theorem dX9_plus_5 : decode cX9_plus 5 = .ok (.istore 4, 2) := by decide +kernel
theorem dX9_plus_7 : decode cX9_plus 7 = .ok (.iload 4, 2) := by decide +kernel
theorem dX9_plus_9 : decode cX9_plus 9 = .ok (.invokestatic 74, 3) := by decide +kernel
theorem dX9_plus_12 : decode cX9_plus 12 = .ok (.iload 4, 2) := by decide +kernel
theorem dX9_plus_14 : decode cX9_plus 14 = .ok (.sipush 255, 3) := by decide +kernel
theorem dX9_plus_17 : decode cX9_plus 17 = .ok (.if_icmp .le 7, 3) := by decide +kernel
theorem dX9_plus_20 : decode cX9_plus 20 = .ok (.iconst 1, 1) := by decide +kernel
theorem dX9_plus_21 : decode cX9_plus 21 = .ok (.goto 4, 3) := by decide +kernel
theorem dX9_plus_24 : decode cX9_plus 24 = .ok (.iconst 0, 1) := by decide +kernel
theorem dX9_plus_25 : decode cX9_plus 25 = .ok (.ior, 1) := by decide +kernel
theorem dX9_plus_26 : decode cX9_plus 26 = .ok (.iload_n 1, 1) := by decide +kernel
theorem dX9_plus_27 : decode cX9_plus 27 = .ok (.bipush 15, 2) := by decide +kernel
theorem dX9_plus_29 : decode cX9_plus 29 = .ok (.iand, 1) := by decide +kernel
theorem dX9_plus_30 : decode cX9_plus 30 = .ok (.iload_n 2, 1) := by decide +kernel
theorem dX9_plus_31 : decode cX9_plus 31 = .ok (.bipush 15, 2) := by decide +kernel
theorem dX9_plus_33 : decode cX9_plus 33 = .ok (.iand, 1) := by decide +kernel
theorem dX9_plus_34 : decode cX9_plus 34 = .ok (.iadd, 1) := by decide +kernel
theorem dX9_plus_35 : decode cX9_plus 35 = .ok (.iload_n 3, 1) := by decide +kernel
theorem dX9_plus_36 : decode cX9_plus 36 = .ok (.iadd, 1) := by decide +kernel
theorem dX9_plus_37 : decode cX9_plus 37 = .ok (.bipush 15, 2) := by decide +kernel
theorem dX9_plus_39 : decode cX9_plus 39 = .ok (.if_icmp .le 8, 3) := by decide +kernel
theorem dX9_plus_42 : decode cX9_plus 42 = .ok (.bipush 16, 2) := by decide +kernel
theorem dX9_plus_44 : decode cX9_plus 44 = .ok (.goto 4, 3) := by decide +kernel
theorem dX9_plus_47 : decode cX9_plus 47 = .ok (.iconst 0, 1) := by decide +kernel
theorem dX9_plus_48 : decode cX9_plus 48 = .ok (.ior, 1) := by decide +kernel
theorem dX9_plus_49 : decode cX9_plus 49 = .ok (.istore 5, 2) := by decide +kernel
theorem dX9_plus_51 : decode cX9_plus 51 = .ok (.iload_n 1, 1) := by decide +kernel
theorem dX9_plus_52 : decode cX9_plus 52 = .ok (.i2b, 1) := by decide +kernel
theorem dX9_plus_53 : decode cX9_plus 53 = .ok (.iload_n 2, 1) := by decide +kernel
theorem dX9_plus_54 : decode cX9_plus 54 = .ok (.i2b, 1) := by decide +kernel
theorem dX9_plus_55 : decode cX9_plus 55 = .ok (.iadd, 1) := by decide +kernel
theorem dX9_plus_56 : decode cX9_plus 56 = .ok (.iload_n 3, 1) := by decide +kernel
theorem dX9_plus_57 : decode cX9_plus 57 = .ok (.iadd, 1) := by decide +kernel
theorem dX9_plus_58 : decode cX9_plus 58 = .ok (.istore 6, 2) := by decide +kernel
theorem dX9_plus_60 : decode cX9_plus 60 = .ok (.aload_n 0, 1) := by decide +kernel
theorem dX9_plus_61 : decode cX9_plus 61 = .ok (.getfield 13, 3) := by decide +kernel
theorem dX9_plus_64 : decode cX9_plus 64 = .ok (.bipush 6, 2) := by decide +kernel
theorem dX9_plus_66 : decode cX9_plus 66 = .ok (.iload 5, 2) := by decide +kernel
theorem dX9_plus_68 : decode cX9_plus 68 = .ok (.iload 6, 2) := by decide +kernel
theorem dX9_plus_70 : decode cX9_plus 70 = .ok (.bipush (-128), 2) := by decide +kernel
theorem dX9_plus_72 : decode cX9_plus 72 = .ok (.bipush 127, 2) := by decide +kernel
theorem dX9_plus_74 : decode cX9_plus 74 = .ok (.invokestatic 35, 3) := by decide +kernel
theorem dX9_plus_77 : decode cX9_plus 77 = .ok (.ifCond .eq 7, 3) := by decide +kernel
theorem dX9_plus_80 : decode cX9_plus 80 = .ok (.iconst 0, 1) := by decide +kernel
theorem dX9_plus_81 : decode cX9_plus 81 = .ok (.goto 4, 3) := by decide +kernel
theorem dX9_plus_84 : decode cX9_plus 84 = .ok (.iconst 4, 1) := by decide +kernel
theorem dX9_plus_85 : decode cX9_plus 85 = .ok (.ior, 1) := by decide +kernel
theorem dX9_plus_86 : decode cX9_plus 86 = .ok (.iastore, 1) := by decide +kernel
theorem dX9_plus_87 : decode cX9_plus 87 = .ok (.iload 4, 2) := by decide +kernel
theorem dX9_plus_89 : decode cX9_plus 89 = .ok (.sipush 255, 3) := by decide +kernel
theorem dX9_plus_92 : decode cX9_plus 92 = .ok (.iand, 1) := by decide +kernel
theorem dX9_plus_93 : decode cX9_plus 93 = .ok (.ireturn, 1) := by decide +kernel
def fX9_plus (p1 p2 p3 : Int32) (s0 : zS) : Option (Int32 × zS) := nm ((p1 + p2) + p3) fun x1 => bd (fX9_signs x1) fun r3 => bd (if x1 ≤ (255 : Int32) then (some (0 : Int32)) else (some (1 : Int32))) fun x6 => bd (if (((p1 &&& (15 : Int32)) + (p2 &&& (15 : Int32))) + p3) ≤ (15 : Int32) then (some (0 : Int32)) else (some (16 : Int32))) fun x10 => nm ((r3 ||| x6) ||| x10) fun x12 => nm (((p1.toInt8.toInt32) + (p2.toInt8.toInt32)) + p3) fun x13 => bd (fX9_isIn x13 (-128 : Int32) (127 : Int32)) fun r15 => bd (if r15 = (0 : Int32) then (some (4 : Int32)) else (some (0 : Int32))) fun x18 => some ((x1 &&& (255 : Int32)), (st2 s0 1 ((6 : Int32).toNatClampNeg) (x12 ||| x18)))
set_option maxHeartbeats 4000000 in
set_option maxRecDepth 100000 in
theorem cX9_plus_m {l : Launch} {dC : Nat → ClassId} {dI : Nat → Nat → Nat} {ad : Nat → Nat} {cI : ClassId} {p1 p2 p3 : Int32} {s0 : zS} {zr : Int32} {zs : zS} (h : fX9_plus p1 p2 p3 s0 = some (zr, zs)) : sw_Mi l yX9_plus (sw_ws yX9_plus cX9_plus 7 (some .int)) (sw_rm 1 22) (dC, dI) vwCl [(cI, .int)] mF [.ref (ad 0), .int p1, .int p2, .int p3] (mW ad cI s0) (mW ad cI zs) zr := by
  intro sz
  refine sw_of (cc := cX9_plus) (maxL := 7) (ret := (some .int)) (by decide) rfl (Nat.le_of_ble_eq_true rfl) ?_
  intro p e s m args below meth c A ls hAe hsz X _ hP hD hS hl
  rw [hAe]
  have hx := X.1.1
  have hb := X.1.2.1
  have hown := X.1.2.2.2.1
  have hts := X.1.2.2.2.2
  replace hl : lv_has ls 7 [(0, .ref (ad 0)), (1, .int p1), (2, .int p2), (3, .int p3)] := hl
  unfold fX9_plus at h
  refine lv_iload_n hx hb dX9_plus_0 rfl (lv_at hl 1 rfl) ?_
  refine lv_iload_n hx hb dX9_plus_1 rfl (lv_at hl 2 rfl) ?_
  refine lv_iadd hx hb dX9_plus_2 ?_
  refine lv_iload_n hx hb dX9_plus_3 rfl (lv_at hl 3 rfl) ?_
  refine lv_iadd hx hb dX9_plus_4 ?_
  refine lv_topi (fun x1 ex1 => ?_)
  replace h := nm_use ex1 h
  refine lv_istore (lv' := [(4, .int x1), (0, .ref (ad 0)), (1, .int p1), (2, .int p2), (3, .int p3)]) hx hb dX9_plus_5 hl (by decide) rfl (fun ls hl => ?_)
  refine lv_iload hx hb dX9_plus_7 (lv_at hl 0 rfl) ?_
  have hq := bd_some h; clear h; obtain ⟨r3, h2, h⟩ := hq
  refine sw_si (rest := []) m_good X (cX9_signs_m h2) calX9_signs k_926 hP hD hS ⟨rfl, rfl⟩ rfl hl.1 rfl (Nat.le_of_ble_eq_true rfl) dX9_plus_9 (fun H locs hP hD hS => ?_)
  refine lv_iload hx hb dX9_plus_12 (lv_at hl 0 rfl) ?_
  refine lv_sipush (v := (255 : Int32)) hx hb dX9_plus_14 (by decide) ?_
  have hq := bd_some h; clear h; obtain ⟨x6, h7, h⟩ := hq
  have K4 : ∀ (H : Heap) (locs : List Loc), va_P (dC, dI) vwCl (mW ad cI s0) H → va_D A (mW ad cI s0) → va_S A s.heap H locs → W p l e (sw_rm 1 22) s m args below meth c H locs 0 0 (MQ below (sw_Qi (dC, dI) vwCl [(cI, .int)] A (mW ad cI zs) zr) args s 0 0 A) (F0 m 25 ls [.int x6, .int r3]) := by
    intro H locs hP hD hS
    refine lv_ior hx hb dX9_plus_25 ?_
    refine lv_iload_n hx hb dX9_plus_26 rfl (lv_at hl 2 rfl) ?_
    refine lv_bipush (v := (15 : Int32)) hx hb dX9_plus_27 (by decide) ?_
    refine lv_iand hx hb dX9_plus_29 ?_
    refine lv_iload_n hx hb dX9_plus_30 rfl (lv_at hl 3 rfl) ?_
    refine lv_bipush (v := (15 : Int32)) hx hb dX9_plus_31 (by decide) ?_
    refine lv_iand hx hb dX9_plus_33 ?_
    refine lv_iadd hx hb dX9_plus_34 ?_
    refine lv_iload_n hx hb dX9_plus_35 rfl (lv_at hl 4 rfl) ?_
    refine lv_iadd hx hb dX9_plus_36 ?_
    refine lv_bipush (v := (15 : Int32)) hx hb dX9_plus_37 (by decide) ?_
    have hq := bd_some h; clear h; obtain ⟨x10, h11, h⟩ := hq
    have K8 : ∀ (H : Heap) (locs : List Loc), va_P (dC, dI) vwCl (mW ad cI s0) H → va_D A (mW ad cI s0) → va_S A s.heap H locs → W p l e (sw_rm 1 22) s m args below meth c H locs 0 0 (MQ below (sw_Qi (dC, dI) vwCl [(cI, .int)] A (mW ad cI zs) zr) args s 0 0 A) (F0 m 48 ls [.int x10, .int (r3 ||| x6)]) := by
      intro H locs hP hD hS
      refine lv_ior hx hb dX9_plus_48 ?_
      refine lv_topi (fun x12 ex12 => ?_)
      replace h := nm_use ex12 h
      refine lv_istore (lv' := [(5, .int x12), (4, .int x1), (0, .ref (ad 0)), (1, .int p1), (2, .int p2), (3, .int p3)]) hx hb dX9_plus_49 hl (by decide) rfl (fun ls hl => ?_)
      refine lv_iload_n hx hb dX9_plus_51 rfl (lv_at hl 3 rfl) ?_
      refine lv_i2b (v := p1.toInt8.toInt32) hx hb dX9_plus_52 rfl ?_
      refine lv_iload_n hx hb dX9_plus_53 rfl (lv_at hl 4 rfl) ?_
      refine lv_i2b (v := p2.toInt8.toInt32) hx hb dX9_plus_54 rfl ?_
      refine lv_iadd hx hb dX9_plus_55 ?_
      refine lv_iload_n hx hb dX9_plus_56 rfl (lv_at hl 5 rfl) ?_
      refine lv_iadd hx hb dX9_plus_57 ?_
      refine lv_topi (fun x13 ex13 => ?_)
      replace h := nm_use ex13 h
      refine lv_istore (lv' := [(6, .int x13), (5, .int x12), (4, .int x1), (0, .ref (ad 0)), (1, .int p1), (2, .int p2), (3, .int p3)]) hx hb dX9_plus_58 hl (by decide) rfl (fun ls hl => ?_)
      refine lv_aload_n hx hb dX9_plus_60 rfl (lv_at hl 3 rfl) ?_
      refine mg_0_2 X hP k_759 dX9_plus_61 ?_
      refine lv_bipush (v := (6 : Int32)) hx hb dX9_plus_64 (by decide) ?_
      refine lv_iload hx hb dX9_plus_66 (lv_at hl 1 rfl) ?_
      refine lv_iload hx hb dX9_plus_68 (lv_at hl 0 rfl) ?_
      refine lv_bipush (v := (-128 : Int32)) hx hb dX9_plus_70 (by decide) ?_
      refine lv_bipush (v := (127 : Int32)) hx hb dX9_plus_72 (by decide) ?_
      have hq := bd_some h; clear h; obtain ⟨r15, h14, h⟩ := hq
      refine sw_si (rest := [.int x12, .int (6 : Int32), .ref (ad 2)]) m_good X (cX9_isIn_m h14) calX9_isIn k_826 hP hD hS ⟨rfl, rfl⟩ rfl hl.1 rfl (Nat.le_of_ble_eq_true rfl) dX9_plus_74 (fun H locs hP hD hS => ?_)
      have hq := bd_some h; clear h; obtain ⟨x18, h19, h⟩ := hq
      have K16 : ∀ (H : Heap) (locs : List Loc), va_P (dC, dI) vwCl (mW ad cI s0) H → va_D A (mW ad cI s0) → va_S A s.heap H locs → W p l e (sw_rm 1 22) s m args below meth c H locs 0 0 (MQ below (sw_Qi (dC, dI) vwCl [(cI, .int)] A (mW ad cI zs) zr) args s 0 0 A) (F0 m 85 ls [.int x18, .int x12, .int (6 : Int32), .ref (ad 2)]) := by
        intro H locs hP hD hS
        refine lv_ior hx hb dX9_plus_85 ?_
        refine mb_1 X hP hD hS (vin_in (i := (6 : Int32)) (n := 8) (by decide) (by decide)) dX9_plus_86 (fun H locs hP hD hS => ?_)
        refine lv_iload hx hb dX9_plus_87 (lv_at hl 2 rfl) ?_
        refine lv_sipush (v := (255 : Int32)) hx hb dX9_plus_89 (by decide) ?_
        refine lv_iand hx hb dX9_plus_92 ?_
        obtain ⟨rfl, rfl⟩ := Prod.mk.inj (Option.some.inj h)
        exact sw_iret X hP hD hS dX9_plus_93
      replace h := h19
      clear h19
      refine lv_if_eq (tgt := 84) hx hb dX9_plus_77 (by decide) (fun c17 => ?_) (fun c17 => ?_)
      · replace h := if_yes h c17
        refine lv_iconst (v := (4 : Int32)) hx hb dX9_plus_84 (by decide) ?_
        obtain rfl := Option.some.inj h
        exact K16 _ _ hP hD hS
      · replace h := if_no h c17
        refine lv_iconst (v := (0 : Int32)) hx hb dX9_plus_80 (by decide) ?_
        refine lv_goto (tgt := 85) hx hb dX9_plus_81 (by decide) ?_
        obtain rfl := Option.some.inj h
        exact K16 _ _ hP hD hS
    replace h := h11
    clear h11
    refine lv_icmp_le (tgt := 47) hx hb dX9_plus_39 (by decide) (fun c9 => ?_) (fun c9 => ?_)
    · replace h := if_yes h c9
      refine lv_iconst (v := (0 : Int32)) hx hb dX9_plus_47 (by decide) ?_
      obtain rfl := Option.some.inj h
      exact K8 _ _ hP hD hS
    · replace h := if_no h c9
      refine lv_bipush (v := (16 : Int32)) hx hb dX9_plus_42 (by decide) ?_
      refine lv_goto (tgt := 48) hx hb dX9_plus_44 (by decide) ?_
      obtain rfl := Option.some.inj h
      exact K8 _ _ hP hD hS
  replace h := h7
  clear h7
  refine lv_icmp_le (tgt := 24) hx hb dX9_plus_17 (by decide) (fun c5 => ?_) (fun c5 => ?_)
  · replace h := if_yes h c5
    refine lv_iconst (v := (0 : Int32)) hx hb dX9_plus_24 (by decide) ?_
    obtain rfl := Option.some.inj h
    exact K4 _ _ hP hD hS
  · replace h := if_no h c5
    refine lv_iconst (v := (1 : Int32)) hx hb dX9_plus_20 (by decide) ?_
    refine lv_goto (tgt := 25) hx hb dX9_plus_21 (by decide) ?_
    obtain rfl := Option.some.inj h
    exact K4 _ _ hP hD hS
theorem dX9_minus_0 : decode cX9_minus 0 = .ok (.iload_n 1, 1) := by decide +kernel
theorem dX9_minus_1 : decode cX9_minus 1 = .ok (.iload_n 2, 1) := by decide +kernel
theorem dX9_minus_2 : decode cX9_minus 2 = .ok (.isub, 1) := by decide +kernel
theorem dX9_minus_3 : decode cX9_minus 3 = .ok (.iload_n 3, 1) := by decide +kernel
theorem dX9_minus_4 : decode cX9_minus 4 = .ok (.isub, 1) := by decide +kernel
theorem dX9_minus_5 : decode cX9_minus 5 = .ok (.istore 4, 2) := by decide +kernel
theorem dX9_minus_7 : decode cX9_minus 7 = .ok (.iload 4, 2) := by decide +kernel
theorem dX9_minus_9 : decode cX9_minus 9 = .ok (.invokestatic 74, 3) := by decide +kernel
theorem dX9_minus_12 : decode cX9_minus 12 = .ok (.iload 4, 2) := by decide +kernel
theorem dX9_minus_14 : decode cX9_minus 14 = .ok (.ifCond .ge 7, 3) := by decide +kernel
theorem dX9_minus_17 : decode cX9_minus 17 = .ok (.iconst 1, 1) := by decide +kernel
theorem dX9_minus_18 : decode cX9_minus 18 = .ok (.goto 4, 3) := by decide +kernel
theorem dX9_minus_21 : decode cX9_minus 21 = .ok (.iconst 0, 1) := by decide +kernel
theorem dX9_minus_22 : decode cX9_minus 22 = .ok (.ior, 1) := by decide +kernel
theorem dX9_minus_23 : decode cX9_minus 23 = .ok (.iload_n 1, 1) := by decide +kernel
theorem dX9_minus_24 : decode cX9_minus 24 = .ok (.bipush 15, 2) := by decide +kernel
theorem dX9_minus_26 : decode cX9_minus 26 = .ok (.iand, 1) := by decide +kernel
theorem dX9_minus_27 : decode cX9_minus 27 = .ok (.iload_n 2, 1) := by decide +kernel
theorem dX9_minus_28 : decode cX9_minus 28 = .ok (.bipush 15, 2) := by decide +kernel
theorem dX9_minus_30 : decode cX9_minus 30 = .ok (.iand, 1) := by decide +kernel
theorem dX9_minus_31 : decode cX9_minus 31 = .ok (.isub, 1) := by decide +kernel
theorem dX9_minus_32 : decode cX9_minus 32 = .ok (.iload_n 3, 1) := by decide +kernel
theorem dX9_minus_33 : decode cX9_minus 33 = .ok (.isub, 1) := by decide +kernel
theorem dX9_minus_34 : decode cX9_minus 34 = .ok (.ifCond .ge 8, 3) := by decide +kernel
theorem dX9_minus_37 : decode cX9_minus 37 = .ok (.bipush 16, 2) := by decide +kernel
theorem dX9_minus_39 : decode cX9_minus 39 = .ok (.goto 4, 3) := by decide +kernel
theorem dX9_minus_42 : decode cX9_minus 42 = .ok (.iconst 0, 1) := by decide +kernel
theorem dX9_minus_43 : decode cX9_minus 43 = .ok (.ior, 1) := by decide +kernel
theorem dX9_minus_44 : decode cX9_minus 44 = .ok (.iconst 2, 1) := by decide +kernel
theorem dX9_minus_45 : decode cX9_minus 45 = .ok (.ior, 1) := by decide +kernel
theorem dX9_minus_46 : decode cX9_minus 46 = .ok (.istore 5, 2) := by decide +kernel
theorem dX9_minus_48 : decode cX9_minus 48 = .ok (.iload_n 1, 1) := by decide +kernel
theorem dX9_minus_49 : decode cX9_minus 49 = .ok (.i2b, 1) := by decide +kernel
theorem dX9_minus_50 : decode cX9_minus 50 = .ok (.iload_n 2, 1) := by decide +kernel
theorem dX9_minus_51 : decode cX9_minus 51 = .ok (.i2b, 1) := by decide +kernel
theorem dX9_minus_52 : decode cX9_minus 52 = .ok (.isub, 1) := by decide +kernel
theorem dX9_minus_53 : decode cX9_minus 53 = .ok (.iload_n 3, 1) := by decide +kernel
theorem dX9_minus_54 : decode cX9_minus 54 = .ok (.isub, 1) := by decide +kernel
theorem dX9_minus_55 : decode cX9_minus 55 = .ok (.istore 6, 2) := by decide +kernel
theorem dX9_minus_57 : decode cX9_minus 57 = .ok (.aload_n 0, 1) := by decide +kernel
theorem dX9_minus_58 : decode cX9_minus 58 = .ok (.getfield 13, 3) := by decide +kernel
theorem dX9_minus_61 : decode cX9_minus 61 = .ok (.bipush 6, 2) := by decide +kernel
theorem dX9_minus_63 : decode cX9_minus 63 = .ok (.iload 5, 2) := by decide +kernel
theorem dX9_minus_65 : decode cX9_minus 65 = .ok (.iload 6, 2) := by decide +kernel
theorem dX9_minus_67 : decode cX9_minus 67 = .ok (.bipush (-128), 2) := by decide +kernel
theorem dX9_minus_69 : decode cX9_minus 69 = .ok (.bipush 127, 2) := by decide +kernel
theorem dX9_minus_71 : decode cX9_minus 71 = .ok (.invokestatic 35, 3) := by decide +kernel
theorem dX9_minus_74 : decode cX9_minus 74 = .ok (.ifCond .eq 7, 3) := by decide +kernel
theorem dX9_minus_77 : decode cX9_minus 77 = .ok (.iconst 0, 1) := by decide +kernel
theorem dX9_minus_78 : decode cX9_minus 78 = .ok (.goto 4, 3) := by decide +kernel
theorem dX9_minus_81 : decode cX9_minus 81 = .ok (.iconst 4, 1) := by decide +kernel
theorem dX9_minus_82 : decode cX9_minus 82 = .ok (.ior, 1) := by decide +kernel
theorem dX9_minus_83 : decode cX9_minus 83 = .ok (.iastore, 1) := by decide +kernel
theorem dX9_minus_84 : decode cX9_minus 84 = .ok (.iload 4, 2) := by decide +kernel
theorem dX9_minus_86 : decode cX9_minus 86 = .ok (.sipush 255, 3) := by decide +kernel
theorem dX9_minus_89 : decode cX9_minus 89 = .ok (.iand, 1) := by decide +kernel
theorem dX9_minus_90 : decode cX9_minus 90 = .ok (.ireturn, 1) := by decide +kernel
def fX9_minus (p1 p2 p3 : Int32) (s0 : zS) : Option (Int32 × zS) := nm ((p1 - p2) - p3) fun x1 => bd (fX9_signs x1) fun r3 => bd (if (0 : Int32) ≤ x1 then (some (0 : Int32)) else (some (1 : Int32))) fun x6 => bd (if (0 : Int32) ≤ (((p1 &&& (15 : Int32)) - (p2 &&& (15 : Int32))) - p3) then (some (0 : Int32)) else (some (16 : Int32))) fun x10 => nm (((r3 ||| x6) ||| x10) ||| (2 : Int32)) fun x12 => nm (((p1.toInt8.toInt32) - (p2.toInt8.toInt32)) - p3) fun x13 => bd (fX9_isIn x13 (-128 : Int32) (127 : Int32)) fun r15 => bd (if r15 = (0 : Int32) then (some (4 : Int32)) else (some (0 : Int32))) fun x18 => some ((x1 &&& (255 : Int32)), (st2 s0 1 ((6 : Int32).toNatClampNeg) (x12 ||| x18)))
set_option maxHeartbeats 4000000 in
set_option maxRecDepth 100000 in
theorem cX9_minus_m {l : Launch} {dC : Nat → ClassId} {dI : Nat → Nat → Nat} {ad : Nat → Nat} {cI : ClassId} {p1 p2 p3 : Int32} {s0 : zS} {zr : Int32} {zs : zS} (h : fX9_minus p1 p2 p3 s0 = some (zr, zs)) : sw_Mi l yX9_minus (sw_ws yX9_minus cX9_minus 7 (some .int)) (sw_rm 1 22) (dC, dI) vwCl [(cI, .int)] mF [.ref (ad 0), .int p1, .int p2, .int p3] (mW ad cI s0) (mW ad cI zs) zr := by
  intro sz
  refine sw_of (cc := cX9_minus) (maxL := 7) (ret := (some .int)) (by decide) rfl (Nat.le_of_ble_eq_true rfl) ?_
  intro p e s m args below meth c A ls hAe hsz X _ hP hD hS hl
  rw [hAe]
  have hx := X.1.1
  have hb := X.1.2.1
  have hown := X.1.2.2.2.1
  have hts := X.1.2.2.2.2
  replace hl : lv_has ls 7 [(0, .ref (ad 0)), (1, .int p1), (2, .int p2), (3, .int p3)] := hl
  unfold fX9_minus at h
  refine lv_iload_n hx hb dX9_minus_0 rfl (lv_at hl 1 rfl) ?_
  refine lv_iload_n hx hb dX9_minus_1 rfl (lv_at hl 2 rfl) ?_
  refine lv_isub hx hb dX9_minus_2 ?_
  refine lv_iload_n hx hb dX9_minus_3 rfl (lv_at hl 3 rfl) ?_
  refine lv_isub hx hb dX9_minus_4 ?_
  refine lv_topi (fun x1 ex1 => ?_)
  replace h := nm_use ex1 h
  refine lv_istore (lv' := [(4, .int x1), (0, .ref (ad 0)), (1, .int p1), (2, .int p2), (3, .int p3)]) hx hb dX9_minus_5 hl (by decide) rfl (fun ls hl => ?_)
  refine lv_iload hx hb dX9_minus_7 (lv_at hl 0 rfl) ?_
  have hq := bd_some h; clear h; obtain ⟨r3, h2, h⟩ := hq
  refine sw_si (rest := []) m_good X (cX9_signs_m h2) calX9_signs k_926 hP hD hS ⟨rfl, rfl⟩ rfl hl.1 rfl (Nat.le_of_ble_eq_true rfl) dX9_minus_9 (fun H locs hP hD hS => ?_)
  refine lv_iload hx hb dX9_minus_12 (lv_at hl 0 rfl) ?_
  have hq := bd_some h; clear h; obtain ⟨x6, h7, h⟩ := hq
  have K4 : ∀ (H : Heap) (locs : List Loc), va_P (dC, dI) vwCl (mW ad cI s0) H → va_D A (mW ad cI s0) → va_S A s.heap H locs → W p l e (sw_rm 1 22) s m args below meth c H locs 0 0 (MQ below (sw_Qi (dC, dI) vwCl [(cI, .int)] A (mW ad cI zs) zr) args s 0 0 A) (F0 m 22 ls [.int x6, .int r3]) := by
    intro H locs hP hD hS
    refine lv_ior hx hb dX9_minus_22 ?_
    refine lv_iload_n hx hb dX9_minus_23 rfl (lv_at hl 2 rfl) ?_
    refine lv_bipush (v := (15 : Int32)) hx hb dX9_minus_24 (by decide) ?_
    refine lv_iand hx hb dX9_minus_26 ?_
    refine lv_iload_n hx hb dX9_minus_27 rfl (lv_at hl 3 rfl) ?_
    refine lv_bipush (v := (15 : Int32)) hx hb dX9_minus_28 (by decide) ?_
    refine lv_iand hx hb dX9_minus_30 ?_
    refine lv_isub hx hb dX9_minus_31 ?_
    refine lv_iload_n hx hb dX9_minus_32 rfl (lv_at hl 4 rfl) ?_
    refine lv_isub hx hb dX9_minus_33 ?_
    have hq := bd_some h; clear h; obtain ⟨x10, h11, h⟩ := hq
    have K8 : ∀ (H : Heap) (locs : List Loc), va_P (dC, dI) vwCl (mW ad cI s0) H → va_D A (mW ad cI s0) → va_S A s.heap H locs → W p l e (sw_rm 1 22) s m args below meth c H locs 0 0 (MQ below (sw_Qi (dC, dI) vwCl [(cI, .int)] A (mW ad cI zs) zr) args s 0 0 A) (F0 m 43 ls [.int x10, .int (r3 ||| x6)]) := by
      intro H locs hP hD hS
      refine lv_ior hx hb dX9_minus_43 ?_
      refine lv_iconst (v := (2 : Int32)) hx hb dX9_minus_44 (by decide) ?_
      refine lv_ior hx hb dX9_minus_45 ?_
      refine lv_topi (fun x12 ex12 => ?_)
      replace h := nm_use ex12 h
      refine lv_istore (lv' := [(5, .int x12), (4, .int x1), (0, .ref (ad 0)), (1, .int p1), (2, .int p2), (3, .int p3)]) hx hb dX9_minus_46 hl (by decide) rfl (fun ls hl => ?_)
      refine lv_iload_n hx hb dX9_minus_48 rfl (lv_at hl 3 rfl) ?_
      refine lv_i2b (v := p1.toInt8.toInt32) hx hb dX9_minus_49 rfl ?_
      refine lv_iload_n hx hb dX9_minus_50 rfl (lv_at hl 4 rfl) ?_
      refine lv_i2b (v := p2.toInt8.toInt32) hx hb dX9_minus_51 rfl ?_
      refine lv_isub hx hb dX9_minus_52 ?_
      refine lv_iload_n hx hb dX9_minus_53 rfl (lv_at hl 5 rfl) ?_
      refine lv_isub hx hb dX9_minus_54 ?_
      refine lv_topi (fun x13 ex13 => ?_)
      replace h := nm_use ex13 h
      refine lv_istore (lv' := [(6, .int x13), (5, .int x12), (4, .int x1), (0, .ref (ad 0)), (1, .int p1), (2, .int p2), (3, .int p3)]) hx hb dX9_minus_55 hl (by decide) rfl (fun ls hl => ?_)
      refine lv_aload_n hx hb dX9_minus_57 rfl (lv_at hl 3 rfl) ?_
      refine mg_0_2 X hP k_759 dX9_minus_58 ?_
      refine lv_bipush (v := (6 : Int32)) hx hb dX9_minus_61 (by decide) ?_
      refine lv_iload hx hb dX9_minus_63 (lv_at hl 1 rfl) ?_
      refine lv_iload hx hb dX9_minus_65 (lv_at hl 0 rfl) ?_
      refine lv_bipush (v := (-128 : Int32)) hx hb dX9_minus_67 (by decide) ?_
      refine lv_bipush (v := (127 : Int32)) hx hb dX9_minus_69 (by decide) ?_
      have hq := bd_some h; clear h; obtain ⟨r15, h14, h⟩ := hq
      refine sw_si (rest := [.int x12, .int (6 : Int32), .ref (ad 2)]) m_good X (cX9_isIn_m h14) calX9_isIn k_826 hP hD hS ⟨rfl, rfl⟩ rfl hl.1 rfl (Nat.le_of_ble_eq_true rfl) dX9_minus_71 (fun H locs hP hD hS => ?_)
      have hq := bd_some h; clear h; obtain ⟨x18, h19, h⟩ := hq
      have K16 : ∀ (H : Heap) (locs : List Loc), va_P (dC, dI) vwCl (mW ad cI s0) H → va_D A (mW ad cI s0) → va_S A s.heap H locs → W p l e (sw_rm 1 22) s m args below meth c H locs 0 0 (MQ below (sw_Qi (dC, dI) vwCl [(cI, .int)] A (mW ad cI zs) zr) args s 0 0 A) (F0 m 82 ls [.int x18, .int x12, .int (6 : Int32), .ref (ad 2)]) := by
        intro H locs hP hD hS
        refine lv_ior hx hb dX9_minus_82 ?_
        refine mb_1 X hP hD hS (vin_in (i := (6 : Int32)) (n := 8) (by decide) (by decide)) dX9_minus_83 (fun H locs hP hD hS => ?_)
        refine lv_iload hx hb dX9_minus_84 (lv_at hl 2 rfl) ?_
        refine lv_sipush (v := (255 : Int32)) hx hb dX9_minus_86 (by decide) ?_
        refine lv_iand hx hb dX9_minus_89 ?_
        obtain ⟨rfl, rfl⟩ := Prod.mk.inj (Option.some.inj h)
        exact sw_iret X hP hD hS dX9_minus_90
      replace h := h19
      clear h19
      refine lv_if_eq (tgt := 81) hx hb dX9_minus_74 (by decide) (fun c17 => ?_) (fun c17 => ?_)
      · replace h := if_yes h c17
        refine lv_iconst (v := (4 : Int32)) hx hb dX9_minus_81 (by decide) ?_
        obtain rfl := Option.some.inj h
        exact K16 _ _ hP hD hS
      · replace h := if_no h c17
        refine lv_iconst (v := (0 : Int32)) hx hb dX9_minus_77 (by decide) ?_
        refine lv_goto (tgt := 82) hx hb dX9_minus_78 (by decide) ?_
        obtain rfl := Option.some.inj h
        exact K16 _ _ hP hD hS
    replace h := h11
    clear h11
    refine lv_if_ge (tgt := 42) hx hb dX9_minus_34 (by decide) (fun c9 => ?_) (fun c9 => ?_)
    · replace h := if_yes h c9
      refine lv_iconst (v := (0 : Int32)) hx hb dX9_minus_42 (by decide) ?_
      obtain rfl := Option.some.inj h
      exact K8 _ _ hP hD hS
    · replace h := if_no h c9
      refine lv_bipush (v := (16 : Int32)) hx hb dX9_minus_37 (by decide) ?_
      refine lv_goto (tgt := 43) hx hb dX9_minus_39 (by decide) ?_
      obtain rfl := Option.some.inj h
      exact K8 _ _ hP hD hS
  replace h := h7
  clear h7
  refine lv_if_ge (tgt := 21) hx hb dX9_minus_14 (by decide) (fun c5 => ?_) (fun c5 => ?_)
  · replace h := if_yes h c5
    refine lv_iconst (v := (0 : Int32)) hx hb dX9_minus_21 (by decide) ?_
    obtain rfl := Option.some.inj h
    exact K4 _ _ hP hD hS
  · replace h := if_no h c5
    refine lv_iconst (v := (1 : Int32)) hx hb dX9_minus_17 (by decide) ?_
    refine lv_goto (tgt := 22) hx hb dX9_minus_18 (by decide) ?_
    obtain rfl := Option.some.inj h
    exact K4 _ _ hP hD hS
theorem dX9_reckon_0 : decode cX9_reckon 0 = .ok (.aload_n 0, 1) := by decide +kernel
theorem dX9_reckon_1 : decode cX9_reckon 1 = .ok (.getfield 13, 3) := by decide +kernel
theorem dX9_reckon_4 : decode cX9_reckon 4 = .ok (.bipush 7, 2) := by decide +kernel
theorem dX9_reckon_6 : decode cX9_reckon 6 = .ok (.iaload, 1) := by decide +kernel
theorem dX9_reckon_7 : decode cX9_reckon 7 = .ok (.istore_n 3, 1) := by decide +kernel
theorem dX9_reckon_8 : decode cX9_reckon 8 = .ok (.iload_n 1, 1) := by decide +kernel
theorem dX9_reckon_9 : decode cX9_reckon 9 = .ok (.tableswitch 117 0 7 #[47, 47, 76, 76, 117, 117, 117, 105], 47) := by decide +kernel
theorem dX9_reckon_56 : decode cX9_reckon 56 = .ok (.aload_n 0, 1) := by decide +kernel
theorem dX9_reckon_57 : decode cX9_reckon 57 = .ok (.getfield 13, 3) := by decide +kernel
theorem dX9_reckon_60 : decode cX9_reckon 60 = .ok (.bipush 7, 2) := by decide +kernel
theorem dX9_reckon_62 : decode cX9_reckon 62 = .ok (.aload_n 0, 1) := by decide +kernel
theorem dX9_reckon_63 : decode cX9_reckon 63 = .ok (.iload_n 3, 1) := by decide +kernel
theorem dX9_reckon_64 : decode cX9_reckon 64 = .ok (.iload_n 2, 1) := by decide +kernel
theorem dX9_reckon_65 : decode cX9_reckon 65 = .ok (.iload_n 1, 1) := by decide +kernel
theorem dX9_reckon_66 : decode cX9_reckon 66 = .ok (.iconst 1, 1) := by decide +kernel
theorem dX9_reckon_67 : decode cX9_reckon 67 = .ok (.if_icmp .ne 10, 3) := by decide +kernel
theorem dX9_reckon_70 : decode cX9_reckon 70 = .ok (.aload_n 0, 1) := by decide +kernel
theorem dX9_reckon_71 : decode cX9_reckon 71 = .ok (.invokevirtual 77, 3) := by decide +kernel
theorem dX9_reckon_74 : decode cX9_reckon 74 = .ok (.goto 4, 3) := by decide +kernel
theorem dX9_reckon_77 : decode cX9_reckon 77 = .ok (.iconst 0, 1) := by decide +kernel
theorem dX9_reckon_78 : decode cX9_reckon 78 = .ok (.invokevirtual 80, 3) := by decide +kernel
theorem dX9_reckon_81 : decode cX9_reckon 81 = .ok (.iastore, 1) := by decide +kernel
theorem dX9_reckon_82 : decode cX9_reckon 82 = .ok (.goto 110, 3) := by decide +kernel
theorem dX9_reckon_85 : decode cX9_reckon 85 = .ok (.aload_n 0, 1) := by decide +kernel
theorem dX9_reckon_86 : decode cX9_reckon 86 = .ok (.getfield 13, 3) := by decide +kernel
theorem dX9_reckon_89 : decode cX9_reckon 89 = .ok (.bipush 7, 2) := by decide +kernel
theorem dX9_reckon_91 : decode cX9_reckon 91 = .ok (.aload_n 0, 1) := by decide +kernel
theorem dX9_reckon_92 : decode cX9_reckon 92 = .ok (.iload_n 3, 1) := by decide +kernel
theorem dX9_reckon_93 : decode cX9_reckon 93 = .ok (.iload_n 2, 1) := by decide +kernel
theorem dX9_reckon_94 : decode cX9_reckon 94 = .ok (.iload_n 1, 1) := by decide +kernel
theorem dX9_reckon_95 : decode cX9_reckon 95 = .ok (.iconst 3, 1) := by decide +kernel
theorem dX9_reckon_96 : decode cX9_reckon 96 = .ok (.if_icmp .ne 10, 3) := by decide +kernel
theorem dX9_reckon_99 : decode cX9_reckon 99 = .ok (.aload_n 0, 1) := by decide +kernel
theorem dX9_reckon_100 : decode cX9_reckon 100 = .ok (.invokevirtual 77, 3) := by decide +kernel
theorem dX9_reckon_103 : decode cX9_reckon 103 = .ok (.goto 4, 3) := by decide +kernel
theorem dX9_reckon_106 : decode cX9_reckon 106 = .ok (.iconst 0, 1) := by decide +kernel
theorem dX9_reckon_107 : decode cX9_reckon 107 = .ok (.invokevirtual 84, 3) := by decide +kernel
theorem dX9_reckon_110 : decode cX9_reckon 110 = .ok (.iastore, 1) := by decide +kernel
theorem dX9_reckon_111 : decode cX9_reckon 111 = .ok (.goto 81, 3) := by decide +kernel
theorem dX9_reckon_114 : decode cX9_reckon 114 = .ok (.aload_n 0, 1) := by decide +kernel
theorem dX9_reckon_115 : decode cX9_reckon 115 = .ok (.iload_n 3, 1) := by decide +kernel
theorem dX9_reckon_116 : decode cX9_reckon 116 = .ok (.iload_n 2, 1) := by decide +kernel
theorem dX9_reckon_117 : decode cX9_reckon 117 = .ok (.iconst 0, 1) := by decide +kernel
theorem dX9_reckon_118 : decode cX9_reckon 118 = .ok (.invokevirtual 84, 3) := by decide +kernel
theorem dX9_reckon_121 : decode cX9_reckon 121 = .ok (.istore 4, 2) := by decide +kernel
theorem dX9_reckon_123 : decode cX9_reckon 123 = .ok (.goto 69, 3) := by decide +kernel
theorem dX9_reckon_126 : decode cX9_reckon 126 = .ok (.iload_n 1, 1) := by decide +kernel
theorem dX9_reckon_127 : decode cX9_reckon 127 = .ok (.iconst 4, 1) := by decide +kernel
theorem dX9_reckon_128 : decode cX9_reckon 128 = .ok (.if_icmp .ne 9, 3) := by decide +kernel
theorem dX9_reckon_131 : decode cX9_reckon 131 = .ok (.iload_n 3, 1) := by decide +kernel
theorem dX9_reckon_132 : decode cX9_reckon 132 = .ok (.iload_n 2, 1) := by decide +kernel
theorem dX9_reckon_133 : decode cX9_reckon 133 = .ok (.iand, 1) := by decide +kernel
theorem dX9_reckon_134 : decode cX9_reckon 134 = .ok (.goto 17, 3) := by decide +kernel
theorem dX9_reckon_137 : decode cX9_reckon 137 = .ok (.iload_n 1, 1) := by decide +kernel
theorem dX9_reckon_138 : decode cX9_reckon 138 = .ok (.iconst 5, 1) := by decide +kernel
theorem dX9_reckon_139 : decode cX9_reckon 139 = .ok (.if_icmp .ne 9, 3) := by decide +kernel
theorem dX9_reckon_142 : decode cX9_reckon 142 = .ok (.iload_n 3, 1) := by decide +kernel
theorem dX9_reckon_143 : decode cX9_reckon 143 = .ok (.iload_n 2, 1) := by decide +kernel
theorem dX9_reckon_144 : decode cX9_reckon 144 = .ok (.ixor, 1) := by decide +kernel
theorem dX9_reckon_145 : decode cX9_reckon 145 = .ok (.goto 6, 3) := by decide +kernel
theorem dX9_reckon_148 : decode cX9_reckon 148 = .ok (.iload_n 3, 1) := by decide +kernel
theorem dX9_reckon_149 : decode cX9_reckon 149 = .ok (.iload_n 2, 1) := by decide +kernel
theorem dX9_reckon_150 : decode cX9_reckon 150 = .ok (.ior, 1) := by decide +kernel
theorem dX9_reckon_151 : decode cX9_reckon 151 = .ok (.istore 5, 2) := by decide +kernel
theorem dX9_reckon_153 : decode cX9_reckon 153 = .ok (.aload_n 0, 1) := by decide +kernel
theorem dX9_reckon_154 : decode cX9_reckon 154 = .ok (.getfield 13, 3) := by decide +kernel
theorem dX9_reckon_157 : decode cX9_reckon 157 = .ok (.bipush 7, 2) := by decide +kernel
theorem dX9_reckon_159 : decode cX9_reckon 159 = .ok (.iload 5, 2) := by decide +kernel
theorem dX9_reckon_161 : decode cX9_reckon 161 = .ok (.iastore, 1) := by decide +kernel
theorem dX9_reckon_162 : decode cX9_reckon 162 = .ok (.aload_n 0, 1) := by decide +kernel
theorem dX9_reckon_163 : decode cX9_reckon 163 = .ok (.getfield 13, 3) := by decide +kernel
theorem dX9_reckon_166 : decode cX9_reckon 166 = .ok (.bipush 6, 2) := by decide +kernel
theorem dX9_reckon_168 : decode cX9_reckon 168 = .ok (.iload 5, 2) := by decide +kernel
theorem dX9_reckon_170 : decode cX9_reckon 170 = .ok (.invokestatic 74, 3) := by decide +kernel
theorem dX9_reckon_173 : decode cX9_reckon 173 = .ok (.iload 5, 2) := by decide +kernel
theorem dX9_reckon_175 : decode cX9_reckon 175 = .ok (.invokestatic 87, 3) := by decide +kernel
theorem dX9_reckon_178 : decode cX9_reckon 178 = .ok (.ior, 1) := by decide +kernel
theorem dX9_reckon_179 : decode cX9_reckon 179 = .ok (.iload_n 1, 1) := by decide +kernel
theorem dX9_reckon_180 : decode cX9_reckon 180 = .ok (.iconst 4, 1) := by decide +kernel
theorem dX9_reckon_181 : decode cX9_reckon 181 = .ok (.if_icmp .ne 8, 3) := by decide +kernel
theorem dX9_reckon_184 : decode cX9_reckon 184 = .ok (.bipush 16, 2) := by decide +kernel
theorem dX9_reckon_186 : decode cX9_reckon 186 = .ok (.goto 4, 3) := by decide +kernel
theorem dX9_reckon_189 : decode cX9_reckon 189 = .ok (.iconst 0, 1) := by decide +kernel
theorem dX9_reckon_190 : decode cX9_reckon 190 = .ok (.ior, 1) := by decide +kernel
theorem dX9_reckon_191 : decode cX9_reckon 191 = .ok (.iastore, 1) := by decide +kernel
theorem dX9_reckon_192 : decode cX9_reckon 192 = .ok (.return_, 1) := by decide +kernel
def fX9_reckon (p1 p2 : Int32) (s0 : zS) : Option (zS) := nm (s0.2 1 ((7 : Int32).toNatClampNeg)) fun x1 => if p1 ∈ ([(0 : Int32), (1 : Int32)] : List Int32) then (if p1 = (1 : Int32) then (bd2 (fX9_carry  s0) fun r8 s9 => bd2 (fX9_plus x1 p2 r8 s9) fun r11 s12 => some (st2 s12 1 ((7 : Int32).toNatClampNeg) r11)) else (bd2 (fX9_plus x1 p2 (0 : Int32) s0) fun r5 s6 => some (st2 s6 1 ((7 : Int32).toNatClampNeg) r5))) else if p1 ∈ ([(2 : Int32), (3 : Int32)] : List Int32) then (if p1 = (3 : Int32) then (bd2 (fX9_carry  s0) fun r19 s20 => bd2 (fX9_minus x1 p2 r19 s20) fun r22 s23 => some (st2 s23 1 ((7 : Int32).toNatClampNeg) r22)) else (bd2 (fX9_minus x1 p2 (0 : Int32) s0) fun r16 s17 => some (st2 s17 1 ((7 : Int32).toNatClampNeg) r16))) else if p1 ∈ ([(7 : Int32)] : List Int32) then (bd2 (fX9_minus x1 p2 (0 : Int32) s0) fun r26 s27 => some s27) else (bd (if p1 = (4 : Int32) then (some (x1 &&& p2)) else (bd (if p1 = (5 : Int32) then (some (x1 ^^^ p2)) else (some (x1 ||| p2))) fun x32 => some x32)) fun x34 => bd (fX9_signs x34) fun r37 => bd (fX9_even x34) fun r39 => bd (if p1 = (4 : Int32) then (some (16 : Int32)) else (some (0 : Int32))) fun x42 => some (st2 (st2 s0 1 ((7 : Int32).toNatClampNeg) x34) 1 ((6 : Int32).toNatClampNeg) ((r37 ||| r39) ||| x42)))
set_option maxHeartbeats 4000000 in
set_option maxRecDepth 100000 in
theorem cX9_reckon_m {l : Launch} {dC : Nat → ClassId} {dI : Nat → Nat → Nat} {ad : Nat → Nat} {cI : ClassId} {p1 p2 : Int32} {s0 : zS} {zs : zS} (h : fX9_reckon p1 p2 s0 = some zs) : sw_Mv l yX9_reckon (sw_ws yX9_reckon cX9_reckon 6 none) (sw_rm 2 48) (dC, dI) vwCl [(cI, .int)] mF [.ref (ad 0), .int p1, .int p2] (mW ad cI s0) (mW ad cI zs) := by
  intro sz
  refine sw_of (cc := cX9_reckon) (maxL := 6) (ret := none) (by decide) rfl (Nat.le_of_ble_eq_true rfl) ?_
  intro p e s m args below meth c A ls hAe hsz X _ hP hD hS hl
  rw [hAe]
  have hx := X.1.1
  have hb := X.1.2.1
  have hown := X.1.2.2.2.1
  have hts := X.1.2.2.2.2
  replace hl : lv_has ls 6 [(0, .ref (ad 0)), (1, .int p1), (2, .int p2)] := hl
  unfold fX9_reckon at h
  refine lv_aload_n hx hb dX9_reckon_0 rfl (lv_at hl 0 rfl) ?_
  refine mg_0_2 X hP k_759 dX9_reckon_1 ?_
  refine lv_bipush (v := (7 : Int32)) hx hb dX9_reckon_4 (by decide) ?_
  refine ml_1 X hP (vin_in (i := (7 : Int32)) (n := 8) (by decide) (by decide)) dX9_reckon_6 ?_
  refine lv_topi (fun x1 ex1 => ?_)
  replace h := nm_use ex1 h
  refine lv_istore_n (lv' := [(3, .int x1), (0, .ref (ad 0)), (1, .int p1), (2, .int p2)]) hx hb dX9_reckon_7 rfl hl (by decide) rfl (fun ls hl => ?_)
  refine lv_iload_n hx hb dX9_reckon_8 rfl (lv_at hl 2 rfl) ?_
  by_cases c2 : p1 ∈ ([(0 : Int32), (1 : Int32)] : List Int32)
  · replace h := if_yes h c2
    refine sw_tabK (tgt := 56) (off := 47) hx hb dX9_reckon_9 _ c2 (by decide +kernel) (by decide) ?_
    refine lv_aload_n hx hb dX9_reckon_56 rfl (lv_at hl 1 rfl) ?_
    refine mg_0_2 X hP k_759 dX9_reckon_57 ?_
    refine lv_bipush (v := (7 : Int32)) hx hb dX9_reckon_60 (by decide) ?_
    refine lv_aload_n hx hb dX9_reckon_62 rfl (lv_at hl 1 rfl) ?_
    refine lv_iload_n hx hb dX9_reckon_63 rfl (lv_at hl 0 rfl) ?_
    refine lv_iload_n hx hb dX9_reckon_64 rfl (lv_at hl 3 rfl) ?_
    refine lv_iload_n hx hb dX9_reckon_65 rfl (lv_at hl 2 rfl) ?_
    refine lv_iconst (v := (1 : Int32)) hx hb dX9_reckon_66 (by decide) ?_
    refine lv_icmp_ne (tgt := 77) hx hb dX9_reckon_67 (by decide) (fun c3 => ?_) (fun c3 => ?_)
    · replace h := if_no h c3
      refine lv_iconst (v := (0 : Int32)) hx hb dX9_reckon_77 (by decide) ?_
      have hq := bd2_some h; clear h; obtain ⟨r5, s6, h4, h⟩ := hq
      refine sw_vi (rest := [.int (7 : Int32), .ref (ad 2)]) m_good X (cX9_plus_m h4) calX9_plus k_929 hP hD hS 0 9 rfl rfl rfl ⟨rfl, rfl⟩ rfl hl.1 rfl (Nat.le_of_ble_eq_true rfl) dX9_reckon_78 (fun H locs hP hD hS => ?_)
      refine mb_1 X hP hD hS (vin_in (i := (7 : Int32)) (n := 8) (by decide) (by decide)) dX9_reckon_81 (fun H locs hP hD hS => ?_)
      refine lv_goto (tgt := 192) hx hb dX9_reckon_82 (by decide) ?_
      obtain rfl := Option.some.inj h
      exact sw_vret X hP hD hS dX9_reckon_192
    · replace h := if_yes h c3
      refine lv_aload_n hx hb dX9_reckon_70 rfl (lv_at hl 1 rfl) ?_
      have hq := bd2_some h; clear h; obtain ⟨r8, s9, h7, h⟩ := hq
      refine sw_vi (rest := [.int p2, .int x1, .ref (ad 0), .int (7 : Int32), .ref (ad 2)]) m_good X (cX9_carry_m h7) calX9_carry k_914 hP hD hS 0 9 rfl rfl rfl ⟨rfl, rfl⟩ rfl hl.1 rfl (Nat.le_of_ble_eq_true rfl) dX9_reckon_71 (fun H locs hP hD hS => ?_)
      refine lv_goto (tgt := 78) hx hb dX9_reckon_74 (by decide) ?_
      have hq := bd2_some h; clear h; obtain ⟨r11, s12, h10, h⟩ := hq
      refine sw_vi (rest := [.int (7 : Int32), .ref (ad 2)]) m_good X (cX9_plus_m h10) calX9_plus k_929 hP hD hS 0 9 rfl rfl rfl ⟨rfl, rfl⟩ rfl hl.1 rfl (Nat.le_of_ble_eq_true rfl) dX9_reckon_78 (fun H locs hP hD hS => ?_)
      refine mb_1 X hP hD hS (vin_in (i := (7 : Int32)) (n := 8) (by decide) (by decide)) dX9_reckon_81 (fun H locs hP hD hS => ?_)
      refine lv_goto (tgt := 192) hx hb dX9_reckon_82 (by decide) ?_
      obtain rfl := Option.some.inj h
      exact sw_vret X hP hD hS dX9_reckon_192
  · replace h := if_no h c2
    by_cases c13 : p1 ∈ ([(2 : Int32), (3 : Int32)] : List Int32)
    · replace h := if_yes h c13
      refine sw_tabK (tgt := 85) (off := 76) hx hb dX9_reckon_9 _ c13 (by decide +kernel) (by decide) ?_
      refine lv_aload_n hx hb dX9_reckon_85 rfl (lv_at hl 1 rfl) ?_
      refine mg_0_2 X hP k_759 dX9_reckon_86 ?_
      refine lv_bipush (v := (7 : Int32)) hx hb dX9_reckon_89 (by decide) ?_
      refine lv_aload_n hx hb dX9_reckon_91 rfl (lv_at hl 1 rfl) ?_
      refine lv_iload_n hx hb dX9_reckon_92 rfl (lv_at hl 0 rfl) ?_
      refine lv_iload_n hx hb dX9_reckon_93 rfl (lv_at hl 3 rfl) ?_
      refine lv_iload_n hx hb dX9_reckon_94 rfl (lv_at hl 2 rfl) ?_
      refine lv_iconst (v := (3 : Int32)) hx hb dX9_reckon_95 (by decide) ?_
      refine lv_icmp_ne (tgt := 106) hx hb dX9_reckon_96 (by decide) (fun c14 => ?_) (fun c14 => ?_)
      · replace h := if_no h c14
        refine lv_iconst (v := (0 : Int32)) hx hb dX9_reckon_106 (by decide) ?_
        have hq := bd2_some h; clear h; obtain ⟨r16, s17, h15, h⟩ := hq
        refine sw_vi (rest := [.int (7 : Int32), .ref (ad 2)]) m_good X (cX9_minus_m h15) calX9_minus k_922 hP hD hS 0 9 rfl rfl rfl ⟨rfl, rfl⟩ rfl hl.1 rfl (Nat.le_of_ble_eq_true rfl) dX9_reckon_107 (fun H locs hP hD hS => ?_)
        refine mb_1 X hP hD hS (vin_in (i := (7 : Int32)) (n := 8) (by decide) (by decide)) dX9_reckon_110 (fun H locs hP hD hS => ?_)
        refine lv_goto (tgt := 192) hx hb dX9_reckon_111 (by decide) ?_
        obtain rfl := Option.some.inj h
        exact sw_vret X hP hD hS dX9_reckon_192
      · replace h := if_yes h c14
        refine lv_aload_n hx hb dX9_reckon_99 rfl (lv_at hl 1 rfl) ?_
        have hq := bd2_some h; clear h; obtain ⟨r19, s20, h18, h⟩ := hq
        refine sw_vi (rest := [.int p2, .int x1, .ref (ad 0), .int (7 : Int32), .ref (ad 2)]) m_good X (cX9_carry_m h18) calX9_carry k_914 hP hD hS 0 9 rfl rfl rfl ⟨rfl, rfl⟩ rfl hl.1 rfl (Nat.le_of_ble_eq_true rfl) dX9_reckon_100 (fun H locs hP hD hS => ?_)
        refine lv_goto (tgt := 107) hx hb dX9_reckon_103 (by decide) ?_
        have hq := bd2_some h; clear h; obtain ⟨r22, s23, h21, h⟩ := hq
        refine sw_vi (rest := [.int (7 : Int32), .ref (ad 2)]) m_good X (cX9_minus_m h21) calX9_minus k_922 hP hD hS 0 9 rfl rfl rfl ⟨rfl, rfl⟩ rfl hl.1 rfl (Nat.le_of_ble_eq_true rfl) dX9_reckon_107 (fun H locs hP hD hS => ?_)
        refine mb_1 X hP hD hS (vin_in (i := (7 : Int32)) (n := 8) (by decide) (by decide)) dX9_reckon_110 (fun H locs hP hD hS => ?_)
        refine lv_goto (tgt := 192) hx hb dX9_reckon_111 (by decide) ?_
        obtain rfl := Option.some.inj h
        exact sw_vret X hP hD hS dX9_reckon_192
    · replace h := if_no h c13
      by_cases c24 : p1 ∈ ([(7 : Int32)] : List Int32)
      · replace h := if_yes h c24
        refine sw_tabK (tgt := 114) (off := 105) hx hb dX9_reckon_9 _ c24 (by decide +kernel) (by decide) ?_
        refine lv_aload_n hx hb dX9_reckon_114 rfl (lv_at hl 1 rfl) ?_
        refine lv_iload_n hx hb dX9_reckon_115 rfl (lv_at hl 0 rfl) ?_
        refine lv_iload_n hx hb dX9_reckon_116 rfl (lv_at hl 3 rfl) ?_
        refine lv_iconst (v := (0 : Int32)) hx hb dX9_reckon_117 (by decide) ?_
        have hq := bd2_some h; clear h; obtain ⟨r26, s27, h25, h⟩ := hq
        refine sw_vi (rest := []) m_good X (cX9_minus_m h25) calX9_minus k_922 hP hD hS 0 9 rfl rfl rfl ⟨rfl, rfl⟩ rfl hl.1 rfl (Nat.le_of_ble_eq_true rfl) dX9_reckon_118 (fun H locs hP hD hS => ?_)
        refine lv_istore (lv' := [(4, .int r26), (3, .int x1), (0, .ref (ad 0)), (1, .int p1), (2, .int p2)]) hx hb dX9_reckon_121 hl (by decide) rfl (fun ls hl => ?_)
        refine lv_goto (tgt := 192) hx hb dX9_reckon_123 (by decide) ?_
        obtain rfl := Option.some.inj h
        exact sw_vret X hP hD hS dX9_reckon_192
      · replace h := if_no h c24
        refine sw_tabD (tgt := 126) hx hb dX9_reckon_9 (([(0 : Int32), (1 : Int32)] : List Int32) ++ (([(2 : Int32), (3 : Int32)] : List Int32) ++ ([(7 : Int32)] : List Int32))) (fun hm => (List.mem_append.mp hm).elim c2 (fun hm => (List.mem_append.mp hm).elim c13 c24)) (by decide +kernel) (by decide) ?_
        refine lv_iload_n hx hb dX9_reckon_126 rfl (lv_at hl 2 rfl) ?_
        refine lv_iconst (v := (4 : Int32)) hx hb dX9_reckon_127 (by decide) ?_
        have hq := bd_some h; clear h; obtain ⟨x34, h35, h⟩ := hq
        have K28 : ∀ (H : Heap) (locs : List Loc), va_P (dC, dI) vwCl (mW ad cI s0) H → va_D A (mW ad cI s0) → va_S A s.heap H locs → W p l e (sw_rm 2 48) s m args below meth c H locs 0 0 (MQ below (sw_Qv (dC, dI) vwCl [(cI, .int)] A (mW ad cI zs)) args s 0 0 A) (F0 m 151 ls [.int x34]) := by
          intro H locs hP hD hS
          refine lv_istore (lv' := [(5, .int x34), (3, .int x1), (0, .ref (ad 0)), (1, .int p1), (2, .int p2)]) hx hb dX9_reckon_151 hl (by decide) rfl (fun ls hl => ?_)
          refine lv_aload_n hx hb dX9_reckon_153 rfl (lv_at hl 2 rfl) ?_
          refine mg_0_2 X hP k_759 dX9_reckon_154 ?_
          refine lv_bipush (v := (7 : Int32)) hx hb dX9_reckon_157 (by decide) ?_
          refine lv_iload hx hb dX9_reckon_159 (lv_at hl 0 rfl) ?_
          refine mb_1 X hP hD hS (vin_in (i := (7 : Int32)) (n := 8) (by decide) (by decide)) dX9_reckon_161 (fun H locs hP hD hS => ?_)
          refine lv_aload_n hx hb dX9_reckon_162 rfl (lv_at hl 2 rfl) ?_
          refine mg_0_2 X hP k_759 dX9_reckon_163 ?_
          refine lv_bipush (v := (6 : Int32)) hx hb dX9_reckon_166 (by decide) ?_
          refine lv_iload hx hb dX9_reckon_168 (lv_at hl 0 rfl) ?_
          have hq := bd_some h; clear h; obtain ⟨r37, h36, h⟩ := hq
          refine sw_si (rest := [.int (6 : Int32), .ref (ad 2)]) m_good X (cX9_signs_m h36) calX9_signs k_926 hP hD hS ⟨rfl, rfl⟩ rfl hl.1 rfl (Nat.le_of_ble_eq_true rfl) dX9_reckon_170 (fun H locs hP hD hS => ?_)
          refine lv_iload hx hb dX9_reckon_173 (lv_at hl 0 rfl) ?_
          have hq := bd_some h; clear h; obtain ⟨r39, h38, h⟩ := hq
          refine sw_si (rest := [.int r37, .int (6 : Int32), .ref (ad 2)]) m_good X (cX9_even_m h38) calX9_even k_953 hP hD hS ⟨rfl, rfl⟩ rfl hl.1 rfl (Nat.le_of_ble_eq_true rfl) dX9_reckon_175 (fun H locs hP hD hS => ?_)
          refine lv_ior hx hb dX9_reckon_178 ?_
          refine lv_iload_n hx hb dX9_reckon_179 rfl (lv_at hl 3 rfl) ?_
          refine lv_iconst (v := (4 : Int32)) hx hb dX9_reckon_180 (by decide) ?_
          have hq := bd_some h; clear h; obtain ⟨x42, h43, h⟩ := hq
          have K40 : ∀ (H : Heap) (locs : List Loc), va_P (dC, dI) vwCl (mW ad cI (st2 s0 1 ((7 : Int32).toNatClampNeg) x34)) H → va_D A (mW ad cI (st2 s0 1 ((7 : Int32).toNatClampNeg) x34)) → va_S A s.heap H locs → W p l e (sw_rm 2 48) s m args below meth c H locs 0 0 (MQ below (sw_Qv (dC, dI) vwCl [(cI, .int)] A (mW ad cI zs)) args s 0 0 A) (F0 m 190 ls [.int x42, .int (r37 ||| r39), .int (6 : Int32), .ref (ad 2)]) := by
            intro H locs hP hD hS
            refine lv_ior hx hb dX9_reckon_190 ?_
            refine mb_1 X hP hD hS (vin_in (i := (6 : Int32)) (n := 8) (by decide) (by decide)) dX9_reckon_191 (fun H locs hP hD hS => ?_)
            obtain rfl := Option.some.inj h
            exact sw_vret X hP hD hS dX9_reckon_192
          replace h := h43
          clear h43
          refine lv_icmp_ne (tgt := 189) hx hb dX9_reckon_181 (by decide) (fun c41 => ?_) (fun c41 => ?_)
          · replace h := if_no h c41
            refine lv_iconst (v := (0 : Int32)) hx hb dX9_reckon_189 (by decide) ?_
            obtain rfl := Option.some.inj h
            exact K40 _ _ hP hD hS
          · replace h := if_yes h c41
            refine lv_bipush (v := (16 : Int32)) hx hb dX9_reckon_184 (by decide) ?_
            refine lv_goto (tgt := 190) hx hb dX9_reckon_186 (by decide) ?_
            obtain rfl := Option.some.inj h
            exact K40 _ _ hP hD hS
        replace h := h35
        clear h35
        refine lv_icmp_ne (tgt := 137) hx hb dX9_reckon_128 (by decide) (fun c29 => ?_) (fun c29 => ?_)
        · replace h := if_no h c29
          refine lv_iload_n hx hb dX9_reckon_137 rfl (lv_at hl 2 rfl) ?_
          refine lv_iconst (v := (5 : Int32)) hx hb dX9_reckon_138 (by decide) ?_
          have hq := bd_some h; clear h; obtain ⟨x32, h33, h⟩ := hq
          have K30 : ∀ (H : Heap) (locs : List Loc), va_P (dC, dI) vwCl (mW ad cI s0) H → va_D A (mW ad cI s0) → va_S A s.heap H locs → W p l e (sw_rm 2 48) s m args below meth c H locs 0 0 (MQ below (sw_Qv (dC, dI) vwCl [(cI, .int)] A (mW ad cI zs)) args s 0 0 A) (F0 m 151 ls [.int x32]) := by
            intro H locs hP hD hS
            obtain rfl := Option.some.inj h
            exact K28 _ _ hP hD hS
          replace h := h33
          clear h33
          refine lv_icmp_ne (tgt := 148) hx hb dX9_reckon_139 (by decide) (fun c31 => ?_) (fun c31 => ?_)
          · replace h := if_no h c31
            refine lv_iload_n hx hb dX9_reckon_148 rfl (lv_at hl 0 rfl) ?_
            refine lv_iload_n hx hb dX9_reckon_149 rfl (lv_at hl 3 rfl) ?_
            refine lv_ior hx hb dX9_reckon_150 ?_
            obtain rfl := Option.some.inj h
            exact K30 _ _ hP hD hS
          · replace h := if_yes h c31
            refine lv_iload_n hx hb dX9_reckon_142 rfl (lv_at hl 0 rfl) ?_
            refine lv_iload_n hx hb dX9_reckon_143 rfl (lv_at hl 3 rfl) ?_
            refine lv_ixor hx hb dX9_reckon_144 ?_
            refine lv_goto (tgt := 151) hx hb dX9_reckon_145 (by decide) ?_
            obtain rfl := Option.some.inj h
            exact K30 _ _ hP hD hS
        · replace h := if_yes h c29
          refine lv_iload_n hx hb dX9_reckon_131 rfl (lv_at hl 0 rfl) ?_
          refine lv_iload_n hx hb dX9_reckon_132 rfl (lv_at hl 3 rfl) ?_
          refine lv_iand hx hb dX9_reckon_133 ?_
          refine lv_goto (tgt := 151) hx hb dX9_reckon_134 (by decide) ?_
          obtain rfl := Option.some.inj h
          exact K28 _ _ hP hD hS
theorem dX9_addPair_0 : decode cX9_addPair 0 = .ok (.aload_n 0, 1) := by decide +kernel
theorem dX9_addPair_1 : decode cX9_addPair 1 = .ok (.aload_n 0, 1) := by decide +kernel
theorem dX9_addPair_2 : decode cX9_addPair 2 = .ok (.getfield 32, 3) := by decide +kernel
theorem dX9_addPair_5 : decode cX9_addPair 5 = .ok (.bipush 7, 2) := by decide +kernel
theorem dX9_addPair_7 : decode cX9_addPair 7 = .ok (.iadd, 1) := by decide +kernel
theorem dX9_addPair_8 : decode cX9_addPair 8 = .ok (.putfield 32, 3) := by decide +kernel
theorem dX9_addPair_11 : decode cX9_addPair 11 = .ok (.aload_n 0, 1) := by decide +kernel
theorem dX9_addPair_12 : decode cX9_addPair 12 = .ok (.invokevirtual 71, 3) := by decide +kernel
theorem dX9_addPair_15 : decode cX9_addPair 15 = .ok (.istore_n 2, 1) := by decide +kernel
theorem dX9_addPair_16 : decode cX9_addPair 16 = .ok (.aload_n 0, 1) := by decide +kernel
theorem dX9_addPair_17 : decode cX9_addPair 17 = .ok (.iload_n 1, 1) := by decide +kernel
theorem dX9_addPair_18 : decode cX9_addPair 18 = .ok (.invokevirtual 68, 3) := by decide +kernel
theorem dX9_addPair_21 : decode cX9_addPair 21 = .ok (.istore_n 3, 1) := by decide +kernel
theorem dX9_addPair_22 : decode cX9_addPair 22 = .ok (.aload_n 0, 1) := by decide +kernel
theorem dX9_addPair_23 : decode cX9_addPair 23 = .ok (.getfield 13, 3) := by decide +kernel
theorem dX9_addPair_26 : decode cX9_addPair 26 = .ok (.bipush 6, 2) := by decide +kernel
theorem dX9_addPair_28 : decode cX9_addPair 28 = .ok (.iaload, 1) := by decide +kernel
theorem dX9_addPair_29 : decode cX9_addPair 29 = .ok (.sipush 196, 3) := by decide +kernel
theorem dX9_addPair_32 : decode cX9_addPair 32 = .ok (.iand, 1) := by decide +kernel
theorem dX9_addPair_33 : decode cX9_addPair 33 = .ok (.istore 4, 2) := by decide +kernel
theorem dX9_addPair_35 : decode cX9_addPair 35 = .ok (.aload_n 0, 1) := by decide +kernel
theorem dX9_addPair_36 : decode cX9_addPair 36 = .ok (.getfield 13, 3) := by decide +kernel
theorem dX9_addPair_39 : decode cX9_addPair 39 = .ok (.bipush 6, 2) := by decide +kernel
theorem dX9_addPair_41 : decode cX9_addPair 41 = .ok (.iload 4, 2) := by decide +kernel
theorem dX9_addPair_43 : decode cX9_addPair 43 = .ok (.iload_n 2, 1) := by decide +kernel
theorem dX9_addPair_44 : decode cX9_addPair 44 = .ok (.sipush 4095, 3) := by decide +kernel
theorem dX9_addPair_47 : decode cX9_addPair 47 = .ok (.iand, 1) := by decide +kernel
theorem dX9_addPair_48 : decode cX9_addPair 48 = .ok (.iload_n 3, 1) := by decide +kernel
theorem dX9_addPair_49 : decode cX9_addPair 49 = .ok (.sipush 4095, 3) := by decide +kernel
theorem dX9_addPair_52 : decode cX9_addPair 52 = .ok (.iand, 1) := by decide +kernel
theorem dX9_addPair_53 : decode cX9_addPair 53 = .ok (.iadd, 1) := by decide +kernel
theorem dX9_addPair_54 : decode cX9_addPair 54 = .ok (.sipush 4095, 3) := by decide +kernel
theorem dX9_addPair_57 : decode cX9_addPair 57 = .ok (.if_icmp .le 8, 3) := by decide +kernel
theorem dX9_addPair_60 : decode cX9_addPair 60 = .ok (.bipush 16, 2) := by decide +kernel
theorem dX9_addPair_62 : decode cX9_addPair 62 = .ok (.goto 4, 3) := by decide +kernel
theorem dX9_addPair_65 : decode cX9_addPair 65 = .ok (.iconst 0, 1) := by decide +kernel
theorem dX9_addPair_66 : decode cX9_addPair 66 = .ok (.ior, 1) := by decide +kernel
theorem dX9_addPair_67 : decode cX9_addPair 67 = .ok (.iload_n 2, 1) := by decide +kernel
theorem dX9_addPair_68 : decode cX9_addPair 68 = .ok (.iload_n 3, 1) := by decide +kernel
theorem dX9_addPair_69 : decode cX9_addPair 69 = .ok (.iadd, 1) := by decide +kernel
theorem dX9_addPair_70 : decode cX9_addPair 70 = .ok (.ldc 49, 2) := by decide +kernel
theorem dX9_addPair_72 : decode cX9_addPair 72 = .ok (.if_icmp .le 7, 3) := by decide +kernel
theorem dX9_addPair_75 : decode cX9_addPair 75 = .ok (.iconst 1, 1) := by decide +kernel
theorem dX9_addPair_76 : decode cX9_addPair 76 = .ok (.goto 4, 3) := by decide +kernel
theorem dX9_addPair_79 : decode cX9_addPair 79 = .ok (.iconst 0, 1) := by decide +kernel
theorem dX9_addPair_80 : decode cX9_addPair 80 = .ok (.ior, 1) := by decide +kernel
theorem dX9_addPair_81 : decode cX9_addPair 81 = .ok (.iastore, 1) := by decide +kernel
theorem dX9_addPair_82 : decode cX9_addPair 82 = .ok (.aload_n 0, 1) := by decide +kernel
theorem dX9_addPair_83 : decode cX9_addPair 83 = .ok (.iconst 2, 1) := by decide +kernel
theorem dX9_addPair_84 : decode cX9_addPair 84 = .ok (.iload_n 2, 1) := by decide +kernel
theorem dX9_addPair_85 : decode cX9_addPair 85 = .ok (.iload_n 3, 1) := by decide +kernel
theorem dX9_addPair_86 : decode cX9_addPair 86 = .ok (.iadd, 1) := by decide +kernel
theorem dX9_addPair_87 : decode cX9_addPair 87 = .ok (.invokevirtual 90, 3) := by decide +kernel
theorem dX9_addPair_90 : decode cX9_addPair 90 = .ok (.return_, 1) := by decide +kernel
def fX9_addPair (p1 : Int32) (s0 : zS) : Option (zS) := bd2 (fX9_hl  (st1 s0 3 ((s0.1 3) + (7 : Int32)))) fun r2 s3 => bd2 (fX9_pair p1 s3) fun r5 s6 => nm ((s6.2 1 ((6 : Int32).toNatClampNeg)) &&& (196 : Int32)) fun x7 => bd (if ((r2 &&& (4095 : Int32)) + (r5 &&& (4095 : Int32))) ≤ (4095 : Int32) then (some (0 : Int32)) else (some (16 : Int32))) fun x10 => bd (if (r2 + r5) ≤ (65535 : Int32) then (some (0 : Int32)) else (some (1 : Int32))) fun x14 => bd (fX9_setPair (2 : Int32) (r2 + r5) (st2 s6 1 ((6 : Int32).toNatClampNeg) ((x7 ||| x10) ||| x14))) fun s17 => some s17
set_option maxHeartbeats 4000000 in
set_option maxRecDepth 100000 in
theorem cX9_addPair_m {l : Launch} {dC : Nat → ClassId} {dI : Nat → Nat → Nat} {ad : Nat → Nat} {cI : ClassId} {p1 : Int32} {s0 : zS} {zs : zS} (h : fX9_addPair p1 s0 = some zs) : sw_Mv l yX9_addPair (sw_ws yX9_addPair cX9_addPair 5 none) (sw_rm 2 41) (dC, dI) vwCl [(cI, .int)] mF [.ref (ad 0), .int p1] (mW ad cI s0) (mW ad cI zs) := by
  intro sz
  refine sw_of (cc := cX9_addPair) (maxL := 5) (ret := none) (by decide) rfl (Nat.le_of_ble_eq_true rfl) ?_
  intro p e s m args below meth c A ls hAe hsz X _ hP hD hS hl
  rw [hAe]
  have hx := X.1.1
  have hb := X.1.2.1
  have hown := X.1.2.2.2.1
  have hts := X.1.2.2.2.2
  replace hl : lv_has ls 5 [(0, .ref (ad 0)), (1, .int p1)] := hl
  unfold fX9_addPair at h
  refine lv_aload_n hx hb dX9_addPair_0 rfl (lv_at hl 0 rfl) ?_
  refine lv_aload_n hx hb dX9_addPair_1 rfl (lv_at hl 0 rfl) ?_
  refine mg_0_6 X hP k_763 dX9_addPair_2 ?_
  refine lv_bipush (v := (7 : Int32)) hx hb dX9_addPair_5 (by decide) ?_
  refine lv_iadd hx hb dX9_addPair_7 ?_
  refine mp_0_6 X hP hD hS k_763 dX9_addPair_8 (fun H locs hP hD hS => ?_)
  refine lv_aload_n hx hb dX9_addPair_11 rfl (lv_at hl 0 rfl) ?_
  have hq := bd2_some h; clear h; obtain ⟨r2, s3, h1, h⟩ := hq
  refine sw_vi (rest := []) m_good X (cX9_hl_m h1) calX9_hl k_898 hP hD hS 0 9 rfl rfl rfl ⟨rfl, rfl⟩ rfl hl.1 rfl (Nat.le_of_ble_eq_true rfl) dX9_addPair_12 (fun H locs hP hD hS => ?_)
  refine lv_istore_n (lv' := [(2, .int r2), (0, .ref (ad 0)), (1, .int p1)]) hx hb dX9_addPair_15 rfl hl (by decide) rfl (fun ls hl => ?_)
  refine lv_aload_n hx hb dX9_addPair_16 rfl (lv_at hl 1 rfl) ?_
  refine lv_iload_n hx hb dX9_addPair_17 rfl (lv_at hl 2 rfl) ?_
  have hq := bd2_some h; clear h; obtain ⟨r5, s6, h4, h⟩ := hq
  refine sw_vi (rest := []) m_good X (cX9_pair_m h4) calX9_pair k_902 hP hD hS 0 9 rfl rfl rfl ⟨rfl, rfl⟩ rfl hl.1 rfl (Nat.le_of_ble_eq_true rfl) dX9_addPair_18 (fun H locs hP hD hS => ?_)
  refine lv_istore_n (lv' := [(3, .int r5), (2, .int r2), (0, .ref (ad 0)), (1, .int p1)]) hx hb dX9_addPair_21 rfl hl (by decide) rfl (fun ls hl => ?_)
  refine lv_aload_n hx hb dX9_addPair_22 rfl (lv_at hl 2 rfl) ?_
  refine mg_0_2 X hP k_759 dX9_addPair_23 ?_
  refine lv_bipush (v := (6 : Int32)) hx hb dX9_addPair_26 (by decide) ?_
  refine ml_1 X hP (vin_in (i := (6 : Int32)) (n := 8) (by decide) (by decide)) dX9_addPair_28 ?_
  refine lv_sipush (v := (196 : Int32)) hx hb dX9_addPair_29 (by decide) ?_
  refine lv_iand hx hb dX9_addPair_32 ?_
  refine lv_topi (fun x7 ex7 => ?_)
  replace h := nm_use ex7 h
  refine lv_istore (lv' := [(4, .int x7), (3, .int r5), (2, .int r2), (0, .ref (ad 0)), (1, .int p1)]) hx hb dX9_addPair_33 hl (by decide) rfl (fun ls hl => ?_)
  refine lv_aload_n hx hb dX9_addPair_35 rfl (lv_at hl 3 rfl) ?_
  refine mg_0_2 X hP k_759 dX9_addPair_36 ?_
  refine lv_bipush (v := (6 : Int32)) hx hb dX9_addPair_39 (by decide) ?_
  refine lv_iload hx hb dX9_addPair_41 (lv_at hl 0 rfl) ?_
  refine lv_iload_n hx hb dX9_addPair_43 rfl (lv_at hl 2 rfl) ?_
  refine lv_sipush (v := (4095 : Int32)) hx hb dX9_addPair_44 (by decide) ?_
  refine lv_iand hx hb dX9_addPair_47 ?_
  refine lv_iload_n hx hb dX9_addPair_48 rfl (lv_at hl 1 rfl) ?_
  refine lv_sipush (v := (4095 : Int32)) hx hb dX9_addPair_49 (by decide) ?_
  refine lv_iand hx hb dX9_addPair_52 ?_
  refine lv_iadd hx hb dX9_addPair_53 ?_
  refine lv_sipush (v := (4095 : Int32)) hx hb dX9_addPair_54 (by decide) ?_
  have hq := bd_some h; clear h; obtain ⟨x10, h11, h⟩ := hq
  have K8 : ∀ (H : Heap) (locs : List Loc), va_P (dC, dI) vwCl (mW ad cI s6) H → va_D A (mW ad cI s6) → va_S A s.heap H locs → W p l e (sw_rm 2 41) s m args below meth c H locs 0 0 (MQ below (sw_Qv (dC, dI) vwCl [(cI, .int)] A (mW ad cI zs)) args s 0 0 A) (F0 m 66 ls [.int x10, .int x7, .int (6 : Int32), .ref (ad 2)]) := by
    intro H locs hP hD hS
    refine lv_ior hx hb dX9_addPair_66 ?_
    refine lv_iload_n hx hb dX9_addPair_67 rfl (lv_at hl 2 rfl) ?_
    refine lv_iload_n hx hb dX9_addPair_68 rfl (lv_at hl 1 rfl) ?_
    refine lv_iadd hx hb dX9_addPair_69 ?_
    refine lv_ldc (v := 65535) hx hb hown (hts _ (List.mem_cons_of_mem _ k_841)) dX9_addPair_70 ?_
    have hq := bd_some h; clear h; obtain ⟨x14, h15, h⟩ := hq
    have K12 : ∀ (H : Heap) (locs : List Loc), va_P (dC, dI) vwCl (mW ad cI s6) H → va_D A (mW ad cI s6) → va_S A s.heap H locs → W p l e (sw_rm 2 41) s m args below meth c H locs 0 0 (MQ below (sw_Qv (dC, dI) vwCl [(cI, .int)] A (mW ad cI zs)) args s 0 0 A) (F0 m 80 ls [.int x14, .int (x7 ||| x10), .int (6 : Int32), .ref (ad 2)]) := by
      intro H locs hP hD hS
      refine lv_ior hx hb dX9_addPair_80 ?_
      refine mb_1 X hP hD hS (vin_in (i := (6 : Int32)) (n := 8) (by decide) (by decide)) dX9_addPair_81 (fun H locs hP hD hS => ?_)
      refine lv_aload_n hx hb dX9_addPair_82 rfl (lv_at hl 3 rfl) ?_
      refine lv_iconst (v := (2 : Int32)) hx hb dX9_addPair_83 (by decide) ?_
      refine lv_iload_n hx hb dX9_addPair_84 rfl (lv_at hl 2 rfl) ?_
      refine lv_iload_n hx hb dX9_addPair_85 rfl (lv_at hl 1 rfl) ?_
      refine lv_iadd hx hb dX9_addPair_86 ?_
      have hq := bd_some h; clear h; obtain ⟨s17, h16, h⟩ := hq
      refine sw_vv (rest := []) m_good X (cX9_setPair_m h16) calX9_setPair k_890 hP hD hS 0 9 rfl rfl rfl ⟨rfl, rfl⟩ rfl hl.1 rfl (Nat.le_of_ble_eq_true rfl) dX9_addPair_87 (fun H locs hP hD hS => ?_)
      obtain rfl := Option.some.inj h
      exact sw_vret X hP hD hS dX9_addPair_90
    replace h := h15
    clear h15
    refine lv_icmp_le (tgt := 79) hx hb dX9_addPair_72 (by decide) (fun c13 => ?_) (fun c13 => ?_)
    · replace h := if_yes h c13
      refine lv_iconst (v := (0 : Int32)) hx hb dX9_addPair_79 (by decide) ?_
      obtain rfl := Option.some.inj h
      exact K12 _ _ hP hD hS
    · replace h := if_no h c13
      refine lv_iconst (v := (1 : Int32)) hx hb dX9_addPair_75 (by decide) ?_
      refine lv_goto (tgt := 80) hx hb dX9_addPair_76 (by decide) ?_
      obtain rfl := Option.some.inj h
      exact K12 _ _ hP hD hS
  replace h := h11
  clear h11
  refine lv_icmp_le (tgt := 65) hx hb dX9_addPair_57 (by decide) (fun c9 => ?_) (fun c9 => ?_)
  · replace h := if_yes h c9
    refine lv_iconst (v := (0 : Int32)) hx hb dX9_addPair_65 (by decide) ?_
    obtain rfl := Option.some.inj h
    exact K8 _ _ hP hD hS
  · replace h := if_no h c9
    refine lv_bipush (v := (16 : Int32)) hx hb dX9_addPair_60 (by decide) ?_
    refine lv_goto (tgt := 66) hx hb dX9_addPair_62 (by decide) ?_
    obtain rfl := Option.some.inj h
    exact K8 _ _ hP hD hS
