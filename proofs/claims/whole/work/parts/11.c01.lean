theorem dX0_oneMore_0 : decode cX0_oneMore 0 = .ok (.iload_n 1, 1) := by decide +kernel
theorem dX0_oneMore_1 : decode cX0_oneMore 1 = .ok (.iconst 1, 1) := by decide +kernel
theorem dX0_oneMore_2 : decode cX0_oneMore 2 = .ok (.iadd, 1) := by decide +kernel
theorem dX0_oneMore_3 : decode cX0_oneMore 3 = .ok (.sipush 255, 3) := by decide +kernel
theorem dX0_oneMore_6 : decode cX0_oneMore 6 = .ok (.iand, 1) := by decide +kernel
theorem dX0_oneMore_7 : decode cX0_oneMore 7 = .ok (.istore_n 2, 1) := by decide +kernel
theorem dX0_oneMore_8 : decode cX0_oneMore 8 = .ok (.iload_n 2, 1) := by decide +kernel
theorem dX0_oneMore_9 : decode cX0_oneMore 9 = .ok (.bipush 15, 2) := by decide +kernel
theorem dX0_oneMore_11 : decode cX0_oneMore 11 = .ok (.iand, 1) := by decide +kernel
theorem dX0_oneMore_12 : decode cX0_oneMore 12 = .ok (.ifCond .ne 8, 3) := by decide +kernel
theorem dX0_oneMore_15 : decode cX0_oneMore 15 = .ok (.bipush 16, 2) := by decide +kernel
theorem dX0_oneMore_17 : decode cX0_oneMore 17 = .ok (.goto 4, 3) := by decide +kernel
theorem dX0_oneMore_20 : decode cX0_oneMore 20 = .ok (.iconst 0, 1) := by decide +kernel
theorem dX0_oneMore_21 : decode cX0_oneMore 21 = .ok (.istore_n 3, 1) := by decide +kernel
theorem dX0_oneMore_22 : decode cX0_oneMore 22 = .ok (.iload_n 2, 1) := by decide +kernel
theorem dX0_oneMore_23 : decode cX0_oneMore 23 = .ok (.sipush 128, 3) := by decide +kernel
theorem dX0_oneMore_26 : decode cX0_oneMore 26 = .ok (.if_icmp .ne 7, 3) := by decide +kernel
theorem dX0_oneMore_29 : decode cX0_oneMore 29 = .ok (.iconst 4, 1) := by decide +kernel
theorem dX0_oneMore_30 : decode cX0_oneMore 30 = .ok (.goto 4, 3) := by decide +kernel
theorem dX0_oneMore_33 : decode cX0_oneMore 33 = .ok (.iconst 0, 1) := by decide +kernel
theorem dX0_oneMore_34 : decode cX0_oneMore 34 = .ok (.istore 4, 2) := by decide +kernel
theorem dX0_oneMore_36 : decode cX0_oneMore 36 = .ok (.aload_n 0, 1) := by decide +kernel
theorem dX0_oneMore_37 : decode cX0_oneMore 37 = .ok (.getfield 7, 3) := by decide +kernel
theorem dX0_oneMore_40 : decode cX0_oneMore 40 = .ok (.aload_n 0, 1) := by decide +kernel
theorem dX0_oneMore_41 : decode cX0_oneMore 41 = .ok (.getfield 7, 3) := by decide +kernel
theorem dX0_oneMore_44 : decode cX0_oneMore 44 = .ok (.invokevirtual 19, 3) := by decide +kernel
theorem dX0_oneMore_47 : decode cX0_oneMore 47 = .ok (.iconst 1, 1) := by decide +kernel
theorem dX0_oneMore_48 : decode cX0_oneMore 48 = .ok (.iand, 1) := by decide +kernel
theorem dX0_oneMore_49 : decode cX0_oneMore 49 = .ok (.iload_n 2, 1) := by decide +kernel
theorem dX0_oneMore_50 : decode cX0_oneMore 50 = .ok (.invokestatic 37, 3) := by decide +kernel
theorem dX0_oneMore_53 : decode cX0_oneMore 53 = .ok (.ior, 1) := by decide +kernel
theorem dX0_oneMore_54 : decode cX0_oneMore 54 = .ok (.iload_n 3, 1) := by decide +kernel
theorem dX0_oneMore_55 : decode cX0_oneMore 55 = .ok (.ior, 1) := by decide +kernel
theorem dX0_oneMore_56 : decode cX0_oneMore 56 = .ok (.iload 4, 2) := by decide +kernel
theorem dX0_oneMore_58 : decode cX0_oneMore 58 = .ok (.ior, 1) := by decide +kernel
theorem dX0_oneMore_59 : decode cX0_oneMore 59 = .ok (.invokevirtual 40, 3) := by decide +kernel
theorem dX0_oneMore_62 : decode cX0_oneMore 62 = .ok (.iload_n 2, 1) := by decide +kernel
theorem dX0_oneMore_63 : decode cX0_oneMore 63 = .ok (.ireturn, 1) := by decide +kernel
def fX0_oneMore (p1 : Int32) (s0 : zS) : Option (Int32 × zS) := nm ((p1 + (1 : Int32)) &&& (255 : Int32)) fun x1 => bd (if (x1 &&& (15 : Int32)) = (0 : Int32) then (some (16 : Int32)) else (some (0 : Int32))) fun x4 => bd (if x1 = (128 : Int32) then (some (4 : Int32)) else (some (0 : Int32))) fun x8 => bd2 (fX6_flags  s0) fun r11 s12 => bd (fX0_signAndZero x1) fun r14 => bd (fX6_loadFlags ((((r11 &&& (1 : Int32)) ||| r14) ||| x4) ||| x8) s12) fun s16 => some (x1, s16)
set_option maxHeartbeats 4000000 in
set_option maxRecDepth 100000 in
theorem cX0_oneMore_m {l : Launch} {dC : Nat → ClassId} {dI : Nat → Nat → Nat} {ad : Nat → Nat} {cI : ClassId} {p1 : Int32} {s0 : zS} {zr : Int32} {zs : zS} (h : fX0_oneMore p1 s0 = some (zr, zs)) : sw_Mi l yX0_oneMore (sw_ws yX0_oneMore cX0_oneMore 5 (some .int)) (sw_rm 1 21) (dC, dI) vwCl [(cI, .int)] cF [.ref (ad 6), .int p1] (cW ad cI s0) (cW ad cI zs) zr := by
  intro sz
  refine sw_of (cc := cX0_oneMore) (maxL := 5) (ret := (some .int)) (by decide) rfl (Nat.le_of_ble_eq_true rfl) ?_
  intro p e s m args below meth c A ls hAe hsz X _ hP hD hS hl
  rw [hAe]
  have hx := X.1.1
  have hb := X.1.2.1
  have hown := X.1.2.2.2.1
  have hts := X.1.2.2.2.2
  replace hl : lv_has ls 5 [(0, .ref (ad 6)), (1, .int p1)] := hl
  unfold fX0_oneMore at h
  refine lv_iload_n hx hb dX0_oneMore_0 rfl (lv_at hl 1 rfl) ?_
  refine lv_iconst (v := (1 : Int32)) hx hb dX0_oneMore_1 (by decide) ?_
  refine lv_iadd hx hb dX0_oneMore_2 ?_
  refine lv_sipush (v := (255 : Int32)) hx hb dX0_oneMore_3 (by decide) ?_
  refine lv_iand hx hb dX0_oneMore_6 ?_
  refine lv_topi (fun x1 ex1 => ?_)
  replace h := nm_use ex1 h
  refine lv_istore_n (lv' := [(2, .int x1), (0, .ref (ad 6)), (1, .int p1)]) hx hb dX0_oneMore_7 rfl hl (by decide) rfl (fun ls hl => ?_)
  refine lv_iload_n hx hb dX0_oneMore_8 rfl (lv_at hl 0 rfl) ?_
  refine lv_bipush (v := (15 : Int32)) hx hb dX0_oneMore_9 (by decide) ?_
  refine lv_iand hx hb dX0_oneMore_11 ?_
  have hq := bd_some h; clear h; obtain ⟨x4, h5, h⟩ := hq
  have K2 : ∀ (H : Heap) (locs : List Loc), va_P (dC, dI) vwCl (cW ad cI s0) H → va_D A (cW ad cI s0) → va_S A s.heap H locs → W p l e (sw_rm 1 21) s m args below meth c H locs 0 0 (MQ below (sw_Qi (dC, dI) vwCl [(cI, .int)] A (cW ad cI zs) zr) args s 0 0 A) (F0 m 21 ls [.int x4]) := by
    intro H locs hP hD hS
    refine lv_istore_n (lv' := [(3, .int x4), (2, .int x1), (0, .ref (ad 6)), (1, .int p1)]) hx hb dX0_oneMore_21 rfl hl (by decide) rfl (fun ls hl => ?_)
    refine lv_iload_n hx hb dX0_oneMore_22 rfl (lv_at hl 1 rfl) ?_
    refine lv_sipush (v := (128 : Int32)) hx hb dX0_oneMore_23 (by decide) ?_
    have hq := bd_some h; clear h; obtain ⟨x8, h9, h⟩ := hq
    have K6 : ∀ (H : Heap) (locs : List Loc), va_P (dC, dI) vwCl (cW ad cI s0) H → va_D A (cW ad cI s0) → va_S A s.heap H locs → W p l e (sw_rm 1 21) s m args below meth c H locs 0 0 (MQ below (sw_Qi (dC, dI) vwCl [(cI, .int)] A (cW ad cI zs) zr) args s 0 0 A) (F0 m 34 ls [.int x8]) := by
      intro H locs hP hD hS
      refine lv_istore (lv' := [(4, .int x8), (3, .int x4), (2, .int x1), (0, .ref (ad 6)), (1, .int p1)]) hx hb dX0_oneMore_34 hl (by decide) rfl (fun ls hl => ?_)
      refine lv_aload_n hx hb dX0_oneMore_36 rfl (lv_at hl 3 rfl) ?_
      refine cg_6_0 X hP k_122 dX0_oneMore_37 ?_
      refine lv_aload_n hx hb dX0_oneMore_40 rfl (lv_at hl 3 rfl) ?_
      refine cg_6_0 X hP k_122 dX0_oneMore_41 ?_
      have hq := bd2_some h; clear h; obtain ⟨r11, s12, h10, h⟩ := hq
      refine sw_vi (rest := [.ref (ad 4)]) c_good X (cX6_flags_m h10) calX6_flags k_501 hP hD hS 4 6 rfl rfl rfl ⟨rfl, rfl⟩ rfl hl.1 rfl (Nat.le_of_ble_eq_true rfl) dX0_oneMore_44 (fun H locs hP hD hS => ?_)
      refine lv_iconst (v := (1 : Int32)) hx hb dX0_oneMore_47 (by decide) ?_
      refine lv_iand hx hb dX0_oneMore_48 ?_
      refine lv_iload_n hx hb dX0_oneMore_49 rfl (lv_at hl 2 rfl) ?_
      have hq := bd_some h; clear h; obtain ⟨r14, h13, h⟩ := hq
      refine sw_si (rest := [.int (r11 &&& (1 : Int32)), .ref (ad 4)]) c_good X (cX0_signAndZero_m h13) calX0_signAndZero k_548 hP hD hS ⟨rfl, rfl⟩ rfl hl.1 rfl (Nat.le_of_ble_eq_true rfl) dX0_oneMore_50 (fun H locs hP hD hS => ?_)
      refine lv_ior hx hb dX0_oneMore_53 ?_
      refine lv_iload_n hx hb dX0_oneMore_54 rfl (lv_at hl 1 rfl) ?_
      refine lv_ior hx hb dX0_oneMore_55 ?_
      refine lv_iload hx hb dX0_oneMore_56 (lv_at hl 0 rfl) ?_
      refine lv_ior hx hb dX0_oneMore_58 ?_
      have hq := bd_some h; clear h; obtain ⟨s16, h15, h⟩ := hq
      refine sw_vv (rest := []) c_good X (cX6_loadFlags_m h15) calX6_loadFlags k_502 hP hD hS 4 6 rfl rfl rfl ⟨rfl, rfl⟩ rfl hl.1 rfl (Nat.le_of_ble_eq_true rfl) dX0_oneMore_59 (fun H locs hP hD hS => ?_)
      refine lv_iload_n hx hb dX0_oneMore_62 rfl (lv_at hl 2 rfl) ?_
      obtain ⟨rfl, rfl⟩ := Prod.mk.inj (Option.some.inj h)
      exact sw_iret X hP hD hS dX0_oneMore_63
    replace h := h9
    clear h9
    refine lv_icmp_ne (tgt := 33) hx hb dX0_oneMore_26 (by decide) (fun c7 => ?_) (fun c7 => ?_)
    · replace h := if_no h c7
      refine lv_iconst (v := (0 : Int32)) hx hb dX0_oneMore_33 (by decide) ?_
      obtain rfl := Option.some.inj h
      exact K6 _ _ hP hD hS
    · replace h := if_yes h c7
      refine lv_iconst (v := (4 : Int32)) hx hb dX0_oneMore_29 (by decide) ?_
      refine lv_goto (tgt := 34) hx hb dX0_oneMore_30 (by decide) ?_
      obtain rfl := Option.some.inj h
      exact K6 _ _ hP hD hS
  replace h := h5
  clear h5
  refine lv_if_ne (tgt := 20) hx hb dX0_oneMore_12 (by decide) (fun c3 => ?_) (fun c3 => ?_)
  · replace h := if_no h c3
    refine lv_iconst (v := (0 : Int32)) hx hb dX0_oneMore_20 (by decide) ?_
    obtain rfl := Option.some.inj h
    exact K2 _ _ hP hD hS
  · replace h := if_yes h c3
    refine lv_bipush (v := (16 : Int32)) hx hb dX0_oneMore_15 (by decide) ?_
    refine lv_goto (tgt := 21) hx hb dX0_oneMore_17 (by decide) ?_
    obtain rfl := Option.some.inj h
    exact K2 _ _ hP hD hS
theorem dX0_oneLess_0 : decode cX0_oneLess 0 = .ok (.iload_n 1, 1) := by decide +kernel
theorem dX0_oneLess_1 : decode cX0_oneLess 1 = .ok (.iconst 1, 1) := by decide +kernel
theorem dX0_oneLess_2 : decode cX0_oneLess 2 = .ok (.isub, 1) := by decide +kernel
theorem dX0_oneLess_3 : decode cX0_oneLess 3 = .ok (.sipush 255, 3) := by decide +kernel
theorem dX0_oneLess_6 : decode cX0_oneLess 6 = .ok (.iand, 1) := by decide +kernel
theorem dX0_oneLess_7 : decode cX0_oneLess 7 = .ok (.istore_n 2, 1) := by decide +kernel
theorem dX0_oneLess_8 : decode cX0_oneLess 8 = .ok (.iload_n 2, 1) := by decide +kernel
theorem dX0_oneLess_9 : decode cX0_oneLess 9 = .ok (.bipush 15, 2) := by decide +kernel
theorem dX0_oneLess_11 : decode cX0_oneLess 11 = .ok (.iand, 1) := by decide +kernel
theorem dX0_oneLess_12 : decode cX0_oneLess 12 = .ok (.bipush 15, 2) := by decide +kernel
theorem dX0_oneLess_14 : decode cX0_oneLess 14 = .ok (.if_icmp .ne 8, 3) := by decide +kernel
theorem dX0_oneLess_17 : decode cX0_oneLess 17 = .ok (.bipush 16, 2) := by decide +kernel
theorem dX0_oneLess_19 : decode cX0_oneLess 19 = .ok (.goto 4, 3) := by decide +kernel
theorem dX0_oneLess_22 : decode cX0_oneLess 22 = .ok (.iconst 0, 1) := by decide +kernel
theorem dX0_oneLess_23 : decode cX0_oneLess 23 = .ok (.istore_n 3, 1) := by decide +kernel
theorem dX0_oneLess_24 : decode cX0_oneLess 24 = .ok (.iload_n 2, 1) := by decide +kernel
theorem dX0_oneLess_25 : decode cX0_oneLess 25 = .ok (.bipush 127, 2) := by decide +kernel
theorem dX0_oneLess_27 : decode cX0_oneLess 27 = .ok (.if_icmp .ne 7, 3) := by decide +kernel
theorem dX0_oneLess_30 : decode cX0_oneLess 30 = .ok (.iconst 4, 1) := by decide +kernel
theorem dX0_oneLess_31 : decode cX0_oneLess 31 = .ok (.goto 4, 3) := by decide +kernel
theorem dX0_oneLess_34 : decode cX0_oneLess 34 = .ok (.iconst 0, 1) := by decide +kernel
theorem dX0_oneLess_35 : decode cX0_oneLess 35 = .ok (.istore 4, 2) := by decide +kernel
theorem dX0_oneLess_37 : decode cX0_oneLess 37 = .ok (.aload_n 0, 1) := by decide +kernel
theorem dX0_oneLess_38 : decode cX0_oneLess 38 = .ok (.getfield 7, 3) := by decide +kernel
theorem dX0_oneLess_41 : decode cX0_oneLess 41 = .ok (.aload_n 0, 1) := by decide +kernel
theorem dX0_oneLess_42 : decode cX0_oneLess 42 = .ok (.getfield 7, 3) := by decide +kernel
theorem dX0_oneLess_45 : decode cX0_oneLess 45 = .ok (.invokevirtual 19, 3) := by decide +kernel
theorem dX0_oneLess_48 : decode cX0_oneLess 48 = .ok (.iconst 1, 1) := by decide +kernel
theorem dX0_oneLess_49 : decode cX0_oneLess 49 = .ok (.iand, 1) := by decide +kernel
theorem dX0_oneLess_50 : decode cX0_oneLess 50 = .ok (.iload_n 2, 1) := by decide +kernel
theorem dX0_oneLess_51 : decode cX0_oneLess 51 = .ok (.invokestatic 37, 3) := by decide +kernel
theorem dX0_oneLess_54 : decode cX0_oneLess 54 = .ok (.ior, 1) := by decide +kernel
theorem dX0_oneLess_55 : decode cX0_oneLess 55 = .ok (.iload_n 3, 1) := by decide +kernel
theorem dX0_oneLess_56 : decode cX0_oneLess 56 = .ok (.ior, 1) := by decide +kernel
theorem dX0_oneLess_57 : decode cX0_oneLess 57 = .ok (.iload 4, 2) := by decide +kernel
theorem dX0_oneLess_59 : decode cX0_oneLess 59 = .ok (.ior, 1) := by decide +kernel
theorem dX0_oneLess_60 : decode cX0_oneLess 60 = .ok (.iconst 2, 1) := by decide +kernel
theorem dX0_oneLess_61 : decode cX0_oneLess 61 = .ok (.ior, 1) := by decide +kernel
theorem dX0_oneLess_62 : decode cX0_oneLess 62 = .ok (.invokevirtual 40, 3) := by decide +kernel
theorem dX0_oneLess_65 : decode cX0_oneLess 65 = .ok (.iload_n 2, 1) := by decide +kernel
theorem dX0_oneLess_66 : decode cX0_oneLess 66 = .ok (.ireturn, 1) := by decide +kernel
def fX0_oneLess (p1 : Int32) (s0 : zS) : Option (Int32 × zS) := nm ((p1 - (1 : Int32)) &&& (255 : Int32)) fun x1 => bd (if (x1 &&& (15 : Int32)) = (15 : Int32) then (some (16 : Int32)) else (some (0 : Int32))) fun x4 => bd (if x1 = (127 : Int32) then (some (4 : Int32)) else (some (0 : Int32))) fun x8 => bd2 (fX6_flags  s0) fun r11 s12 => bd (fX0_signAndZero x1) fun r14 => bd (fX6_loadFlags (((((r11 &&& (1 : Int32)) ||| r14) ||| x4) ||| x8) ||| (2 : Int32)) s12) fun s16 => some (x1, s16)
set_option maxHeartbeats 4000000 in
set_option maxRecDepth 100000 in
theorem cX0_oneLess_m {l : Launch} {dC : Nat → ClassId} {dI : Nat → Nat → Nat} {ad : Nat → Nat} {cI : ClassId} {p1 : Int32} {s0 : zS} {zr : Int32} {zs : zS} (h : fX0_oneLess p1 s0 = some (zr, zs)) : sw_Mi l yX0_oneLess (sw_ws yX0_oneLess cX0_oneLess 5 (some .int)) (sw_rm 1 21) (dC, dI) vwCl [(cI, .int)] cF [.ref (ad 6), .int p1] (cW ad cI s0) (cW ad cI zs) zr := by
  intro sz
  refine sw_of (cc := cX0_oneLess) (maxL := 5) (ret := (some .int)) (by decide) rfl (Nat.le_of_ble_eq_true rfl) ?_
  intro p e s m args below meth c A ls hAe hsz X _ hP hD hS hl
  rw [hAe]
  have hx := X.1.1
  have hb := X.1.2.1
  have hown := X.1.2.2.2.1
  have hts := X.1.2.2.2.2
  replace hl : lv_has ls 5 [(0, .ref (ad 6)), (1, .int p1)] := hl
  unfold fX0_oneLess at h
  refine lv_iload_n hx hb dX0_oneLess_0 rfl (lv_at hl 1 rfl) ?_
  refine lv_iconst (v := (1 : Int32)) hx hb dX0_oneLess_1 (by decide) ?_
  refine lv_isub hx hb dX0_oneLess_2 ?_
  refine lv_sipush (v := (255 : Int32)) hx hb dX0_oneLess_3 (by decide) ?_
  refine lv_iand hx hb dX0_oneLess_6 ?_
  refine lv_topi (fun x1 ex1 => ?_)
  replace h := nm_use ex1 h
  refine lv_istore_n (lv' := [(2, .int x1), (0, .ref (ad 6)), (1, .int p1)]) hx hb dX0_oneLess_7 rfl hl (by decide) rfl (fun ls hl => ?_)
  refine lv_iload_n hx hb dX0_oneLess_8 rfl (lv_at hl 0 rfl) ?_
  refine lv_bipush (v := (15 : Int32)) hx hb dX0_oneLess_9 (by decide) ?_
  refine lv_iand hx hb dX0_oneLess_11 ?_
  refine lv_bipush (v := (15 : Int32)) hx hb dX0_oneLess_12 (by decide) ?_
  have hq := bd_some h; clear h; obtain ⟨x4, h5, h⟩ := hq
  have K2 : ∀ (H : Heap) (locs : List Loc), va_P (dC, dI) vwCl (cW ad cI s0) H → va_D A (cW ad cI s0) → va_S A s.heap H locs → W p l e (sw_rm 1 21) s m args below meth c H locs 0 0 (MQ below (sw_Qi (dC, dI) vwCl [(cI, .int)] A (cW ad cI zs) zr) args s 0 0 A) (F0 m 23 ls [.int x4]) := by
    intro H locs hP hD hS
    refine lv_istore_n (lv' := [(3, .int x4), (2, .int x1), (0, .ref (ad 6)), (1, .int p1)]) hx hb dX0_oneLess_23 rfl hl (by decide) rfl (fun ls hl => ?_)
    refine lv_iload_n hx hb dX0_oneLess_24 rfl (lv_at hl 1 rfl) ?_
    refine lv_bipush (v := (127 : Int32)) hx hb dX0_oneLess_25 (by decide) ?_
    have hq := bd_some h; clear h; obtain ⟨x8, h9, h⟩ := hq
    have K6 : ∀ (H : Heap) (locs : List Loc), va_P (dC, dI) vwCl (cW ad cI s0) H → va_D A (cW ad cI s0) → va_S A s.heap H locs → W p l e (sw_rm 1 21) s m args below meth c H locs 0 0 (MQ below (sw_Qi (dC, dI) vwCl [(cI, .int)] A (cW ad cI zs) zr) args s 0 0 A) (F0 m 35 ls [.int x8]) := by
      intro H locs hP hD hS
      refine lv_istore (lv' := [(4, .int x8), (3, .int x4), (2, .int x1), (0, .ref (ad 6)), (1, .int p1)]) hx hb dX0_oneLess_35 hl (by decide) rfl (fun ls hl => ?_)
      refine lv_aload_n hx hb dX0_oneLess_37 rfl (lv_at hl 3 rfl) ?_
      refine cg_6_0 X hP k_122 dX0_oneLess_38 ?_
      refine lv_aload_n hx hb dX0_oneLess_41 rfl (lv_at hl 3 rfl) ?_
      refine cg_6_0 X hP k_122 dX0_oneLess_42 ?_
      have hq := bd2_some h; clear h; obtain ⟨r11, s12, h10, h⟩ := hq
      refine sw_vi (rest := [.ref (ad 4)]) c_good X (cX6_flags_m h10) calX6_flags k_501 hP hD hS 4 6 rfl rfl rfl ⟨rfl, rfl⟩ rfl hl.1 rfl (Nat.le_of_ble_eq_true rfl) dX0_oneLess_45 (fun H locs hP hD hS => ?_)
      refine lv_iconst (v := (1 : Int32)) hx hb dX0_oneLess_48 (by decide) ?_
      refine lv_iand hx hb dX0_oneLess_49 ?_
      refine lv_iload_n hx hb dX0_oneLess_50 rfl (lv_at hl 2 rfl) ?_
      have hq := bd_some h; clear h; obtain ⟨r14, h13, h⟩ := hq
      refine sw_si (rest := [.int (r11 &&& (1 : Int32)), .ref (ad 4)]) c_good X (cX0_signAndZero_m h13) calX0_signAndZero k_548 hP hD hS ⟨rfl, rfl⟩ rfl hl.1 rfl (Nat.le_of_ble_eq_true rfl) dX0_oneLess_51 (fun H locs hP hD hS => ?_)
      refine lv_ior hx hb dX0_oneLess_54 ?_
      refine lv_iload_n hx hb dX0_oneLess_55 rfl (lv_at hl 1 rfl) ?_
      refine lv_ior hx hb dX0_oneLess_56 ?_
      refine lv_iload hx hb dX0_oneLess_57 (lv_at hl 0 rfl) ?_
      refine lv_ior hx hb dX0_oneLess_59 ?_
      refine lv_iconst (v := (2 : Int32)) hx hb dX0_oneLess_60 (by decide) ?_
      refine lv_ior hx hb dX0_oneLess_61 ?_
      have hq := bd_some h; clear h; obtain ⟨s16, h15, h⟩ := hq
      refine sw_vv (rest := []) c_good X (cX6_loadFlags_m h15) calX6_loadFlags k_502 hP hD hS 4 6 rfl rfl rfl ⟨rfl, rfl⟩ rfl hl.1 rfl (Nat.le_of_ble_eq_true rfl) dX0_oneLess_62 (fun H locs hP hD hS => ?_)
      refine lv_iload_n hx hb dX0_oneLess_65 rfl (lv_at hl 2 rfl) ?_
      obtain ⟨rfl, rfl⟩ := Prod.mk.inj (Option.some.inj h)
      exact sw_iret X hP hD hS dX0_oneLess_66
    replace h := h9
    clear h9
    refine lv_icmp_ne (tgt := 34) hx hb dX0_oneLess_27 (by decide) (fun c7 => ?_) (fun c7 => ?_)
    · replace h := if_no h c7
      refine lv_iconst (v := (0 : Int32)) hx hb dX0_oneLess_34 (by decide) ?_
      obtain rfl := Option.some.inj h
      exact K6 _ _ hP hD hS
    · replace h := if_yes h c7
      refine lv_iconst (v := (4 : Int32)) hx hb dX0_oneLess_30 (by decide) ?_
      refine lv_goto (tgt := 35) hx hb dX0_oneLess_31 (by decide) ?_
      obtain rfl := Option.some.inj h
      exact K6 _ _ hP hD hS
  replace h := h5
  clear h5
  refine lv_icmp_ne (tgt := 22) hx hb dX0_oneLess_14 (by decide) (fun c3 => ?_) (fun c3 => ?_)
  · replace h := if_no h c3
    refine lv_iconst (v := (0 : Int32)) hx hb dX0_oneLess_22 (by decide) ?_
    obtain rfl := Option.some.inj h
    exact K2 _ _ hP hD hS
  · replace h := if_yes h c3
    refine lv_bipush (v := (16 : Int32)) hx hb dX0_oneLess_17 (by decide) ?_
    refine lv_goto (tgt := 23) hx hb dX0_oneLess_19 (by decide) ?_
    obtain rfl := Option.some.inj h
    exact K2 _ _ hP hD hS
theorem dX6_pair_0 : decode cX6_pair 0 = .ok (.aload_n 0, 1) := by decide +kernel
theorem dX6_pair_1 : decode cX6_pair 1 = .ok (.getfield 9, 3) := by decide +kernel
theorem dX6_pair_4 : decode cX6_pair 4 = .ok (.iload_n 1, 1) := by decide +kernel
theorem dX6_pair_5 : decode cX6_pair 5 = .ok (.iaload, 1) := by decide +kernel
theorem dX6_pair_6 : decode cX6_pair 6 = .ok (.ireturn, 1) := by decide +kernel
def fX6_pair (p1 : Int32) (s0 : zS) : Option (Int32 × zS) := gd (0 ≤ p1 ∧ p1 < 10) <| some ((s0.2 4 (p1.toNatClampNeg)), s0)
set_option maxHeartbeats 4000000 in
set_option maxRecDepth 100000 in
theorem cX6_pair_m {l : Launch} {dC : Nat → ClassId} {dI : Nat → Nat → Nat} {ad : Nat → Nat} {cI : ClassId} {p1 : Int32} {s0 : zS} {zr : Int32} {zs : zS} (h : fX6_pair p1 s0 = some (zr, zs)) : sw_Mi l yX6_pair (sw_ws yX6_pair cX6_pair 2 (some .int)) (sw_rm 0 0) (dC, dI) vwCl [(cI, .int)] cF [.ref (ad 4), .int p1] (cW ad cI s0) (cW ad cI zs) zr := by
  intro sz
  refine sw_of (cc := cX6_pair) (maxL := 2) (ret := (some .int)) (by decide) rfl (Nat.le_of_ble_eq_true rfl) ?_
  intro p e s m args below meth c A ls hAe hsz X _ hP hD hS hl
  rw [hAe]
  have hx := X.1.1
  have hb := X.1.2.1
  have hown := X.1.2.2.2.1
  have hts := X.1.2.2.2.2
  replace hl : lv_has ls 2 [(0, .ref (ad 4)), (1, .int p1)] := hl
  unfold fX6_pair at h
  refine lv_aload_n hx hb dX6_pair_0 rfl (lv_at hl 0 rfl) ?_
  refine cg_4_0 X hP k_106 dX6_pair_1 ?_
  refine lv_iload_n hx hb dX6_pair_4 rfl (lv_at hl 1 rfl) ?_
  have hq := gd_some h; clear h; obtain ⟨c1, h⟩ := hq
  refine cl_4 X hP (vin_in c1 (by decide)) dX6_pair_5 ?_
  obtain ⟨rfl, rfl⟩ := Prod.mk.inj (Option.some.inj h)
  exact sw_iret X hP hD hS dX6_pair_6
theorem dX6_load_0 : decode cX6_load 0 = .ok (.iload_n 1, 1) := by decide +kernel
theorem dX6_load_1 : decode cX6_load 1 = .ok (.ifCond .eq 8, 3) := by decide +kernel
theorem dX6_load_4 : decode cX6_load 4 = .ok (.iload_n 1, 1) := by decide +kernel
theorem dX6_load_5 : decode cX6_load 5 = .ok (.iconst 4, 1) := by decide +kernel
theorem dX6_load_6 : decode cX6_load 6 = .ok (.if_icmp .ne 7, 3) := by decide +kernel
theorem dX6_load_9 : decode cX6_load 9 = .ok (.iconst 1, 1) := by decide +kernel
theorem dX6_load_10 : decode cX6_load 10 = .ok (.goto 4, 3) := by decide +kernel
theorem dX6_load_13 : decode cX6_load 13 = .ok (.iconst 0, 1) := by decide +kernel
theorem dX6_load_14 : decode cX6_load 14 = .ok (.istore_n 3, 1) := by decide +kernel
theorem dX6_load_15 : decode cX6_load 15 = .ok (.aload_n 0, 1) := by decide +kernel
theorem dX6_load_16 : decode cX6_load 16 = .ok (.getfield 9, 3) := by decide +kernel
theorem dX6_load_19 : decode cX6_load 19 = .ok (.iload_n 1, 1) := by decide +kernel
theorem dX6_load_20 : decode cX6_load 20 = .ok (.iload_n 2, 1) := by decide +kernel
theorem dX6_load_21 : decode cX6_load 21 = .ok (.iload_n 3, 1) := by decide +kernel
theorem dX6_load_22 : decode cX6_load 22 = .ok (.ifCond .eq 8, 3) := by decide +kernel
theorem dX6_load_25 : decode cX6_load 25 = .ok (.ldc 13, 2) := by decide +kernel
theorem dX6_load_27 : decode cX6_load 27 = .ok (.goto 5, 3) := by decide +kernel
theorem dX6_load_30 : decode cX6_load 30 = .ok (.ldc 14, 2) := by decide +kernel
theorem dX6_load_32 : decode cX6_load 32 = .ok (.iand, 1) := by decide +kernel
theorem dX6_load_33 : decode cX6_load 33 = .ok (.iastore, 1) := by decide +kernel
theorem dX6_load_34 : decode cX6_load 34 = .ok (.return_, 1) := by decide +kernel
def fX6_load (p1 p2 : Int32) (s0 : zS) : Option (zS) := bd (if p1 = (0 : Int32) then (some (1 : Int32)) else (bd (if p1 = (4 : Int32) then (some (1 : Int32)) else (some (0 : Int32))) fun x5 => some x5)) fun x7 => bd (if x7 = (0 : Int32) then (some (65535 : Int32)) else (some (65495 : Int32))) fun x11 => gd (0 ≤ p1 ∧ p1 < 10) <| some (st2 s0 4 (p1.toNatClampNeg) (p2 &&& x11))
set_option maxHeartbeats 4000000 in
set_option maxRecDepth 100000 in
theorem cX6_load_m {l : Launch} {dC : Nat → ClassId} {dI : Nat → Nat → Nat} {ad : Nat → Nat} {cI : ClassId} {p1 p2 : Int32} {s0 : zS} {zs : zS} (h : fX6_load p1 p2 s0 = some zs) : sw_Mv l yX6_load (sw_ws yX6_load cX6_load 4 none) (sw_rm 0 0) (dC, dI) vwCl [(cI, .int)] cF [.ref (ad 4), .int p1, .int p2] (cW ad cI s0) (cW ad cI zs) := by
  intro sz
  refine sw_of (cc := cX6_load) (maxL := 4) (ret := none) (by decide) rfl (Nat.le_of_ble_eq_true rfl) ?_
  intro p e s m args below meth c A ls hAe hsz X _ hP hD hS hl
  rw [hAe]
  have hx := X.1.1
  have hb := X.1.2.1
  have hown := X.1.2.2.2.1
  have hts := X.1.2.2.2.2
  replace hl : lv_has ls 4 [(0, .ref (ad 4)), (1, .int p1), (2, .int p2)] := hl
  unfold fX6_load at h
  refine lv_iload_n hx hb dX6_load_0 rfl (lv_at hl 1 rfl) ?_
  have hq := bd_some h; clear h; obtain ⟨x7, h8, h⟩ := hq
  have K1 : ∀ (H : Heap) (locs : List Loc), va_P (dC, dI) vwCl (cW ad cI s0) H → va_D A (cW ad cI s0) → va_S A s.heap H locs → W p l e (sw_rm 0 0) s m args below meth c H locs 0 0 (MQ below (sw_Qv (dC, dI) vwCl [(cI, .int)] A (cW ad cI zs)) args s 0 0 A) (F0 m 14 ls [.int x7]) := by
    intro H locs hP hD hS
    refine lv_istore_n (lv' := [(3, .int x7), (0, .ref (ad 4)), (1, .int p1), (2, .int p2)]) hx hb dX6_load_14 rfl hl (by decide) rfl (fun ls hl => ?_)
    refine lv_aload_n hx hb dX6_load_15 rfl (lv_at hl 1 rfl) ?_
    refine cg_4_0 X hP k_106 dX6_load_16 ?_
    refine lv_iload_n hx hb dX6_load_19 rfl (lv_at hl 2 rfl) ?_
    refine lv_iload_n hx hb dX6_load_20 rfl (lv_at hl 3 rfl) ?_
    refine lv_iload_n hx hb dX6_load_21 rfl (lv_at hl 0 rfl) ?_
    have hq := bd_some h; clear h; obtain ⟨x11, h12, h⟩ := hq
    have K9 : ∀ (H : Heap) (locs : List Loc), va_P (dC, dI) vwCl (cW ad cI s0) H → va_D A (cW ad cI s0) → va_S A s.heap H locs → W p l e (sw_rm 0 0) s m args below meth c H locs 0 0 (MQ below (sw_Qv (dC, dI) vwCl [(cI, .int)] A (cW ad cI zs)) args s 0 0 A) (F0 m 32 ls [.int x11, .int p2, .int p1, .ref (ad 13)]) := by
      intro H locs hP hD hS
      refine lv_iand hx hb dX6_load_32 ?_
      have hq := gd_some h; clear h; obtain ⟨c13, h⟩ := hq
      refine cb_4 X hP hD hS (vin_in c13 (by decide)) dX6_load_33 (fun H locs hP hD hS => ?_)
      obtain rfl := Option.some.inj h
      exact sw_vret X hP hD hS dX6_load_34
    replace h := h12
    clear h12
    refine lv_if_eq (tgt := 30) hx hb dX6_load_22 (by decide) (fun c10 => ?_) (fun c10 => ?_)
    · replace h := if_yes h c10
      refine lv_ldc (v := 65535) hx hb hown (hts _ (List.mem_cons_of_mem _ k_311)) dX6_load_30 ?_
      obtain rfl := Option.some.inj h
      exact K9 _ _ hP hD hS
    · replace h := if_no h c10
      refine lv_ldc (v := 65495) hx hb hown (hts _ (List.mem_cons_of_mem _ k_310)) dX6_load_25 ?_
      refine lv_goto (tgt := 32) hx hb dX6_load_27 (by decide) ?_
      obtain rfl := Option.some.inj h
      exact K9 _ _ hP hD hS
  replace h := h8
  clear h8
  refine lv_if_eq (tgt := 9) hx hb dX6_load_1 (by decide) (fun c2 => ?_) (fun c2 => ?_)
  · replace h := if_yes h c2
    refine lv_iconst (v := (1 : Int32)) hx hb dX6_load_9 (by decide) ?_
    refine lv_goto (tgt := 14) hx hb dX6_load_10 (by decide) ?_
    obtain rfl := Option.some.inj h
    exact K1 _ _ hP hD hS
  · replace h := if_no h c2
    refine lv_iload_n hx hb dX6_load_4 rfl (lv_at hl 1 rfl) ?_
    refine lv_iconst (v := (4 : Int32)) hx hb dX6_load_5 (by decide) ?_
    have hq := bd_some h; clear h; obtain ⟨x5, h6, h⟩ := hq
    have K3 : ∀ (H : Heap) (locs : List Loc), va_P (dC, dI) vwCl (cW ad cI s0) H → va_D A (cW ad cI s0) → va_S A s.heap H locs → W p l e (sw_rm 0 0) s m args below meth c H locs 0 0 (MQ below (sw_Qv (dC, dI) vwCl [(cI, .int)] A (cW ad cI zs)) args s 0 0 A) (F0 m 14 ls [.int x5]) := by
      intro H locs hP hD hS
      obtain rfl := Option.some.inj h
      exact K1 _ _ hP hD hS
    replace h := h6
    clear h6
    refine lv_icmp_ne (tgt := 13) hx hb dX6_load_6 (by decide) (fun c4 => ?_) (fun c4 => ?_)
    · replace h := if_no h c4
      refine lv_iconst (v := (0 : Int32)) hx hb dX6_load_13 (by decide) ?_
      obtain rfl := Option.some.inj h
      exact K3 _ _ hP hD hS
    · replace h := if_yes h c4
      refine lv_iconst (v := (1 : Int32)) hx hb dX6_load_9 (by decide) ?_
      refine lv_goto (tgt := 14) hx hb dX6_load_10 (by decide) ?_
      obtain rfl := Option.some.inj h
      exact K3 _ _ hP hD hS
theorem dX0_addToHl_0 : decode cX0_addToHl 0 = .ok (.aload_n 0, 1) := by decide +kernel
theorem dX0_addToHl_1 : decode cX0_addToHl 1 = .ok (.getfield 7, 3) := by decide +kernel
theorem dX0_addToHl_4 : decode cX0_addToHl 4 = .ok (.iconst 3, 1) := by decide +kernel
theorem dX0_addToHl_5 : decode cX0_addToHl 5 = .ok (.invokevirtual 47, 3) := by decide +kernel
theorem dX0_addToHl_8 : decode cX0_addToHl 8 = .ok (.istore_n 2, 1) := by decide +kernel
theorem dX0_addToHl_9 : decode cX0_addToHl 9 = .ok (.iload_n 2, 1) := by decide +kernel
theorem dX0_addToHl_10 : decode cX0_addToHl 10 = .ok (.iload_n 1, 1) := by decide +kernel
theorem dX0_addToHl_11 : decode cX0_addToHl 11 = .ok (.iadd, 1) := by decide +kernel
theorem dX0_addToHl_12 : decode cX0_addToHl 12 = .ok (.istore_n 3, 1) := by decide +kernel
theorem dX0_addToHl_13 : decode cX0_addToHl 13 = .ok (.iload_n 2, 1) := by decide +kernel
theorem dX0_addToHl_14 : decode cX0_addToHl 14 = .ok (.iload_n 1, 1) := by decide +kernel
theorem dX0_addToHl_15 : decode cX0_addToHl 15 = .ok (.ixor, 1) := by decide +kernel
theorem dX0_addToHl_16 : decode cX0_addToHl 16 = .ok (.iload_n 3, 1) := by decide +kernel
theorem dX0_addToHl_17 : decode cX0_addToHl 17 = .ok (.ixor, 1) := by decide +kernel
theorem dX0_addToHl_18 : decode cX0_addToHl 18 = .ok (.bipush 8, 2) := by decide +kernel
theorem dX0_addToHl_20 : decode cX0_addToHl 20 = .ok (.ishr, 1) := by decide +kernel
theorem dX0_addToHl_21 : decode cX0_addToHl 21 = .ok (.bipush 16, 2) := by decide +kernel
theorem dX0_addToHl_23 : decode cX0_addToHl 23 = .ok (.iand, 1) := by decide +kernel
theorem dX0_addToHl_24 : decode cX0_addToHl 24 = .ok (.istore 4, 2) := by decide +kernel
theorem dX0_addToHl_26 : decode cX0_addToHl 26 = .ok (.aload_n 0, 1) := by decide +kernel
theorem dX0_addToHl_27 : decode cX0_addToHl 27 = .ok (.getfield 7, 3) := by decide +kernel
theorem dX0_addToHl_30 : decode cX0_addToHl 30 = .ok (.iconst 3, 1) := by decide +kernel
theorem dX0_addToHl_31 : decode cX0_addToHl 31 = .ok (.iload_n 3, 1) := by decide +kernel
theorem dX0_addToHl_32 : decode cX0_addToHl 32 = .ok (.invokevirtual 50, 3) := by decide +kernel
theorem dX0_addToHl_35 : decode cX0_addToHl 35 = .ok (.aload_n 0, 1) := by decide +kernel
theorem dX0_addToHl_36 : decode cX0_addToHl 36 = .ok (.getfield 7, 3) := by decide +kernel
theorem dX0_addToHl_39 : decode cX0_addToHl 39 = .ok (.aload_n 0, 1) := by decide +kernel
theorem dX0_addToHl_40 : decode cX0_addToHl 40 = .ok (.getfield 7, 3) := by decide +kernel
theorem dX0_addToHl_43 : decode cX0_addToHl 43 = .ok (.invokevirtual 19, 3) := by decide +kernel
theorem dX0_addToHl_46 : decode cX0_addToHl 46 = .ok (.sipush 196, 3) := by decide +kernel
theorem dX0_addToHl_49 : decode cX0_addToHl 49 = .ok (.iand, 1) := by decide +kernel
theorem dX0_addToHl_50 : decode cX0_addToHl 50 = .ok (.iload 4, 2) := by decide +kernel
theorem dX0_addToHl_52 : decode cX0_addToHl 52 = .ok (.ior, 1) := by decide +kernel
theorem dX0_addToHl_53 : decode cX0_addToHl 53 = .ok (.iload_n 3, 1) := by decide +kernel
theorem dX0_addToHl_54 : decode cX0_addToHl 54 = .ok (.bipush 16, 2) := by decide +kernel
theorem dX0_addToHl_56 : decode cX0_addToHl 56 = .ok (.ishr, 1) := by decide +kernel
theorem dX0_addToHl_57 : decode cX0_addToHl 57 = .ok (.ior, 1) := by decide +kernel
theorem dX0_addToHl_58 : decode cX0_addToHl 58 = .ok (.invokevirtual 40, 3) := by decide +kernel
theorem dX0_addToHl_61 : decode cX0_addToHl 61 = .ok (.return_, 1) := by decide +kernel
def fX0_addToHl (p1 : Int32) (s0 : zS) : Option (zS) := bd2 (fX6_pair (3 : Int32) s0) fun r2 s3 => nm (r2 + p1) fun x4 => nm ((((r2 ^^^ p1) ^^^ x4) >>> ((8 : Int32) &&& 31)) &&& (16 : Int32)) fun x5 => bd (fX6_load (3 : Int32) x4 s3) fun s7 => bd2 (fX6_flags  s7) fun r9 s10 => bd (fX6_loadFlags (((r9 &&& (196 : Int32)) ||| x5) ||| (x4 >>> ((16 : Int32) &&& 31))) s10) fun s12 => some s12
set_option maxHeartbeats 4000000 in
set_option maxRecDepth 100000 in
theorem cX0_addToHl_m {l : Launch} {dC : Nat → ClassId} {dI : Nat → Nat → Nat} {ad : Nat → Nat} {cI : ClassId} {p1 : Int32} {s0 : zS} {zs : zS} (h : fX0_addToHl p1 s0 = some zs) : sw_Mv l yX0_addToHl (sw_ws yX0_addToHl cX0_addToHl 5 none) (sw_rm 1 23) (dC, dI) vwCl [(cI, .int)] cF [.ref (ad 6), .int p1] (cW ad cI s0) (cW ad cI zs) := by
  intro sz
  refine sw_of (cc := cX0_addToHl) (maxL := 5) (ret := none) (by decide) rfl (Nat.le_of_ble_eq_true rfl) ?_
  intro p e s m args below meth c A ls hAe hsz X _ hP hD hS hl
  rw [hAe]
  have hx := X.1.1
  have hb := X.1.2.1
  have hown := X.1.2.2.2.1
  have hts := X.1.2.2.2.2
  replace hl : lv_has ls 5 [(0, .ref (ad 6)), (1, .int p1)] := hl
  unfold fX0_addToHl at h
  refine lv_aload_n hx hb dX0_addToHl_0 rfl (lv_at hl 0 rfl) ?_
  refine cg_6_0 X hP k_122 dX0_addToHl_1 ?_
  refine lv_iconst (v := (3 : Int32)) hx hb dX0_addToHl_4 (by decide) ?_
  have hq := bd2_some h; clear h; obtain ⟨r2, s3, h1, h⟩ := hq
  refine sw_vi (rest := []) c_good X (cX6_pair_m h1) calX6_pair k_499 hP hD hS 4 6 rfl rfl rfl ⟨rfl, rfl⟩ rfl hl.1 rfl (Nat.le_of_ble_eq_true rfl) dX0_addToHl_5 (fun H locs hP hD hS => ?_)
  refine lv_istore_n (lv' := [(2, .int r2), (0, .ref (ad 6)), (1, .int p1)]) hx hb dX0_addToHl_8 rfl hl (by decide) rfl (fun ls hl => ?_)
  refine lv_iload_n hx hb dX0_addToHl_9 rfl (lv_at hl 0 rfl) ?_
  refine lv_iload_n hx hb dX0_addToHl_10 rfl (lv_at hl 2 rfl) ?_
  refine lv_iadd hx hb dX0_addToHl_11 ?_
  refine lv_topi (fun x4 ex4 => ?_)
  replace h := nm_use ex4 h
  refine lv_istore_n (lv' := [(3, .int x4), (2, .int r2), (0, .ref (ad 6)), (1, .int p1)]) hx hb dX0_addToHl_12 rfl hl (by decide) rfl (fun ls hl => ?_)
  refine lv_iload_n hx hb dX0_addToHl_13 rfl (lv_at hl 1 rfl) ?_
  refine lv_iload_n hx hb dX0_addToHl_14 rfl (lv_at hl 3 rfl) ?_
  refine lv_ixor hx hb dX0_addToHl_15 ?_
  refine lv_iload_n hx hb dX0_addToHl_16 rfl (lv_at hl 0 rfl) ?_
  refine lv_ixor hx hb dX0_addToHl_17 ?_
  refine lv_bipush (v := (8 : Int32)) hx hb dX0_addToHl_18 (by decide) ?_
  refine lv_ishr hx hb dX0_addToHl_20 ?_
  refine lv_bipush (v := (16 : Int32)) hx hb dX0_addToHl_21 (by decide) ?_
  refine lv_iand hx hb dX0_addToHl_23 ?_
  refine lv_topi (fun x5 ex5 => ?_)
  replace h := nm_use ex5 h
  refine lv_istore (lv' := [(4, .int x5), (3, .int x4), (2, .int r2), (0, .ref (ad 6)), (1, .int p1)]) hx hb dX0_addToHl_24 hl (by decide) rfl (fun ls hl => ?_)
  refine lv_aload_n hx hb dX0_addToHl_26 rfl (lv_at hl 3 rfl) ?_
  refine cg_6_0 X hP k_122 dX0_addToHl_27 ?_
  refine lv_iconst (v := (3 : Int32)) hx hb dX0_addToHl_30 (by decide) ?_
  refine lv_iload_n hx hb dX0_addToHl_31 rfl (lv_at hl 1 rfl) ?_
  have hq := bd_some h; clear h; obtain ⟨s7, h6, h⟩ := hq
  refine sw_vv (rest := []) c_good X (cX6_load_m h6) calX6_load k_500 hP hD hS 4 6 rfl rfl rfl ⟨rfl, rfl⟩ rfl hl.1 rfl (Nat.le_of_ble_eq_true rfl) dX0_addToHl_32 (fun H locs hP hD hS => ?_)
  refine lv_aload_n hx hb dX0_addToHl_35 rfl (lv_at hl 3 rfl) ?_
  refine cg_6_0 X hP k_122 dX0_addToHl_36 ?_
  refine lv_aload_n hx hb dX0_addToHl_39 rfl (lv_at hl 3 rfl) ?_
  refine cg_6_0 X hP k_122 dX0_addToHl_40 ?_
  have hq := bd2_some h; clear h; obtain ⟨r9, s10, h8, h⟩ := hq
  refine sw_vi (rest := [.ref (ad 4)]) c_good X (cX6_flags_m h8) calX6_flags k_501 hP hD hS 4 6 rfl rfl rfl ⟨rfl, rfl⟩ rfl hl.1 rfl (Nat.le_of_ble_eq_true rfl) dX0_addToHl_43 (fun H locs hP hD hS => ?_)
  refine lv_sipush (v := (196 : Int32)) hx hb dX0_addToHl_46 (by decide) ?_
  refine lv_iand hx hb dX0_addToHl_49 ?_
  refine lv_iload hx hb dX0_addToHl_50 (lv_at hl 0 rfl) ?_
  refine lv_ior hx hb dX0_addToHl_52 ?_
  refine lv_iload_n hx hb dX0_addToHl_53 rfl (lv_at hl 1 rfl) ?_
  refine lv_bipush (v := (16 : Int32)) hx hb dX0_addToHl_54 (by decide) ?_
  refine lv_ishr hx hb dX0_addToHl_56 ?_
  refine lv_ior hx hb dX0_addToHl_57 ?_
  have hq := bd_some h; clear h; obtain ⟨s12, h11, h⟩ := hq
  refine sw_vv (rest := []) c_good X (cX6_loadFlags_m h11) calX6_loadFlags k_502 hP hD hS 4 6 rfl rfl rfl ⟨rfl, rfl⟩ rfl hl.1 rfl (Nat.le_of_ble_eq_true rfl) dX0_addToHl_58 (fun H locs hP hD hS => ?_)
  obtain rfl := Option.some.inj h
  exact sw_vret X hP hD hS dX0_addToHl_61
theorem dX0_signAndZeroOfPair_0 : decode cX0_signAndZeroOfPair 0 = .ok (.iload_n 0, 1) := by decide +kernel
theorem dX0_signAndZeroOfPair_1 : decode cX0_signAndZeroOfPair 1 = .ok (.bipush 8, 2) := by decide +kernel
theorem dX0_signAndZeroOfPair_3 : decode cX0_signAndZeroOfPair 3 = .ok (.ishr, 1) := by decide +kernel
theorem dX0_signAndZeroOfPair_4 : decode cX0_signAndZeroOfPair 4 = .ok (.sipush 128, 3) := by decide +kernel
theorem dX0_signAndZeroOfPair_7 : decode cX0_signAndZeroOfPair 7 = .ok (.iand, 1) := by decide +kernel
theorem dX0_signAndZeroOfPair_8 : decode cX0_signAndZeroOfPair 8 = .ok (.iload_n 0, 1) := by decide +kernel
theorem dX0_signAndZeroOfPair_9 : decode cX0_signAndZeroOfPair 9 = .ok (.ldc 64, 2) := by decide +kernel
theorem dX0_signAndZeroOfPair_11 : decode cX0_signAndZeroOfPair 11 = .ok (.iand, 1) := by decide +kernel
theorem dX0_signAndZeroOfPair_12 : decode cX0_signAndZeroOfPair 12 = .ok (.ifCond .ne 8, 3) := by decide +kernel
theorem dX0_signAndZeroOfPair_15 : decode cX0_signAndZeroOfPair 15 = .ok (.bipush 64, 2) := by decide +kernel
theorem dX0_signAndZeroOfPair_17 : decode cX0_signAndZeroOfPair 17 = .ok (.goto 4, 3) := by decide +kernel
theorem dX0_signAndZeroOfPair_20 : decode cX0_signAndZeroOfPair 20 = .ok (.iconst 0, 1) := by decide +kernel
theorem dX0_signAndZeroOfPair_21 : decode cX0_signAndZeroOfPair 21 = .ok (.ior, 1) := by decide +kernel
theorem dX0_signAndZeroOfPair_22 : decode cX0_signAndZeroOfPair 22 = .ok (.ireturn, 1) := by decide +kernel
def fX0_signAndZeroOfPair (p1 : Int32) : Option (Int32) := bd (if (p1 &&& (65535 : Int32)) = (0 : Int32) then (some (64 : Int32)) else (some (0 : Int32))) fun x3 => some (((p1 >>> ((8 : Int32) &&& 31)) &&& (128 : Int32)) ||| x3)
set_option maxHeartbeats 4000000 in
set_option maxRecDepth 100000 in
theorem cX0_signAndZeroOfPair_m {l : Launch} {dC : Nat → ClassId} {dI : Nat → Nat → Nat} {cI : ClassId} {w : va_W} {p1 : Int32} {zr : Int32} (h : fX0_signAndZeroOfPair p1 = some zr) : sw_Mi l yX0_signAndZeroOfPair (sw_ws yX0_signAndZeroOfPair cX0_signAndZeroOfPair 1 (some .int)) (sw_rm 0 0) (dC, dI) vwCl [(cI, .int)] cF [.int p1] w w zr := by
  intro sz
  refine sw_of (cc := cX0_signAndZeroOfPair) (maxL := 1) (ret := (some .int)) (by decide) rfl (Nat.le_of_ble_eq_true rfl) ?_
  intro p e s m args below meth c A ls hAe hsz X _ hP hD hS hl
  rw [hAe]
  have hx := X.1.1
  have hb := X.1.2.1
  have hown := X.1.2.2.2.1
  have hts := X.1.2.2.2.2
  replace hl : lv_has ls 1 [(0, .int p1)] := hl
  unfold fX0_signAndZeroOfPair at h
  refine lv_iload_n hx hb dX0_signAndZeroOfPair_0 rfl (lv_at hl 0 rfl) ?_
  refine lv_bipush (v := (8 : Int32)) hx hb dX0_signAndZeroOfPair_1 (by decide) ?_
  refine lv_ishr hx hb dX0_signAndZeroOfPair_3 ?_
  refine lv_sipush (v := (128 : Int32)) hx hb dX0_signAndZeroOfPair_4 (by decide) ?_
  refine lv_iand hx hb dX0_signAndZeroOfPair_7 ?_
  refine lv_iload_n hx hb dX0_signAndZeroOfPair_8 rfl (lv_at hl 0 rfl) ?_
  refine lv_ldc (v := 65535) hx hb hown (hts _ (List.mem_cons_of_mem _ k_716)) dX0_signAndZeroOfPair_9 ?_
  refine lv_iand hx hb dX0_signAndZeroOfPair_11 ?_
  have hq := bd_some h; clear h; obtain ⟨x3, h4, h⟩ := hq
  have K1 : ∀ (H : Heap) (locs : List Loc), va_P (dC, dI) vwCl w H → va_D A w → va_S A s.heap H locs → W p l e (sw_rm 0 0) s m args below meth c H locs 0 0 (MQ below (sw_Qi (dC, dI) vwCl [(cI, .int)] A w zr) args s 0 0 A) (F0 m 21 ls [.int x3, .int ((p1 >>> ((8 : Int32) &&& 31)) &&& (128 : Int32))]) := by
    intro H locs hP hD hS
    refine lv_ior hx hb dX0_signAndZeroOfPair_21 ?_
    obtain rfl := Option.some.inj h
    exact sw_iret X hP hD hS dX0_signAndZeroOfPair_22
  replace h := h4
  clear h4
  refine lv_if_ne (tgt := 20) hx hb dX0_signAndZeroOfPair_12 (by decide) (fun c2 => ?_) (fun c2 => ?_)
  · replace h := if_no h c2
    refine lv_iconst (v := (0 : Int32)) hx hb dX0_signAndZeroOfPair_20 (by decide) ?_
    obtain rfl := Option.some.inj h
    exact K1 _ _ hP hD hS
  · replace h := if_yes h c2
    refine lv_bipush (v := (64 : Int32)) hx hb dX0_signAndZeroOfPair_15 (by decide) ?_
    refine lv_goto (tgt := 21) hx hb dX0_signAndZeroOfPair_17 (by decide) ?_
    obtain rfl := Option.some.inj h
    exact K1 _ _ hP hD hS
theorem dX0_addToHlWithCarry_0 : decode cX0_addToHlWithCarry 0 = .ok (.aload_n 0, 1) := by decide +kernel
theorem dX0_addToHlWithCarry_1 : decode cX0_addToHlWithCarry 1 = .ok (.getfield 7, 3) := by decide +kernel
theorem dX0_addToHlWithCarry_4 : decode cX0_addToHlWithCarry 4 = .ok (.iconst 3, 1) := by decide +kernel
theorem dX0_addToHlWithCarry_5 : decode cX0_addToHlWithCarry 5 = .ok (.invokevirtual 47, 3) := by decide +kernel
theorem dX0_addToHlWithCarry_8 : decode cX0_addToHlWithCarry 8 = .ok (.istore_n 2, 1) := by decide +kernel
theorem dX0_addToHlWithCarry_9 : decode cX0_addToHlWithCarry 9 = .ok (.iload_n 2, 1) := by decide +kernel
theorem dX0_addToHlWithCarry_10 : decode cX0_addToHlWithCarry 10 = .ok (.iload_n 1, 1) := by decide +kernel
theorem dX0_addToHlWithCarry_11 : decode cX0_addToHlWithCarry 11 = .ok (.iadd, 1) := by decide +kernel
theorem dX0_addToHlWithCarry_12 : decode cX0_addToHlWithCarry 12 = .ok (.aload_n 0, 1) := by decide +kernel
theorem dX0_addToHlWithCarry_13 : decode cX0_addToHlWithCarry 13 = .ok (.getfield 7, 3) := by decide +kernel
theorem dX0_addToHlWithCarry_16 : decode cX0_addToHlWithCarry 16 = .ok (.invokevirtual 19, 3) := by decide +kernel
theorem dX0_addToHlWithCarry_19 : decode cX0_addToHlWithCarry 19 = .ok (.iconst 1, 1) := by decide +kernel
theorem dX0_addToHlWithCarry_20 : decode cX0_addToHlWithCarry 20 = .ok (.iand, 1) := by decide +kernel
theorem dX0_addToHlWithCarry_21 : decode cX0_addToHlWithCarry 21 = .ok (.iadd, 1) := by decide +kernel
theorem dX0_addToHlWithCarry_22 : decode cX0_addToHlWithCarry 22 = .ok (.istore_n 3, 1) := by decide +kernel
theorem dX0_addToHlWithCarry_23 : decode cX0_addToHlWithCarry 23 = .ok (.iload_n 2, 1) := by decide +kernel
theorem dX0_addToHlWithCarry_24 : decode cX0_addToHlWithCarry 24 = .ok (.iload_n 3, 1) := by decide +kernel
theorem dX0_addToHlWithCarry_25 : decode cX0_addToHlWithCarry 25 = .ok (.ixor, 1) := by decide +kernel
theorem dX0_addToHlWithCarry_26 : decode cX0_addToHlWithCarry 26 = .ok (.iload_n 1, 1) := by decide +kernel
theorem dX0_addToHlWithCarry_27 : decode cX0_addToHlWithCarry 27 = .ok (.iload_n 3, 1) := by decide +kernel
theorem dX0_addToHlWithCarry_28 : decode cX0_addToHlWithCarry 28 = .ok (.ixor, 1) := by decide +kernel
theorem dX0_addToHlWithCarry_29 : decode cX0_addToHlWithCarry 29 = .ok (.iand, 1) := by decide +kernel
theorem dX0_addToHlWithCarry_30 : decode cX0_addToHlWithCarry 30 = .ok (.ldc 53, 2) := by decide +kernel
theorem dX0_addToHlWithCarry_32 : decode cX0_addToHlWithCarry 32 = .ok (.iand, 1) := by decide +kernel
theorem dX0_addToHlWithCarry_33 : decode cX0_addToHlWithCarry 33 = .ok (.istore 4, 2) := by decide +kernel
theorem dX0_addToHlWithCarry_35 : decode cX0_addToHlWithCarry 35 = .ok (.iload_n 2, 1) := by decide +kernel
theorem dX0_addToHlWithCarry_36 : decode cX0_addToHlWithCarry 36 = .ok (.iload_n 1, 1) := by decide +kernel
theorem dX0_addToHlWithCarry_37 : decode cX0_addToHlWithCarry 37 = .ok (.ixor, 1) := by decide +kernel
theorem dX0_addToHlWithCarry_38 : decode cX0_addToHlWithCarry 38 = .ok (.iload_n 3, 1) := by decide +kernel
theorem dX0_addToHlWithCarry_39 : decode cX0_addToHlWithCarry 39 = .ok (.ixor, 1) := by decide +kernel
theorem dX0_addToHlWithCarry_40 : decode cX0_addToHlWithCarry 40 = .ok (.bipush 8, 2) := by decide +kernel
theorem dX0_addToHlWithCarry_42 : decode cX0_addToHlWithCarry 42 = .ok (.ishr, 1) := by decide +kernel
theorem dX0_addToHlWithCarry_43 : decode cX0_addToHlWithCarry 43 = .ok (.bipush 16, 2) := by decide +kernel
theorem dX0_addToHlWithCarry_45 : decode cX0_addToHlWithCarry 45 = .ok (.iand, 1) := by decide +kernel
theorem dX0_addToHlWithCarry_46 : decode cX0_addToHlWithCarry 46 = .ok (.istore 5, 2) := by decide +kernel
theorem dX0_addToHlWithCarry_48 : decode cX0_addToHlWithCarry 48 = .ok (.aload_n 0, 1) := by decide +kernel
theorem dX0_addToHlWithCarry_49 : decode cX0_addToHlWithCarry 49 = .ok (.getfield 7, 3) := by decide +kernel
theorem dX0_addToHlWithCarry_52 : decode cX0_addToHlWithCarry 52 = .ok (.iconst 3, 1) := by decide +kernel
theorem dX0_addToHlWithCarry_53 : decode cX0_addToHlWithCarry 53 = .ok (.iload_n 3, 1) := by decide +kernel
theorem dX0_addToHlWithCarry_54 : decode cX0_addToHlWithCarry 54 = .ok (.invokevirtual 50, 3) := by decide +kernel
theorem dX0_addToHlWithCarry_57 : decode cX0_addToHlWithCarry 57 = .ok (.aload_n 0, 1) := by decide +kernel
theorem dX0_addToHlWithCarry_58 : decode cX0_addToHlWithCarry 58 = .ok (.getfield 7, 3) := by decide +kernel
theorem dX0_addToHlWithCarry_61 : decode cX0_addToHlWithCarry 61 = .ok (.iload_n 3, 1) := by decide +kernel
theorem dX0_addToHlWithCarry_62 : decode cX0_addToHlWithCarry 62 = .ok (.invokestatic 54, 3) := by decide +kernel
theorem dX0_addToHlWithCarry_65 : decode cX0_addToHlWithCarry 65 = .ok (.iload 5, 2) := by decide +kernel
theorem dX0_addToHlWithCarry_67 : decode cX0_addToHlWithCarry 67 = .ok (.ior, 1) := by decide +kernel
theorem dX0_addToHlWithCarry_68 : decode cX0_addToHlWithCarry 68 = .ok (.iload 4, 2) := by decide +kernel
theorem dX0_addToHlWithCarry_70 : decode cX0_addToHlWithCarry 70 = .ok (.bipush 13, 2) := by decide +kernel
theorem dX0_addToHlWithCarry_72 : decode cX0_addToHlWithCarry 72 = .ok (.ishr, 1) := by decide +kernel
theorem dX0_addToHlWithCarry_73 : decode cX0_addToHlWithCarry 73 = .ok (.ior, 1) := by decide +kernel
theorem dX0_addToHlWithCarry_74 : decode cX0_addToHlWithCarry 74 = .ok (.iload_n 3, 1) := by decide +kernel
theorem dX0_addToHlWithCarry_75 : decode cX0_addToHlWithCarry 75 = .ok (.bipush 16, 2) := by decide +kernel
theorem dX0_addToHlWithCarry_77 : decode cX0_addToHlWithCarry 77 = .ok (.ishr, 1) := by decide +kernel
theorem dX0_addToHlWithCarry_78 : decode cX0_addToHlWithCarry 78 = .ok (.ior, 1) := by decide +kernel
theorem dX0_addToHlWithCarry_79 : decode cX0_addToHlWithCarry 79 = .ok (.invokevirtual 40, 3) := by decide +kernel
theorem dX0_addToHlWithCarry_82 : decode cX0_addToHlWithCarry 82 = .ok (.return_, 1) := by decide +kernel
def fX0_addToHlWithCarry (p1 : Int32) (s0 : zS) : Option (zS) := bd2 (fX6_pair (3 : Int32) s0) fun r2 s3 => bd2 (fX6_flags  s3) fun r5 s6 => nm ((r2 + p1) + (r5 &&& (1 : Int32))) fun x7 => nm (((r2 ^^^ x7) &&& (p1 ^^^ x7)) &&& (32768 : Int32)) fun x8 => nm ((((r2 ^^^ p1) ^^^ x7) >>> ((8 : Int32) &&& 31)) &&& (16 : Int32)) fun x9 => bd (fX6_load (3 : Int32) x7 s6) fun s11 => bd (fX0_signAndZeroOfPair x7) fun r13 => bd (fX6_loadFlags (((r13 ||| x9) ||| (x8 >>> ((13 : Int32) &&& 31))) ||| (x7 >>> ((16 : Int32) &&& 31))) s11) fun s15 => some s15
set_option maxHeartbeats 4000000 in
set_option maxRecDepth 100000 in
theorem cX0_addToHlWithCarry_m {l : Launch} {dC : Nat → ClassId} {dI : Nat → Nat → Nat} {ad : Nat → Nat} {cI : ClassId} {p1 : Int32} {s0 : zS} {zs : zS} (h : fX0_addToHlWithCarry p1 s0 = some zs) : sw_Mv l yX0_addToHlWithCarry (sw_ws yX0_addToHlWithCarry cX0_addToHlWithCarry 6 none) (sw_rm 1 23) (dC, dI) vwCl [(cI, .int)] cF [.ref (ad 6), .int p1] (cW ad cI s0) (cW ad cI zs) := by
  intro sz
  refine sw_of (cc := cX0_addToHlWithCarry) (maxL := 6) (ret := none) (by decide) rfl (Nat.le_of_ble_eq_true rfl) ?_
  intro p e s m args below meth c A ls hAe hsz X _ hP hD hS hl
  rw [hAe]
  have hx := X.1.1
  have hb := X.1.2.1
  have hown := X.1.2.2.2.1
  have hts := X.1.2.2.2.2
  replace hl : lv_has ls 6 [(0, .ref (ad 6)), (1, .int p1)] := hl
  unfold fX0_addToHlWithCarry at h
  refine lv_aload_n hx hb dX0_addToHlWithCarry_0 rfl (lv_at hl 0 rfl) ?_
  refine cg_6_0 X hP k_122 dX0_addToHlWithCarry_1 ?_
  refine lv_iconst (v := (3 : Int32)) hx hb dX0_addToHlWithCarry_4 (by decide) ?_
  have hq := bd2_some h; clear h; obtain ⟨r2, s3, h1, h⟩ := hq
  refine sw_vi (rest := []) c_good X (cX6_pair_m h1) calX6_pair k_499 hP hD hS 4 6 rfl rfl rfl ⟨rfl, rfl⟩ rfl hl.1 rfl (Nat.le_of_ble_eq_true rfl) dX0_addToHlWithCarry_5 (fun H locs hP hD hS => ?_)
  refine lv_istore_n (lv' := [(2, .int r2), (0, .ref (ad 6)), (1, .int p1)]) hx hb dX0_addToHlWithCarry_8 rfl hl (by decide) rfl (fun ls hl => ?_)
  refine lv_iload_n hx hb dX0_addToHlWithCarry_9 rfl (lv_at hl 0 rfl) ?_
  refine lv_iload_n hx hb dX0_addToHlWithCarry_10 rfl (lv_at hl 2 rfl) ?_
  refine lv_iadd hx hb dX0_addToHlWithCarry_11 ?_
  refine lv_aload_n hx hb dX0_addToHlWithCarry_12 rfl (lv_at hl 1 rfl) ?_
  refine cg_6_0 X hP k_122 dX0_addToHlWithCarry_13 ?_
  have hq := bd2_some h; clear h; obtain ⟨r5, s6, h4, h⟩ := hq
  refine sw_vi (rest := [.int (r2 + p1)]) c_good X (cX6_flags_m h4) calX6_flags k_501 hP hD hS 4 6 rfl rfl rfl ⟨rfl, rfl⟩ rfl hl.1 rfl (Nat.le_of_ble_eq_true rfl) dX0_addToHlWithCarry_16 (fun H locs hP hD hS => ?_)
  refine lv_iconst (v := (1 : Int32)) hx hb dX0_addToHlWithCarry_19 (by decide) ?_
  refine lv_iand hx hb dX0_addToHlWithCarry_20 ?_
  refine lv_iadd hx hb dX0_addToHlWithCarry_21 ?_
  refine lv_topi (fun x7 ex7 => ?_)
  replace h := nm_use ex7 h
  refine lv_istore_n (lv' := [(3, .int x7), (2, .int r2), (0, .ref (ad 6)), (1, .int p1)]) hx hb dX0_addToHlWithCarry_22 rfl hl (by decide) rfl (fun ls hl => ?_)
  refine lv_iload_n hx hb dX0_addToHlWithCarry_23 rfl (lv_at hl 1 rfl) ?_
  refine lv_iload_n hx hb dX0_addToHlWithCarry_24 rfl (lv_at hl 0 rfl) ?_
  refine lv_ixor hx hb dX0_addToHlWithCarry_25 ?_
  refine lv_iload_n hx hb dX0_addToHlWithCarry_26 rfl (lv_at hl 3 rfl) ?_
  refine lv_iload_n hx hb dX0_addToHlWithCarry_27 rfl (lv_at hl 0 rfl) ?_
  refine lv_ixor hx hb dX0_addToHlWithCarry_28 ?_
  refine lv_iand hx hb dX0_addToHlWithCarry_29 ?_
  refine lv_ldc (v := 32768) hx hb hown (hts _ (List.mem_cons_of_mem _ k_712)) dX0_addToHlWithCarry_30 ?_
  refine lv_iand hx hb dX0_addToHlWithCarry_32 ?_
  refine lv_topi (fun x8 ex8 => ?_)
  replace h := nm_use ex8 h
  refine lv_istore (lv' := [(4, .int x8), (3, .int x7), (2, .int r2), (0, .ref (ad 6)), (1, .int p1)]) hx hb dX0_addToHlWithCarry_33 hl (by decide) rfl (fun ls hl => ?_)
  refine lv_iload_n hx hb dX0_addToHlWithCarry_35 rfl (lv_at hl 2 rfl) ?_
  refine lv_iload_n hx hb dX0_addToHlWithCarry_36 rfl (lv_at hl 4 rfl) ?_
  refine lv_ixor hx hb dX0_addToHlWithCarry_37 ?_
  refine lv_iload_n hx hb dX0_addToHlWithCarry_38 rfl (lv_at hl 1 rfl) ?_
  refine lv_ixor hx hb dX0_addToHlWithCarry_39 ?_
  refine lv_bipush (v := (8 : Int32)) hx hb dX0_addToHlWithCarry_40 (by decide) ?_
  refine lv_ishr hx hb dX0_addToHlWithCarry_42 ?_
  refine lv_bipush (v := (16 : Int32)) hx hb dX0_addToHlWithCarry_43 (by decide) ?_
  refine lv_iand hx hb dX0_addToHlWithCarry_45 ?_
  refine lv_topi (fun x9 ex9 => ?_)
  replace h := nm_use ex9 h
  refine lv_istore (lv' := [(5, .int x9), (4, .int x8), (3, .int x7), (2, .int r2), (0, .ref (ad 6)), (1, .int p1)]) hx hb dX0_addToHlWithCarry_46 hl (by decide) rfl (fun ls hl => ?_)
  refine lv_aload_n hx hb dX0_addToHlWithCarry_48 rfl (lv_at hl 4 rfl) ?_
  refine cg_6_0 X hP k_122 dX0_addToHlWithCarry_49 ?_
  refine lv_iconst (v := (3 : Int32)) hx hb dX0_addToHlWithCarry_52 (by decide) ?_
  refine lv_iload_n hx hb dX0_addToHlWithCarry_53 rfl (lv_at hl 2 rfl) ?_
  have hq := bd_some h; clear h; obtain ⟨s11, h10, h⟩ := hq
  refine sw_vv (rest := []) c_good X (cX6_load_m h10) calX6_load k_500 hP hD hS 4 6 rfl rfl rfl ⟨rfl, rfl⟩ rfl hl.1 rfl (Nat.le_of_ble_eq_true rfl) dX0_addToHlWithCarry_54 (fun H locs hP hD hS => ?_)
  refine lv_aload_n hx hb dX0_addToHlWithCarry_57 rfl (lv_at hl 4 rfl) ?_
  refine cg_6_0 X hP k_122 dX0_addToHlWithCarry_58 ?_
  refine lv_iload_n hx hb dX0_addToHlWithCarry_61 rfl (lv_at hl 2 rfl) ?_
  have hq := bd_some h; clear h; obtain ⟨r13, h12, h⟩ := hq
  refine sw_si (rest := [.ref (ad 4)]) c_good X (cX0_signAndZeroOfPair_m h12) calX0_signAndZeroOfPair k_713 hP hD hS ⟨rfl, rfl⟩ rfl hl.1 rfl (Nat.le_of_ble_eq_true rfl) dX0_addToHlWithCarry_62 (fun H locs hP hD hS => ?_)
  refine lv_iload hx hb dX0_addToHlWithCarry_65 (lv_at hl 0 rfl) ?_
  refine lv_ior hx hb dX0_addToHlWithCarry_67 ?_
  refine lv_iload hx hb dX0_addToHlWithCarry_68 (lv_at hl 1 rfl) ?_
  refine lv_bipush (v := (13 : Int32)) hx hb dX0_addToHlWithCarry_70 (by decide) ?_
  refine lv_ishr hx hb dX0_addToHlWithCarry_72 ?_
  refine lv_ior hx hb dX0_addToHlWithCarry_73 ?_
  refine lv_iload_n hx hb dX0_addToHlWithCarry_74 rfl (lv_at hl 2 rfl) ?_
  refine lv_bipush (v := (16 : Int32)) hx hb dX0_addToHlWithCarry_75 (by decide) ?_
  refine lv_ishr hx hb dX0_addToHlWithCarry_77 ?_
  refine lv_ior hx hb dX0_addToHlWithCarry_78 ?_
  have hq := bd_some h; clear h; obtain ⟨s15, h14, h⟩ := hq
  refine sw_vv (rest := []) c_good X (cX6_loadFlags_m h14) calX6_loadFlags k_502 hP hD hS 4 6 rfl rfl rfl ⟨rfl, rfl⟩ rfl hl.1 rfl (Nat.le_of_ble_eq_true rfl) dX0_addToHlWithCarry_79 (fun H locs hP hD hS => ?_)
  obtain rfl := Option.some.inj h
  exact sw_vret X hP hD hS dX0_addToHlWithCarry_82
theorem dX0_takeFromHlWithCarry_0 : decode cX0_takeFromHlWithCarry 0 = .ok (.aload_n 0, 1) := by decide +kernel
theorem dX0_takeFromHlWithCarry_1 : decode cX0_takeFromHlWithCarry 1 = .ok (.getfield 7, 3) := by decide +kernel
theorem dX0_takeFromHlWithCarry_4 : decode cX0_takeFromHlWithCarry 4 = .ok (.iconst 3, 1) := by decide +kernel
theorem dX0_takeFromHlWithCarry_5 : decode cX0_takeFromHlWithCarry 5 = .ok (.invokevirtual 47, 3) := by decide +kernel
theorem dX0_takeFromHlWithCarry_8 : decode cX0_takeFromHlWithCarry 8 = .ok (.istore_n 2, 1) := by decide +kernel
theorem dX0_takeFromHlWithCarry_9 : decode cX0_takeFromHlWithCarry 9 = .ok (.iload_n 2, 1) := by decide +kernel
theorem dX0_takeFromHlWithCarry_10 : decode cX0_takeFromHlWithCarry 10 = .ok (.iload_n 1, 1) := by decide +kernel
theorem dX0_takeFromHlWithCarry_11 : decode cX0_takeFromHlWithCarry 11 = .ok (.isub, 1) := by decide +kernel
theorem dX0_takeFromHlWithCarry_12 : decode cX0_takeFromHlWithCarry 12 = .ok (.aload_n 0, 1) := by decide +kernel
theorem dX0_takeFromHlWithCarry_13 : decode cX0_takeFromHlWithCarry 13 = .ok (.getfield 7, 3) := by decide +kernel
theorem dX0_takeFromHlWithCarry_16 : decode cX0_takeFromHlWithCarry 16 = .ok (.invokevirtual 19, 3) := by decide +kernel
theorem dX0_takeFromHlWithCarry_19 : decode cX0_takeFromHlWithCarry 19 = .ok (.iconst 1, 1) := by decide +kernel
theorem dX0_takeFromHlWithCarry_20 : decode cX0_takeFromHlWithCarry 20 = .ok (.iand, 1) := by decide +kernel
theorem dX0_takeFromHlWithCarry_21 : decode cX0_takeFromHlWithCarry 21 = .ok (.isub, 1) := by decide +kernel
theorem dX0_takeFromHlWithCarry_22 : decode cX0_takeFromHlWithCarry 22 = .ok (.istore_n 3, 1) := by decide +kernel
theorem dX0_takeFromHlWithCarry_23 : decode cX0_takeFromHlWithCarry 23 = .ok (.iload_n 2, 1) := by decide +kernel
theorem dX0_takeFromHlWithCarry_24 : decode cX0_takeFromHlWithCarry 24 = .ok (.iload_n 1, 1) := by decide +kernel
theorem dX0_takeFromHlWithCarry_25 : decode cX0_takeFromHlWithCarry 25 = .ok (.ixor, 1) := by decide +kernel
theorem dX0_takeFromHlWithCarry_26 : decode cX0_takeFromHlWithCarry 26 = .ok (.iload_n 2, 1) := by decide +kernel
theorem dX0_takeFromHlWithCarry_27 : decode cX0_takeFromHlWithCarry 27 = .ok (.iload_n 3, 1) := by decide +kernel
theorem dX0_takeFromHlWithCarry_28 : decode cX0_takeFromHlWithCarry 28 = .ok (.ixor, 1) := by decide +kernel
theorem dX0_takeFromHlWithCarry_29 : decode cX0_takeFromHlWithCarry 29 = .ok (.iand, 1) := by decide +kernel
theorem dX0_takeFromHlWithCarry_30 : decode cX0_takeFromHlWithCarry 30 = .ok (.ldc 53, 2) := by decide +kernel
theorem dX0_takeFromHlWithCarry_32 : decode cX0_takeFromHlWithCarry 32 = .ok (.iand, 1) := by decide +kernel
theorem dX0_takeFromHlWithCarry_33 : decode cX0_takeFromHlWithCarry 33 = .ok (.istore 4, 2) := by decide +kernel
theorem dX0_takeFromHlWithCarry_35 : decode cX0_takeFromHlWithCarry 35 = .ok (.iload_n 2, 1) := by decide +kernel
theorem dX0_takeFromHlWithCarry_36 : decode cX0_takeFromHlWithCarry 36 = .ok (.iload_n 1, 1) := by decide +kernel
theorem dX0_takeFromHlWithCarry_37 : decode cX0_takeFromHlWithCarry 37 = .ok (.ixor, 1) := by decide +kernel
theorem dX0_takeFromHlWithCarry_38 : decode cX0_takeFromHlWithCarry 38 = .ok (.iload_n 3, 1) := by decide +kernel
theorem dX0_takeFromHlWithCarry_39 : decode cX0_takeFromHlWithCarry 39 = .ok (.ixor, 1) := by decide +kernel
theorem dX0_takeFromHlWithCarry_40 : decode cX0_takeFromHlWithCarry 40 = .ok (.bipush 8, 2) := by decide +kernel
theorem dX0_takeFromHlWithCarry_42 : decode cX0_takeFromHlWithCarry 42 = .ok (.ishr, 1) := by decide +kernel
theorem dX0_takeFromHlWithCarry_43 : decode cX0_takeFromHlWithCarry 43 = .ok (.bipush 16, 2) := by decide +kernel
theorem dX0_takeFromHlWithCarry_45 : decode cX0_takeFromHlWithCarry 45 = .ok (.iand, 1) := by decide +kernel
theorem dX0_takeFromHlWithCarry_46 : decode cX0_takeFromHlWithCarry 46 = .ok (.istore 5, 2) := by decide +kernel
theorem dX0_takeFromHlWithCarry_48 : decode cX0_takeFromHlWithCarry 48 = .ok (.aload_n 0, 1) := by decide +kernel
theorem dX0_takeFromHlWithCarry_49 : decode cX0_takeFromHlWithCarry 49 = .ok (.getfield 7, 3) := by decide +kernel
theorem dX0_takeFromHlWithCarry_52 : decode cX0_takeFromHlWithCarry 52 = .ok (.iconst 3, 1) := by decide +kernel
theorem dX0_takeFromHlWithCarry_53 : decode cX0_takeFromHlWithCarry 53 = .ok (.iload_n 3, 1) := by decide +kernel
theorem dX0_takeFromHlWithCarry_54 : decode cX0_takeFromHlWithCarry 54 = .ok (.invokevirtual 50, 3) := by decide +kernel
theorem dX0_takeFromHlWithCarry_57 : decode cX0_takeFromHlWithCarry 57 = .ok (.aload_n 0, 1) := by decide +kernel
theorem dX0_takeFromHlWithCarry_58 : decode cX0_takeFromHlWithCarry 58 = .ok (.getfield 7, 3) := by decide +kernel
theorem dX0_takeFromHlWithCarry_61 : decode cX0_takeFromHlWithCarry 61 = .ok (.iload_n 3, 1) := by decide +kernel
theorem dX0_takeFromHlWithCarry_62 : decode cX0_takeFromHlWithCarry 62 = .ok (.invokestatic 54, 3) := by decide +kernel
theorem dX0_takeFromHlWithCarry_65 : decode cX0_takeFromHlWithCarry 65 = .ok (.iload 5, 2) := by decide +kernel
theorem dX0_takeFromHlWithCarry_67 : decode cX0_takeFromHlWithCarry 67 = .ok (.ior, 1) := by decide +kernel
theorem dX0_takeFromHlWithCarry_68 : decode cX0_takeFromHlWithCarry 68 = .ok (.iload 4, 2) := by decide +kernel
theorem dX0_takeFromHlWithCarry_70 : decode cX0_takeFromHlWithCarry 70 = .ok (.bipush 13, 2) := by decide +kernel
theorem dX0_takeFromHlWithCarry_72 : decode cX0_takeFromHlWithCarry 72 = .ok (.ishr, 1) := by decide +kernel
theorem dX0_takeFromHlWithCarry_73 : decode cX0_takeFromHlWithCarry 73 = .ok (.ior, 1) := by decide +kernel
theorem dX0_takeFromHlWithCarry_74 : decode cX0_takeFromHlWithCarry 74 = .ok (.iconst 2, 1) := by decide +kernel
theorem dX0_takeFromHlWithCarry_75 : decode cX0_takeFromHlWithCarry 75 = .ok (.ior, 1) := by decide +kernel
theorem dX0_takeFromHlWithCarry_76 : decode cX0_takeFromHlWithCarry 76 = .ok (.iload_n 3, 1) := by decide +kernel
theorem dX0_takeFromHlWithCarry_77 : decode cX0_takeFromHlWithCarry 77 = .ok (.bipush 16, 2) := by decide +kernel
theorem dX0_takeFromHlWithCarry_79 : decode cX0_takeFromHlWithCarry 79 = .ok (.ishr, 1) := by decide +kernel
theorem dX0_takeFromHlWithCarry_80 : decode cX0_takeFromHlWithCarry 80 = .ok (.iconst 1, 1) := by decide +kernel
theorem dX0_takeFromHlWithCarry_81 : decode cX0_takeFromHlWithCarry 81 = .ok (.iand, 1) := by decide +kernel
theorem dX0_takeFromHlWithCarry_82 : decode cX0_takeFromHlWithCarry 82 = .ok (.ior, 1) := by decide +kernel
theorem dX0_takeFromHlWithCarry_83 : decode cX0_takeFromHlWithCarry 83 = .ok (.invokevirtual 40, 3) := by decide +kernel
theorem dX0_takeFromHlWithCarry_86 : decode cX0_takeFromHlWithCarry 86 = .ok (.return_, 1) := by decide +kernel
def fX0_takeFromHlWithCarry (p1 : Int32) (s0 : zS) : Option (zS) := bd2 (fX6_pair (3 : Int32) s0) fun r2 s3 => bd2 (fX6_flags  s3) fun r5 s6 => nm ((r2 - p1) - (r5 &&& (1 : Int32))) fun x7 => nm (((r2 ^^^ p1) &&& (r2 ^^^ x7)) &&& (32768 : Int32)) fun x8 => nm ((((r2 ^^^ p1) ^^^ x7) >>> ((8 : Int32) &&& 31)) &&& (16 : Int32)) fun x9 => bd (fX6_load (3 : Int32) x7 s6) fun s11 => bd (fX0_signAndZeroOfPair x7) fun r13 => bd (fX6_loadFlags ((((r13 ||| x9) ||| (x8 >>> ((13 : Int32) &&& 31))) ||| (2 : Int32)) ||| ((x7 >>> ((16 : Int32) &&& 31)) &&& (1 : Int32))) s11) fun s15 => some s15
set_option maxHeartbeats 4000000 in
set_option maxRecDepth 100000 in
theorem cX0_takeFromHlWithCarry_m {l : Launch} {dC : Nat → ClassId} {dI : Nat → Nat → Nat} {ad : Nat → Nat} {cI : ClassId} {p1 : Int32} {s0 : zS} {zs : zS} (h : fX0_takeFromHlWithCarry p1 s0 = some zs) : sw_Mv l yX0_takeFromHlWithCarry (sw_ws yX0_takeFromHlWithCarry cX0_takeFromHlWithCarry 6 none) (sw_rm 1 23) (dC, dI) vwCl [(cI, .int)] cF [.ref (ad 6), .int p1] (cW ad cI s0) (cW ad cI zs) := by
  intro sz
  refine sw_of (cc := cX0_takeFromHlWithCarry) (maxL := 6) (ret := none) (by decide) rfl (Nat.le_of_ble_eq_true rfl) ?_
  intro p e s m args below meth c A ls hAe hsz X _ hP hD hS hl
  rw [hAe]
  have hx := X.1.1
  have hb := X.1.2.1
  have hown := X.1.2.2.2.1
  have hts := X.1.2.2.2.2
  replace hl : lv_has ls 6 [(0, .ref (ad 6)), (1, .int p1)] := hl
  unfold fX0_takeFromHlWithCarry at h
  refine lv_aload_n hx hb dX0_takeFromHlWithCarry_0 rfl (lv_at hl 0 rfl) ?_
  refine cg_6_0 X hP k_122 dX0_takeFromHlWithCarry_1 ?_
  refine lv_iconst (v := (3 : Int32)) hx hb dX0_takeFromHlWithCarry_4 (by decide) ?_
  have hq := bd2_some h; clear h; obtain ⟨r2, s3, h1, h⟩ := hq
  refine sw_vi (rest := []) c_good X (cX6_pair_m h1) calX6_pair k_499 hP hD hS 4 6 rfl rfl rfl ⟨rfl, rfl⟩ rfl hl.1 rfl (Nat.le_of_ble_eq_true rfl) dX0_takeFromHlWithCarry_5 (fun H locs hP hD hS => ?_)
  refine lv_istore_n (lv' := [(2, .int r2), (0, .ref (ad 6)), (1, .int p1)]) hx hb dX0_takeFromHlWithCarry_8 rfl hl (by decide) rfl (fun ls hl => ?_)
  refine lv_iload_n hx hb dX0_takeFromHlWithCarry_9 rfl (lv_at hl 0 rfl) ?_
  refine lv_iload_n hx hb dX0_takeFromHlWithCarry_10 rfl (lv_at hl 2 rfl) ?_
  refine lv_isub hx hb dX0_takeFromHlWithCarry_11 ?_
  refine lv_aload_n hx hb dX0_takeFromHlWithCarry_12 rfl (lv_at hl 1 rfl) ?_
  refine cg_6_0 X hP k_122 dX0_takeFromHlWithCarry_13 ?_
  have hq := bd2_some h; clear h; obtain ⟨r5, s6, h4, h⟩ := hq
  refine sw_vi (rest := [.int (r2 - p1)]) c_good X (cX6_flags_m h4) calX6_flags k_501 hP hD hS 4 6 rfl rfl rfl ⟨rfl, rfl⟩ rfl hl.1 rfl (Nat.le_of_ble_eq_true rfl) dX0_takeFromHlWithCarry_16 (fun H locs hP hD hS => ?_)
  refine lv_iconst (v := (1 : Int32)) hx hb dX0_takeFromHlWithCarry_19 (by decide) ?_
  refine lv_iand hx hb dX0_takeFromHlWithCarry_20 ?_
  refine lv_isub hx hb dX0_takeFromHlWithCarry_21 ?_
  refine lv_topi (fun x7 ex7 => ?_)
  replace h := nm_use ex7 h
  refine lv_istore_n (lv' := [(3, .int x7), (2, .int r2), (0, .ref (ad 6)), (1, .int p1)]) hx hb dX0_takeFromHlWithCarry_22 rfl hl (by decide) rfl (fun ls hl => ?_)
  refine lv_iload_n hx hb dX0_takeFromHlWithCarry_23 rfl (lv_at hl 1 rfl) ?_
  refine lv_iload_n hx hb dX0_takeFromHlWithCarry_24 rfl (lv_at hl 3 rfl) ?_
  refine lv_ixor hx hb dX0_takeFromHlWithCarry_25 ?_
  refine lv_iload_n hx hb dX0_takeFromHlWithCarry_26 rfl (lv_at hl 1 rfl) ?_
  refine lv_iload_n hx hb dX0_takeFromHlWithCarry_27 rfl (lv_at hl 0 rfl) ?_
  refine lv_ixor hx hb dX0_takeFromHlWithCarry_28 ?_
  refine lv_iand hx hb dX0_takeFromHlWithCarry_29 ?_
  refine lv_ldc (v := 32768) hx hb hown (hts _ (List.mem_cons_of_mem _ k_712)) dX0_takeFromHlWithCarry_30 ?_
  refine lv_iand hx hb dX0_takeFromHlWithCarry_32 ?_
  refine lv_topi (fun x8 ex8 => ?_)
  replace h := nm_use ex8 h
  refine lv_istore (lv' := [(4, .int x8), (3, .int x7), (2, .int r2), (0, .ref (ad 6)), (1, .int p1)]) hx hb dX0_takeFromHlWithCarry_33 hl (by decide) rfl (fun ls hl => ?_)
  refine lv_iload_n hx hb dX0_takeFromHlWithCarry_35 rfl (lv_at hl 2 rfl) ?_
  refine lv_iload_n hx hb dX0_takeFromHlWithCarry_36 rfl (lv_at hl 4 rfl) ?_
  refine lv_ixor hx hb dX0_takeFromHlWithCarry_37 ?_
  refine lv_iload_n hx hb dX0_takeFromHlWithCarry_38 rfl (lv_at hl 1 rfl) ?_
  refine lv_ixor hx hb dX0_takeFromHlWithCarry_39 ?_
  refine lv_bipush (v := (8 : Int32)) hx hb dX0_takeFromHlWithCarry_40 (by decide) ?_
  refine lv_ishr hx hb dX0_takeFromHlWithCarry_42 ?_
  refine lv_bipush (v := (16 : Int32)) hx hb dX0_takeFromHlWithCarry_43 (by decide) ?_
  refine lv_iand hx hb dX0_takeFromHlWithCarry_45 ?_
  refine lv_topi (fun x9 ex9 => ?_)
  replace h := nm_use ex9 h
  refine lv_istore (lv' := [(5, .int x9), (4, .int x8), (3, .int x7), (2, .int r2), (0, .ref (ad 6)), (1, .int p1)]) hx hb dX0_takeFromHlWithCarry_46 hl (by decide) rfl (fun ls hl => ?_)
  refine lv_aload_n hx hb dX0_takeFromHlWithCarry_48 rfl (lv_at hl 4 rfl) ?_
  refine cg_6_0 X hP k_122 dX0_takeFromHlWithCarry_49 ?_
  refine lv_iconst (v := (3 : Int32)) hx hb dX0_takeFromHlWithCarry_52 (by decide) ?_
  refine lv_iload_n hx hb dX0_takeFromHlWithCarry_53 rfl (lv_at hl 2 rfl) ?_
  have hq := bd_some h; clear h; obtain ⟨s11, h10, h⟩ := hq
  refine sw_vv (rest := []) c_good X (cX6_load_m h10) calX6_load k_500 hP hD hS 4 6 rfl rfl rfl ⟨rfl, rfl⟩ rfl hl.1 rfl (Nat.le_of_ble_eq_true rfl) dX0_takeFromHlWithCarry_54 (fun H locs hP hD hS => ?_)
  refine lv_aload_n hx hb dX0_takeFromHlWithCarry_57 rfl (lv_at hl 4 rfl) ?_
  refine cg_6_0 X hP k_122 dX0_takeFromHlWithCarry_58 ?_
  refine lv_iload_n hx hb dX0_takeFromHlWithCarry_61 rfl (lv_at hl 2 rfl) ?_
  have hq := bd_some h; clear h; obtain ⟨r13, h12, h⟩ := hq
  refine sw_si (rest := [.ref (ad 4)]) c_good X (cX0_signAndZeroOfPair_m h12) calX0_signAndZeroOfPair k_713 hP hD hS ⟨rfl, rfl⟩ rfl hl.1 rfl (Nat.le_of_ble_eq_true rfl) dX0_takeFromHlWithCarry_62 (fun H locs hP hD hS => ?_)
  refine lv_iload hx hb dX0_takeFromHlWithCarry_65 (lv_at hl 0 rfl) ?_
  refine lv_ior hx hb dX0_takeFromHlWithCarry_67 ?_
  refine lv_iload hx hb dX0_takeFromHlWithCarry_68 (lv_at hl 1 rfl) ?_
  refine lv_bipush (v := (13 : Int32)) hx hb dX0_takeFromHlWithCarry_70 (by decide) ?_
  refine lv_ishr hx hb dX0_takeFromHlWithCarry_72 ?_
  refine lv_ior hx hb dX0_takeFromHlWithCarry_73 ?_
  refine lv_iconst (v := (2 : Int32)) hx hb dX0_takeFromHlWithCarry_74 (by decide) ?_
  refine lv_ior hx hb dX0_takeFromHlWithCarry_75 ?_
  refine lv_iload_n hx hb dX0_takeFromHlWithCarry_76 rfl (lv_at hl 2 rfl) ?_
  refine lv_bipush (v := (16 : Int32)) hx hb dX0_takeFromHlWithCarry_77 (by decide) ?_
  refine lv_ishr hx hb dX0_takeFromHlWithCarry_79 ?_
  refine lv_iconst (v := (1 : Int32)) hx hb dX0_takeFromHlWithCarry_80 (by decide) ?_
  refine lv_iand hx hb dX0_takeFromHlWithCarry_81 ?_
  refine lv_ior hx hb dX0_takeFromHlWithCarry_82 ?_
  have hq := bd_some h; clear h; obtain ⟨s15, h14, h⟩ := hq
  refine sw_vv (rest := []) c_good X (cX6_loadFlags_m h14) calX6_loadFlags k_502 hP hD hS 4 6 rfl rfl rfl ⟨rfl, rfl⟩ rfl hl.1 rfl (Nat.le_of_ble_eq_true rfl) dX0_takeFromHlWithCarry_83 (fun H locs hP hD hS => ?_)
  obtain rfl := Option.some.inj h
  exact sw_vret X hP hD hS dX0_takeFromHlWithCarry_86
theorem dX0_moved_0 : decode cX0_moved 0 = .ok (.iload_n 0, 1) := by decide +kernel
theorem dX0_moved_1 : decode cX0_moved 1 = .ok (.tableswitch 86 0 5 #[39, 48, 57, 63, 72, 76], 39) := by decide +kernel
theorem dX0_moved_40 : decode cX0_moved 40 = .ok (.iload_n 1, 1) := by decide +kernel
theorem dX0_moved_41 : decode cX0_moved 41 = .ok (.iconst 1, 1) := by decide +kernel
theorem dX0_moved_42 : decode cX0_moved 42 = .ok (.ishl, 1) := by decide +kernel
theorem dX0_moved_43 : decode cX0_moved 43 = .ok (.iload_n 1, 1) := by decide +kernel
theorem dX0_moved_44 : decode cX0_moved 44 = .ok (.bipush 7, 2) := by decide +kernel
theorem dX0_moved_46 : decode cX0_moved 46 = .ok (.ishr, 1) := by decide +kernel
theorem dX0_moved_47 : decode cX0_moved 47 = .ok (.ior, 1) := by decide +kernel
theorem dX0_moved_48 : decode cX0_moved 48 = .ok (.ireturn, 1) := by decide +kernel
theorem dX0_moved_49 : decode cX0_moved 49 = .ok (.iload_n 1, 1) := by decide +kernel
theorem dX0_moved_50 : decode cX0_moved 50 = .ok (.iconst 1, 1) := by decide +kernel
theorem dX0_moved_51 : decode cX0_moved 51 = .ok (.ishr, 1) := by decide +kernel
theorem dX0_moved_52 : decode cX0_moved 52 = .ok (.iload_n 1, 1) := by decide +kernel
theorem dX0_moved_53 : decode cX0_moved 53 = .ok (.bipush 7, 2) := by decide +kernel
theorem dX0_moved_55 : decode cX0_moved 55 = .ok (.ishl, 1) := by decide +kernel
theorem dX0_moved_56 : decode cX0_moved 56 = .ok (.ior, 1) := by decide +kernel
theorem dX0_moved_57 : decode cX0_moved 57 = .ok (.ireturn, 1) := by decide +kernel
theorem dX0_moved_58 : decode cX0_moved 58 = .ok (.iload_n 1, 1) := by decide +kernel
theorem dX0_moved_59 : decode cX0_moved 59 = .ok (.iconst 1, 1) := by decide +kernel
theorem dX0_moved_60 : decode cX0_moved 60 = .ok (.ishl, 1) := by decide +kernel
theorem dX0_moved_61 : decode cX0_moved 61 = .ok (.iload_n 2, 1) := by decide +kernel
theorem dX0_moved_62 : decode cX0_moved 62 = .ok (.ior, 1) := by decide +kernel
theorem dX0_moved_63 : decode cX0_moved 63 = .ok (.ireturn, 1) := by decide +kernel
theorem dX0_moved_64 : decode cX0_moved 64 = .ok (.iload_n 1, 1) := by decide +kernel
theorem dX0_moved_65 : decode cX0_moved 65 = .ok (.iconst 1, 1) := by decide +kernel
theorem dX0_moved_66 : decode cX0_moved 66 = .ok (.ishr, 1) := by decide +kernel
theorem dX0_moved_67 : decode cX0_moved 67 = .ok (.iload_n 2, 1) := by decide +kernel
theorem dX0_moved_68 : decode cX0_moved 68 = .ok (.bipush 7, 2) := by decide +kernel
theorem dX0_moved_70 : decode cX0_moved 70 = .ok (.ishl, 1) := by decide +kernel
theorem dX0_moved_71 : decode cX0_moved 71 = .ok (.ior, 1) := by decide +kernel
theorem dX0_moved_72 : decode cX0_moved 72 = .ok (.ireturn, 1) := by decide +kernel
theorem dX0_moved_73 : decode cX0_moved 73 = .ok (.iload_n 1, 1) := by decide +kernel
theorem dX0_moved_74 : decode cX0_moved 74 = .ok (.iconst 1, 1) := by decide +kernel
theorem dX0_moved_75 : decode cX0_moved 75 = .ok (.ishl, 1) := by decide +kernel
theorem dX0_moved_76 : decode cX0_moved 76 = .ok (.ireturn, 1) := by decide +kernel
theorem dX0_moved_77 : decode cX0_moved 77 = .ok (.iload_n 1, 1) := by decide +kernel
theorem dX0_moved_78 : decode cX0_moved 78 = .ok (.iconst 1, 1) := by decide +kernel
theorem dX0_moved_79 : decode cX0_moved 79 = .ok (.ishr, 1) := by decide +kernel
theorem dX0_moved_80 : decode cX0_moved 80 = .ok (.iload_n 1, 1) := by decide +kernel
theorem dX0_moved_81 : decode cX0_moved 81 = .ok (.sipush 128, 3) := by decide +kernel
theorem dX0_moved_84 : decode cX0_moved 84 = .ok (.iand, 1) := by decide +kernel
theorem dX0_moved_85 : decode cX0_moved 85 = .ok (.ior, 1) := by decide +kernel
theorem dX0_moved_86 : decode cX0_moved 86 = .ok (.ireturn, 1) := by decide +kernel
theorem dX0_moved_87 : decode cX0_moved 87 = .ok (.iload_n 1, 1) := by decide +kernel
theorem dX0_moved_88 : decode cX0_moved 88 = .ok (.iconst 1, 1) := by decide +kernel
theorem dX0_moved_89 : decode cX0_moved 89 = .ok (.ishr, 1) := by decide +kernel
theorem dX0_moved_90 : decode cX0_moved 90 = .ok (.ireturn, 1) := by decide +kernel
def fX0_moved (p1 p2 p3 : Int32) : Option (Int32) := if p1 ∈ ([(0 : Int32)] : List Int32) then (some ((p2 <<< ((1 : Int32) &&& 31)) ||| (p2 >>> ((7 : Int32) &&& 31)))) else if p1 ∈ ([(1 : Int32)] : List Int32) then (some ((p2 >>> ((1 : Int32) &&& 31)) ||| (p2 <<< ((7 : Int32) &&& 31)))) else if p1 ∈ ([(2 : Int32)] : List Int32) then (some ((p2 <<< ((1 : Int32) &&& 31)) ||| p3)) else if p1 ∈ ([(3 : Int32)] : List Int32) then (some ((p2 >>> ((1 : Int32) &&& 31)) ||| (p3 <<< ((7 : Int32) &&& 31)))) else if p1 ∈ ([(4 : Int32)] : List Int32) then (some (p2 <<< ((1 : Int32) &&& 31))) else if p1 ∈ ([(5 : Int32)] : List Int32) then (some ((p2 >>> ((1 : Int32) &&& 31)) ||| (p2 &&& (128 : Int32)))) else (some (p2 >>> ((1 : Int32) &&& 31)))
set_option maxHeartbeats 4000000 in
set_option maxRecDepth 100000 in
theorem cX0_moved_m {l : Launch} {dC : Nat → ClassId} {dI : Nat → Nat → Nat} {cI : ClassId} {w : va_W} {p1 p2 p3 : Int32} {zr : Int32} (h : fX0_moved p1 p2 p3 = some zr) : sw_Mi l yX0_moved (sw_ws yX0_moved cX0_moved 3 (some .int)) (sw_rm 0 0) (dC, dI) vwCl [(cI, .int)] cF [.int p1, .int p2, .int p3] w w zr := by
  intro sz
  refine sw_of (cc := cX0_moved) (maxL := 3) (ret := (some .int)) (by decide) rfl (Nat.le_of_ble_eq_true rfl) ?_
  intro p e s m args below meth c A ls hAe hsz X _ hP hD hS hl
  rw [hAe]
  have hx := X.1.1
  have hb := X.1.2.1
  have hown := X.1.2.2.2.1
  have hts := X.1.2.2.2.2
  replace hl : lv_has ls 3 [(0, .int p1), (1, .int p2), (2, .int p3)] := hl
  unfold fX0_moved at h
  refine lv_iload_n hx hb dX0_moved_0 rfl (lv_at hl 0 rfl) ?_
  by_cases c1 : p1 ∈ ([(0 : Int32)] : List Int32)
  · replace h := if_yes h c1
    refine sw_tabK (tgt := 40) (off := 39) hx hb dX0_moved_1 _ c1 (by decide +kernel) (by decide) ?_
    refine lv_iload_n hx hb dX0_moved_40 rfl (lv_at hl 1 rfl) ?_
    refine lv_iconst (v := (1 : Int32)) hx hb dX0_moved_41 (by decide) ?_
    refine lv_ishl hx hb dX0_moved_42 ?_
    refine lv_iload_n hx hb dX0_moved_43 rfl (lv_at hl 1 rfl) ?_
    refine lv_bipush (v := (7 : Int32)) hx hb dX0_moved_44 (by decide) ?_
    refine lv_ishr hx hb dX0_moved_46 ?_
    refine lv_ior hx hb dX0_moved_47 ?_
    obtain rfl := Option.some.inj h
    exact sw_iret X hP hD hS dX0_moved_48
  · replace h := if_no h c1
    by_cases c2 : p1 ∈ ([(1 : Int32)] : List Int32)
    · replace h := if_yes h c2
      refine sw_tabK (tgt := 49) (off := 48) hx hb dX0_moved_1 _ c2 (by decide +kernel) (by decide) ?_
      refine lv_iload_n hx hb dX0_moved_49 rfl (lv_at hl 1 rfl) ?_
      refine lv_iconst (v := (1 : Int32)) hx hb dX0_moved_50 (by decide) ?_
      refine lv_ishr hx hb dX0_moved_51 ?_
      refine lv_iload_n hx hb dX0_moved_52 rfl (lv_at hl 1 rfl) ?_
      refine lv_bipush (v := (7 : Int32)) hx hb dX0_moved_53 (by decide) ?_
      refine lv_ishl hx hb dX0_moved_55 ?_
      refine lv_ior hx hb dX0_moved_56 ?_
      obtain rfl := Option.some.inj h
      exact sw_iret X hP hD hS dX0_moved_57
    · replace h := if_no h c2
      by_cases c3 : p1 ∈ ([(2 : Int32)] : List Int32)
      · replace h := if_yes h c3
        refine sw_tabK (tgt := 58) (off := 57) hx hb dX0_moved_1 _ c3 (by decide +kernel) (by decide) ?_
        refine lv_iload_n hx hb dX0_moved_58 rfl (lv_at hl 1 rfl) ?_
        refine lv_iconst (v := (1 : Int32)) hx hb dX0_moved_59 (by decide) ?_
        refine lv_ishl hx hb dX0_moved_60 ?_
        refine lv_iload_n hx hb dX0_moved_61 rfl (lv_at hl 2 rfl) ?_
        refine lv_ior hx hb dX0_moved_62 ?_
        obtain rfl := Option.some.inj h
        exact sw_iret X hP hD hS dX0_moved_63
      · replace h := if_no h c3
        by_cases c4 : p1 ∈ ([(3 : Int32)] : List Int32)
        · replace h := if_yes h c4
          refine sw_tabK (tgt := 64) (off := 63) hx hb dX0_moved_1 _ c4 (by decide +kernel) (by decide) ?_
          refine lv_iload_n hx hb dX0_moved_64 rfl (lv_at hl 1 rfl) ?_
          refine lv_iconst (v := (1 : Int32)) hx hb dX0_moved_65 (by decide) ?_
          refine lv_ishr hx hb dX0_moved_66 ?_
          refine lv_iload_n hx hb dX0_moved_67 rfl (lv_at hl 2 rfl) ?_
          refine lv_bipush (v := (7 : Int32)) hx hb dX0_moved_68 (by decide) ?_
          refine lv_ishl hx hb dX0_moved_70 ?_
          refine lv_ior hx hb dX0_moved_71 ?_
          obtain rfl := Option.some.inj h
          exact sw_iret X hP hD hS dX0_moved_72
        · replace h := if_no h c4
          by_cases c5 : p1 ∈ ([(4 : Int32)] : List Int32)
          · replace h := if_yes h c5
            refine sw_tabK (tgt := 73) (off := 72) hx hb dX0_moved_1 _ c5 (by decide +kernel) (by decide) ?_
            refine lv_iload_n hx hb dX0_moved_73 rfl (lv_at hl 1 rfl) ?_
            refine lv_iconst (v := (1 : Int32)) hx hb dX0_moved_74 (by decide) ?_
            refine lv_ishl hx hb dX0_moved_75 ?_
            obtain rfl := Option.some.inj h
            exact sw_iret X hP hD hS dX0_moved_76
          · replace h := if_no h c5
            by_cases c6 : p1 ∈ ([(5 : Int32)] : List Int32)
            · replace h := if_yes h c6
              refine sw_tabK (tgt := 77) (off := 76) hx hb dX0_moved_1 _ c6 (by decide +kernel) (by decide) ?_
              refine lv_iload_n hx hb dX0_moved_77 rfl (lv_at hl 1 rfl) ?_
              refine lv_iconst (v := (1 : Int32)) hx hb dX0_moved_78 (by decide) ?_
              refine lv_ishr hx hb dX0_moved_79 ?_
              refine lv_iload_n hx hb dX0_moved_80 rfl (lv_at hl 1 rfl) ?_
              refine lv_sipush (v := (128 : Int32)) hx hb dX0_moved_81 (by decide) ?_
              refine lv_iand hx hb dX0_moved_84 ?_
              refine lv_ior hx hb dX0_moved_85 ?_
              obtain rfl := Option.some.inj h
              exact sw_iret X hP hD hS dX0_moved_86
            · replace h := if_no h c6
              refine sw_tabD (tgt := 87) hx hb dX0_moved_1 (([(0 : Int32)] : List Int32) ++ (([(1 : Int32)] : List Int32) ++ (([(2 : Int32)] : List Int32) ++ (([(3 : Int32)] : List Int32) ++ (([(4 : Int32)] : List Int32) ++ ([(5 : Int32)] : List Int32)))))) (fun hm => (List.mem_append.mp hm).elim c1 (fun hm => (List.mem_append.mp hm).elim c2 (fun hm => (List.mem_append.mp hm).elim c3 (fun hm => (List.mem_append.mp hm).elim c4 (fun hm => (List.mem_append.mp hm).elim c5 c6))))) (by decide +kernel) (by decide) ?_
              refine lv_iload_n hx hb dX0_moved_87 rfl (lv_at hl 1 rfl) ?_
              refine lv_iconst (v := (1 : Int32)) hx hb dX0_moved_88 (by decide) ?_
              refine lv_ishr hx hb dX0_moved_89 ?_
              obtain rfl := Option.some.inj h
              exact sw_iret X hP hD hS dX0_moved_90
theorem dX0_bitOut_0 : decode cX0_bitOut 0 = .ok (.iload_n 0, 1) := by decide +kernel
theorem dX0_bitOut_1 : decode cX0_bitOut 1 = .ok (.iconst 1, 1) := by decide +kernel
theorem dX0_bitOut_2 : decode cX0_bitOut 2 = .ok (.iand, 1) := by decide +kernel
theorem dX0_bitOut_3 : decode cX0_bitOut 3 = .ok (.ifCond .ne 7, 3) := by decide +kernel
theorem dX0_bitOut_6 : decode cX0_bitOut 6 = .ok (.iconst 1, 1) := by decide +kernel
theorem dX0_bitOut_7 : decode cX0_bitOut 7 = .ok (.goto 4, 3) := by decide +kernel
theorem dX0_bitOut_10 : decode cX0_bitOut 10 = .ok (.iconst 0, 1) := by decide +kernel
theorem dX0_bitOut_11 : decode cX0_bitOut 11 = .ok (.istore_n 2, 1) := by decide +kernel
theorem dX0_bitOut_12 : decode cX0_bitOut 12 = .ok (.iload_n 2, 1) := by decide +kernel
theorem dX0_bitOut_13 : decode cX0_bitOut 13 = .ok (.ifCond .eq 10, 3) := by decide +kernel
theorem dX0_bitOut_16 : decode cX0_bitOut 16 = .ok (.iload_n 1, 1) := by decide +kernel
theorem dX0_bitOut_17 : decode cX0_bitOut 17 = .ok (.bipush 7, 2) := by decide +kernel
theorem dX0_bitOut_19 : decode cX0_bitOut 19 = .ok (.ishr, 1) := by decide +kernel
theorem dX0_bitOut_20 : decode cX0_bitOut 20 = .ok (.goto 6, 3) := by decide +kernel
theorem dX0_bitOut_23 : decode cX0_bitOut 23 = .ok (.iload_n 1, 1) := by decide +kernel
theorem dX0_bitOut_24 : decode cX0_bitOut 24 = .ok (.iconst 1, 1) := by decide +kernel
theorem dX0_bitOut_25 : decode cX0_bitOut 25 = .ok (.iand, 1) := by decide +kernel
theorem dX0_bitOut_26 : decode cX0_bitOut 26 = .ok (.ireturn, 1) := by decide +kernel
def fX0_bitOut (p1 p2 : Int32) : Option (Int32) := bd (if (p1 &&& (1 : Int32)) = (0 : Int32) then (some (1 : Int32)) else (some (0 : Int32))) fun x3 => if x3 = (0 : Int32) then (some (p2 &&& (1 : Int32))) else (some (p2 >>> ((7 : Int32) &&& 31)))
set_option maxHeartbeats 4000000 in
set_option maxRecDepth 100000 in
theorem cX0_bitOut_m {l : Launch} {dC : Nat → ClassId} {dI : Nat → Nat → Nat} {cI : ClassId} {w : va_W} {p1 p2 : Int32} {zr : Int32} (h : fX0_bitOut p1 p2 = some zr) : sw_Mi l yX0_bitOut (sw_ws yX0_bitOut cX0_bitOut 3 (some .int)) (sw_rm 0 0) (dC, dI) vwCl [(cI, .int)] cF [.int p1, .int p2] w w zr := by
  intro sz
  refine sw_of (cc := cX0_bitOut) (maxL := 3) (ret := (some .int)) (by decide) rfl (Nat.le_of_ble_eq_true rfl) ?_
  intro p e s m args below meth c A ls hAe hsz X _ hP hD hS hl
  rw [hAe]
  have hx := X.1.1
  have hb := X.1.2.1
  have hown := X.1.2.2.2.1
  have hts := X.1.2.2.2.2
  replace hl : lv_has ls 3 [(0, .int p1), (1, .int p2)] := hl
  unfold fX0_bitOut at h
  refine lv_iload_n hx hb dX0_bitOut_0 rfl (lv_at hl 0 rfl) ?_
  refine lv_iconst (v := (1 : Int32)) hx hb dX0_bitOut_1 (by decide) ?_
  refine lv_iand hx hb dX0_bitOut_2 ?_
  have hq := bd_some h; clear h; obtain ⟨x3, h4, h⟩ := hq
  have K1 : ∀ (H : Heap) (locs : List Loc), va_P (dC, dI) vwCl w H → va_D A w → va_S A s.heap H locs → W p l e (sw_rm 0 0) s m args below meth c H locs 0 0 (MQ below (sw_Qi (dC, dI) vwCl [(cI, .int)] A w zr) args s 0 0 A) (F0 m 11 ls [.int x3]) := by
    intro H locs hP hD hS
    refine lv_istore_n (lv' := [(2, .int x3), (0, .int p1), (1, .int p2)]) hx hb dX0_bitOut_11 rfl hl (by decide) rfl (fun ls hl => ?_)
    refine lv_iload_n hx hb dX0_bitOut_12 rfl (lv_at hl 0 rfl) ?_
    refine lv_if_eq (tgt := 23) hx hb dX0_bitOut_13 (by decide) (fun c5 => ?_) (fun c5 => ?_)
    · replace h := if_yes h c5
      refine lv_iload_n hx hb dX0_bitOut_23 rfl (lv_at hl 2 rfl) ?_
      refine lv_iconst (v := (1 : Int32)) hx hb dX0_bitOut_24 (by decide) ?_
      refine lv_iand hx hb dX0_bitOut_25 ?_
      obtain rfl := Option.some.inj h
      exact sw_iret X hP hD hS dX0_bitOut_26
    · replace h := if_no h c5
      refine lv_iload_n hx hb dX0_bitOut_16 rfl (lv_at hl 2 rfl) ?_
      refine lv_bipush (v := (7 : Int32)) hx hb dX0_bitOut_17 (by decide) ?_
      refine lv_ishr hx hb dX0_bitOut_19 ?_
      refine lv_goto (tgt := 26) hx hb dX0_bitOut_20 (by decide) ?_
      obtain rfl := Option.some.inj h
      exact sw_iret X hP hD hS dX0_bitOut_26
  replace h := h4
  clear h4
  refine lv_if_ne (tgt := 10) hx hb dX0_bitOut_3 (by decide) (fun c2 => ?_) (fun c2 => ?_)
  · replace h := if_no h c2
    refine lv_iconst (v := (0 : Int32)) hx hb dX0_bitOut_10 (by decide) ?_
    obtain rfl := Option.some.inj h
    exact K1 _ _ hP hD hS
  · replace h := if_yes h c2
    refine lv_iconst (v := (1 : Int32)) hx hb dX0_bitOut_6 (by decide) ?_
    refine lv_goto (tgt := 11) hx hb dX0_bitOut_7 (by decide) ?_
    obtain rfl := Option.some.inj h
    exact K1 _ _ hP hD hS
theorem dX0_shifted_0 : decode cX0_shifted 0 = .ok (.iload_n 1, 1) := by decide +kernel
theorem dX0_shifted_1 : decode cX0_shifted 1 = .ok (.iload_n 2, 1) := by decide +kernel
theorem dX0_shifted_2 : decode cX0_shifted 2 = .ok (.aload_n 0, 1) := by decide +kernel
theorem dX0_shifted_3 : decode cX0_shifted 3 = .ok (.getfield 7, 3) := by decide +kernel
theorem dX0_shifted_6 : decode cX0_shifted 6 = .ok (.invokevirtual 19, 3) := by decide +kernel
theorem dX0_shifted_9 : decode cX0_shifted 9 = .ok (.iconst 1, 1) := by decide +kernel
theorem dX0_shifted_10 : decode cX0_shifted 10 = .ok (.iand, 1) := by decide +kernel
theorem dX0_shifted_11 : decode cX0_shifted 11 = .ok (.invokestatic 57, 3) := by decide +kernel
theorem dX0_shifted_14 : decode cX0_shifted 14 = .ok (.sipush 255, 3) := by decide +kernel
theorem dX0_shifted_17 : decode cX0_shifted 17 = .ok (.iand, 1) := by decide +kernel
theorem dX0_shifted_18 : decode cX0_shifted 18 = .ok (.istore_n 3, 1) := by decide +kernel
theorem dX0_shifted_19 : decode cX0_shifted 19 = .ok (.aload_n 0, 1) := by decide +kernel
theorem dX0_shifted_20 : decode cX0_shifted 20 = .ok (.getfield 7, 3) := by decide +kernel
theorem dX0_shifted_23 : decode cX0_shifted 23 = .ok (.iload_n 3, 1) := by decide +kernel
theorem dX0_shifted_24 : decode cX0_shifted 24 = .ok (.invokestatic 37, 3) := by decide +kernel
theorem dX0_shifted_27 : decode cX0_shifted 27 = .ok (.iload_n 3, 1) := by decide +kernel
theorem dX0_shifted_28 : decode cX0_shifted 28 = .ok (.invokestatic 44, 3) := by decide +kernel
theorem dX0_shifted_31 : decode cX0_shifted 31 = .ok (.ior, 1) := by decide +kernel
theorem dX0_shifted_32 : decode cX0_shifted 32 = .ok (.iload_n 1, 1) := by decide +kernel
theorem dX0_shifted_33 : decode cX0_shifted 33 = .ok (.iload_n 2, 1) := by decide +kernel
theorem dX0_shifted_34 : decode cX0_shifted 34 = .ok (.invokestatic 60, 3) := by decide +kernel
theorem dX0_shifted_37 : decode cX0_shifted 37 = .ok (.ior, 1) := by decide +kernel
theorem dX0_shifted_38 : decode cX0_shifted 38 = .ok (.invokevirtual 40, 3) := by decide +kernel
theorem dX0_shifted_41 : decode cX0_shifted 41 = .ok (.iload_n 3, 1) := by decide +kernel
theorem dX0_shifted_42 : decode cX0_shifted 42 = .ok (.ireturn, 1) := by decide +kernel
def fX0_shifted (p1 p2 : Int32) (s0 : zS) : Option (Int32 × zS) := bd2 (fX6_flags  s0) fun r2 s3 => bd (fX0_moved p1 p2 (r2 &&& (1 : Int32))) fun r5 => nm (r5 &&& (255 : Int32)) fun x6 => bd (fX0_signAndZero x6) fun r8 => bd (fX0_even x6) fun r10 => bd (fX0_bitOut p1 p2) fun r12 => bd (fX6_loadFlags ((r8 ||| r10) ||| r12) s3) fun s14 => some (x6, s14)
set_option maxHeartbeats 4000000 in
set_option maxRecDepth 100000 in
theorem cX0_shifted_m {l : Launch} {dC : Nat → ClassId} {dI : Nat → Nat → Nat} {ad : Nat → Nat} {cI : ClassId} {p1 p2 : Int32} {s0 : zS} {zr : Int32} {zs : zS} (h : fX0_shifted p1 p2 s0 = some (zr, zs)) : sw_Mi l yX0_shifted (sw_ws yX0_shifted cX0_shifted 4 (some .int)) (sw_rm 2 40) (dC, dI) vwCl [(cI, .int)] cF [.ref (ad 6), .int p1, .int p2] (cW ad cI s0) (cW ad cI zs) zr := by
  intro sz
  refine sw_of (cc := cX0_shifted) (maxL := 4) (ret := (some .int)) (by decide) rfl (Nat.le_of_ble_eq_true rfl) ?_
  intro p e s m args below meth c A ls hAe hsz X _ hP hD hS hl
  rw [hAe]
  have hx := X.1.1
  have hb := X.1.2.1
  have hown := X.1.2.2.2.1
  have hts := X.1.2.2.2.2
  replace hl : lv_has ls 4 [(0, .ref (ad 6)), (1, .int p1), (2, .int p2)] := hl
  unfold fX0_shifted at h
  refine lv_iload_n hx hb dX0_shifted_0 rfl (lv_at hl 1 rfl) ?_
  refine lv_iload_n hx hb dX0_shifted_1 rfl (lv_at hl 2 rfl) ?_
  refine lv_aload_n hx hb dX0_shifted_2 rfl (lv_at hl 0 rfl) ?_
  refine cg_6_0 X hP k_122 dX0_shifted_3 ?_
  have hq := bd2_some h; clear h; obtain ⟨r2, s3, h1, h⟩ := hq
  refine sw_vi (rest := [.int p2, .int p1]) c_good X (cX6_flags_m h1) calX6_flags k_501 hP hD hS 4 6 rfl rfl rfl ⟨rfl, rfl⟩ rfl hl.1 rfl (Nat.le_of_ble_eq_true rfl) dX0_shifted_6 (fun H locs hP hD hS => ?_)
  refine lv_iconst (v := (1 : Int32)) hx hb dX0_shifted_9 (by decide) ?_
  refine lv_iand hx hb dX0_shifted_10 ?_
  have hq := bd_some h; clear h; obtain ⟨r5, h4, h⟩ := hq
  refine sw_si (rest := []) c_good X (cX0_moved_m h4) calX0_moved k_596 hP hD hS ⟨rfl, rfl⟩ rfl hl.1 rfl (Nat.le_of_ble_eq_true rfl) dX0_shifted_11 (fun H locs hP hD hS => ?_)
  refine lv_sipush (v := (255 : Int32)) hx hb dX0_shifted_14 (by decide) ?_
  refine lv_iand hx hb dX0_shifted_17 ?_
  refine lv_topi (fun x6 ex6 => ?_)
  replace h := nm_use ex6 h
  refine lv_istore_n (lv' := [(3, .int x6), (0, .ref (ad 6)), (1, .int p1), (2, .int p2)]) hx hb dX0_shifted_18 rfl hl (by decide) rfl (fun ls hl => ?_)
  refine lv_aload_n hx hb dX0_shifted_19 rfl (lv_at hl 1 rfl) ?_
  refine cg_6_0 X hP k_122 dX0_shifted_20 ?_
  refine lv_iload_n hx hb dX0_shifted_23 rfl (lv_at hl 0 rfl) ?_
  have hq := bd_some h; clear h; obtain ⟨r8, h7, h⟩ := hq
  refine sw_si (rest := [.ref (ad 4)]) c_good X (cX0_signAndZero_m h7) calX0_signAndZero k_548 hP hD hS ⟨rfl, rfl⟩ rfl hl.1 rfl (Nat.le_of_ble_eq_true rfl) dX0_shifted_24 (fun H locs hP hD hS => ?_)
  refine lv_iload_n hx hb dX0_shifted_27 rfl (lv_at hl 0 rfl) ?_
  have hq := bd_some h; clear h; obtain ⟨r10, h9, h⟩ := hq
  refine sw_si (rest := [.int r8, .ref (ad 4)]) c_good X (cX0_even_m h9) calX0_even k_571 hP hD hS ⟨rfl, rfl⟩ rfl hl.1 rfl (Nat.le_of_ble_eq_true rfl) dX0_shifted_28 (fun H locs hP hD hS => ?_)
  refine lv_ior hx hb dX0_shifted_31 ?_
  refine lv_iload_n hx hb dX0_shifted_32 rfl (lv_at hl 2 rfl) ?_
  refine lv_iload_n hx hb dX0_shifted_33 rfl (lv_at hl 3 rfl) ?_
  have hq := bd_some h; clear h; obtain ⟨r12, h11, h⟩ := hq
  refine sw_si (rest := [.int (r8 ||| r10), .ref (ad 4)]) c_good X (cX0_bitOut_m h11) calX0_bitOut k_599 hP hD hS ⟨rfl, rfl⟩ rfl hl.1 rfl (Nat.le_of_ble_eq_true rfl) dX0_shifted_34 (fun H locs hP hD hS => ?_)
  refine lv_ior hx hb dX0_shifted_37 ?_
  have hq := bd_some h; clear h; obtain ⟨s14, h13, h⟩ := hq
  refine sw_vv (rest := []) c_good X (cX6_loadFlags_m h13) calX6_loadFlags k_502 hP hD hS 4 6 rfl rfl rfl ⟨rfl, rfl⟩ rfl hl.1 rfl (Nat.le_of_ble_eq_true rfl) dX0_shifted_38 (fun H locs hP hD hS => ?_)
  refine lv_iload_n hx hb dX0_shifted_41 rfl (lv_at hl 0 rfl) ?_
  obtain ⟨rfl, rfl⟩ := Prod.mk.inj (Option.some.inj h)
  exact sw_iret X hP hD hS dX0_shifted_42
