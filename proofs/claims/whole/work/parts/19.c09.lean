theorem dX8_poke_0 : decode cX8_poke 0 = .ok (.iload_n 1, 1) := by decide +kernel
theorem dX8_poke_1 : decode cX8_poke 1 = .ok (.invokestatic 48, 3) := by decide +kernel
theorem dX8_poke_4 : decode cX8_poke 4 = .ok (.ifCond .eq 13, 3) := by decide +kernel
theorem dX8_poke_7 : decode cX8_poke 7 = .ok (.iload_n 3, 1) := by decide +kernel
theorem dX8_poke_8 : decode cX8_poke 8 = .ok (.iconst 1, 1) := by decide +kernel
theorem dX8_poke_9 : decode cX8_poke 9 = .ok (.if_icmp .lt 8, 3) := by decide +kernel
theorem dX8_poke_12 : decode cX8_poke 12 = .ok (.iload_n 3, 1) := by decide +kernel
theorem dX8_poke_13 : decode cX8_poke 13 = .ok (.iconst 4, 1) := by decide +kernel
theorem dX8_poke_14 : decode cX8_poke 14 = .ok (.if_icmp .le 11, 3) := by decide +kernel
theorem dX8_poke_17 : decode cX8_poke 17 = .ok (.new 52, 3) := by decide +kernel
theorem dX8_poke_20 : decode cX8_poke 20 = .ok (.dup, 1) := by decide +kernel
theorem dX8_poke_21 : decode cX8_poke 21 = .ok (.invokespecial 54, 3) := by decide +kernel
theorem dX8_poke_24 : decode cX8_poke 24 = .ok (.athrow, 1) := by decide +kernel
theorem dX8_poke_25 : decode cX8_poke 25 = .ok (.iconst 0, 1) := by decide +kernel
theorem dX8_poke_26 : decode cX8_poke 26 = .ok (.istore 4, 2) := by decide +kernel
theorem dX8_poke_28 : decode cX8_poke 28 = .ok (.iload 4, 2) := by decide +kernel
theorem dX8_poke_30 : decode cX8_poke 30 = .ok (.iload_n 3, 1) := by decide +kernel
theorem dX8_poke_31 : decode cX8_poke 31 = .ok (.if_icmp .ge 30, 3) := by decide +kernel
theorem dX8_poke_34 : decode cX8_poke 34 = .ok (.aload_n 0, 1) := by decide +kernel
theorem dX8_poke_35 : decode cX8_poke 35 = .ok (.getfield 21, 3) := by decide +kernel
theorem dX8_poke_38 : decode cX8_poke 38 = .ok (.iload_n 1, 1) := by decide +kernel
theorem dX8_poke_39 : decode cX8_poke 39 = .ok (.iload 4, 2) := by decide +kernel
theorem dX8_poke_41 : decode cX8_poke 41 = .ok (.iadd, 1) := by decide +kernel
theorem dX8_poke_42 : decode cX8_poke 42 = .ok (.iload_n 2, 1) := by decide +kernel
theorem dX8_poke_43 : decode cX8_poke 43 = .ok (.bipush 24, 2) := by decide +kernel
theorem dX8_poke_45 : decode cX8_poke 45 = .ok (.bipush 8, 2) := by decide +kernel
theorem dX8_poke_47 : decode cX8_poke 47 = .ok (.iload 4, 2) := by decide +kernel
theorem dX8_poke_49 : decode cX8_poke 49 = .ok (.imul, 1) := by decide +kernel
theorem dX8_poke_50 : decode cX8_poke 50 = .ok (.isub, 1) := by decide +kernel
theorem dX8_poke_51 : decode cX8_poke 51 = .ok (.ishr, 1) := by decide +kernel
theorem dX8_poke_52 : decode cX8_poke 52 = .ok (.invokevirtual 55, 3) := by decide +kernel
theorem dX8_poke_55 : decode cX8_poke 55 = .ok (.iinc 4 1, 3) := by decide +kernel
theorem dX8_poke_58 : decode cX8_poke 58 = .ok (.goto (-30), 3) := by decide +kernel
theorem dX8_poke_61 : decode cX8_poke 61 = .ok (.iload_n 1, 1) := by decide +kernel
theorem dX8_poke_62 : decode cX8_poke 62 = .ok (.iload_n 3, 1) := by decide +kernel
theorem dX8_poke_63 : decode cX8_poke 63 = .ok (.iadd, 1) := by decide +kernel
theorem dX8_poke_64 : decode cX8_poke 64 = .ok (.invokestatic 59, 3) := by decide +kernel
theorem dX8_poke_67 : decode cX8_poke 67 = .ok (.ireturn, 1) := by decide +kernel
def fX8_poke_L28 : Nat → Int32 → Int32 → Int32 → Int32 → zS → Option (Int32 × zS)
  | 0, _, _, _, _, _ => none
  | n + 1, v1, v2, v3, v4, s0 => if v3 ≤ v4 then (bd (fX2_within (v1 + v3)) fun r8 => some (r8, s0)) else (bd (fX2_put (v1 + v4) (v2 >>> (((24 : Int32) - ((8 : Int32) * v4)) &&& 31)) s0) fun s10 => nm (v4 + (1 : Int32)) fun x11 => fX8_poke_L28 n v1 v2 v3 x11 s10)
set_option maxHeartbeats 4000000 in
set_option maxRecDepth 100000 in
theorem cX8_poke_lp28 {l : Launch} {dC : Nat → ClassId} {dI : Nat → Nat → Nat} {ad : Nat → Nat} {cI : ClassId} {zr : Int32} {zs : zS} {p : Program} {e : Env} {s : State} {m : MethodId} {args : Array Value} {below : List Frame} {meth : Method} {c : Code} {A : Nat → Prop} (X : sw_X p s m args meth c cX8_poke 5 RX8 (some .int) (sw_ws yX8_poke cX8_poke 5 (some .int)) (dC, dI) vwCl [(cI, .int)] cF A) : ∀ (n : Nat) {v1 v2 v3 v4 : Int32} {s0 : zS} {H : Heap} {locs : List Loc} {ls : Array Slot}, fX8_poke_L28 n v1 v2 v3 v4 s0 = some (zr, zs) → va_P (dC, dI) vwCl (cW ad cI s0) H → va_D A (cW ad cI s0) → va_S A s.heap H locs → lv_has ls 5 [(0, .ref (ad 0)), (1, .int v1), (2, .int v2), (3, .int v3), (4, .int v4)] → W p l e (sw_rm 1 22) s m args below meth c H locs 0 0 (MQ below (sw_Qi (dC, dI) vwCl [(cI, .int)] A (cW ad cI zs) zr) args s 0 0 A) (F0 m 28 ls []) := by
  have hx := X.1.1
  have hb := X.1.2.1
  have hown := X.1.2.2.2.1
  have hts := X.1.2.2.2.2
  intro n
  induction n with
  | zero =>
    intro v1 v2 v3 v4 s0 H locs ls h
    rw [fX8_poke_L28] at h
    exact absurd h (fun h9 => by cases h9)
  | succ n ih =>
    intro v1 v2 v3 v4 s0 H locs ls h hP hD hS hl
    rw [fX8_poke_L28] at h
    refine lv_iload hx hb dX8_poke_28 (lv_at hl 4 rfl) ?_
    refine lv_iload_n hx hb dX8_poke_30 rfl (lv_at hl 3 rfl) ?_
    refine lv_icmp_ge (tgt := 61) hx hb dX8_poke_31 (by decide) (fun c6 => ?_) (fun c6 => ?_)
    · replace h := if_yes h c6
      refine lv_iload_n hx hb dX8_poke_61 rfl (lv_at hl 1 rfl) ?_
      refine lv_iload_n hx hb dX8_poke_62 rfl (lv_at hl 3 rfl) ?_
      refine lv_iadd hx hb dX8_poke_63 ?_
      have hq := bd_some h; clear h; obtain ⟨r8, h7, h⟩ := hq
      refine sw_si (rest := []) c_good X (cX2_within_m h7) calX2_within k_281 hP hD hS ⟨rfl, rfl⟩ rfl hl.1 rfl (Nat.le_of_ble_eq_true rfl) dX8_poke_64 (fun H locs hP hD hS => ?_)
      obtain ⟨rfl, rfl⟩ := Prod.mk.inj (Option.some.inj h)
      exact sw_iret X hP hD hS dX8_poke_67
    · replace h := if_no h c6
      refine lv_aload_n hx hb dX8_poke_34 rfl (lv_at hl 0 rfl) ?_
      refine cg_0_1 X hP k_178 dX8_poke_35 ?_
      refine lv_iload_n hx hb dX8_poke_38 rfl (lv_at hl 1 rfl) ?_
      refine lv_iload hx hb dX8_poke_39 (lv_at hl 4 rfl) ?_
      refine lv_iadd hx hb dX8_poke_41 ?_
      refine lv_iload_n hx hb dX8_poke_42 rfl (lv_at hl 2 rfl) ?_
      refine lv_bipush (v := (24 : Int32)) hx hb dX8_poke_43 (by decide) ?_
      refine lv_bipush (v := (8 : Int32)) hx hb dX8_poke_45 (by decide) ?_
      refine lv_iload hx hb dX8_poke_47 (lv_at hl 4 rfl) ?_
      refine lv_imul hx hb dX8_poke_49 ?_
      refine lv_isub hx hb dX8_poke_50 ?_
      refine lv_ishr hx hb dX8_poke_51 ?_
      have hq := bd_some h; clear h; obtain ⟨s10, h9, h⟩ := hq
      refine sw_vv (rest := []) c_good X (cX2_put_m h9) calX2_put k_277 hP hD hS 2 2 rfl rfl rfl ⟨rfl, rfl⟩ rfl hl.1 rfl (Nat.le_of_ble_eq_true rfl) dX8_poke_52 (fun H locs hP hD hS => ?_)
      obtain ⟨x11, ex11⟩ : ∃ y : Int32, y = v4 + (1 : Int32) := ⟨_, rfl⟩
      replace h := nm_use ex11 h
      refine lv_iinc (v := x11) (lv' := [(4, .int x11), (0, .ref (ad 0)), (1, .int v1), (2, .int v2), (3, .int v3)]) hx hb dX8_poke_55 hl (k := 4) rfl (by rw [ex11]; rfl) (by decide) rfl (fun ls hl => ?_)
      refine lv_goto (tgt := 28) hx hb dX8_poke_58 (by decide) ?_
      exact ih  h hP hD hS (lv_sub hl [1, 2, 3, 4, 0] rfl)
def fX8_poke (p1 p2 p3 : Int32) (s0 : zS) : Option (Int32 × zS) := bd (fX2_has p1) fun r2 => if r2 = (0 : Int32) then (none) else (if p3 < (1 : Int32) then (none) else (if p3 ≤ (4 : Int32) then (fX8_poke_L28 20001 p1 p2 p3 (0 : Int32) s0) else (none)))
set_option maxHeartbeats 4000000 in
set_option maxRecDepth 100000 in
theorem cX8_poke_m {l : Launch} {dC : Nat → ClassId} {dI : Nat → Nat → Nat} {ad : Nat → Nat} {cI : ClassId} {p1 p2 p3 : Int32} {s0 : zS} {zr : Int32} {zs : zS} (h : fX8_poke p1 p2 p3 s0 = some (zr, zs)) : sw_Mi l yX8_poke (sw_ws yX8_poke cX8_poke 5 (some .int)) (sw_rm 1 22) (dC, dI) vwCl [(cI, .int)] cF [.ref (ad 0), .int p1, .int p2, .int p3] (cW ad cI s0) (cW ad cI zs) zr := by
  intro sz
  refine sw_of (cc := cX8_poke) (maxL := 5) (ret := (some .int)) (by decide) rfl (Nat.le_of_ble_eq_true rfl) ?_
  intro p e s m args below meth c A ls hAe hsz X _ hP hD hS hl
  rw [hAe]
  have hx := X.1.1
  have hb := X.1.2.1
  have hown := X.1.2.2.2.1
  have hts := X.1.2.2.2.2
  replace hl : lv_has ls 5 [(0, .ref (ad 0)), (1, .int p1), (2, .int p2), (3, .int p3)] := hl
  unfold fX8_poke at h
  refine lv_iload_n hx hb dX8_poke_0 rfl (lv_at hl 1 rfl) ?_
  have hq := bd_some h; clear h; obtain ⟨r2, h1, h⟩ := hq
  refine sw_si (rest := []) c_good X (cX2_has_m h1) calX2_has k_212 hP hD hS ⟨rfl, rfl⟩ rfl hl.1 rfl (Nat.le_of_ble_eq_true rfl) dX8_poke_1 (fun H locs hP hD hS => ?_)
  refine lv_if_eq (tgt := 17) hx hb dX8_poke_4 (by decide) (fun c3 => ?_) (fun c3 => ?_)
  · replace h := if_yes h c3
    exact absurd h (fun h9 => by cases h9)
  · replace h := if_no h c3
    refine lv_iload_n hx hb dX8_poke_7 rfl (lv_at hl 3 rfl) ?_
    refine lv_iconst (v := (1 : Int32)) hx hb dX8_poke_8 (by decide) ?_
    refine lv_icmp_lt (tgt := 17) hx hb dX8_poke_9 (by decide) (fun c4 => ?_) (fun c4 => ?_)
    · replace h := if_yes h c4
      exact absurd h (fun h9 => by cases h9)
    · replace h := if_no h c4
      refine lv_iload_n hx hb dX8_poke_12 rfl (lv_at hl 3 rfl) ?_
      refine lv_iconst (v := (4 : Int32)) hx hb dX8_poke_13 (by decide) ?_
      refine lv_icmp_le (tgt := 25) hx hb dX8_poke_14 (by decide) (fun c5 => ?_) (fun c5 => ?_)
      · replace h := if_yes h c5
        refine lv_iconst (v := (0 : Int32)) hx hb dX8_poke_25 (by decide) ?_
        refine lv_istore (lv' := [(4, .int (0 : Int32)), (0, .ref (ad 0)), (1, .int p1), (2, .int p2), (3, .int p3)]) hx hb dX8_poke_26 hl (by decide) rfl (fun ls hl => ?_)
        exact cX8_poke_lp28 X 20001 h hP hD hS (lv_sub hl [1, 2, 3, 4, 0] rfl)
      · replace h := if_no h c5
        exact absurd h (fun h9 => by cases h9)
theorem dX8_peek_0 : decode cX8_peek 0 = .ok (.iload_n 1, 1) := by decide +kernel
theorem dX8_peek_1 : decode cX8_peek 1 = .ok (.invokestatic 48, 3) := by decide +kernel
theorem dX8_peek_4 : decode cX8_peek 4 = .ok (.ifCond .ne 11, 3) := by decide +kernel
theorem dX8_peek_7 : decode cX8_peek 7 = .ok (.new 52, 3) := by decide +kernel
theorem dX8_peek_10 : decode cX8_peek 10 = .ok (.dup, 1) := by decide +kernel
theorem dX8_peek_11 : decode cX8_peek 11 = .ok (.invokespecial 54, 3) := by decide +kernel
theorem dX8_peek_14 : decode cX8_peek 14 = .ok (.athrow, 1) := by decide +kernel
theorem dX8_peek_15 : decode cX8_peek 15 = .ok (.aload_n 0, 1) := by decide +kernel
theorem dX8_peek_16 : decode cX8_peek 16 = .ok (.getfield 21, 3) := by decide +kernel
theorem dX8_peek_19 : decode cX8_peek 19 = .ok (.iload_n 1, 1) := by decide +kernel
theorem dX8_peek_20 : decode cX8_peek 20 = .ok (.invokevirtual 63, 3) := by decide +kernel
theorem dX8_peek_23 : decode cX8_peek 23 = .ok (.ireturn, 1) := by decide +kernel
def fX8_peek (p1 : Int32) (s0 : zS) : Option (Int32 × zS) := bd (fX2_has p1) fun r2 => if r2 = (0 : Int32) then (none) else (bd2 (fX2_at p1 s0) fun r5 s6 => some (r5, s6))
set_option maxHeartbeats 4000000 in
set_option maxRecDepth 100000 in
theorem cX8_peek_m {l : Launch} {dC : Nat → ClassId} {dI : Nat → Nat → Nat} {ad : Nat → Nat} {cI : ClassId} {p1 : Int32} {s0 : zS} {zr : Int32} {zs : zS} (h : fX8_peek p1 s0 = some (zr, zs)) : sw_Mi l yX8_peek (sw_ws yX8_peek cX8_peek 2 (some .int)) (sw_rm 1 21) (dC, dI) vwCl [(cI, .int)] cF [.ref (ad 0), .int p1] (cW ad cI s0) (cW ad cI zs) zr := by
  intro sz
  refine sw_of (cc := cX8_peek) (maxL := 2) (ret := (some .int)) (by decide) rfl (Nat.le_of_ble_eq_true rfl) ?_
  intro p e s m args below meth c A ls hAe hsz X _ hP hD hS hl
  rw [hAe]
  have hx := X.1.1
  have hb := X.1.2.1
  have hown := X.1.2.2.2.1
  have hts := X.1.2.2.2.2
  replace hl : lv_has ls 2 [(0, .ref (ad 0)), (1, .int p1)] := hl
  unfold fX8_peek at h
  refine lv_iload_n hx hb dX8_peek_0 rfl (lv_at hl 1 rfl) ?_
  have hq := bd_some h; clear h; obtain ⟨r2, h1, h⟩ := hq
  refine sw_si (rest := []) c_good X (cX2_has_m h1) calX2_has k_212 hP hD hS ⟨rfl, rfl⟩ rfl hl.1 rfl (Nat.le_of_ble_eq_true rfl) dX8_peek_1 (fun H locs hP hD hS => ?_)
  refine lv_if_ne (tgt := 15) hx hb dX8_peek_4 (by decide) (fun c3 => ?_) (fun c3 => ?_)
  · replace h := if_no h c3
    refine lv_aload_n hx hb dX8_peek_15 rfl (lv_at hl 0 rfl) ?_
    refine cg_0_1 X hP k_178 dX8_peek_16 ?_
    refine lv_iload_n hx hb dX8_peek_19 rfl (lv_at hl 1 rfl) ?_
    have hq := bd2_some h; clear h; obtain ⟨r5, s6, h4, h⟩ := hq
    refine sw_vi (rest := []) c_good X (cX2_at_m h4) calX2_at k_291 hP hD hS 2 2 rfl rfl rfl ⟨rfl, rfl⟩ rfl hl.1 rfl (Nat.le_of_ble_eq_true rfl) dX8_peek_20 (fun H locs hP hD hS => ?_)
    obtain ⟨rfl, rfl⟩ := Prod.mk.inj (Option.some.inj h)
    exact sw_iret X hP hD hS dX8_peek_23
  · replace h := if_yes h c3
    exact absurd h (fun h9 => by cases h9)
theorem dX8_set_0 : decode cX8_set 0 = .ok (.iload_n 1, 1) := by decide +kernel
theorem dX8_set_1 : decode cX8_set 1 = .ok (.invokestatic 66, 3) := by decide +kernel
theorem dX8_set_4 : decode cX8_set 4 = .ok (.ifCond .eq 13, 3) := by decide +kernel
theorem dX8_set_7 : decode cX8_set 7 = .ok (.iload_n 2, 1) := by decide +kernel
theorem dX8_set_8 : decode cX8_set 8 = .ok (.ifCond .lt 9, 3) := by decide +kernel
theorem dX8_set_11 : decode cX8_set 11 = .ok (.iload_n 2, 1) := by decide +kernel
theorem dX8_set_12 : decode cX8_set 12 = .ok (.ldc 67, 2) := by decide +kernel
theorem dX8_set_14 : decode cX8_set 14 = .ok (.if_icmp .le 11, 3) := by decide +kernel
theorem dX8_set_17 : decode cX8_set 17 = .ok (.new 52, 3) := by decide +kernel
theorem dX8_set_20 : decode cX8_set 20 = .ok (.dup, 1) := by decide +kernel
theorem dX8_set_21 : decode cX8_set 21 = .ok (.invokespecial 54, 3) := by decide +kernel
theorem dX8_set_24 : decode cX8_set 24 = .ok (.athrow, 1) := by decide +kernel
theorem dX8_set_25 : decode cX8_set 25 = .ok (.aload_n 0, 1) := by decide +kernel
theorem dX8_set_26 : decode cX8_set 26 = .ok (.getfield 35, 3) := by decide +kernel
theorem dX8_set_29 : decode cX8_set 29 = .ok (.iload_n 1, 1) := by decide +kernel
theorem dX8_set_30 : decode cX8_set 30 = .ok (.iload_n 2, 1) := by decide +kernel
theorem dX8_set_31 : decode cX8_set 31 = .ok (.invokevirtual 68, 3) := by decide +kernel
theorem dX8_set_34 : decode cX8_set 34 = .ok (.iload_n 1, 1) := by decide +kernel
theorem dX8_set_35 : decode cX8_set 35 = .ok (.bipush 9, 2) := by decide +kernel
theorem dX8_set_37 : decode cX8_set 37 = .ok (.if_icmp .ne 11, 3) := by decide +kernel
theorem dX8_set_40 : decode cX8_set 40 = .ok (.aload_n 0, 1) := by decide +kernel
theorem dX8_set_41 : decode cX8_set 41 = .ok (.getfield 44, 3) := by decide +kernel
theorem dX8_set_44 : decode cX8_set 44 = .ok (.iconst 0, 1) := by decide +kernel
theorem dX8_set_45 : decode cX8_set 45 = .ok (.putfield 71, 3) := by decide +kernel
theorem dX8_set_48 : decode cX8_set 48 = .ok (.return_, 1) := by decide +kernel
def fX8_set (p1 p2 : Int32) (s0 : zS) : Option (zS) := bd (fX6_has p1) fun r2 => if r2 = (0 : Int32) then (none) else (if p2 < (0 : Int32) then (none) else (if p2 ≤ (65535 : Int32) then (bd (fX6_load p1 p2 s0) fun s7 => if p1 = (9 : Int32) then (some (st1 s7 4 (0 : Int32))) else (some s7)) else (none)))
set_option maxHeartbeats 4000000 in
set_option maxRecDepth 100000 in
theorem cX8_set_m {l : Launch} {dC : Nat → ClassId} {dI : Nat → Nat → Nat} {ad : Nat → Nat} {cI : ClassId} {p1 p2 : Int32} {s0 : zS} {zs : zS} (h : fX8_set p1 p2 s0 = some zs) : sw_Mv l yX8_set (sw_ws yX8_set cX8_set 3 none) (sw_rm 1 23) (dC, dI) vwCl [(cI, .int)] cF [.ref (ad 0), .int p1, .int p2] (cW ad cI s0) (cW ad cI zs) := by
  intro sz
  refine sw_of (cc := cX8_set) (maxL := 3) (ret := none) (by decide) rfl (Nat.le_of_ble_eq_true rfl) ?_
  intro p e s m args below meth c A ls hAe hsz X _ hP hD hS hl
  rw [hAe]
  have hx := X.1.1
  have hb := X.1.2.1
  have hown := X.1.2.2.2.1
  have hts := X.1.2.2.2.2
  replace hl : lv_has ls 3 [(0, .ref (ad 0)), (1, .int p1), (2, .int p2)] := hl
  unfold fX8_set at h
  refine lv_iload_n hx hb dX8_set_0 rfl (lv_at hl 1 rfl) ?_
  have hq := bd_some h; clear h; obtain ⟨r2, h1, h⟩ := hq
  refine sw_si (rest := []) c_good X (cX6_has_m h1) calX6_has k_302 hP hD hS ⟨rfl, rfl⟩ rfl hl.1 rfl (Nat.le_of_ble_eq_true rfl) dX8_set_1 (fun H locs hP hD hS => ?_)
  refine lv_if_eq (tgt := 17) hx hb dX8_set_4 (by decide) (fun c3 => ?_) (fun c3 => ?_)
  · replace h := if_yes h c3
    exact absurd h (fun h9 => by cases h9)
  · replace h := if_no h c3
    refine lv_iload_n hx hb dX8_set_7 rfl (lv_at hl 2 rfl) ?_
    refine lv_if_lt (tgt := 17) hx hb dX8_set_8 (by decide) (fun c4 => ?_) (fun c4 => ?_)
    · replace h := if_yes h c4
      exact absurd h (fun h9 => by cases h9)
    · replace h := if_no h c4
      refine lv_iload_n hx hb dX8_set_11 rfl (lv_at hl 2 rfl) ?_
      refine lv_ldc (v := 65535) hx hb hown (hts _ (List.mem_cons_of_mem _ k_305)) dX8_set_12 ?_
      refine lv_icmp_le (tgt := 25) hx hb dX8_set_14 (by decide) (fun c5 => ?_) (fun c5 => ?_)
      · replace h := if_yes h c5
        refine lv_aload_n hx hb dX8_set_25 rfl (lv_at hl 0 rfl) ?_
        refine cg_0_3 X hP k_180 dX8_set_26 ?_
        refine lv_iload_n hx hb dX8_set_29 rfl (lv_at hl 1 rfl) ?_
        refine lv_iload_n hx hb dX8_set_30 rfl (lv_at hl 2 rfl) ?_
        have hq := bd_some h; clear h; obtain ⟨s7, h6, h⟩ := hq
        refine sw_vv (rest := []) c_good X (cX6_load_m h6) calX6_load k_306 hP hD hS 4 6 rfl rfl rfl ⟨rfl, rfl⟩ rfl hl.1 rfl (Nat.le_of_ble_eq_true rfl) dX8_set_31 (fun H locs hP hD hS => ?_)
        refine lv_iload_n hx hb dX8_set_34 rfl (lv_at hl 1 rfl) ?_
        refine lv_bipush (v := (9 : Int32)) hx hb dX8_set_35 (by decide) ?_
        refine lv_icmp_ne (tgt := 48) hx hb dX8_set_37 (by decide) (fun c8 => ?_) (fun c8 => ?_)
        · replace h := if_no h c8
          obtain rfl := Option.some.inj h
          exact sw_vret X hP hD hS dX8_set_48
        · replace h := if_yes h c8
          refine lv_aload_n hx hb dX8_set_40 rfl (lv_at hl 0 rfl) ?_
          refine cg_0_4 X hP k_181 dX8_set_41 ?_
          refine lv_iconst (v := (0 : Int32)) hx hb dX8_set_44 (by decide) ?_
          refine cp_5_6 X hP hD hS k_146 (by decide) dX8_set_45 (fun H locs hP hD hS => ?_)
          obtain rfl := Option.some.inj h
          exact sw_vret X hP hD hS dX8_set_48
      · replace h := if_no h c5
        exact absurd h (fun h9 => by cases h9)
theorem dX8_get_0 : decode cX8_get 0 = .ok (.iload_n 1, 1) := by decide +kernel
theorem dX8_get_1 : decode cX8_get 1 = .ok (.invokestatic 66, 3) := by decide +kernel
theorem dX8_get_4 : decode cX8_get 4 = .ok (.ifCond .ne 11, 3) := by decide +kernel
theorem dX8_get_7 : decode cX8_get 7 = .ok (.new 52, 3) := by decide +kernel
theorem dX8_get_10 : decode cX8_get 10 = .ok (.dup, 1) := by decide +kernel
theorem dX8_get_11 : decode cX8_get 11 = .ok (.invokespecial 54, 3) := by decide +kernel
theorem dX8_get_14 : decode cX8_get 14 = .ok (.athrow, 1) := by decide +kernel
theorem dX8_get_15 : decode cX8_get 15 = .ok (.aload_n 0, 1) := by decide +kernel
theorem dX8_get_16 : decode cX8_get 16 = .ok (.getfield 35, 3) := by decide +kernel
theorem dX8_get_19 : decode cX8_get 19 = .ok (.iload_n 1, 1) := by decide +kernel
theorem dX8_get_20 : decode cX8_get 20 = .ok (.invokevirtual 75, 3) := by decide +kernel
theorem dX8_get_23 : decode cX8_get 23 = .ok (.ireturn, 1) := by decide +kernel
def fX8_get (p1 : Int32) (s0 : zS) : Option (Int32 × zS) := bd (fX6_has p1) fun r2 => if r2 = (0 : Int32) then (none) else (bd2 (fX6_pair p1 s0) fun r5 s6 => some (r5, s6))
set_option maxHeartbeats 4000000 in
set_option maxRecDepth 100000 in
theorem cX8_get_m {l : Launch} {dC : Nat → ClassId} {dI : Nat → Nat → Nat} {ad : Nat → Nat} {cI : ClassId} {p1 : Int32} {s0 : zS} {zr : Int32} {zs : zS} (h : fX8_get p1 s0 = some (zr, zs)) : sw_Mi l yX8_get (sw_ws yX8_get cX8_get 2 (some .int)) (sw_rm 1 21) (dC, dI) vwCl [(cI, .int)] cF [.ref (ad 0), .int p1] (cW ad cI s0) (cW ad cI zs) zr := by
  intro sz
  refine sw_of (cc := cX8_get) (maxL := 2) (ret := (some .int)) (by decide) rfl (Nat.le_of_ble_eq_true rfl) ?_
  intro p e s m args below meth c A ls hAe hsz X _ hP hD hS hl
  rw [hAe]
  have hx := X.1.1
  have hb := X.1.2.1
  have hown := X.1.2.2.2.1
  have hts := X.1.2.2.2.2
  replace hl : lv_has ls 2 [(0, .ref (ad 0)), (1, .int p1)] := hl
  unfold fX8_get at h
  refine lv_iload_n hx hb dX8_get_0 rfl (lv_at hl 1 rfl) ?_
  have hq := bd_some h; clear h; obtain ⟨r2, h1, h⟩ := hq
  refine sw_si (rest := []) c_good X (cX6_has_m h1) calX6_has k_302 hP hD hS ⟨rfl, rfl⟩ rfl hl.1 rfl (Nat.le_of_ble_eq_true rfl) dX8_get_1 (fun H locs hP hD hS => ?_)
  refine lv_if_ne (tgt := 15) hx hb dX8_get_4 (by decide) (fun c3 => ?_) (fun c3 => ?_)
  · replace h := if_no h c3
    refine lv_aload_n hx hb dX8_get_15 rfl (lv_at hl 0 rfl) ?_
    refine cg_0_3 X hP k_180 dX8_get_16 ?_
    refine lv_iload_n hx hb dX8_get_19 rfl (lv_at hl 1 rfl) ?_
    have hq := bd2_some h; clear h; obtain ⟨r5, s6, h4, h⟩ := hq
    refine sw_vi (rest := []) c_good X (cX6_pair_m h4) calX6_pair k_319 hP hD hS 4 6 rfl rfl rfl ⟨rfl, rfl⟩ rfl hl.1 rfl (Nat.le_of_ble_eq_true rfl) dX8_get_20 (fun H locs hP hD hS => ?_)
    obtain ⟨rfl, rfl⟩ := Prod.mk.inj (Option.some.inj h)
    exact sw_iret X hP hD hS dX8_get_23
  · replace h := if_yes h c3
    exact absurd h (fun h9 => by cases h9)
theorem dX8_key_0 : decode cX8_key 0 = .ok (.iload_n 1, 1) := by decide +kernel
theorem dX8_key_1 : decode cX8_key 1 = .ok (.ifCond .lt 19, 3) := by decide +kernel
theorem dX8_key_4 : decode cX8_key 4 = .ok (.iload_n 1, 1) := by decide +kernel
theorem dX8_key_5 : decode cX8_key 5 = .ok (.bipush 8, 2) := by decide +kernel
theorem dX8_key_7 : decode cX8_key 7 = .ok (.if_icmp .ge 13, 3) := by decide +kernel
theorem dX8_key_10 : decode cX8_key 10 = .ok (.iload_n 2, 1) := by decide +kernel
theorem dX8_key_11 : decode cX8_key 11 = .ok (.ifCond .lt 9, 3) := by decide +kernel
theorem dX8_key_14 : decode cX8_key 14 = .ok (.iload_n 2, 1) := by decide +kernel
theorem dX8_key_15 : decode cX8_key 15 = .ok (.bipush 31, 2) := by decide +kernel
theorem dX8_key_17 : decode cX8_key 17 = .ok (.if_icmp .le 11, 3) := by decide +kernel
theorem dX8_key_20 : decode cX8_key 20 = .ok (.new 52, 3) := by decide +kernel
theorem dX8_key_23 : decode cX8_key 23 = .ok (.dup, 1) := by decide +kernel
theorem dX8_key_24 : decode cX8_key 24 = .ok (.invokespecial 54, 3) := by decide +kernel
theorem dX8_key_27 : decode cX8_key 27 = .ok (.athrow, 1) := by decide +kernel
theorem dX8_key_28 : decode cX8_key 28 = .ok (.aload_n 0, 1) := by decide +kernel
theorem dX8_key_29 : decode cX8_key 29 = .ok (.getfield 28, 3) := by decide +kernel
theorem dX8_key_32 : decode cX8_key 32 = .ok (.getfield 78, 3) := by decide +kernel
theorem dX8_key_35 : decode cX8_key 35 = .ok (.iload_n 1, 1) := by decide +kernel
theorem dX8_key_36 : decode cX8_key 36 = .ok (.iload_n 2, 1) := by decide +kernel
theorem dX8_key_37 : decode cX8_key 37 = .ok (.iastore, 1) := by decide +kernel
theorem dX8_key_38 : decode cX8_key 38 = .ok (.return_, 1) := by decide +kernel
def fX8_key (p1 p2 : Int32) (s0 : zS) : Option (zS) := if p1 < (0 : Int32) then (none) else (if (8 : Int32) ≤ p1 then (none) else (if p2 < (0 : Int32) then (none) else (if p2 ≤ (31 : Int32) then (gd (0 ≤ p1 ∧ p1 < 8) <| some (st2 s0 1 (p1.toNatClampNeg) p2)) else (none))))
set_option maxHeartbeats 4000000 in
set_option maxRecDepth 100000 in
theorem cX8_key_m {l : Launch} {dC : Nat → ClassId} {dI : Nat → Nat → Nat} {ad : Nat → Nat} {cI : ClassId} {p1 p2 : Int32} {s0 : zS} {zs : zS} (h : fX8_key p1 p2 s0 = some zs) : sw_Mv l yX8_key (sw_ws yX8_key cX8_key 3 none) (sw_rm 0 0) (dC, dI) vwCl [(cI, .int)] cF [.ref (ad 0), .int p1, .int p2] (cW ad cI s0) (cW ad cI zs) := by
  intro sz
  refine sw_of (cc := cX8_key) (maxL := 3) (ret := none) (by decide) rfl (Nat.le_of_ble_eq_true rfl) ?_
  intro p e s m args below meth c A ls hAe hsz X _ hP hD hS hl
  rw [hAe]
  have hx := X.1.1
  have hb := X.1.2.1
  have hown := X.1.2.2.2.1
  have hts := X.1.2.2.2.2
  replace hl : lv_has ls 3 [(0, .ref (ad 0)), (1, .int p1), (2, .int p2)] := hl
  unfold fX8_key at h
  refine lv_iload_n hx hb dX8_key_0 rfl (lv_at hl 1 rfl) ?_
  refine lv_if_lt (tgt := 20) hx hb dX8_key_1 (by decide) (fun c1 => ?_) (fun c1 => ?_)
  · replace h := if_yes h c1
    exact absurd h (fun h9 => by cases h9)
  · replace h := if_no h c1
    refine lv_iload_n hx hb dX8_key_4 rfl (lv_at hl 1 rfl) ?_
    refine lv_bipush (v := (8 : Int32)) hx hb dX8_key_5 (by decide) ?_
    refine lv_icmp_ge (tgt := 20) hx hb dX8_key_7 (by decide) (fun c2 => ?_) (fun c2 => ?_)
    · replace h := if_yes h c2
      exact absurd h (fun h9 => by cases h9)
    · replace h := if_no h c2
      refine lv_iload_n hx hb dX8_key_10 rfl (lv_at hl 2 rfl) ?_
      refine lv_if_lt (tgt := 20) hx hb dX8_key_11 (by decide) (fun c3 => ?_) (fun c3 => ?_)
      · replace h := if_yes h c3
        exact absurd h (fun h9 => by cases h9)
      · replace h := if_no h c3
        refine lv_iload_n hx hb dX8_key_14 rfl (lv_at hl 2 rfl) ?_
        refine lv_bipush (v := (31 : Int32)) hx hb dX8_key_15 (by decide) ?_
        refine lv_icmp_le (tgt := 28) hx hb dX8_key_17 (by decide) (fun c4 => ?_) (fun c4 => ?_)
        · replace h := if_yes h c4
          refine lv_aload_n hx hb dX8_key_28 rfl (lv_at hl 0 rfl) ?_
          refine cg_0_2 X hP k_179 dX8_key_29 ?_
          refine cg_3_2 X hP k_77 dX8_key_32 ?_
          refine lv_iload_n hx hb dX8_key_35 rfl (lv_at hl 1 rfl) ?_
          refine lv_iload_n hx hb dX8_key_36 rfl (lv_at hl 2 rfl) ?_
          have hq := gd_some h; clear h; obtain ⟨c5, h⟩ := hq
          refine cb_1 X hP hD hS (vin_in c5 (by decide)) dX8_key_37 (fun H locs hP hD hS => ?_)
          obtain rfl := Option.some.inj h
          exact sw_vret X hP hD hS dX8_key_38
        · replace h := if_no h c4
          exact absurd h (fun h9 => by cases h9)
theorem dX8_edge_0 : decode cX8_edge 0 = .ok (.iload_n 1, 1) := by decide +kernel
theorem dX8_edge_1 : decode cX8_edge 1 = .ok (.iconst 1, 1) := by decide +kernel
theorem dX8_edge_2 : decode cX8_edge 2 = .ok (.if_icmp .lt 9, 3) := by decide +kernel
theorem dX8_edge_5 : decode cX8_edge 5 = .ok (.iload_n 1, 1) := by decide +kernel
theorem dX8_edge_6 : decode cX8_edge 6 = .ok (.ldc 84, 2) := by decide +kernel
theorem dX8_edge_8 : decode cX8_edge 8 = .ok (.if_icmp .le 11, 3) := by decide +kernel
theorem dX8_edge_11 : decode cX8_edge 11 = .ok (.new 52, 3) := by decide +kernel
theorem dX8_edge_14 : decode cX8_edge 14 = .ok (.dup, 1) := by decide +kernel
theorem dX8_edge_15 : decode cX8_edge 15 = .ok (.invokespecial 54, 3) := by decide +kernel
theorem dX8_edge_18 : decode cX8_edge 18 = .ok (.athrow, 1) := by decide +kernel
theorem dX8_edge_19 : decode cX8_edge 19 = .ok (.aload_n 0, 1) := by decide +kernel
theorem dX8_edge_20 : decode cX8_edge 20 = .ok (.getfield 28, 3) := by decide +kernel
theorem dX8_edge_23 : decode cX8_edge 23 = .ok (.getfield 85, 3) := by decide +kernel
theorem dX8_edge_26 : decode cX8_edge 26 = .ok (.invokevirtual 89, 3) := by decide +kernel
theorem dX8_edge_29 : decode cX8_edge 29 = .ok (.ifCond .eq 11, 3) := by decide +kernel
theorem dX8_edge_32 : decode cX8_edge 32 = .ok (.new 93, 3) := by decide +kernel
theorem dX8_edge_35 : decode cX8_edge 35 = .ok (.dup, 1) := by decide +kernel
theorem dX8_edge_36 : decode cX8_edge 36 = .ok (.invokespecial 95, 3) := by decide +kernel
theorem dX8_edge_39 : decode cX8_edge 39 = .ok (.athrow, 1) := by decide +kernel
theorem dX8_edge_40 : decode cX8_edge 40 = .ok (.aload_n 0, 1) := by decide +kernel
theorem dX8_edge_41 : decode cX8_edge 41 = .ok (.getfield 28, 3) := by decide +kernel
theorem dX8_edge_44 : decode cX8_edge 44 = .ok (.getfield 85, 3) := by decide +kernel
theorem dX8_edge_47 : decode cX8_edge 47 = .ok (.iload_n 1, 1) := by decide +kernel
theorem dX8_edge_48 : decode cX8_edge 48 = .ok (.invokevirtual 96, 3) := by decide +kernel
theorem dX8_edge_51 : decode cX8_edge 51 = .ok (.ireturn, 1) := by decide +kernel
def fX8_edge (p1 : Int32) (s0 : zS) : Option (Int32 × zS) := if p1 < (1 : Int32) then (none) else (if p1 ≤ (100000 : Int32) then (bd2 (fX7_isFull  s0) fun r4 s5 => if r4 = (0 : Int32) then (bd2 (fX7_append p1 s5) fun r8 s9 => some (r8, s9)) else (none)) else (none))
set_option maxHeartbeats 4000000 in
set_option maxRecDepth 100000 in
theorem cX8_edge_m {l : Launch} {dC : Nat → ClassId} {dI : Nat → Nat → Nat} {ad : Nat → Nat} {cI : ClassId} {p1 : Int32} {s0 : zS} {zr : Int32} {zs : zS} (h : fX8_edge p1 s0 = some (zr, zs)) : sw_Mi l yX8_edge (sw_ws yX8_edge cX8_edge 2 (some .int)) (sw_rm 1 21) (dC, dI) vwCl [(cI, .int)] cF [.ref (ad 0), .int p1] (cW ad cI s0) (cW ad cI zs) zr := by
  intro sz
  refine sw_of (cc := cX8_edge) (maxL := 2) (ret := (some .int)) (by decide) rfl (Nat.le_of_ble_eq_true rfl) ?_
  intro p e s m args below meth c A ls hAe hsz X _ hP hD hS hl
  rw [hAe]
  have hx := X.1.1
  have hb := X.1.2.1
  have hown := X.1.2.2.2.1
  have hts := X.1.2.2.2.2
  replace hl : lv_has ls 2 [(0, .ref (ad 0)), (1, .int p1)] := hl
  unfold fX8_edge at h
  refine lv_iload_n hx hb dX8_edge_0 rfl (lv_at hl 1 rfl) ?_
  refine lv_iconst (v := (1 : Int32)) hx hb dX8_edge_1 (by decide) ?_
  refine lv_icmp_lt (tgt := 11) hx hb dX8_edge_2 (by decide) (fun c1 => ?_) (fun c1 => ?_)
  · replace h := if_yes h c1
    exact absurd h (fun h9 => by cases h9)
  · replace h := if_no h c1
    refine lv_iload_n hx hb dX8_edge_5 rfl (lv_at hl 1 rfl) ?_
    refine lv_ldc (v := 100000) hx hb hown (hts _ (List.mem_cons_of_mem _ k_338)) dX8_edge_6 ?_
    refine lv_icmp_le (tgt := 19) hx hb dX8_edge_8 (by decide) (fun c2 => ?_) (fun c2 => ?_)
    · replace h := if_yes h c2
      refine lv_aload_n hx hb dX8_edge_19 rfl (lv_at hl 0 rfl) ?_
      refine cg_0_2 X hP k_179 dX8_edge_20 ?_
      refine cg_3_1 X hP k_75 dX8_edge_23 ?_
      have hq := bd2_some h; clear h; obtain ⟨r4, s5, h3, h⟩ := hq
      refine sw_vi (rest := []) c_good X (cX7_isFull_m h3) calX7_isFull k_339 hP hD hS 8 7 rfl rfl rfl ⟨rfl, rfl⟩ rfl hl.1 rfl (Nat.le_of_ble_eq_true rfl) dX8_edge_26 (fun H locs hP hD hS => ?_)
      refine lv_if_eq (tgt := 40) hx hb dX8_edge_29 (by decide) (fun c6 => ?_) (fun c6 => ?_)
      · replace h := if_yes h c6
        refine lv_aload_n hx hb dX8_edge_40 rfl (lv_at hl 0 rfl) ?_
        refine cg_0_2 X hP k_179 dX8_edge_41 ?_
        refine cg_3_1 X hP k_75 dX8_edge_44 ?_
        refine lv_iload_n hx hb dX8_edge_47 rfl (lv_at hl 1 rfl) ?_
        have hq := bd2_some h; clear h; obtain ⟨r8, s9, h7, h⟩ := hq
        refine sw_vi (rest := []) c_good X (cX7_append_m h7) calX7_append k_358 hP hD hS 8 7 rfl rfl rfl ⟨rfl, rfl⟩ rfl hl.1 rfl (Nat.le_of_ble_eq_true rfl) dX8_edge_48 (fun H locs hP hD hS => ?_)
        obtain ⟨rfl, rfl⟩ := Prod.mk.inj (Option.some.inj h)
        exact sw_iret X hP hD hS dX8_edge_51
      · replace h := if_no h c6
        exact absurd h (fun h9 => by cases h9)
    · replace h := if_no h c2
      exact absurd h (fun h9 => by cases h9)
theorem dX8_run_0 : decode cX8_run 0 = .ok (.iload_n 1, 1) := by decide +kernel
theorem dX8_run_1 : decode cX8_run 1 = .ok (.iconst 1, 1) := by decide +kernel
theorem dX8_run_2 : decode cX8_run 2 = .ok (.if_icmp .lt 10, 3) := by decide +kernel
theorem dX8_run_5 : decode cX8_run 5 = .ok (.iload_n 1, 1) := by decide +kernel
theorem dX8_run_6 : decode cX8_run 6 = .ok (.sipush 20000, 3) := by decide +kernel
theorem dX8_run_9 : decode cX8_run 9 = .ok (.if_icmp .le 11, 3) := by decide +kernel
theorem dX8_run_12 : decode cX8_run 12 = .ok (.new 52, 3) := by decide +kernel
theorem dX8_run_15 : decode cX8_run 15 = .ok (.dup, 1) := by decide +kernel
theorem dX8_run_16 : decode cX8_run 16 = .ok (.invokespecial 54, 3) := by decide +kernel
theorem dX8_run_19 : decode cX8_run 19 = .ok (.athrow, 1) := by decide +kernel
theorem dX8_run_20 : decode cX8_run 20 = .ok (.aload_n 0, 1) := by decide +kernel
theorem dX8_run_21 : decode cX8_run 21 = .ok (.getfield 10, 3) := by decide +kernel
theorem dX8_run_24 : decode cX8_run 24 = .ok (.getfield 99, 3) := by decide +kernel
theorem dX8_run_27 : decode cX8_run 27 = .ok (.istore_n 2, 1) := by decide +kernel
theorem dX8_run_28 : decode cX8_run 28 = .ok (.iconst 0, 1) := by decide +kernel
theorem dX8_run_29 : decode cX8_run 29 = .ok (.istore_n 3, 1) := by decide +kernel
theorem dX8_run_30 : decode cX8_run 30 = .ok (.iload_n 3, 1) := by decide +kernel
theorem dX8_run_31 : decode cX8_run 31 = .ok (.iload_n 1, 1) := by decide +kernel
theorem dX8_run_32 : decode cX8_run 32 = .ok (.if_icmp .ge 34, 3) := by decide +kernel
theorem dX8_run_35 : decode cX8_run 35 = .ok (.aload_n 0, 1) := by decide +kernel
theorem dX8_run_36 : decode cX8_run 36 = .ok (.getfield 10, 3) := by decide +kernel
theorem dX8_run_39 : decode cX8_run 39 = .ok (.getfield 99, 3) := by decide +kernel
theorem dX8_run_42 : decode cX8_run 42 = .ok (.iload_n 2, 1) := by decide +kernel
theorem dX8_run_43 : decode cX8_run 43 = .ok (.isub, 1) := by decide +kernel
theorem dX8_run_44 : decode cX8_run 44 = .ok (.iload_n 1, 1) := by decide +kernel
theorem dX8_run_45 : decode cX8_run 45 = .ok (.if_icmp .ge 21, 3) := by decide +kernel
theorem dX8_run_48 : decode cX8_run 48 = .ok (.aload_n 0, 1) := by decide +kernel
theorem dX8_run_49 : decode cX8_run 49 = .ok (.getfield 44, 3) := by decide +kernel
theorem dX8_run_52 : decode cX8_run 52 = .ok (.invokevirtual 103, 3) := by decide +kernel
theorem dX8_run_55 : decode cX8_run 55 = .ok (.ifCond .ne 5, 3) := by decide +kernel
theorem dX8_run_58 : decode cX8_run 58 = .ok (.iconst 0, 1) := by decide +kernel
theorem dX8_run_59 : decode cX8_run 59 = .ok (.ireturn, 1) := by decide +kernel
theorem dX8_run_60 : decode cX8_run 60 = .ok (.iinc 3 1, 3) := by decide +kernel
theorem dX8_run_63 : decode cX8_run 63 = .ok (.goto (-33), 3) := by decide +kernel
theorem dX8_run_66 : decode cX8_run 66 = .ok (.iconst 1, 1) := by decide +kernel
theorem dX8_run_67 : decode cX8_run 67 = .ok (.ireturn, 1) := by decide +kernel
def fX8_run_L30 : Nat → Int32 → Int32 → Int32 → zS → Option (Int32 × zS)
  | 0, _, _, _, _ => none
  | n + 1, v1, v2, v3, s0 => if v1 ≤ v3 then (some ((1 : Int32), s0)) else (if v1 ≤ ((s0.1 0) - v2) then (some ((1 : Int32), s0)) else (bd2 (fX5_step  s0) fun r7 s8 => if r7 = (0 : Int32) then (some ((0 : Int32), s8)) else (nm (v3 + (1 : Int32)) fun x10 => fX8_run_L30 n v1 v2 x10 s8)))
set_option maxHeartbeats 4000000 in
set_option maxRecDepth 100000 in
theorem cX8_run_lp30 {l : Launch} {dC : Nat → ClassId} {dI : Nat → Nat → Nat} {ad : Nat → Nat} {cI : ClassId} {zr : Int32} {zs : zS} {p : Program} {e : Env} {s : State} {m : MethodId} {args : Array Value} {below : List Frame} {meth : Method} {c : Code} {A : Nat → Prop} (X : sw_X p s m args meth c cX8_run 4 RX8 (some .boolean) (sw_ws yX8_run cX8_run 4 (some .boolean)) (dC, dI) vwCl [(cI, .int)] cF A) : ∀ (n : Nat) {v1 v2 v3 : Int32} {s0 : zS} {H : Heap} {locs : List Loc} {ls : Array Slot}, fX8_run_L30 n v1 v2 v3 s0 = some (zr, zs) → va_P (dC, dI) vwCl (cW ad cI s0) H → va_D A (cW ad cI s0) → va_S A s.heap H locs → lv_has ls 4 [(0, .ref (ad 0)), (1, .int v1), (2, .int v2), (3, .int v3)] → W p l e (sw_rm 6 136) s m args below meth c H locs 0 0 (MQ below (sw_Qi (dC, dI) vwCl [(cI, .int)] A (cW ad cI zs) zr) args s 0 0 A) (F0 m 30 ls []) := by
  have hx := X.1.1
  have hb := X.1.2.1
  have hown := X.1.2.2.2.1
  have hts := X.1.2.2.2.2
  intro n
  induction n with
  | zero =>
    intro v1 v2 v3 s0 H locs ls h
    rw [fX8_run_L30] at h
    exact absurd h (fun h9 => by cases h9)
  | succ n ih =>
    intro v1 v2 v3 s0 H locs ls h hP hD hS hl
    rw [fX8_run_L30] at h
    refine lv_iload_n hx hb dX8_run_30 rfl (lv_at hl 3 rfl) ?_
    refine lv_iload_n hx hb dX8_run_31 rfl (lv_at hl 1 rfl) ?_
    refine lv_icmp_ge (tgt := 66) hx hb dX8_run_32 (by decide) (fun c4 => ?_) (fun c4 => ?_)
    · replace h := if_yes h c4
      refine lv_iconst (v := (1 : Int32)) hx hb dX8_run_66 (by decide) ?_
      obtain ⟨rfl, rfl⟩ := Prod.mk.inj (Option.some.inj h)
      exact sw_bret X (bz_n (by decide)) hP hD hS dX8_run_67
    · replace h := if_no h c4
      refine lv_aload_n hx hb dX8_run_35 rfl (lv_at hl 0 rfl) ?_
      refine cg_0_0 X hP k_177 dX8_run_36 ?_
      refine cg_1_0 X hP k_33 dX8_run_39 ?_
      refine lv_iload_n hx hb dX8_run_42 rfl (lv_at hl 2 rfl) ?_
      refine lv_isub hx hb dX8_run_43 ?_
      refine lv_iload_n hx hb dX8_run_44 rfl (lv_at hl 1 rfl) ?_
      refine lv_icmp_ge (tgt := 66) hx hb dX8_run_45 (by decide) (fun c5 => ?_) (fun c5 => ?_)
      · replace h := if_yes h c5
        refine lv_iconst (v := (1 : Int32)) hx hb dX8_run_66 (by decide) ?_
        obtain ⟨rfl, rfl⟩ := Prod.mk.inj (Option.some.inj h)
        exact sw_bret X (bz_n (by decide)) hP hD hS dX8_run_67
      · replace h := if_no h c5
        refine lv_aload_n hx hb dX8_run_48 rfl (lv_at hl 0 rfl) ?_
        refine cg_0_4 X hP k_181 dX8_run_49 ?_
        have hq := bd2_some h; clear h; obtain ⟨r7, s8, h6, h⟩ := hq
        refine sw_vi (rest := []) c_good X (cX5_step_m h6) calX5_step k_369 hP hD hS 5 5 rfl rfl rfl ⟨rfl, rfl⟩ rfl hl.1 rfl (Nat.le_of_ble_eq_true rfl) dX8_run_52 (fun H locs hP hD hS => ?_)
        refine lv_if_ne (tgt := 60) hx hb dX8_run_55 (by decide) (fun c9 => ?_) (fun c9 => ?_)
        · replace h := if_no h c9
          obtain ⟨x10, ex10⟩ : ∃ y : Int32, y = v3 + (1 : Int32) := ⟨_, rfl⟩
          replace h := nm_use ex10 h
          refine lv_iinc (v := x10) (lv' := [(3, .int x10), (0, .ref (ad 0)), (1, .int v1), (2, .int v2)]) hx hb dX8_run_60 hl (k := 3) rfl (by rw [ex10]; rfl) (by decide) rfl (fun ls hl => ?_)
          refine lv_goto (tgt := 30) hx hb dX8_run_63 (by decide) ?_
          exact ih  h hP hD hS (lv_sub hl [1, 2, 3, 0] rfl)
        · replace h := if_yes h c9
          refine lv_iconst (v := (0 : Int32)) hx hb dX8_run_58 (by decide) ?_
          obtain ⟨rfl, rfl⟩ := Prod.mk.inj (Option.some.inj h)
          exact sw_bret X (bz_n (by decide)) hP hD hS dX8_run_59
def fX8_run (p1 : Int32) (s0 : zS) : Option (Int32 × zS) := if p1 < (1 : Int32) then (none) else (if p1 ≤ (20000 : Int32) then (nm (s0.1 0) fun x3 => fX8_run_L30 20001 p1 x3 (0 : Int32) s0) else (none))
set_option maxHeartbeats 4000000 in
set_option maxRecDepth 100000 in
theorem cX8_run_m {l : Launch} {dC : Nat → ClassId} {dI : Nat → Nat → Nat} {ad : Nat → Nat} {cI : ClassId} {p1 : Int32} {s0 : zS} {zr : Int32} {zs : zS} (h : fX8_run p1 s0 = some (zr, zs)) : sw_Mi l yX8_run (sw_ws yX8_run cX8_run 4 (some .boolean)) (sw_rm 6 136) (dC, dI) vwCl [(cI, .int)] cF [.ref (ad 0), .int p1] (cW ad cI s0) (cW ad cI zs) zr := by
  intro sz
  refine sw_of (cc := cX8_run) (maxL := 4) (ret := (some .boolean)) (by decide) rfl (Nat.le_of_ble_eq_true rfl) ?_
  intro p e s m args below meth c A ls hAe hsz X _ hP hD hS hl
  rw [hAe]
  have hx := X.1.1
  have hb := X.1.2.1
  have hown := X.1.2.2.2.1
  have hts := X.1.2.2.2.2
  replace hl : lv_has ls 4 [(0, .ref (ad 0)), (1, .int p1)] := hl
  unfold fX8_run at h
  refine lv_iload_n hx hb dX8_run_0 rfl (lv_at hl 1 rfl) ?_
  refine lv_iconst (v := (1 : Int32)) hx hb dX8_run_1 (by decide) ?_
  refine lv_icmp_lt (tgt := 12) hx hb dX8_run_2 (by decide) (fun c1 => ?_) (fun c1 => ?_)
  · replace h := if_yes h c1
    exact absurd h (fun h9 => by cases h9)
  · replace h := if_no h c1
    refine lv_iload_n hx hb dX8_run_5 rfl (lv_at hl 1 rfl) ?_
    refine lv_sipush (v := (20000 : Int32)) hx hb dX8_run_6 (by decide) ?_
    refine lv_icmp_le (tgt := 20) hx hb dX8_run_9 (by decide) (fun c2 => ?_) (fun c2 => ?_)
    · replace h := if_yes h c2
      refine lv_aload_n hx hb dX8_run_20 rfl (lv_at hl 0 rfl) ?_
      refine cg_0_0 X hP k_177 dX8_run_21 ?_
      refine cg_1_0 X hP k_33 dX8_run_24 ?_
      refine lv_topi (fun x3 ex3 => ?_)
      replace h := nm_use ex3 h
      refine lv_istore_n (lv' := [(2, .int x3), (0, .ref (ad 0)), (1, .int p1)]) hx hb dX8_run_27 rfl hl (by decide) rfl (fun ls hl => ?_)
      refine lv_iconst (v := (0 : Int32)) hx hb dX8_run_28 (by decide) ?_
      refine lv_istore_n (lv' := [(3, .int (0 : Int32)), (2, .int x3), (0, .ref (ad 0)), (1, .int p1)]) hx hb dX8_run_29 rfl hl (by decide) rfl (fun ls hl => ?_)
      exact cX8_run_lp30 X 20001 h hP hD hS (lv_sub hl [2, 3, 1, 0] rfl)
    · replace h := if_no h c2
      exact absurd h (fun h9 => by cases h9)
theorem dX8_count_0 : decode cX8_count 0 = .ok (.iload_n 1, 1) := by decide +kernel
theorem dX8_count_1 : decode cX8_count 1 = .ok (.tableswitch 127 0 7 #[47, 55, 63, 71, 79, 95, 111, 119], 47) := by decide +kernel
theorem dX8_count_48 : decode cX8_count 48 = .ok (.aload_n 0, 1) := by decide +kernel
theorem dX8_count_49 : decode cX8_count 49 = .ok (.getfield 10, 3) := by decide +kernel
theorem dX8_count_52 : decode cX8_count 52 = .ok (.getfield 99, 3) := by decide +kernel
theorem dX8_count_55 : decode cX8_count 55 = .ok (.ireturn, 1) := by decide +kernel
theorem dX8_count_56 : decode cX8_count 56 = .ok (.aload_n 0, 1) := by decide +kernel
theorem dX8_count_57 : decode cX8_count 57 = .ok (.getfield 28, 3) := by decide +kernel
theorem dX8_count_60 : decode cX8_count 60 = .ok (.getfield 106, 3) := by decide +kernel
theorem dX8_count_63 : decode cX8_count 63 = .ok (.ireturn, 1) := by decide +kernel
theorem dX8_count_64 : decode cX8_count 64 = .ok (.aload_n 0, 1) := by decide +kernel
theorem dX8_count_65 : decode cX8_count 65 = .ok (.getfield 28, 3) := by decide +kernel
theorem dX8_count_68 : decode cX8_count 68 = .ok (.getfield 109, 3) := by decide +kernel
theorem dX8_count_71 : decode cX8_count 71 = .ok (.ireturn, 1) := by decide +kernel
theorem dX8_count_72 : decode cX8_count 72 = .ok (.aload_n 0, 1) := by decide +kernel
theorem dX8_count_73 : decode cX8_count 73 = .ok (.getfield 28, 3) := by decide +kernel
theorem dX8_count_76 : decode cX8_count 76 = .ok (.getfield 112, 3) := by decide +kernel
theorem dX8_count_79 : decode cX8_count 79 = .ok (.ireturn, 1) := by decide +kernel
theorem dX8_count_80 : decode cX8_count 80 = .ok (.aload_n 0, 1) := by decide +kernel
theorem dX8_count_81 : decode cX8_count 81 = .ok (.getfield 44, 3) := by decide +kernel
theorem dX8_count_84 : decode cX8_count 84 = .ok (.getfield 71, 3) := by decide +kernel
theorem dX8_count_87 : decode cX8_count 87 = .ok (.ifCond .eq 7, 3) := by decide +kernel
theorem dX8_count_90 : decode cX8_count 90 = .ok (.iconst 1, 1) := by decide +kernel
theorem dX8_count_91 : decode cX8_count 91 = .ok (.goto 4, 3) := by decide +kernel
theorem dX8_count_94 : decode cX8_count 94 = .ok (.iconst 0, 1) := by decide +kernel
theorem dX8_count_95 : decode cX8_count 95 = .ok (.ireturn, 1) := by decide +kernel
theorem dX8_count_96 : decode cX8_count 96 = .ok (.aload_n 0, 1) := by decide +kernel
theorem dX8_count_97 : decode cX8_count 97 = .ok (.getfield 44, 3) := by decide +kernel
theorem dX8_count_100 : decode cX8_count 100 = .ok (.getfield 115, 3) := by decide +kernel
theorem dX8_count_103 : decode cX8_count 103 = .ok (.ifCond .eq 7, 3) := by decide +kernel
theorem dX8_count_106 : decode cX8_count 106 = .ok (.iconst 1, 1) := by decide +kernel
theorem dX8_count_107 : decode cX8_count 107 = .ok (.goto 4, 3) := by decide +kernel
theorem dX8_count_110 : decode cX8_count 110 = .ok (.iconst 0, 1) := by decide +kernel
theorem dX8_count_111 : decode cX8_count 111 = .ok (.ireturn, 1) := by decide +kernel
theorem dX8_count_112 : decode cX8_count 112 = .ok (.aload_n 0, 1) := by decide +kernel
theorem dX8_count_113 : decode cX8_count 113 = .ok (.getfield 44, 3) := by decide +kernel
theorem dX8_count_116 : decode cX8_count 116 = .ok (.getfield 118, 3) := by decide +kernel
theorem dX8_count_119 : decode cX8_count 119 = .ok (.ireturn, 1) := by decide +kernel
theorem dX8_count_120 : decode cX8_count 120 = .ok (.aload_n 0, 1) := by decide +kernel
theorem dX8_count_121 : decode cX8_count 121 = .ok (.getfield 44, 3) := by decide +kernel
theorem dX8_count_124 : decode cX8_count 124 = .ok (.getfield 121, 3) := by decide +kernel
theorem dX8_count_127 : decode cX8_count 127 = .ok (.ireturn, 1) := by decide +kernel
theorem dX8_count_128 : decode cX8_count 128 = .ok (.new 52, 3) := by decide +kernel
theorem dX8_count_131 : decode cX8_count 131 = .ok (.dup, 1) := by decide +kernel
theorem dX8_count_132 : decode cX8_count 132 = .ok (.invokespecial 54, 3) := by decide +kernel
theorem dX8_count_135 : decode cX8_count 135 = .ok (.athrow, 1) := by decide +kernel
def fX8_count (p1 : Int32) (s0 : zS) : Option (Int32 × zS) := if p1 ∈ ([(0 : Int32)] : List Int32) then (some ((s0.1 0), s0)) else if p1 ∈ ([(1 : Int32)] : List Int32) then (some ((s0.1 1), s0)) else if p1 ∈ ([(2 : Int32)] : List Int32) then (some ((s0.1 2), s0)) else if p1 ∈ ([(3 : Int32)] : List Int32) then (some ((s0.1 3), s0)) else if p1 ∈ ([(4 : Int32)] : List Int32) then (if (s0.1 4) = (0 : Int32) then (some ((0 : Int32), s0)) else (some ((1 : Int32), s0))) else if p1 ∈ ([(5 : Int32)] : List Int32) then (if (s0.1 5) = (0 : Int32) then (some ((0 : Int32), s0)) else (some ((1 : Int32), s0))) else if p1 ∈ ([(6 : Int32)] : List Int32) then (some ((s0.1 7), s0)) else if p1 ∈ ([(7 : Int32)] : List Int32) then (some ((s0.1 8), s0)) else (none)
set_option maxHeartbeats 4000000 in
set_option maxRecDepth 100000 in
theorem cX8_count_m {l : Launch} {dC : Nat → ClassId} {dI : Nat → Nat → Nat} {ad : Nat → Nat} {cI : ClassId} {p1 : Int32} {s0 : zS} {zr : Int32} {zs : zS} (h : fX8_count p1 s0 = some (zr, zs)) : sw_Mi l yX8_count (sw_ws yX8_count cX8_count 2 (some .int)) (sw_rm 0 0) (dC, dI) vwCl [(cI, .int)] cF [.ref (ad 0), .int p1] (cW ad cI s0) (cW ad cI zs) zr := by
  intro sz
  refine sw_of (cc := cX8_count) (maxL := 2) (ret := (some .int)) (by decide) rfl (Nat.le_of_ble_eq_true rfl) ?_
  intro p e s m args below meth c A ls hAe hsz X _ hP hD hS hl
  rw [hAe]
  have hx := X.1.1
  have hb := X.1.2.1
  have hown := X.1.2.2.2.1
  have hts := X.1.2.2.2.2
  replace hl : lv_has ls 2 [(0, .ref (ad 0)), (1, .int p1)] := hl
  unfold fX8_count at h
  refine lv_iload_n hx hb dX8_count_0 rfl (lv_at hl 1 rfl) ?_
  by_cases c1 : p1 ∈ ([(0 : Int32)] : List Int32)
  · replace h := if_yes h c1
    refine sw_tabK (tgt := 48) (off := 47) hx hb dX8_count_1 _ c1 (by decide +kernel) (by decide) ?_
    refine lv_aload_n hx hb dX8_count_48 rfl (lv_at hl 0 rfl) ?_
    refine cg_0_0 X hP k_177 dX8_count_49 ?_
    refine cg_1_0 X hP k_33 dX8_count_52 ?_
    obtain ⟨rfl, rfl⟩ := Prod.mk.inj (Option.some.inj h)
    exact sw_iret X hP hD hS dX8_count_55
  · replace h := if_no h c1
    by_cases c2 : p1 ∈ ([(1 : Int32)] : List Int32)
    · replace h := if_yes h c2
      refine sw_tabK (tgt := 56) (off := 55) hx hb dX8_count_1 _ c2 (by decide +kernel) (by decide) ?_
      refine lv_aload_n hx hb dX8_count_56 rfl (lv_at hl 0 rfl) ?_
      refine cg_0_2 X hP k_179 dX8_count_57 ?_
      refine cg_3_3 X hP k_79 dX8_count_60 ?_
      obtain ⟨rfl, rfl⟩ := Prod.mk.inj (Option.some.inj h)
      exact sw_iret X hP hD hS dX8_count_63
    · replace h := if_no h c2
      by_cases c3 : p1 ∈ ([(2 : Int32)] : List Int32)
      · replace h := if_yes h c3
        refine sw_tabK (tgt := 64) (off := 63) hx hb dX8_count_1 _ c3 (by decide +kernel) (by decide) ?_
        refine lv_aload_n hx hb dX8_count_64 rfl (lv_at hl 0 rfl) ?_
        refine cg_0_2 X hP k_179 dX8_count_65 ?_
        refine cg_3_4 X hP k_81 dX8_count_68 ?_
        obtain ⟨rfl, rfl⟩ := Prod.mk.inj (Option.some.inj h)
        exact sw_iret X hP hD hS dX8_count_71
      · replace h := if_no h c3
        by_cases c4 : p1 ∈ ([(3 : Int32)] : List Int32)
        · replace h := if_yes h c4
          refine sw_tabK (tgt := 72) (off := 71) hx hb dX8_count_1 _ c4 (by decide +kernel) (by decide) ?_
          refine lv_aload_n hx hb dX8_count_72 rfl (lv_at hl 0 rfl) ?_
          refine cg_0_2 X hP k_179 dX8_count_73 ?_
          refine cg_3_5 X hP k_83 dX8_count_76 ?_
          obtain ⟨rfl, rfl⟩ := Prod.mk.inj (Option.some.inj h)
          exact sw_iret X hP hD hS dX8_count_79
        · replace h := if_no h c4
          by_cases c5 : p1 ∈ ([(4 : Int32)] : List Int32)
          · replace h := if_yes h c5
            refine sw_tabK (tgt := 80) (off := 79) hx hb dX8_count_1 _ c5 (by decide +kernel) (by decide) ?_
            refine lv_aload_n hx hb dX8_count_80 rfl (lv_at hl 0 rfl) ?_
            refine cg_0_4 X hP k_181 dX8_count_81 ?_
            refine cg_5_6 X hP k_146 dX8_count_84 ?_
            refine lv_if_eq (tgt := 94) hx hb dX8_count_87 (by decide) (fun c6 => ?_) (fun c6 => ?_)
            · replace h := if_yes h c6
              refine lv_iconst (v := (0 : Int32)) hx hb dX8_count_94 (by decide) ?_
              obtain ⟨rfl, rfl⟩ := Prod.mk.inj (Option.some.inj h)
              exact sw_iret X hP hD hS dX8_count_95
            · replace h := if_no h c6
              refine lv_iconst (v := (1 : Int32)) hx hb dX8_count_90 (by decide) ?_
              refine lv_goto (tgt := 95) hx hb dX8_count_91 (by decide) ?_
              obtain ⟨rfl, rfl⟩ := Prod.mk.inj (Option.some.inj h)
              exact sw_iret X hP hD hS dX8_count_95
          · replace h := if_no h c5
            by_cases c7 : p1 ∈ ([(5 : Int32)] : List Int32)
            · replace h := if_yes h c7
              refine sw_tabK (tgt := 96) (off := 95) hx hb dX8_count_1 _ c7 (by decide +kernel) (by decide) ?_
              refine lv_aload_n hx hb dX8_count_96 rfl (lv_at hl 0 rfl) ?_
              refine cg_0_4 X hP k_181 dX8_count_97 ?_
              refine cg_5_7 X hP k_148 dX8_count_100 ?_
              refine lv_if_eq (tgt := 110) hx hb dX8_count_103 (by decide) (fun c8 => ?_) (fun c8 => ?_)
              · replace h := if_yes h c8
                refine lv_iconst (v := (0 : Int32)) hx hb dX8_count_110 (by decide) ?_
                obtain ⟨rfl, rfl⟩ := Prod.mk.inj (Option.some.inj h)
                exact sw_iret X hP hD hS dX8_count_111
              · replace h := if_no h c8
                refine lv_iconst (v := (1 : Int32)) hx hb dX8_count_106 (by decide) ?_
                refine lv_goto (tgt := 111) hx hb dX8_count_107 (by decide) ?_
                obtain ⟨rfl, rfl⟩ := Prod.mk.inj (Option.some.inj h)
                exact sw_iret X hP hD hS dX8_count_111
            · replace h := if_no h c7
              by_cases c9 : p1 ∈ ([(6 : Int32)] : List Int32)
              · replace h := if_yes h c9
                refine sw_tabK (tgt := 112) (off := 111) hx hb dX8_count_1 _ c9 (by decide +kernel) (by decide) ?_
                refine lv_aload_n hx hb dX8_count_112 rfl (lv_at hl 0 rfl) ?_
                refine cg_0_4 X hP k_181 dX8_count_113 ?_
                refine cg_5_9 X hP k_151 dX8_count_116 ?_
                obtain ⟨rfl, rfl⟩ := Prod.mk.inj (Option.some.inj h)
                exact sw_iret X hP hD hS dX8_count_119
              · replace h := if_no h c9
                by_cases c10 : p1 ∈ ([(7 : Int32)] : List Int32)
                · replace h := if_yes h c10
                  refine sw_tabK (tgt := 120) (off := 119) hx hb dX8_count_1 _ c10 (by decide +kernel) (by decide) ?_
                  refine lv_aload_n hx hb dX8_count_120 rfl (lv_at hl 0 rfl) ?_
                  refine cg_0_4 X hP k_181 dX8_count_121 ?_
                  refine cg_5_10 X hP k_153 dX8_count_124 ?_
                  obtain ⟨rfl, rfl⟩ := Prod.mk.inj (Option.some.inj h)
                  exact sw_iret X hP hD hS dX8_count_127
                · replace h := if_no h c10
                  refine sw_tabD (tgt := 128) hx hb dX8_count_1 (([(0 : Int32)] : List Int32) ++ (([(1 : Int32)] : List Int32) ++ (([(2 : Int32)] : List Int32) ++ (([(3 : Int32)] : List Int32) ++ (([(4 : Int32)] : List Int32) ++ (([(5 : Int32)] : List Int32) ++ (([(6 : Int32)] : List Int32) ++ ([(7 : Int32)] : List Int32)))))))) (fun hm => (List.mem_append.mp hm).elim c1 (fun hm => (List.mem_append.mp hm).elim c2 (fun hm => (List.mem_append.mp hm).elim c3 (fun hm => (List.mem_append.mp hm).elim c4 (fun hm => (List.mem_append.mp hm).elim c5 (fun hm => (List.mem_append.mp hm).elim c7 (fun hm => (List.mem_append.mp hm).elim c9 c10))))))) (by decide +kernel) (by decide) ?_
                  exact absurd h (fun h9 => by cases h9)
theorem dX8_change_0 : decode cX8_change 0 = .ok (.aload_n 0, 1) := by decide +kernel
theorem dX8_change_1 : decode cX8_change 1 = .ok (.getfield 28, 3) := by decide +kernel
theorem dX8_change_4 : decode cX8_change 4 = .ok (.iload_n 1, 1) := by decide +kernel
theorem dX8_change_5 : decode cX8_change 5 = .ok (.invokevirtual 124, 3) := by decide +kernel
theorem dX8_change_8 : decode cX8_change 8 = .ok (.ireturn, 1) := by decide +kernel
def fX8_change (p1 : Int32) (s0 : zS) : Option (Int32 × zS) := bd2 (fX4_timeOfChange p1 s0) fun r2 s3 => some (r2, s3)
set_option maxHeartbeats 4000000 in
set_option maxRecDepth 100000 in
theorem cX8_change_m {l : Launch} {dC : Nat → ClassId} {dI : Nat → Nat → Nat} {ad : Nat → Nat} {cI : ClassId} {p1 : Int32} {s0 : zS} {zr : Int32} {zs : zS} (h : fX8_change p1 s0 = some (zr, zs)) : sw_Mi l yX8_change (sw_ws yX8_change cX8_change 2 (some .int)) (sw_rm 2 41) (dC, dI) vwCl [(cI, .int)] cF [.ref (ad 0), .int p1] (cW ad cI s0) (cW ad cI zs) zr := by
  intro sz
  refine sw_of (cc := cX8_change) (maxL := 2) (ret := (some .int)) (by decide) rfl (Nat.le_of_ble_eq_true rfl) ?_
  intro p e s m args below meth c A ls hAe hsz X _ hP hD hS hl
  rw [hAe]
  have hx := X.1.1
  have hb := X.1.2.1
  have hown := X.1.2.2.2.1
  have hts := X.1.2.2.2.2
  replace hl : lv_has ls 2 [(0, .ref (ad 0)), (1, .int p1)] := hl
  unfold fX8_change at h
  refine lv_aload_n hx hb dX8_change_0 rfl (lv_at hl 0 rfl) ?_
  refine cg_0_2 X hP k_179 dX8_change_1 ?_
  refine lv_iload_n hx hb dX8_change_4 rfl (lv_at hl 1 rfl) ?_
  have hq := bd2_some h; clear h; obtain ⟨r2, s3, h1, h⟩ := hq
  refine sw_vi (rest := []) c_good X (cX4_timeOfChange_m h1) calX4_timeOfChange k_197 hP hD hS 3 4 rfl rfl rfl ⟨rfl, rfl⟩ rfl hl.1 rfl (Nat.le_of_ble_eq_true rfl) dX8_change_5 (fun H locs hP hD hS => ?_)
  obtain ⟨rfl, rfl⟩ := Prod.mk.inj (Option.some.inj h)
  exact sw_iret X hP hD hS dX8_change_8
