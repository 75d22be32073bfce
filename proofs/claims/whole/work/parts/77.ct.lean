/-! the constructors -/
theorem dX1_init_0 : decode cX1_init 0 = .ok (.aload_n 0, 1) := by decide +kernel
theorem dX1_init_1 : decode cX1_init 1 = .ok (.invokespecial 1, 3) := by decide +kernel
theorem dX1_init_4 : decode cX1_init 4 = .ok (.return_, 1) := by decide +kernel
theorem calcX1 : sc_cal yX1_init cX1_init 1 0 := ⟨sw_in 29 (by decide +kernel) rfl, sw_in 28 (by decide +kernel) rfl, sw_in 2 (by decide +kernel) rfl, rfl, by decide, by decide, by decide +kernel⟩
theorem kc_30 : Cond.methodLink RX1 1 Lib.objectInit ∈ sw_tb := sw_in 30 (by decide +kernel) rfl
set_option maxHeartbeats 4000000 in
set_option maxRecDepth 100000 in
theorem ctX1 {l : Launch} {dC : Nat → ClassId} {dI : Nat → Nat → Nat} {cI : ClassId} {h : Nat} : sc_M l yX1_init (sw_ws yX1_init cX1_init 1 none) { frames := 1, cells := 0, slots := 0, locals := 12 } (dC, dI) vwCl [(cI, .int)] [.ref h] [(h, .inr (1, [.int 0]))] (fun _ => True) (fun u => [(h, .inr (1, [.int 0]))]) 0 0 := by
  intro sz
  refine sw_of (cc := cX1_init) (maxL := 1) (ret := none) (by decide) rfl (Nat.le_of_ble_eq_true rfl) ?_
  intro p e s m args below meth c A ls hAe hsz X hin hP hD hS hl
  rw [hAe]
  replace hin := hin rfl
  have hx := X.1.1
  have hb := X.1.2.1
  have hown := X.1.2.2.2.1
  have hts := X.1.2.2.2.2
  have hts1 : ∀ w ∈ sw_tb, w.before args s = true := fun w h => hts w (List.mem_cons_of_mem _ h)
  have S : CallFix p m c cX1_init 1 s args sw_tb RX1 := ⟨hx, hb, X.1.2.2.1, hown, hts1⟩
  have hN : nN s := X.2.2.2.2.2
  replace hl : lv_has ls 1 [(0, .ref h)] := hl
  refine lv_aload_n hx hb dX1_init_0 rfl (lv_at hl 0 rfl) ?_
  refine sc_obj S kc_30 hl.1 (by decide) (by decide) dX1_init_1 ?_
  exact sc_ret (wf := (fun u => [(h, .inr (1, [.int 0]))])) X (fun i => ([] : List Nat).getD i 0) trivial hP hD hS dX1_init_4
theorem dX7_init_0 : decode cX7_init 0 = .ok (.aload_n 0, 1) := by decide +kernel
theorem dX7_init_1 : decode cX7_init 1 = .ok (.invokespecial 1, 3) := by decide +kernel
theorem dX7_init_4 : decode cX7_init 4 = .ok (.aload_n 0, 1) := by decide +kernel
theorem dX7_init_5 : decode cX7_init 5 = .ok (.bipush 64, 2) := by decide +kernel
theorem dX7_init_7 : decode cX7_init 7 = .ok (.newarray .int, 2) := by decide +kernel
theorem dX7_init_9 : decode cX7_init 9 = .ok (.putfield 9, 3) := by decide +kernel
theorem dX7_init_12 : decode cX7_init 12 = .ok (.return_, 1) := by decide +kernel
theorem calcX7 : sc_cal yX7_init cX7_init 1 0 := ⟨sw_in 61 (by decide +kernel) rfl, sw_in 60 (by decide +kernel) rfl, sw_in 5 (by decide +kernel) rfl, rfl, by decide, by decide, by decide +kernel⟩
theorem kc_62 : Cond.methodLink RX7 1 Lib.objectInit ∈ sw_tb := sw_in 62 (by decide +kernel) rfl
theorem kc_63 : Cond.fieldLink RX7 9 "SpectrumBoard$Tape" "times" "[I" ∈ sw_tb := sw_in 63 (by decide +kernel) rfl
set_option maxHeartbeats 4000000 in
set_option maxRecDepth 100000 in
theorem ctX7 {l : Launch} {dC : Nat → ClassId} {dI : Nat → Nat → Nat} {cI : ClassId} {h : Nat} : sc_M l yX7_init (sw_ws yX7_init cX7_init 1 none) { frames := 1, cells := 1, slots := 64, locals := 12 } (dC, dI) vwCl [(cI, .int)] [.ref h] [(h, .inr (7, [.null, .int 0, .int 0]))] (fun _ => True) (fun u => [(h, .inr (7, [.ref (u 0), .int 0, .int 0])), ((u 0), .inl (cI, 64, .inl (fun _ => 0)))]) 1 64 := by
  intro sz
  refine sw_of (cc := cX7_init) (maxL := 1) (ret := none) (by decide) rfl (Nat.le_of_ble_eq_true rfl) ?_
  intro p e s m args below meth c A ls hAe hsz X hin hP hD hS hl
  rw [hAe]
  replace hin := hin rfl
  have hx := X.1.1
  have hb := X.1.2.1
  have hown := X.1.2.2.2.1
  have hts := X.1.2.2.2.2
  have hts1 : ∀ w ∈ sw_tb, w.before args s = true := fun w h => hts w (List.mem_cons_of_mem _ h)
  have S : CallFix p m c cX7_init 1 s args sw_tb RX7 := ⟨hx, hb, X.1.2.2.1, hown, hts1⟩
  have hN : nN s := X.2.2.2.2.2
  replace hl : lv_has ls 1 [(0, .ref h)] := hl
  refine lv_aload_n hx hb dX7_init_0 rfl (lv_at hl 0 rfl) ?_
  refine sc_obj S kc_62 hl.1 (by decide) (by decide) dX7_init_1 ?_
  refine lv_aload_n hx hb dX7_init_4 rfl (lv_at hl 0 rfl) ?_
  refine lv_bipush (v := 64) hx hb dX7_init_5 (by decide) ?_
  refine sc_newa (n := 64) (N := 64) S X.2.2.2.1 X.2.2.2.2.1 hP hD hS (by decide) (by decide) (by decide) ⟨by decide, by decide⟩ dX7_init_7 (fun q1 H hP hD hS => ?_)
  replace hP : va_P (dC, dI) vwCl [(h, .inr (7, [.null, .int 0, .int 0])), (q1, .inl (cI, 64, .inl (fun _ => 0)))] H := hP
  replace hD : va_D A [(h, .inr (7, [.null, .int 0, .int 0])), (q1, .inl (cI, 64, .inl (fun _ => 0)))] := hD
  refine W.widen (k := 1) (n := 64) (by decide) (by decide) ?_
  refine va_putF hx hb hts1 tbX7 tyX7 tyX7_ok nmX7 hown X.2.2.2.1 hP hD hS 0 rfl rfl 0 (by decide) (hts1 _ kc_63) (fun _ h => h) rfl hin rfl (tyX7_ok 0 (by decide)) rfl rfl (Nat.le_of_ble_eq_true rfl) dX7_init_9 (fun H locs hP hD hS => ?_)
  replace hP : va_P (dC, dI) vwCl [(h, .inr (7, [.ref q1, .int 0, .int 0])), (q1, .inl (cI, 64, .inl (fun _ => 0)))] H := hP
  replace hD : va_D A [(h, .inr (7, [.ref q1, .int 0, .int 0])), (q1, .inl (cI, 64, .inl (fun _ => 0)))] := hD
  exact sc_ret (wf := (fun u => [(h, .inr (7, [.ref (u 0), .int 0, .int 0])), ((u 0), .inl (cI, 64, .inl (fun _ => 0)))])) X (fun i => ([q1] : List Nat).getD i 0) trivial hP hD hS dX7_init_12
theorem dX6_init_0 : decode cX6_init 0 = .ok (.aload_n 0, 1) := by decide +kernel
theorem dX6_init_1 : decode cX6_init 1 = .ok (.invokespecial 1, 3) := by decide +kernel
theorem dX6_init_4 : decode cX6_init 4 = .ok (.aload_n 0, 1) := by decide +kernel
theorem dX6_init_5 : decode cX6_init 5 = .ok (.bipush 10, 2) := by decide +kernel
theorem dX6_init_7 : decode cX6_init 7 = .ok (.newarray .int, 2) := by decide +kernel
theorem dX6_init_9 : decode cX6_init 9 = .ok (.putfield 9, 3) := by decide +kernel
theorem dX6_init_12 : decode cX6_init 12 = .ok (.return_, 1) := by decide +kernel
theorem calcX6 : sc_cal yX6_init cX6_init 1 0 := ⟨sw_in 104 (by decide +kernel) rfl, sw_in 103 (by decide +kernel) rfl, sw_in 6 (by decide +kernel) rfl, rfl, by decide, by decide, by decide +kernel⟩
theorem kc_105 : Cond.methodLink RX6 1 Lib.objectInit ∈ sw_tb := sw_in 105 (by decide +kernel) rfl
theorem kc_106 : Cond.fieldLink RX6 9 "SpectrumBoard$Registers" "pairs" "[I" ∈ sw_tb := sw_in 106 (by decide +kernel) rfl
set_option maxHeartbeats 4000000 in
set_option maxRecDepth 100000 in
theorem ctX6 {l : Launch} {dC : Nat → ClassId} {dI : Nat → Nat → Nat} {cI : ClassId} {h : Nat} : sc_M l yX6_init (sw_ws yX6_init cX6_init 1 none) { frames := 1, cells := 1, slots := 10, locals := 12 } (dC, dI) vwCl [(cI, .int)] [.ref h] [(h, .inr (6, [.null]))] (fun _ => True) (fun u => [(h, .inr (6, [.ref (u 0)])), ((u 0), .inl (cI, 10, .inl (fun _ => 0)))]) 1 10 := by
  intro sz
  refine sw_of (cc := cX6_init) (maxL := 1) (ret := none) (by decide) rfl (Nat.le_of_ble_eq_true rfl) ?_
  intro p e s m args below meth c A ls hAe hsz X hin hP hD hS hl
  rw [hAe]
  replace hin := hin rfl
  have hx := X.1.1
  have hb := X.1.2.1
  have hown := X.1.2.2.2.1
  have hts := X.1.2.2.2.2
  have hts1 : ∀ w ∈ sw_tb, w.before args s = true := fun w h => hts w (List.mem_cons_of_mem _ h)
  have S : CallFix p m c cX6_init 1 s args sw_tb RX6 := ⟨hx, hb, X.1.2.2.1, hown, hts1⟩
  have hN : nN s := X.2.2.2.2.2
  replace hl : lv_has ls 1 [(0, .ref h)] := hl
  refine lv_aload_n hx hb dX6_init_0 rfl (lv_at hl 0 rfl) ?_
  refine sc_obj S kc_105 hl.1 (by decide) (by decide) dX6_init_1 ?_
  refine lv_aload_n hx hb dX6_init_4 rfl (lv_at hl 0 rfl) ?_
  refine lv_bipush (v := 10) hx hb dX6_init_5 (by decide) ?_
  refine sc_newa (n := 10) (N := 10) S X.2.2.2.1 X.2.2.2.2.1 hP hD hS (by decide) (by decide) (by decide) ⟨by decide, by decide⟩ dX6_init_7 (fun q1 H hP hD hS => ?_)
  replace hP : va_P (dC, dI) vwCl [(h, .inr (6, [.null])), (q1, .inl (cI, 10, .inl (fun _ => 0)))] H := hP
  replace hD : va_D A [(h, .inr (6, [.null])), (q1, .inl (cI, 10, .inl (fun _ => 0)))] := hD
  refine W.widen (k := 1) (n := 10) (by decide) (by decide) ?_
  refine va_putF hx hb hts1 tbX6 tyX6 tyX6_ok nmX6 hown X.2.2.2.1 hP hD hS 0 rfl rfl 0 (by decide) (hts1 _ kc_106) (fun _ h => h) rfl hin rfl (tyX6_ok 0 (by decide)) rfl rfl (Nat.le_of_ble_eq_true rfl) dX6_init_9 (fun H locs hP hD hS => ?_)
  replace hP : va_P (dC, dI) vwCl [(h, .inr (6, [.ref q1])), (q1, .inl (cI, 10, .inl (fun _ => 0)))] H := hP
  replace hD : va_D A [(h, .inr (6, [.ref q1])), (q1, .inl (cI, 10, .inl (fun _ => 0)))] := hD
  exact sc_ret (wf := (fun u => [(h, .inr (6, [.ref (u 0)])), ((u 0), .inl (cI, 10, .inl (fun _ => 0)))])) X (fun i => ([q1] : List Nat).getD i 0) trivial hP hD hS dX6_init_12
theorem dX2_init_0 : decode cX2_init 0 = .ok (.aload_n 0, 1) := by decide +kernel
theorem dX2_init_1 : decode cX2_init 1 = .ok (.invokespecial 1, 3) := by decide +kernel
theorem dX2_init_4 : decode cX2_init 4 = .ok (.aload_n 0, 1) := by decide +kernel
theorem dX2_init_5 : decode cX2_init 5 = .ok (.sipush 4096, 3) := by decide +kernel
theorem dX2_init_8 : decode cX2_init 8 = .ok (.newarray .int, 2) := by decide +kernel
theorem dX2_init_10 : decode cX2_init 10 = .ok (.putfield 9, 3) := by decide +kernel
theorem dX2_init_13 : decode cX2_init 13 = .ok (.aload_n 0, 1) := by decide +kernel
theorem dX2_init_14 : decode cX2_init 14 = .ok (.aload_n 1, 1) := by decide +kernel
theorem dX2_init_15 : decode cX2_init 15 = .ok (.putfield 13, 3) := by decide +kernel
theorem dX2_init_18 : decode cX2_init 18 = .ok (.return_, 1) := by decide +kernel
theorem calcX2 : sc_cal yX2_init cX2_init 2 1 := ⟨sw_in 41 (by decide +kernel) rfl, sw_in 40 (by decide +kernel) rfl, sw_in 3 (by decide +kernel) rfl, rfl, by decide, by decide, by decide +kernel⟩
theorem kc_42 : Cond.methodLink RX2 1 Lib.objectInit ∈ sw_tb := sw_in 42 (by decide +kernel) rfl
theorem kc_44 : Cond.fieldLink RX2 9 "SpectrumBoard$Memory" "bytes" "[I" ∈ sw_tb := sw_in 44 (by decide +kernel) rfl
theorem kc_43 : Cond.fieldLink RX2 13 "SpectrumBoard$Memory" "clock" "LSpectrumBoard$Clock;" ∈ sw_tb := sw_in 43 (by decide +kernel) rfl
set_option maxHeartbeats 4000000 in
set_option maxRecDepth 100000 in
theorem ctX2 {l : Launch} {dC : Nat → ClassId} {dI : Nat → Nat → Nat} {cI : ClassId} {h a1 : Nat} : sc_M l yX2_init (sw_ws yX2_init cX2_init 2 none) { frames := 1, cells := 1, slots := 4096, locals := 12 } (dC, dI) vwCl [(cI, .int)] [.ref h, .ref a1] [(h, .inr (2, [.null, .null]))] (fun _ => True) (fun u => [(h, .inr (2, [.ref a1, .ref (u 0)])), ((u 0), .inl (cI, 4096, .inl (fun _ => 0)))]) 1 4096 := by
  intro sz
  refine sw_of (cc := cX2_init) (maxL := 2) (ret := none) (by decide) rfl (Nat.le_of_ble_eq_true rfl) ?_
  intro p e s m args below meth c A ls hAe hsz X hin hP hD hS hl
  rw [hAe]
  replace hin := hin rfl
  have hx := X.1.1
  have hb := X.1.2.1
  have hown := X.1.2.2.2.1
  have hts := X.1.2.2.2.2
  have hts1 : ∀ w ∈ sw_tb, w.before args s = true := fun w h => hts w (List.mem_cons_of_mem _ h)
  have S : CallFix p m c cX2_init 2 s args sw_tb RX2 := ⟨hx, hb, X.1.2.2.1, hown, hts1⟩
  have hN : nN s := X.2.2.2.2.2
  replace hl : lv_has ls 2 [(0, .ref h), (1, .ref a1)] := hl
  refine lv_aload_n hx hb dX2_init_0 rfl (lv_at hl 0 rfl) ?_
  refine sc_obj S kc_42 hl.1 (by decide) (by decide) dX2_init_1 ?_
  refine lv_aload_n hx hb dX2_init_4 rfl (lv_at hl 0 rfl) ?_
  refine lv_sipush (v := 4096) hx hb dX2_init_5 (by decide) ?_
  refine sc_newa (n := 4096) (N := 4096) S X.2.2.2.1 X.2.2.2.2.1 hP hD hS (by decide) (by decide) (by decide) ⟨by decide, by decide⟩ dX2_init_8 (fun q1 H hP hD hS => ?_)
  replace hP : va_P (dC, dI) vwCl [(h, .inr (2, [.null, .null])), (q1, .inl (cI, 4096, .inl (fun _ => 0)))] H := hP
  replace hD : va_D A [(h, .inr (2, [.null, .null])), (q1, .inl (cI, 4096, .inl (fun _ => 0)))] := hD
  refine W.widen (k := 1) (n := 4096) (by decide) (by decide) ?_
  refine va_putF hx hb hts1 tbX2 tyX2 tyX2_ok nmX2 hown X.2.2.2.1 hP hD hS 0 rfl rfl 1 (by decide) (hts1 _ kc_44) (fun _ h => h) rfl hin rfl (tyX2_ok 1 (by decide)) rfl rfl (Nat.le_of_ble_eq_true rfl) dX2_init_10 (fun H locs hP hD hS => ?_)
  replace hP : va_P (dC, dI) vwCl [(h, .inr (2, [.null, .ref q1])), (q1, .inl (cI, 4096, .inl (fun _ => 0)))] H := hP
  replace hD : va_D A [(h, .inr (2, [.null, .ref q1])), (q1, .inl (cI, 4096, .inl (fun _ => 0)))] := hD
  refine lv_aload_n hx hb dX2_init_13 rfl (lv_at hl 0 rfl) ?_
  refine lv_aload_n hx hb dX2_init_14 rfl (lv_at hl 1 rfl) ?_
  refine va_putF hx hb hts1 tbX2 tyX2 tyX2_ok nmX2 hown X.2.2.2.1 hP hD hS 0 rfl rfl 0 (by decide) (hts1 _ kc_43) (fun _ h => h) rfl hin rfl (tyX2_ok 0 (by decide)) rfl rfl (Nat.le_of_ble_eq_true rfl) dX2_init_15 (fun H locs hP hD hS => ?_)
  replace hP : va_P (dC, dI) vwCl [(h, .inr (2, [.ref a1, .ref q1])), (q1, .inl (cI, 4096, .inl (fun _ => 0)))] H := hP
  replace hD : va_D A [(h, .inr (2, [.ref a1, .ref q1])), (q1, .inl (cI, 4096, .inl (fun _ => 0)))] := hD
  exact sc_ret (wf := (fun u => [(h, .inr (2, [.ref a1, .ref (u 0)])), ((u 0), .inl (cI, 4096, .inl (fun _ => 0)))])) X (fun i => ([q1] : List Nat).getD i 0) trivial hP hD hS dX2_init_18
theorem dX4_init_0 : decode cX4_init 0 = .ok (.aload_n 0, 1) := by decide +kernel
theorem dX4_init_1 : decode cX4_init 1 = .ok (.invokespecial 3, 3) := by decide +kernel
theorem dX4_init_4 : decode cX4_init 4 = .ok (.aload_n 0, 1) := by decide +kernel
theorem dX4_init_5 : decode cX4_init 5 = .ok (.new 9, 3) := by decide +kernel
theorem dX4_init_8 : decode cX4_init 8 = .ok (.dup, 1) := by decide +kernel
theorem dX4_init_9 : decode cX4_init 9 = .ok (.invokespecial 11, 3) := by decide +kernel
theorem dX4_init_12 : decode cX4_init 12 = .ok (.putfield 12, 3) := by decide +kernel
theorem dX4_init_15 : decode cX4_init 15 = .ok (.aload_n 0, 1) := by decide +kernel
theorem dX4_init_16 : decode cX4_init 16 = .ok (.bipush 8, 2) := by decide +kernel
theorem dX4_init_18 : decode cX4_init 18 = .ok (.newarray .int, 2) := by decide +kernel
theorem dX4_init_20 : decode cX4_init 20 = .ok (.dup, 1) := by decide +kernel
theorem dX4_init_21 : decode cX4_init 21 = .ok (.iconst 0, 1) := by decide +kernel
theorem dX4_init_22 : decode cX4_init 22 = .ok (.bipush 31, 2) := by decide +kernel
theorem dX4_init_24 : decode cX4_init 24 = .ok (.iastore, 1) := by decide +kernel
theorem dX4_init_25 : decode cX4_init 25 = .ok (.dup, 1) := by decide +kernel
theorem dX4_init_26 : decode cX4_init 26 = .ok (.iconst 1, 1) := by decide +kernel
theorem dX4_init_27 : decode cX4_init 27 = .ok (.bipush 31, 2) := by decide +kernel
theorem dX4_init_29 : decode cX4_init 29 = .ok (.iastore, 1) := by decide +kernel
theorem dX4_init_30 : decode cX4_init 30 = .ok (.dup, 1) := by decide +kernel
theorem dX4_init_31 : decode cX4_init 31 = .ok (.iconst 2, 1) := by decide +kernel
theorem dX4_init_32 : decode cX4_init 32 = .ok (.bipush 31, 2) := by decide +kernel
theorem dX4_init_34 : decode cX4_init 34 = .ok (.iastore, 1) := by decide +kernel
theorem dX4_init_35 : decode cX4_init 35 = .ok (.dup, 1) := by decide +kernel
theorem dX4_init_36 : decode cX4_init 36 = .ok (.iconst 3, 1) := by decide +kernel
theorem dX4_init_37 : decode cX4_init 37 = .ok (.bipush 31, 2) := by decide +kernel
theorem dX4_init_39 : decode cX4_init 39 = .ok (.iastore, 1) := by decide +kernel
theorem dX4_init_40 : decode cX4_init 40 = .ok (.dup, 1) := by decide +kernel
theorem dX4_init_41 : decode cX4_init 41 = .ok (.iconst 4, 1) := by decide +kernel
theorem dX4_init_42 : decode cX4_init 42 = .ok (.bipush 31, 2) := by decide +kernel
theorem dX4_init_44 : decode cX4_init 44 = .ok (.iastore, 1) := by decide +kernel
theorem dX4_init_45 : decode cX4_init 45 = .ok (.dup, 1) := by decide +kernel
theorem dX4_init_46 : decode cX4_init 46 = .ok (.iconst 5, 1) := by decide +kernel
theorem dX4_init_47 : decode cX4_init 47 = .ok (.bipush 31, 2) := by decide +kernel
theorem dX4_init_49 : decode cX4_init 49 = .ok (.iastore, 1) := by decide +kernel
theorem dX4_init_50 : decode cX4_init 50 = .ok (.dup, 1) := by decide +kernel
theorem dX4_init_51 : decode cX4_init 51 = .ok (.bipush 6, 2) := by decide +kernel
theorem dX4_init_53 : decode cX4_init 53 = .ok (.bipush 31, 2) := by decide +kernel
theorem dX4_init_55 : decode cX4_init 55 = .ok (.iastore, 1) := by decide +kernel
theorem dX4_init_56 : decode cX4_init 56 = .ok (.dup, 1) := by decide +kernel
theorem dX4_init_57 : decode cX4_init 57 = .ok (.bipush 7, 2) := by decide +kernel
theorem dX4_init_59 : decode cX4_init 59 = .ok (.bipush 31, 2) := by decide +kernel
theorem dX4_init_61 : decode cX4_init 61 = .ok (.iastore, 1) := by decide +kernel
theorem dX4_init_62 : decode cX4_init 62 = .ok (.putfield 18, 3) := by decide +kernel
theorem dX4_init_65 : decode cX4_init 65 = .ok (.aload_n 0, 1) := by decide +kernel
theorem dX4_init_66 : decode cX4_init 66 = .ok (.bipush 100, 2) := by decide +kernel
theorem dX4_init_68 : decode cX4_init 68 = .ok (.newarray .int, 2) := by decide +kernel
theorem dX4_init_70 : decode cX4_init 70 = .ok (.putfield 22, 3) := by decide +kernel
theorem dX4_init_73 : decode cX4_init 73 = .ok (.aload_n 0, 1) := by decide +kernel
theorem dX4_init_74 : decode cX4_init 74 = .ok (.aload_n 1, 1) := by decide +kernel
theorem dX4_init_75 : decode cX4_init 75 = .ok (.putfield 25, 3) := by decide +kernel
theorem dX4_init_78 : decode cX4_init 78 = .ok (.return_, 1) := by decide +kernel
theorem calcX4 : sc_cal yX4_init cX4_init 2 1 := ⟨sw_in 55 (by decide +kernel) rfl, sw_in 54 (by decide +kernel) rfl, sw_in 4 (by decide +kernel) rfl, rfl, by decide, by decide, by decide +kernel⟩
theorem kc_56 : Cond.methodLink RX4 3 Lib.objectInit ∈ sw_tb := sw_in 56 (by decide +kernel) rfl
theorem kc_57 : Cond.classLink RX4 9 RX7 ∈ sw_tb := sw_in 57 (by decide +kernel) rfl
theorem kc_58 : Cond.instantiable RX7 3 ∈ sw_tb := sw_in 58 (by decide +kernel) rfl
theorem kc_5 : Cond.initialized RX7 ∈ sw_tb := sw_in 5 (by decide +kernel) rfl
theorem kc_74 : Cond.fieldLink RX4 12 "SpectrumBoard$Ports" "tape" "LSpectrumBoard$Tape;" ∈ sw_tb := sw_in 74 (by decide +kernel) rfl
theorem kc_76 : Cond.fieldLink RX4 18 "SpectrumBoard$Ports" "rows" "[I" ∈ sw_tb := sw_in 76 (by decide +kernel) rfl
theorem kc_84 : Cond.fieldLink RX4 22 "SpectrumBoard$Ports" "changeTimes" "[I" ∈ sw_tb := sw_in 84 (by decide +kernel) rfl
theorem kc_73 : Cond.fieldLink RX4 25 "SpectrumBoard$Ports" "clock" "LSpectrumBoard$Clock;" ∈ sw_tb := sw_in 73 (by decide +kernel) rfl
set_option maxHeartbeats 4000000 in
set_option maxRecDepth 100000 in
theorem ctX4 {l : Launch} {dC : Nat → ClassId} {dI : Nat → Nat → Nat} {cI : ClassId} {h a1 : Nat} : sc_M l yX4_init (sw_ws yX4_init cX4_init 2 none) { frames := 2, cells := 4, slots := 175, locals := 32 } (dC, dI) vwCl [(cI, .int)] [.ref h, .ref a1] [(h, .inr (4, [.null, .null, .null, .int 0, .int 0, .int 0, .null]))] (fun _ => True) (fun u => [(h, .inr (4, [.ref a1, .ref (u 0), .ref (u 2), .int 0, .int 0, .int 0, .ref (u 3)])), ((u 0), .inr (7, [.ref (u 1), .int 0, .int 0])), ((u 1), .inl (cI, 64, .inl (fun _ => 0))), ((u 2), .inl (cI, 8, .inl (upd (upd (upd (upd (upd (upd (upd (upd (fun _ => 0) 0 31) 1 31) 2 31) 3 31) 4 31) 5 31) 6 31) 7 31))), ((u 3), .inl (cI, 100, .inl (fun _ => 0)))]) 4 175 := by
  intro sz
  refine sw_of (cc := cX4_init) (maxL := 2) (ret := none) (by decide) rfl (Nat.le_of_ble_eq_true rfl) ?_
  intro p e s m args below meth c A ls hAe hsz X hin hP hD hS hl
  rw [hAe]
  replace hin := hin rfl
  have hx := X.1.1
  have hb := X.1.2.1
  have hown := X.1.2.2.2.1
  have hts := X.1.2.2.2.2
  have hts1 : ∀ w ∈ sw_tb, w.before args s = true := fun w h => hts w (List.mem_cons_of_mem _ h)
  have S : CallFix p m c cX4_init 2 s args sw_tb RX4 := ⟨hx, hb, X.1.2.2.1, hown, hts1⟩
  have hN : nN s := X.2.2.2.2.2
  replace hl : lv_has ls 2 [(0, .ref h), (1, .ref a1)] := hl
  refine lv_aload_n hx hb dX4_init_0 rfl (lv_at hl 0 rfl) ?_
  refine sc_obj S kc_56 hl.1 (by decide) (by decide) dX4_init_1 ?_
  refine lv_aload_n hx hb dX4_init_4 rfl (lv_at hl 0 rfl) ?_
  refine va_new (ci := 7) (fs := [.null, .int 0, .int 0]) (C := RX7) (T := TX7) (N := 3) hx hb hts1 tbX7 tyX7 tyX7_ok hown (hts1 _ kc_57) (hts1 _ kc_58) (hts1 _ kc_5) X.2.2.2.1 hP hD hS X.2.2.2.2.1 rfl (fun j hj => by rcases (show j = 0 ∨ j = 1 ∨ j = 2 by omega) with rfl | rfl | rfl <;> rfl) (by decide) (by decide) dX4_init_5 (fun q1 H hP hD hS => ?_)
  replace hP : va_P (dC, dI) vwCl [(h, .inr (4, [.null, .null, .null, .int 0, .int 0, .int 0, .null])), (q1, .inr (7, [.null, .int 0, .int 0]))] H := hP
  replace hD : va_D A [(h, .inr (4, [.null, .null, .null, .int 0, .int 0, .int 0, .null])), (q1, .inr (7, [.null, .int 0, .int 0]))] := hD
  refine W.widen (k := 1) (n := 3) (by decide) (by decide) ?_
  refine lv_dup hx hb dX4_init_8 rfl ?_
  have h2 := (sg_2.spl (a := [(h, .inr (4, [.null, .null, .null, .int 0, .int 0, .int 0, .null]))]) (b := [(q1, .inr (7, [.null, .int 0, .int 0]))]) hP hD).symm
  refine sc_initN (rest := [.ref q1, .ref h]) S X.2.2.2.1 X.2.2.2.2.1 hN (ctX7 (h := q1)) calcX7 hN.2.2 rfl rfl h2 hS ⟨by decide, by decide⟩ ⟨by decide, by decide⟩ rfl hl.1 rfl (Nat.le_of_ble_eq_true rfl) dX4_init_9 (fun u1 H locs huu1 h2 hS => ?_)
  obtain ⟨hP, hD⟩ := h2.symm.app
  replace hP : va_P (dC, dI) vwCl [(h, .inr (4, [.null, .null, .null, .int 0, .int 0, .int 0, .null])), (q1, .inr (7, [.ref (u1 0), .int 0, .int 0])), ((u1 0), .inl (cI, 64, .inl (fun _ => 0)))] H := hP
  replace hD : va_D A [(h, .inr (4, [.null, .null, .null, .int 0, .int 0, .int 0, .null])), (q1, .inr (7, [.ref (u1 0), .int 0, .int 0])), ((u1 0), .inl (cI, 64, .inl (fun _ => 0)))] := hD
  refine W.widen (k := 2) (n := 67) (by decide) (by decide) ?_
  refine va_putF hx hb hts1 tbX4 tyX4 tyX4_ok nmX4 hown X.2.2.2.1 hP hD hS 0 rfl rfl 1 (by decide) (hts1 _ kc_74) (fun _ h => h) rfl hin rfl (tyX4_ok 1 (by decide)) rfl rfl (Nat.le_of_ble_eq_true rfl) dX4_init_12 (fun H locs hP hD hS => ?_)
  replace hP : va_P (dC, dI) vwCl [(h, .inr (4, [.null, .ref q1, .null, .int 0, .int 0, .int 0, .null])), (q1, .inr (7, [.ref (u1 0), .int 0, .int 0])), ((u1 0), .inl (cI, 64, .inl (fun _ => 0)))] H := hP
  replace hD : va_D A [(h, .inr (4, [.null, .ref q1, .null, .int 0, .int 0, .int 0, .null])), (q1, .inr (7, [.ref (u1 0), .int 0, .int 0])), ((u1 0), .inl (cI, 64, .inl (fun _ => 0)))] := hD
  refine lv_aload_n hx hb dX4_init_15 rfl (lv_at hl 0 rfl) ?_
  refine lv_bipush (v := 8) hx hb dX4_init_16 (by decide) ?_
  refine sc_newa (n := 8) (N := 8) S X.2.2.2.1 X.2.2.2.2.1 hP hD hS (by decide) (by decide) (by decide) ⟨by decide, by decide⟩ dX4_init_18 (fun q2 H hP hD hS => ?_)
  replace hP : va_P (dC, dI) vwCl [(h, .inr (4, [.null, .ref q1, .null, .int 0, .int 0, .int 0, .null])), (q1, .inr (7, [.ref (u1 0), .int 0, .int 0])), ((u1 0), .inl (cI, 64, .inl (fun _ => 0))), (q2, .inl (cI, 8, .inl (fun _ => 0)))] H := hP
  replace hD : va_D A [(h, .inr (4, [.null, .ref q1, .null, .int 0, .int 0, .int 0, .null])), (q1, .inr (7, [.ref (u1 0), .int 0, .int 0])), ((u1 0), .inl (cI, 64, .inl (fun _ => 0))), (q2, .inl (cI, 8, .inl (fun _ => 0)))] := hD
  refine W.widen (k := 3) (n := 75) (by decide) (by decide) ?_
  refine lv_dup hx hb dX4_init_20 rfl ?_
  refine lv_iconst (v := 0) hx hb dX4_init_21 (by decide) ?_
  refine lv_bipush (v := 31) hx hb dX4_init_22 (by decide) ?_
  refine va_iast (i := 0) (x := 31) hx hb X.2.2.2.1 hP hD hS 3 0 rfl rfl (by unfold vp_in; decide) dX4_init_24 (fun H locs hP hD hS => ?_)
  replace hP : va_P (dC, dI) vwCl [(h, .inr (4, [.null, .ref q1, .null, .int 0, .int 0, .int 0, .null])), (q1, .inr (7, [.ref (u1 0), .int 0, .int 0])), ((u1 0), .inl (cI, 64, .inl (fun _ => 0))), (q2, .inl (cI, 8, .inl (upd (fun _ => 0) 0 31)))] H := hP
  replace hD : va_D A [(h, .inr (4, [.null, .ref q1, .null, .int 0, .int 0, .int 0, .null])), (q1, .inr (7, [.ref (u1 0), .int 0, .int 0])), ((u1 0), .inl (cI, 64, .inl (fun _ => 0))), (q2, .inl (cI, 8, .inl (upd (fun _ => 0) 0 31)))] := hD
  refine lv_dup hx hb dX4_init_25 rfl ?_
  refine lv_iconst (v := 1) hx hb dX4_init_26 (by decide) ?_
  refine lv_bipush (v := 31) hx hb dX4_init_27 (by decide) ?_
  refine va_iast (i := 1) (x := 31) hx hb X.2.2.2.1 hP hD hS 3 0 rfl rfl (by unfold vp_in; decide) dX4_init_29 (fun H locs hP hD hS => ?_)
  replace hP : va_P (dC, dI) vwCl [(h, .inr (4, [.null, .ref q1, .null, .int 0, .int 0, .int 0, .null])), (q1, .inr (7, [.ref (u1 0), .int 0, .int 0])), ((u1 0), .inl (cI, 64, .inl (fun _ => 0))), (q2, .inl (cI, 8, .inl (upd (upd (fun _ => 0) 0 31) 1 31)))] H := hP
  replace hD : va_D A [(h, .inr (4, [.null, .ref q1, .null, .int 0, .int 0, .int 0, .null])), (q1, .inr (7, [.ref (u1 0), .int 0, .int 0])), ((u1 0), .inl (cI, 64, .inl (fun _ => 0))), (q2, .inl (cI, 8, .inl (upd (upd (fun _ => 0) 0 31) 1 31)))] := hD
  refine lv_dup hx hb dX4_init_30 rfl ?_
  refine lv_iconst (v := 2) hx hb dX4_init_31 (by decide) ?_
  refine lv_bipush (v := 31) hx hb dX4_init_32 (by decide) ?_
  refine va_iast (i := 2) (x := 31) hx hb X.2.2.2.1 hP hD hS 3 0 rfl rfl (by unfold vp_in; decide) dX4_init_34 (fun H locs hP hD hS => ?_)
  replace hP : va_P (dC, dI) vwCl [(h, .inr (4, [.null, .ref q1, .null, .int 0, .int 0, .int 0, .null])), (q1, .inr (7, [.ref (u1 0), .int 0, .int 0])), ((u1 0), .inl (cI, 64, .inl (fun _ => 0))), (q2, .inl (cI, 8, .inl (upd (upd (upd (fun _ => 0) 0 31) 1 31) 2 31)))] H := hP
  replace hD : va_D A [(h, .inr (4, [.null, .ref q1, .null, .int 0, .int 0, .int 0, .null])), (q1, .inr (7, [.ref (u1 0), .int 0, .int 0])), ((u1 0), .inl (cI, 64, .inl (fun _ => 0))), (q2, .inl (cI, 8, .inl (upd (upd (upd (fun _ => 0) 0 31) 1 31) 2 31)))] := hD
  refine lv_dup hx hb dX4_init_35 rfl ?_
  refine lv_iconst (v := 3) hx hb dX4_init_36 (by decide) ?_
  refine lv_bipush (v := 31) hx hb dX4_init_37 (by decide) ?_
  refine va_iast (i := 3) (x := 31) hx hb X.2.2.2.1 hP hD hS 3 0 rfl rfl (by unfold vp_in; decide) dX4_init_39 (fun H locs hP hD hS => ?_)
  replace hP : va_P (dC, dI) vwCl [(h, .inr (4, [.null, .ref q1, .null, .int 0, .int 0, .int 0, .null])), (q1, .inr (7, [.ref (u1 0), .int 0, .int 0])), ((u1 0), .inl (cI, 64, .inl (fun _ => 0))), (q2, .inl (cI, 8, .inl (upd (upd (upd (upd (fun _ => 0) 0 31) 1 31) 2 31) 3 31)))] H := hP
  replace hD : va_D A [(h, .inr (4, [.null, .ref q1, .null, .int 0, .int 0, .int 0, .null])), (q1, .inr (7, [.ref (u1 0), .int 0, .int 0])), ((u1 0), .inl (cI, 64, .inl (fun _ => 0))), (q2, .inl (cI, 8, .inl (upd (upd (upd (upd (fun _ => 0) 0 31) 1 31) 2 31) 3 31)))] := hD
  refine lv_dup hx hb dX4_init_40 rfl ?_
  refine lv_iconst (v := 4) hx hb dX4_init_41 (by decide) ?_
  refine lv_bipush (v := 31) hx hb dX4_init_42 (by decide) ?_
  refine va_iast (i := 4) (x := 31) hx hb X.2.2.2.1 hP hD hS 3 0 rfl rfl (by unfold vp_in; decide) dX4_init_44 (fun H locs hP hD hS => ?_)
  replace hP : va_P (dC, dI) vwCl [(h, .inr (4, [.null, .ref q1, .null, .int 0, .int 0, .int 0, .null])), (q1, .inr (7, [.ref (u1 0), .int 0, .int 0])), ((u1 0), .inl (cI, 64, .inl (fun _ => 0))), (q2, .inl (cI, 8, .inl (upd (upd (upd (upd (upd (fun _ => 0) 0 31) 1 31) 2 31) 3 31) 4 31)))] H := hP
  replace hD : va_D A [(h, .inr (4, [.null, .ref q1, .null, .int 0, .int 0, .int 0, .null])), (q1, .inr (7, [.ref (u1 0), .int 0, .int 0])), ((u1 0), .inl (cI, 64, .inl (fun _ => 0))), (q2, .inl (cI, 8, .inl (upd (upd (upd (upd (upd (fun _ => 0) 0 31) 1 31) 2 31) 3 31) 4 31)))] := hD
  refine lv_dup hx hb dX4_init_45 rfl ?_
  refine lv_iconst (v := 5) hx hb dX4_init_46 (by decide) ?_
  refine lv_bipush (v := 31) hx hb dX4_init_47 (by decide) ?_
  refine va_iast (i := 5) (x := 31) hx hb X.2.2.2.1 hP hD hS 3 0 rfl rfl (by unfold vp_in; decide) dX4_init_49 (fun H locs hP hD hS => ?_)
  replace hP : va_P (dC, dI) vwCl [(h, .inr (4, [.null, .ref q1, .null, .int 0, .int 0, .int 0, .null])), (q1, .inr (7, [.ref (u1 0), .int 0, .int 0])), ((u1 0), .inl (cI, 64, .inl (fun _ => 0))), (q2, .inl (cI, 8, .inl (upd (upd (upd (upd (upd (upd (fun _ => 0) 0 31) 1 31) 2 31) 3 31) 4 31) 5 31)))] H := hP
  replace hD : va_D A [(h, .inr (4, [.null, .ref q1, .null, .int 0, .int 0, .int 0, .null])), (q1, .inr (7, [.ref (u1 0), .int 0, .int 0])), ((u1 0), .inl (cI, 64, .inl (fun _ => 0))), (q2, .inl (cI, 8, .inl (upd (upd (upd (upd (upd (upd (fun _ => 0) 0 31) 1 31) 2 31) 3 31) 4 31) 5 31)))] := hD
  refine lv_dup hx hb dX4_init_50 rfl ?_
  refine lv_bipush (v := 6) hx hb dX4_init_51 (by decide) ?_
  refine lv_bipush (v := 31) hx hb dX4_init_53 (by decide) ?_
  refine va_iast (i := 6) (x := 31) hx hb X.2.2.2.1 hP hD hS 3 0 rfl rfl (by unfold vp_in; decide) dX4_init_55 (fun H locs hP hD hS => ?_)
  replace hP : va_P (dC, dI) vwCl [(h, .inr (4, [.null, .ref q1, .null, .int 0, .int 0, .int 0, .null])), (q1, .inr (7, [.ref (u1 0), .int 0, .int 0])), ((u1 0), .inl (cI, 64, .inl (fun _ => 0))), (q2, .inl (cI, 8, .inl (upd (upd (upd (upd (upd (upd (upd (fun _ => 0) 0 31) 1 31) 2 31) 3 31) 4 31) 5 31) 6 31)))] H := hP
  replace hD : va_D A [(h, .inr (4, [.null, .ref q1, .null, .int 0, .int 0, .int 0, .null])), (q1, .inr (7, [.ref (u1 0), .int 0, .int 0])), ((u1 0), .inl (cI, 64, .inl (fun _ => 0))), (q2, .inl (cI, 8, .inl (upd (upd (upd (upd (upd (upd (upd (fun _ => 0) 0 31) 1 31) 2 31) 3 31) 4 31) 5 31) 6 31)))] := hD
  refine lv_dup hx hb dX4_init_56 rfl ?_
  refine lv_bipush (v := 7) hx hb dX4_init_57 (by decide) ?_
  refine lv_bipush (v := 31) hx hb dX4_init_59 (by decide) ?_
  refine va_iast (i := 7) (x := 31) hx hb X.2.2.2.1 hP hD hS 3 0 rfl rfl (by unfold vp_in; decide) dX4_init_61 (fun H locs hP hD hS => ?_)
  replace hP : va_P (dC, dI) vwCl [(h, .inr (4, [.null, .ref q1, .null, .int 0, .int 0, .int 0, .null])), (q1, .inr (7, [.ref (u1 0), .int 0, .int 0])), ((u1 0), .inl (cI, 64, .inl (fun _ => 0))), (q2, .inl (cI, 8, .inl (upd (upd (upd (upd (upd (upd (upd (upd (fun _ => 0) 0 31) 1 31) 2 31) 3 31) 4 31) 5 31) 6 31) 7 31)))] H := hP
  replace hD : va_D A [(h, .inr (4, [.null, .ref q1, .null, .int 0, .int 0, .int 0, .null])), (q1, .inr (7, [.ref (u1 0), .int 0, .int 0])), ((u1 0), .inl (cI, 64, .inl (fun _ => 0))), (q2, .inl (cI, 8, .inl (upd (upd (upd (upd (upd (upd (upd (upd (fun _ => 0) 0 31) 1 31) 2 31) 3 31) 4 31) 5 31) 6 31) 7 31)))] := hD
  refine va_putF hx hb hts1 tbX4 tyX4 tyX4_ok nmX4 hown X.2.2.2.1 hP hD hS 0 rfl rfl 2 (by decide) (hts1 _ kc_76) (fun _ h => h) rfl hin rfl (tyX4_ok 2 (by decide)) rfl rfl (Nat.le_of_ble_eq_true rfl) dX4_init_62 (fun H locs hP hD hS => ?_)
  replace hP : va_P (dC, dI) vwCl [(h, .inr (4, [.null, .ref q1, .ref q2, .int 0, .int 0, .int 0, .null])), (q1, .inr (7, [.ref (u1 0), .int 0, .int 0])), ((u1 0), .inl (cI, 64, .inl (fun _ => 0))), (q2, .inl (cI, 8, .inl (upd (upd (upd (upd (upd (upd (upd (upd (fun _ => 0) 0 31) 1 31) 2 31) 3 31) 4 31) 5 31) 6 31) 7 31)))] H := hP
  replace hD : va_D A [(h, .inr (4, [.null, .ref q1, .ref q2, .int 0, .int 0, .int 0, .null])), (q1, .inr (7, [.ref (u1 0), .int 0, .int 0])), ((u1 0), .inl (cI, 64, .inl (fun _ => 0))), (q2, .inl (cI, 8, .inl (upd (upd (upd (upd (upd (upd (upd (upd (fun _ => 0) 0 31) 1 31) 2 31) 3 31) 4 31) 5 31) 6 31) 7 31)))] := hD
  refine lv_aload_n hx hb dX4_init_65 rfl (lv_at hl 0 rfl) ?_
  refine lv_bipush (v := 100) hx hb dX4_init_66 (by decide) ?_
  refine sc_newa (n := 100) (N := 100) S X.2.2.2.1 X.2.2.2.2.1 hP hD hS (by decide) (by decide) (by decide) ⟨by decide, by decide⟩ dX4_init_68 (fun q3 H hP hD hS => ?_)
  replace hP : va_P (dC, dI) vwCl [(h, .inr (4, [.null, .ref q1, .ref q2, .int 0, .int 0, .int 0, .null])), (q1, .inr (7, [.ref (u1 0), .int 0, .int 0])), ((u1 0), .inl (cI, 64, .inl (fun _ => 0))), (q2, .inl (cI, 8, .inl (upd (upd (upd (upd (upd (upd (upd (upd (fun _ => 0) 0 31) 1 31) 2 31) 3 31) 4 31) 5 31) 6 31) 7 31))), (q3, .inl (cI, 100, .inl (fun _ => 0)))] H := hP
  replace hD : va_D A [(h, .inr (4, [.null, .ref q1, .ref q2, .int 0, .int 0, .int 0, .null])), (q1, .inr (7, [.ref (u1 0), .int 0, .int 0])), ((u1 0), .inl (cI, 64, .inl (fun _ => 0))), (q2, .inl (cI, 8, .inl (upd (upd (upd (upd (upd (upd (upd (upd (fun _ => 0) 0 31) 1 31) 2 31) 3 31) 4 31) 5 31) 6 31) 7 31))), (q3, .inl (cI, 100, .inl (fun _ => 0)))] := hD
  refine W.widen (k := 4) (n := 175) (by decide) (by decide) ?_
  refine va_putF hx hb hts1 tbX4 tyX4 tyX4_ok nmX4 hown X.2.2.2.1 hP hD hS 0 rfl rfl 6 (by decide) (hts1 _ kc_84) (fun _ h => h) rfl hin rfl (tyX4_ok 6 (by decide)) rfl rfl (Nat.le_of_ble_eq_true rfl) dX4_init_70 (fun H locs hP hD hS => ?_)
  replace hP : va_P (dC, dI) vwCl [(h, .inr (4, [.null, .ref q1, .ref q2, .int 0, .int 0, .int 0, .ref q3])), (q1, .inr (7, [.ref (u1 0), .int 0, .int 0])), ((u1 0), .inl (cI, 64, .inl (fun _ => 0))), (q2, .inl (cI, 8, .inl (upd (upd (upd (upd (upd (upd (upd (upd (fun _ => 0) 0 31) 1 31) 2 31) 3 31) 4 31) 5 31) 6 31) 7 31))), (q3, .inl (cI, 100, .inl (fun _ => 0)))] H := hP
  replace hD : va_D A [(h, .inr (4, [.null, .ref q1, .ref q2, .int 0, .int 0, .int 0, .ref q3])), (q1, .inr (7, [.ref (u1 0), .int 0, .int 0])), ((u1 0), .inl (cI, 64, .inl (fun _ => 0))), (q2, .inl (cI, 8, .inl (upd (upd (upd (upd (upd (upd (upd (upd (fun _ => 0) 0 31) 1 31) 2 31) 3 31) 4 31) 5 31) 6 31) 7 31))), (q3, .inl (cI, 100, .inl (fun _ => 0)))] := hD
  refine lv_aload_n hx hb dX4_init_73 rfl (lv_at hl 0 rfl) ?_
  refine lv_aload_n hx hb dX4_init_74 rfl (lv_at hl 1 rfl) ?_
  refine va_putF hx hb hts1 tbX4 tyX4 tyX4_ok nmX4 hown X.2.2.2.1 hP hD hS 0 rfl rfl 0 (by decide) (hts1 _ kc_73) (fun _ h => h) rfl hin rfl (tyX4_ok 0 (by decide)) rfl rfl (Nat.le_of_ble_eq_true rfl) dX4_init_75 (fun H locs hP hD hS => ?_)
  replace hP : va_P (dC, dI) vwCl [(h, .inr (4, [.ref a1, .ref q1, .ref q2, .int 0, .int 0, .int 0, .ref q3])), (q1, .inr (7, [.ref (u1 0), .int 0, .int 0])), ((u1 0), .inl (cI, 64, .inl (fun _ => 0))), (q2, .inl (cI, 8, .inl (upd (upd (upd (upd (upd (upd (upd (upd (fun _ => 0) 0 31) 1 31) 2 31) 3 31) 4 31) 5 31) 6 31) 7 31))), (q3, .inl (cI, 100, .inl (fun _ => 0)))] H := hP
  replace hD : va_D A [(h, .inr (4, [.ref a1, .ref q1, .ref q2, .int 0, .int 0, .int 0, .ref q3])), (q1, .inr (7, [.ref (u1 0), .int 0, .int 0])), ((u1 0), .inl (cI, 64, .inl (fun _ => 0))), (q2, .inl (cI, 8, .inl (upd (upd (upd (upd (upd (upd (upd (upd (fun _ => 0) 0 31) 1 31) 2 31) 3 31) 4 31) 5 31) 6 31) 7 31))), (q3, .inl (cI, 100, .inl (fun _ => 0)))] := hD
  exact sc_ret (wf := (fun u => [(h, .inr (4, [.ref a1, .ref (u 0), .ref (u 2), .int 0, .int 0, .int 0, .ref (u 3)])), ((u 0), .inr (7, [.ref (u 1), .int 0, .int 0])), ((u 1), .inl (cI, 64, .inl (fun _ => 0))), ((u 2), .inl (cI, 8, .inl (upd (upd (upd (upd (upd (upd (upd (upd (fun _ => 0) 0 31) 1 31) 2 31) 3 31) 4 31) 5 31) 6 31) 7 31))), ((u 3), .inl (cI, 100, .inl (fun _ => 0)))])) X (fun i => ([q1, (u1 0), q2, q3] : List Nat).getD i 0) trivial hP hD hS dX4_init_78
theorem dX0_init_0 : decode cX0_init 0 = .ok (.aload_n 0, 1) := by decide +kernel
theorem dX0_init_1 : decode cX0_init 1 = .ok (.invokespecial 1, 3) := by decide +kernel
theorem dX0_init_4 : decode cX0_init 4 = .ok (.aload_n 0, 1) := by decide +kernel
theorem dX0_init_5 : decode cX0_init 5 = .ok (.aload_n 1, 1) := by decide +kernel
theorem dX0_init_6 : decode cX0_init 6 = .ok (.putfield 7, 3) := by decide +kernel
theorem dX0_init_9 : decode cX0_init 9 = .ok (.return_, 1) := by decide +kernel
theorem calcX0 : sc_cal yX0_init cX0_init 2 1 := ⟨sw_in 120 (by decide +kernel) rfl, sw_in 119 (by decide +kernel) rfl, sw_in 8 (by decide +kernel) rfl, rfl, by decide, by decide, by decide +kernel⟩
theorem kc_121 : Cond.methodLink RX0 1 Lib.objectInit ∈ sw_tb := sw_in 121 (by decide +kernel) rfl
theorem kc_122 : Cond.fieldLink RX0 7 "SpectrumBoard$Arithmetic" "registers" "LSpectrumBoard$Registers;" ∈ sw_tb := sw_in 122 (by decide +kernel) rfl
set_option maxHeartbeats 4000000 in
set_option maxRecDepth 100000 in
theorem ctX0 {l : Launch} {dC : Nat → ClassId} {dI : Nat → Nat → Nat} {cI : ClassId} {h a1 : Nat} : sc_M l yX0_init (sw_ws yX0_init cX0_init 2 none) { frames := 1, cells := 0, slots := 0, locals := 12 } (dC, dI) vwCl [(cI, .int)] [.ref h, .ref a1] [(h, .inr (0, [.null]))] (fun _ => True) (fun u => [(h, .inr (0, [.ref a1]))]) 0 0 := by
  intro sz
  refine sw_of (cc := cX0_init) (maxL := 2) (ret := none) (by decide) rfl (Nat.le_of_ble_eq_true rfl) ?_
  intro p e s m args below meth c A ls hAe hsz X hin hP hD hS hl
  rw [hAe]
  replace hin := hin rfl
  have hx := X.1.1
  have hb := X.1.2.1
  have hown := X.1.2.2.2.1
  have hts := X.1.2.2.2.2
  have hts1 : ∀ w ∈ sw_tb, w.before args s = true := fun w h => hts w (List.mem_cons_of_mem _ h)
  have S : CallFix p m c cX0_init 2 s args sw_tb RX0 := ⟨hx, hb, X.1.2.2.1, hown, hts1⟩
  have hN : nN s := X.2.2.2.2.2
  replace hl : lv_has ls 2 [(0, .ref h), (1, .ref a1)] := hl
  refine lv_aload_n hx hb dX0_init_0 rfl (lv_at hl 0 rfl) ?_
  refine sc_obj S kc_121 hl.1 (by decide) (by decide) dX0_init_1 ?_
  refine lv_aload_n hx hb dX0_init_4 rfl (lv_at hl 0 rfl) ?_
  refine lv_aload_n hx hb dX0_init_5 rfl (lv_at hl 1 rfl) ?_
  refine va_putF hx hb hts1 tbX0 tyX0 tyX0_ok nmX0 hown X.2.2.2.1 hP hD hS 0 rfl rfl 0 (by decide) (hts1 _ kc_122) (fun _ h => h) rfl hin rfl (tyX0_ok 0 (by decide)) rfl rfl (Nat.le_of_ble_eq_true rfl) dX0_init_6 (fun H locs hP hD hS => ?_)
  replace hP : va_P (dC, dI) vwCl [(h, .inr (0, [.ref a1]))] H := hP
  replace hD : va_D A [(h, .inr (0, [.ref a1]))] := hD
  exact sc_ret (wf := (fun u => [(h, .inr (0, [.ref a1]))])) X (fun i => ([] : List Nat).getD i 0) trivial hP hD hS dX0_init_9
theorem dX3_init_0 : decode cX3_init 0 = .ok (.aload_n 0, 1) := by decide +kernel
theorem dX3_init_1 : decode cX3_init 1 = .ok (.invokespecial 1, 3) := by decide +kernel
theorem dX3_init_4 : decode cX3_init 4 = .ok (.aload_n 0, 1) := by decide +kernel
theorem dX3_init_5 : decode cX3_init 5 = .ok (.aload_n 1, 1) := by decide +kernel
theorem dX3_init_6 : decode cX3_init 6 = .ok (.putfield 7, 3) := by decide +kernel
theorem dX3_init_9 : decode cX3_init 9 = .ok (.aload_n 0, 1) := by decide +kernel
theorem dX3_init_10 : decode cX3_init 10 = .ok (.aload_n 2, 1) := by decide +kernel
theorem dX3_init_11 : decode cX3_init 11 = .ok (.putfield 13, 3) := by decide +kernel
theorem dX3_init_14 : decode cX3_init 14 = .ok (.return_, 1) := by decide +kernel
theorem calcX3 : sc_cal yX3_init cX3_init 3 2 := ⟨sw_in 130 (by decide +kernel) rfl, sw_in 129 (by decide +kernel) rfl, sw_in 9 (by decide +kernel) rfl, rfl, by decide, by decide, by decide +kernel⟩
theorem kc_131 : Cond.methodLink RX3 1 Lib.objectInit ∈ sw_tb := sw_in 131 (by decide +kernel) rfl
theorem kc_132 : Cond.fieldLink RX3 7 "SpectrumBoard$Operands" "memory" "LSpectrumBoard$Memory;" ∈ sw_tb := sw_in 132 (by decide +kernel) rfl
theorem kc_133 : Cond.fieldLink RX3 13 "SpectrumBoard$Operands" "registers" "LSpectrumBoard$Registers;" ∈ sw_tb := sw_in 133 (by decide +kernel) rfl
set_option maxHeartbeats 4000000 in
set_option maxRecDepth 100000 in
theorem ctX3 {l : Launch} {dC : Nat → ClassId} {dI : Nat → Nat → Nat} {cI : ClassId} {h a1 a2 : Nat} : sc_M l yX3_init (sw_ws yX3_init cX3_init 3 none) { frames := 1, cells := 0, slots := 0, locals := 12 } (dC, dI) vwCl [(cI, .int)] [.ref h, .ref a1, .ref a2] [(h, .inr (3, [.null, .null]))] (fun _ => True) (fun u => [(h, .inr (3, [.ref a1, .ref a2]))]) 0 0 := by
  intro sz
  refine sw_of (cc := cX3_init) (maxL := 3) (ret := none) (by decide) rfl (Nat.le_of_ble_eq_true rfl) ?_
  intro p e s m args below meth c A ls hAe hsz X hin hP hD hS hl
  rw [hAe]
  replace hin := hin rfl
  have hx := X.1.1
  have hb := X.1.2.1
  have hown := X.1.2.2.2.1
  have hts := X.1.2.2.2.2
  have hts1 : ∀ w ∈ sw_tb, w.before args s = true := fun w h => hts w (List.mem_cons_of_mem _ h)
  have S : CallFix p m c cX3_init 3 s args sw_tb RX3 := ⟨hx, hb, X.1.2.2.1, hown, hts1⟩
  have hN : nN s := X.2.2.2.2.2
  replace hl : lv_has ls 3 [(0, .ref h), (1, .ref a1), (2, .ref a2)] := hl
  refine lv_aload_n hx hb dX3_init_0 rfl (lv_at hl 0 rfl) ?_
  refine sc_obj S kc_131 hl.1 (by decide) (by decide) dX3_init_1 ?_
  refine lv_aload_n hx hb dX3_init_4 rfl (lv_at hl 0 rfl) ?_
  refine lv_aload_n hx hb dX3_init_5 rfl (lv_at hl 1 rfl) ?_
  refine va_putF hx hb hts1 tbX3 tyX3 tyX3_ok nmX3 hown X.2.2.2.1 hP hD hS 0 rfl rfl 0 (by decide) (hts1 _ kc_132) (fun _ h => h) rfl hin rfl (tyX3_ok 0 (by decide)) rfl rfl (Nat.le_of_ble_eq_true rfl) dX3_init_6 (fun H locs hP hD hS => ?_)
  replace hP : va_P (dC, dI) vwCl [(h, .inr (3, [.ref a1, .null]))] H := hP
  replace hD : va_D A [(h, .inr (3, [.ref a1, .null]))] := hD
  refine lv_aload_n hx hb dX3_init_9 rfl (lv_at hl 0 rfl) ?_
  refine lv_aload_n hx hb dX3_init_10 rfl (lv_at hl 2 rfl) ?_
  refine va_putF hx hb hts1 tbX3 tyX3 tyX3_ok nmX3 hown X.2.2.2.1 hP hD hS 0 rfl rfl 1 (by decide) (hts1 _ kc_133) (fun _ h => h) rfl hin rfl (tyX3_ok 1 (by decide)) rfl rfl (Nat.le_of_ble_eq_true rfl) dX3_init_11 (fun H locs hP hD hS => ?_)
  replace hP : va_P (dC, dI) vwCl [(h, .inr (3, [.ref a1, .ref a2]))] H := hP
  replace hD : va_D A [(h, .inr (3, [.ref a1, .ref a2]))] := hD
  exact sc_ret (wf := (fun u => [(h, .inr (3, [.ref a1, .ref a2]))])) X (fun i => ([] : List Nat).getD i 0) trivial hP hD hS dX3_init_14
theorem dX5_init_0 : decode cX5_init 0 = .ok (.aload_n 0, 1) := by decide +kernel
theorem dX5_init_1 : decode cX5_init 1 = .ok (.invokespecial 1, 3) := by decide +kernel
theorem dX5_init_4 : decode cX5_init 4 = .ok (.aload_n 0, 1) := by decide +kernel
theorem dX5_init_5 : decode cX5_init 5 = .ok (.aload_n 1, 1) := by decide +kernel
theorem dX5_init_6 : decode cX5_init 6 = .ok (.putfield 7, 3) := by decide +kernel
theorem dX5_init_9 : decode cX5_init 9 = .ok (.aload_n 0, 1) := by decide +kernel
theorem dX5_init_10 : decode cX5_init 10 = .ok (.aload_n 2, 1) := by decide +kernel
theorem dX5_init_11 : decode cX5_init 11 = .ok (.putfield 13, 3) := by decide +kernel
theorem dX5_init_14 : decode cX5_init 14 = .ok (.aload_n 0, 1) := by decide +kernel
theorem dX5_init_15 : decode cX5_init 15 = .ok (.aload_n 3, 1) := by decide +kernel
theorem dX5_init_16 : decode cX5_init 16 = .ok (.putfield 17, 3) := by decide +kernel
theorem dX5_init_19 : decode cX5_init 19 = .ok (.aload_n 0, 1) := by decide +kernel
theorem dX5_init_20 : decode cX5_init 20 = .ok (.aload 4, 2) := by decide +kernel
theorem dX5_init_22 : decode cX5_init 22 = .ok (.putfield 21, 3) := by decide +kernel
theorem dX5_init_25 : decode cX5_init 25 = .ok (.aload_n 0, 1) := by decide +kernel
theorem dX5_init_26 : decode cX5_init 26 = .ok (.new 25, 3) := by decide +kernel
theorem dX5_init_29 : decode cX5_init 29 = .ok (.dup, 1) := by decide +kernel
theorem dX5_init_30 : decode cX5_init 30 = .ok (.aload 4, 2) := by decide +kernel
theorem dX5_init_32 : decode cX5_init 32 = .ok (.invokespecial 27, 3) := by decide +kernel
theorem dX5_init_35 : decode cX5_init 35 = .ok (.putfield 30, 3) := by decide +kernel
theorem dX5_init_38 : decode cX5_init 38 = .ok (.aload_n 0, 1) := by decide +kernel
theorem dX5_init_39 : decode cX5_init 39 = .ok (.new 34, 3) := by decide +kernel
theorem dX5_init_42 : decode cX5_init 42 = .ok (.dup, 1) := by decide +kernel
theorem dX5_init_43 : decode cX5_init 43 = .ok (.aload_n 2, 1) := by decide +kernel
theorem dX5_init_44 : decode cX5_init 44 = .ok (.aload 4, 2) := by decide +kernel
theorem dX5_init_46 : decode cX5_init 46 = .ok (.invokespecial 36, 3) := by decide +kernel
theorem dX5_init_49 : decode cX5_init 49 = .ok (.putfield 39, 3) := by decide +kernel
theorem dX5_init_52 : decode cX5_init 52 = .ok (.return_, 1) := by decide +kernel
theorem calcX5 : sc_cal yX5_init cX5_init 5 4 := ⟨sw_in 114 (by decide +kernel) rfl, sw_in 113 (by decide +kernel) rfl, sw_in 7 (by decide +kernel) rfl, rfl, by decide, by decide, by decide +kernel⟩
theorem kc_115 : Cond.methodLink RX5 1 Lib.objectInit ∈ sw_tb := sw_in 115 (by decide +kernel) rfl
theorem kc_139 : Cond.fieldLink RX5 7 "SpectrumBoard$Processor" "clock" "LSpectrumBoard$Clock;" ∈ sw_tb := sw_in 139 (by decide +kernel) rfl
theorem kc_140 : Cond.fieldLink RX5 13 "SpectrumBoard$Processor" "memory" "LSpectrumBoard$Memory;" ∈ sw_tb := sw_in 140 (by decide +kernel) rfl
theorem kc_141 : Cond.fieldLink RX5 17 "SpectrumBoard$Processor" "ports" "LSpectrumBoard$Ports;" ∈ sw_tb := sw_in 141 (by decide +kernel) rfl
theorem kc_142 : Cond.fieldLink RX5 21 "SpectrumBoard$Processor" "registers" "LSpectrumBoard$Registers;" ∈ sw_tb := sw_in 142 (by decide +kernel) rfl
theorem kc_116 : Cond.classLink RX5 25 RX0 ∈ sw_tb := sw_in 116 (by decide +kernel) rfl
theorem kc_117 : Cond.instantiable RX0 1 ∈ sw_tb := sw_in 117 (by decide +kernel) rfl
theorem kc_8 : Cond.initialized RX0 ∈ sw_tb := sw_in 8 (by decide +kernel) rfl
theorem kc_118 : Cond.methodLink RX5 27 yX0_init ∈ sw_tb := sw_in 118 (by decide +kernel) rfl
theorem kc_143 : Cond.fieldLink RX5 30 "SpectrumBoard$Processor" "arithmetic" "LSpectrumBoard$Arithmetic;" ∈ sw_tb := sw_in 143 (by decide +kernel) rfl
theorem kc_126 : Cond.classLink RX5 34 RX3 ∈ sw_tb := sw_in 126 (by decide +kernel) rfl
theorem kc_127 : Cond.instantiable RX3 2 ∈ sw_tb := sw_in 127 (by decide +kernel) rfl
theorem kc_9 : Cond.initialized RX3 ∈ sw_tb := sw_in 9 (by decide +kernel) rfl
theorem kc_128 : Cond.methodLink RX5 36 yX3_init ∈ sw_tb := sw_in 128 (by decide +kernel) rfl
theorem kc_144 : Cond.fieldLink RX5 39 "SpectrumBoard$Processor" "operands" "LSpectrumBoard$Operands;" ∈ sw_tb := sw_in 144 (by decide +kernel) rfl
set_option maxHeartbeats 4000000 in
set_option maxRecDepth 100000 in
theorem ctX5 {l : Launch} {dC : Nat → ClassId} {dI : Nat → Nat → Nat} {cI : ClassId} {h a1 a2 a3 a4 : Nat} : sc_M l yX5_init (sw_ws yX5_init cX5_init 5 none) { frames := 2, cells := 2, slots := 3, locals := 34 } (dC, dI) vwCl [(cI, .int)] [.ref h, .ref a1, .ref a2, .ref a3, .ref a4] [(h, .inr (5, [.null, .null, .null, .null, .null, .null, .int 0, .int 0, .int 0, .int 0, .int 0]))] (fun _ => True) (fun u => [(h, .inr (5, [.ref a1, .ref a2, .ref a3, .ref a4, .ref (u 0), .ref (u 1), .int 0, .int 0, .int 0, .int 0, .int 0])), ((u 0), .inr (0, [.ref a4])), ((u 1), .inr (3, [.ref a2, .ref a4]))]) 2 3 := by
  intro sz
  refine sw_of (cc := cX5_init) (maxL := 5) (ret := none) (by decide) rfl (Nat.le_of_ble_eq_true rfl) ?_
  intro p e s m args below meth c A ls hAe hsz X hin hP hD hS hl
  rw [hAe]
  replace hin := hin rfl
  have hx := X.1.1
  have hb := X.1.2.1
  have hown := X.1.2.2.2.1
  have hts := X.1.2.2.2.2
  have hts1 : ∀ w ∈ sw_tb, w.before args s = true := fun w h => hts w (List.mem_cons_of_mem _ h)
  have S : CallFix p m c cX5_init 5 s args sw_tb RX5 := ⟨hx, hb, X.1.2.2.1, hown, hts1⟩
  have hN : nN s := X.2.2.2.2.2
  replace hl : lv_has ls 5 [(0, .ref h), (1, .ref a1), (2, .ref a2), (3, .ref a3), (4, .ref a4)] := hl
  refine lv_aload_n hx hb dX5_init_0 rfl (lv_at hl 0 rfl) ?_
  refine sc_obj S kc_115 hl.1 (by decide) (by decide) dX5_init_1 ?_
  refine lv_aload_n hx hb dX5_init_4 rfl (lv_at hl 0 rfl) ?_
  refine lv_aload_n hx hb dX5_init_5 rfl (lv_at hl 1 rfl) ?_
  refine va_putF hx hb hts1 tbX5 tyX5 tyX5_ok nmX5 hown X.2.2.2.1 hP hD hS 0 rfl rfl 0 (by decide) (hts1 _ kc_139) (fun _ h => h) rfl hin rfl (tyX5_ok 0 (by decide)) rfl rfl (Nat.le_of_ble_eq_true rfl) dX5_init_6 (fun H locs hP hD hS => ?_)
  replace hP : va_P (dC, dI) vwCl [(h, .inr (5, [.ref a1, .null, .null, .null, .null, .null, .int 0, .int 0, .int 0, .int 0, .int 0]))] H := hP
  replace hD : va_D A [(h, .inr (5, [.ref a1, .null, .null, .null, .null, .null, .int 0, .int 0, .int 0, .int 0, .int 0]))] := hD
  refine lv_aload_n hx hb dX5_init_9 rfl (lv_at hl 0 rfl) ?_
  refine lv_aload_n hx hb dX5_init_10 rfl (lv_at hl 2 rfl) ?_
  refine va_putF hx hb hts1 tbX5 tyX5 tyX5_ok nmX5 hown X.2.2.2.1 hP hD hS 0 rfl rfl 1 (by decide) (hts1 _ kc_140) (fun _ h => h) rfl hin rfl (tyX5_ok 1 (by decide)) rfl rfl (Nat.le_of_ble_eq_true rfl) dX5_init_11 (fun H locs hP hD hS => ?_)
  replace hP : va_P (dC, dI) vwCl [(h, .inr (5, [.ref a1, .ref a2, .null, .null, .null, .null, .int 0, .int 0, .int 0, .int 0, .int 0]))] H := hP
  replace hD : va_D A [(h, .inr (5, [.ref a1, .ref a2, .null, .null, .null, .null, .int 0, .int 0, .int 0, .int 0, .int 0]))] := hD
  refine lv_aload_n hx hb dX5_init_14 rfl (lv_at hl 0 rfl) ?_
  refine lv_aload_n hx hb dX5_init_15 rfl (lv_at hl 3 rfl) ?_
  refine va_putF hx hb hts1 tbX5 tyX5 tyX5_ok nmX5 hown X.2.2.2.1 hP hD hS 0 rfl rfl 2 (by decide) (hts1 _ kc_141) (fun _ h => h) rfl hin rfl (tyX5_ok 2 (by decide)) rfl rfl (Nat.le_of_ble_eq_true rfl) dX5_init_16 (fun H locs hP hD hS => ?_)
  replace hP : va_P (dC, dI) vwCl [(h, .inr (5, [.ref a1, .ref a2, .ref a3, .null, .null, .null, .int 0, .int 0, .int 0, .int 0, .int 0]))] H := hP
  replace hD : va_D A [(h, .inr (5, [.ref a1, .ref a2, .ref a3, .null, .null, .null, .int 0, .int 0, .int 0, .int 0, .int 0]))] := hD
  refine lv_aload_n hx hb dX5_init_19 rfl (lv_at hl 0 rfl) ?_
  refine lv_aload hx hb dX5_init_20 (lv_at hl 4 rfl) ?_
  refine va_putF hx hb hts1 tbX5 tyX5 tyX5_ok nmX5 hown X.2.2.2.1 hP hD hS 0 rfl rfl 3 (by decide) (hts1 _ kc_142) (fun _ h => h) rfl hin rfl (tyX5_ok 3 (by decide)) rfl rfl (Nat.le_of_ble_eq_true rfl) dX5_init_22 (fun H locs hP hD hS => ?_)
  replace hP : va_P (dC, dI) vwCl [(h, .inr (5, [.ref a1, .ref a2, .ref a3, .ref a4, .null, .null, .int 0, .int 0, .int 0, .int 0, .int 0]))] H := hP
  replace hD : va_D A [(h, .inr (5, [.ref a1, .ref a2, .ref a3, .ref a4, .null, .null, .int 0, .int 0, .int 0, .int 0, .int 0]))] := hD
  refine lv_aload_n hx hb dX5_init_25 rfl (lv_at hl 0 rfl) ?_
  refine va_new (ci := 0) (fs := [.null]) (C := RX0) (T := TX0) (N := 1) hx hb hts1 tbX0 tyX0 tyX0_ok hown (hts1 _ kc_116) (hts1 _ kc_117) (hts1 _ kc_8) X.2.2.2.1 hP hD hS X.2.2.2.2.1 rfl (fun j hj => by rcases (show j = 0 by omega) with rfl <;> rfl) (by decide) (by decide) dX5_init_26 (fun q1 H hP hD hS => ?_)
  replace hP : va_P (dC, dI) vwCl [(h, .inr (5, [.ref a1, .ref a2, .ref a3, .ref a4, .null, .null, .int 0, .int 0, .int 0, .int 0, .int 0])), (q1, .inr (0, [.null]))] H := hP
  replace hD : va_D A [(h, .inr (5, [.ref a1, .ref a2, .ref a3, .ref a4, .null, .null, .int 0, .int 0, .int 0, .int 0, .int 0])), (q1, .inr (0, [.null]))] := hD
  refine W.widen (k := 1) (n := 1) (by decide) (by decide) ?_
  refine lv_dup hx hb dX5_init_29 rfl ?_
  refine lv_aload hx hb dX5_init_30 (lv_at hl 4 rfl) ?_
  have h2 := (sg_2.spl (a := [(h, .inr (5, [.ref a1, .ref a2, .ref a3, .ref a4, .null, .null, .int 0, .int 0, .int 0, .int 0, .int 0]))]) (b := [(q1, .inr (0, [.null]))]) hP hD).symm
  refine sc_init (rest := [.ref q1, .ref h]) S X.2.2.2.1 X.2.2.2.2.1 hN (ctX0 (h := q1) (a1 := a4)) calcX0 kc_118 rfl rfl h2 hS ⟨by decide, by decide⟩ ⟨by decide, by decide⟩ rfl hl.1 rfl (Nat.le_of_ble_eq_true rfl) dX5_init_32 (fun u1 H locs huu1 h2 hS => ?_)
  obtain ⟨hP, hD⟩ := h2.symm.app
  replace hP : va_P (dC, dI) vwCl [(h, .inr (5, [.ref a1, .ref a2, .ref a3, .ref a4, .null, .null, .int 0, .int 0, .int 0, .int 0, .int 0])), (q1, .inr (0, [.ref a4]))] H := hP
  replace hD : va_D A [(h, .inr (5, [.ref a1, .ref a2, .ref a3, .ref a4, .null, .null, .int 0, .int 0, .int 0, .int 0, .int 0])), (q1, .inr (0, [.ref a4]))] := hD
  refine W.widen (k := 1) (n := 1) (by decide) (by decide) ?_
  refine va_putF hx hb hts1 tbX5 tyX5 tyX5_ok nmX5 hown X.2.2.2.1 hP hD hS 0 rfl rfl 4 (by decide) (hts1 _ kc_143) (fun _ h => h) rfl hin rfl (tyX5_ok 4 (by decide)) rfl rfl (Nat.le_of_ble_eq_true rfl) dX5_init_35 (fun H locs hP hD hS => ?_)
  replace hP : va_P (dC, dI) vwCl [(h, .inr (5, [.ref a1, .ref a2, .ref a3, .ref a4, .ref q1, .null, .int 0, .int 0, .int 0, .int 0, .int 0])), (q1, .inr (0, [.ref a4]))] H := hP
  replace hD : va_D A [(h, .inr (5, [.ref a1, .ref a2, .ref a3, .ref a4, .ref q1, .null, .int 0, .int 0, .int 0, .int 0, .int 0])), (q1, .inr (0, [.ref a4]))] := hD
  refine lv_aload_n hx hb dX5_init_38 rfl (lv_at hl 0 rfl) ?_
  refine va_new (ci := 3) (fs := [.null, .null]) (C := RX3) (T := TX3) (N := 2) hx hb hts1 tbX3 tyX3 tyX3_ok hown (hts1 _ kc_126) (hts1 _ kc_127) (hts1 _ kc_9) X.2.2.2.1 hP hD hS X.2.2.2.2.1 rfl (fun j hj => by rcases (show j = 0 ∨ j = 1 by omega) with rfl | rfl <;> rfl) (by decide) (by decide) dX5_init_39 (fun q2 H hP hD hS => ?_)
  replace hP : va_P (dC, dI) vwCl [(h, .inr (5, [.ref a1, .ref a2, .ref a3, .ref a4, .ref q1, .null, .int 0, .int 0, .int 0, .int 0, .int 0])), (q1, .inr (0, [.ref a4])), (q2, .inr (3, [.null, .null]))] H := hP
  replace hD : va_D A [(h, .inr (5, [.ref a1, .ref a2, .ref a3, .ref a4, .ref q1, .null, .int 0, .int 0, .int 0, .int 0, .int 0])), (q1, .inr (0, [.ref a4])), (q2, .inr (3, [.null, .null]))] := hD
  refine W.widen (k := 2) (n := 3) (by decide) (by decide) ?_
  refine lv_dup hx hb dX5_init_42 rfl ?_
  refine lv_aload_n hx hb dX5_init_43 rfl (lv_at hl 2 rfl) ?_
  refine lv_aload hx hb dX5_init_44 (lv_at hl 4 rfl) ?_
  have h2 := (sg_2.spl (a := [(h, .inr (5, [.ref a1, .ref a2, .ref a3, .ref a4, .ref q1, .null, .int 0, .int 0, .int 0, .int 0, .int 0])), (q1, .inr (0, [.ref a4]))]) (b := [(q2, .inr (3, [.null, .null]))]) hP hD).symm
  refine sc_init (rest := [.ref q2, .ref h]) S X.2.2.2.1 X.2.2.2.2.1 hN (ctX3 (h := q2) (a1 := a2) (a2 := a4)) calcX3 kc_128 rfl rfl h2 hS ⟨by decide, by decide⟩ ⟨by decide, by decide⟩ rfl hl.1 rfl (Nat.le_of_ble_eq_true rfl) dX5_init_46 (fun u2 H locs huu2 h2 hS => ?_)
  obtain ⟨hP, hD⟩ := h2.symm.app
  replace hP : va_P (dC, dI) vwCl [(h, .inr (5, [.ref a1, .ref a2, .ref a3, .ref a4, .ref q1, .null, .int 0, .int 0, .int 0, .int 0, .int 0])), (q1, .inr (0, [.ref a4])), (q2, .inr (3, [.ref a2, .ref a4]))] H := hP
  replace hD : va_D A [(h, .inr (5, [.ref a1, .ref a2, .ref a3, .ref a4, .ref q1, .null, .int 0, .int 0, .int 0, .int 0, .int 0])), (q1, .inr (0, [.ref a4])), (q2, .inr (3, [.ref a2, .ref a4]))] := hD
  refine W.widen (k := 2) (n := 3) (by decide) (by decide) ?_
  refine va_putF hx hb hts1 tbX5 tyX5 tyX5_ok nmX5 hown X.2.2.2.1 hP hD hS 0 rfl rfl 5 (by decide) (hts1 _ kc_144) (fun _ h => h) rfl hin rfl (tyX5_ok 5 (by decide)) rfl rfl (Nat.le_of_ble_eq_true rfl) dX5_init_49 (fun H locs hP hD hS => ?_)
  replace hP : va_P (dC, dI) vwCl [(h, .inr (5, [.ref a1, .ref a2, .ref a3, .ref a4, .ref q1, .ref q2, .int 0, .int 0, .int 0, .int 0, .int 0])), (q1, .inr (0, [.ref a4])), (q2, .inr (3, [.ref a2, .ref a4]))] H := hP
  replace hD : va_D A [(h, .inr (5, [.ref a1, .ref a2, .ref a3, .ref a4, .ref q1, .ref q2, .int 0, .int 0, .int 0, .int 0, .int 0])), (q1, .inr (0, [.ref a4])), (q2, .inr (3, [.ref a2, .ref a4]))] := hD
  exact sc_ret (wf := (fun u => [(h, .inr (5, [.ref a1, .ref a2, .ref a3, .ref a4, .ref (u 0), .ref (u 1), .int 0, .int 0, .int 0, .int 0, .int 0])), ((u 0), .inr (0, [.ref a4])), ((u 1), .inr (3, [.ref a2, .ref a4]))])) X (fun i => ([q1, q2] : List Nat).getD i 0) trivial hP hD hS dX5_init_52
theorem dX8_init_0 : decode cX8_init 0 = .ok (.aload_n 0, 1) := by decide +kernel
theorem dX8_init_1 : decode cX8_init 1 = .ok (.invokespecial 1, 3) := by decide +kernel
theorem dX8_init_4 : decode cX8_init 4 = .ok (.aload_n 0, 1) := by decide +kernel
theorem dX8_init_5 : decode cX8_init 5 = .ok (.new 7, 3) := by decide +kernel
theorem dX8_init_8 : decode cX8_init 8 = .ok (.dup, 1) := by decide +kernel
theorem dX8_init_9 : decode cX8_init 9 = .ok (.invokespecial 9, 3) := by decide +kernel
theorem dX8_init_12 : decode cX8_init 12 = .ok (.putfield 10, 3) := by decide +kernel
theorem dX8_init_15 : decode cX8_init 15 = .ok (.aload_n 0, 1) := by decide +kernel
theorem dX8_init_16 : decode cX8_init 16 = .ok (.new 16, 3) := by decide +kernel
theorem dX8_init_19 : decode cX8_init 19 = .ok (.dup, 1) := by decide +kernel
theorem dX8_init_20 : decode cX8_init 20 = .ok (.aload_n 0, 1) := by decide +kernel
theorem dX8_init_21 : decode cX8_init 21 = .ok (.getfield 10, 3) := by decide +kernel
theorem dX8_init_24 : decode cX8_init 24 = .ok (.invokespecial 18, 3) := by decide +kernel
theorem dX8_init_27 : decode cX8_init 27 = .ok (.putfield 21, 3) := by decide +kernel
theorem dX8_init_30 : decode cX8_init 30 = .ok (.aload_n 0, 1) := by decide +kernel
theorem dX8_init_31 : decode cX8_init 31 = .ok (.new 25, 3) := by decide +kernel
theorem dX8_init_34 : decode cX8_init 34 = .ok (.dup, 1) := by decide +kernel
theorem dX8_init_35 : decode cX8_init 35 = .ok (.aload_n 0, 1) := by decide +kernel
theorem dX8_init_36 : decode cX8_init 36 = .ok (.getfield 10, 3) := by decide +kernel
theorem dX8_init_39 : decode cX8_init 39 = .ok (.invokespecial 27, 3) := by decide +kernel
theorem dX8_init_42 : decode cX8_init 42 = .ok (.putfield 28, 3) := by decide +kernel
theorem dX8_init_45 : decode cX8_init 45 = .ok (.aload_n 0, 1) := by decide +kernel
theorem dX8_init_46 : decode cX8_init 46 = .ok (.new 32, 3) := by decide +kernel
theorem dX8_init_49 : decode cX8_init 49 = .ok (.dup, 1) := by decide +kernel
theorem dX8_init_50 : decode cX8_init 50 = .ok (.invokespecial 34, 3) := by decide +kernel
theorem dX8_init_53 : decode cX8_init 53 = .ok (.putfield 35, 3) := by decide +kernel
theorem dX8_init_56 : decode cX8_init 56 = .ok (.aload_n 0, 1) := by decide +kernel
theorem dX8_init_57 : decode cX8_init 57 = .ok (.new 39, 3) := by decide +kernel
theorem dX8_init_60 : decode cX8_init 60 = .ok (.dup, 1) := by decide +kernel
theorem dX8_init_61 : decode cX8_init 61 = .ok (.aload_n 0, 1) := by decide +kernel
theorem dX8_init_62 : decode cX8_init 62 = .ok (.getfield 10, 3) := by decide +kernel
theorem dX8_init_65 : decode cX8_init 65 = .ok (.aload_n 0, 1) := by decide +kernel
theorem dX8_init_66 : decode cX8_init 66 = .ok (.getfield 21, 3) := by decide +kernel
theorem dX8_init_69 : decode cX8_init 69 = .ok (.aload_n 0, 1) := by decide +kernel
theorem dX8_init_70 : decode cX8_init 70 = .ok (.getfield 28, 3) := by decide +kernel
theorem dX8_init_73 : decode cX8_init 73 = .ok (.aload_n 0, 1) := by decide +kernel
theorem dX8_init_74 : decode cX8_init 74 = .ok (.getfield 35, 3) := by decide +kernel
theorem dX8_init_77 : decode cX8_init 77 = .ok (.invokespecial 41, 3) := by decide +kernel
theorem dX8_init_80 : decode cX8_init 80 = .ok (.putfield 44, 3) := by decide +kernel
theorem dX8_init_83 : decode cX8_init 83 = .ok (.return_, 1) := by decide +kernel
theorem calcX8 : sc_cal yX8_init cX8_init 1 0 := ⟨sw_in 21 (by decide +kernel) rfl, sw_in 20 (by decide +kernel) rfl, sw_in 1 (by decide +kernel) rfl, rfl, by decide, by decide, by decide +kernel⟩
theorem kc_22 : Cond.methodLink RX8 1 Lib.objectInit ∈ sw_tb := sw_in 22 (by decide +kernel) rfl
theorem kc_25 : Cond.classLink RX8 7 RX1 ∈ sw_tb := sw_in 25 (by decide +kernel) rfl
theorem kc_26 : Cond.instantiable RX1 1 ∈ sw_tb := sw_in 26 (by decide +kernel) rfl
theorem kc_2 : Cond.initialized RX1 ∈ sw_tb := sw_in 2 (by decide +kernel) rfl
theorem kc_177 : Cond.fieldLink RX8 10 "SpectrumBoard" "clock" "LSpectrumBoard$Clock;" ∈ sw_tb := sw_in 177 (by decide +kernel) rfl
theorem kc_37 : Cond.classLink RX8 16 RX2 ∈ sw_tb := sw_in 37 (by decide +kernel) rfl
theorem kc_38 : Cond.instantiable RX2 2 ∈ sw_tb := sw_in 38 (by decide +kernel) rfl
theorem kc_3 : Cond.initialized RX2 ∈ sw_tb := sw_in 3 (by decide +kernel) rfl
theorem kc_39 : Cond.methodLink RX8 18 yX2_init ∈ sw_tb := sw_in 39 (by decide +kernel) rfl
theorem kc_178 : Cond.fieldLink RX8 21 "SpectrumBoard" "memory" "LSpectrumBoard$Memory;" ∈ sw_tb := sw_in 178 (by decide +kernel) rfl
theorem kc_51 : Cond.classLink RX8 25 RX4 ∈ sw_tb := sw_in 51 (by decide +kernel) rfl
theorem kc_52 : Cond.instantiable RX4 7 ∈ sw_tb := sw_in 52 (by decide +kernel) rfl
theorem kc_4 : Cond.initialized RX4 ∈ sw_tb := sw_in 4 (by decide +kernel) rfl
theorem kc_53 : Cond.methodLink RX8 27 yX4_init ∈ sw_tb := sw_in 53 (by decide +kernel) rfl
theorem kc_179 : Cond.fieldLink RX8 28 "SpectrumBoard" "ports" "LSpectrumBoard$Ports;" ∈ sw_tb := sw_in 179 (by decide +kernel) rfl
theorem kc_100 : Cond.classLink RX8 32 RX6 ∈ sw_tb := sw_in 100 (by decide +kernel) rfl
theorem kc_101 : Cond.instantiable RX6 1 ∈ sw_tb := sw_in 101 (by decide +kernel) rfl
theorem kc_6 : Cond.initialized RX6 ∈ sw_tb := sw_in 6 (by decide +kernel) rfl
theorem kc_180 : Cond.fieldLink RX8 35 "SpectrumBoard" "registers" "LSpectrumBoard$Registers;" ∈ sw_tb := sw_in 180 (by decide +kernel) rfl
theorem kc_110 : Cond.classLink RX8 39 RX5 ∈ sw_tb := sw_in 110 (by decide +kernel) rfl
theorem kc_111 : Cond.instantiable RX5 11 ∈ sw_tb := sw_in 111 (by decide +kernel) rfl
theorem kc_7 : Cond.initialized RX5 ∈ sw_tb := sw_in 7 (by decide +kernel) rfl
theorem kc_112 : Cond.methodLink RX8 41 yX5_init ∈ sw_tb := sw_in 112 (by decide +kernel) rfl
theorem kc_181 : Cond.fieldLink RX8 44 "SpectrumBoard" "processor" "LSpectrumBoard$Processor;" ∈ sw_tb := sw_in 181 (by decide +kernel) rfl
set_option maxHeartbeats 4000000 in
set_option maxRecDepth 100000 in
theorem ctX8 {l : Launch} {dC : Nat → ClassId} {dI : Nat → Nat → Nat} {cI : ClassId} {h : Nat} : sc_M l yX8_init (sw_ws yX8_init cX8_init 1 none) { frames := 3, cells := 13, slots := 4306, locals := 58 } (dC, dI) vwCl [(cI, .int)] [.ref h] [(h, .inr (8, [.null, .null, .null, .null, .null]))] (fun u => u 0 = h) (fun u => cW u cI z0) 13 4306 := by
  intro sz
  refine sw_of (cc := cX8_init) (maxL := 1) (ret := none) (by decide) rfl (Nat.le_of_ble_eq_true rfl) ?_
  intro p e s m args below meth c A ls hAe hsz X hin hP hD hS hl
  rw [hAe]
  replace hin := hin rfl
  have hx := X.1.1
  have hb := X.1.2.1
  have hown := X.1.2.2.2.1
  have hts := X.1.2.2.2.2
  have hts1 : ∀ w ∈ sw_tb, w.before args s = true := fun w h => hts w (List.mem_cons_of_mem _ h)
  have S : CallFix p m c cX8_init 1 s args sw_tb RX8 := ⟨hx, hb, X.1.2.2.1, hown, hts1⟩
  have hN : nN s := X.2.2.2.2.2
  replace hl : lv_has ls 1 [(0, .ref h)] := hl
  refine lv_aload_n hx hb dX8_init_0 rfl (lv_at hl 0 rfl) ?_
  refine sc_obj S kc_22 hl.1 (by decide) (by decide) dX8_init_1 ?_
  refine lv_aload_n hx hb dX8_init_4 rfl (lv_at hl 0 rfl) ?_
  refine va_new (ci := 1) (fs := [.int 0]) (C := RX1) (T := TX1) (N := 1) hx hb hts1 tbX1 tyX1 tyX1_ok hown (hts1 _ kc_25) (hts1 _ kc_26) (hts1 _ kc_2) X.2.2.2.1 hP hD hS X.2.2.2.2.1 rfl (fun j hj => by rcases (show j = 0 by omega) with rfl <;> rfl) (by decide) (by decide) dX8_init_5 (fun q1 H hP hD hS => ?_)
  replace hP : va_P (dC, dI) vwCl [(h, .inr (8, [.null, .null, .null, .null, .null])), (q1, .inr (1, [.int 0]))] H := hP
  replace hD : va_D A [(h, .inr (8, [.null, .null, .null, .null, .null])), (q1, .inr (1, [.int 0]))] := hD
  refine W.widen (k := 1) (n := 1) (by decide) (by decide) ?_
  refine lv_dup hx hb dX8_init_8 rfl ?_
  have h2 := (sg_2.spl (a := [(h, .inr (8, [.null, .null, .null, .null, .null]))]) (b := [(q1, .inr (1, [.int 0]))]) hP hD).symm
  refine sc_initN (rest := [.ref q1, .ref h]) S X.2.2.2.1 X.2.2.2.2.1 hN (ctX1 (h := q1)) calcX1 hN.1 rfl rfl h2 hS ⟨by decide, by decide⟩ ⟨by decide, by decide⟩ rfl hl.1 rfl (Nat.le_of_ble_eq_true rfl) dX8_init_9 (fun u1 H locs huu1 h2 hS => ?_)
  obtain ⟨hP, hD⟩ := h2.symm.app
  replace hP : va_P (dC, dI) vwCl [(h, .inr (8, [.null, .null, .null, .null, .null])), (q1, .inr (1, [.int 0]))] H := hP
  replace hD : va_D A [(h, .inr (8, [.null, .null, .null, .null, .null])), (q1, .inr (1, [.int 0]))] := hD
  refine W.widen (k := 1) (n := 1) (by decide) (by decide) ?_
  refine va_putF hx hb hts1 tbX8 tyX8 tyX8_ok nmX8 hown X.2.2.2.1 hP hD hS 0 rfl rfl 0 (by decide) (hts1 _ kc_177) (fun _ h => h) rfl hin rfl (tyX8_ok 0 (by decide)) rfl rfl (Nat.le_of_ble_eq_true rfl) dX8_init_12 (fun H locs hP hD hS => ?_)
  replace hP : va_P (dC, dI) vwCl [(h, .inr (8, [.ref q1, .null, .null, .null, .null])), (q1, .inr (1, [.int 0]))] H := hP
  replace hD : va_D A [(h, .inr (8, [.ref q1, .null, .null, .null, .null])), (q1, .inr (1, [.int 0]))] := hD
  refine lv_aload_n hx hb dX8_init_15 rfl (lv_at hl 0 rfl) ?_
  refine va_new (ci := 2) (fs := [.null, .null]) (C := RX2) (T := TX2) (N := 2) hx hb hts1 tbX2 tyX2 tyX2_ok hown (hts1 _ kc_37) (hts1 _ kc_38) (hts1 _ kc_3) X.2.2.2.1 hP hD hS X.2.2.2.2.1 rfl (fun j hj => by rcases (show j = 0 ∨ j = 1 by omega) with rfl | rfl <;> rfl) (by decide) (by decide) dX8_init_16 (fun q2 H hP hD hS => ?_)
  replace hP : va_P (dC, dI) vwCl [(h, .inr (8, [.ref q1, .null, .null, .null, .null])), (q1, .inr (1, [.int 0])), (q2, .inr (2, [.null, .null]))] H := hP
  replace hD : va_D A [(h, .inr (8, [.ref q1, .null, .null, .null, .null])), (q1, .inr (1, [.int 0])), (q2, .inr (2, [.null, .null]))] := hD
  refine W.widen (k := 2) (n := 3) (by decide) (by decide) ?_
  refine lv_dup hx hb dX8_init_19 rfl ?_
  refine lv_aload_n hx hb dX8_init_20 rfl (lv_at hl 0 rfl) ?_
  refine va_get hx hb hts1 tbX8 hown X.2.2.2.1 hP 0 rfl rfl 0 (by decide) (hts1 _ kc_177) (fun _ h => h) (v := .ref q1) rfl dX8_init_21 ?_
  have h2 := (sg_2.spl (a := [(h, .inr (8, [.ref q1, .null, .null, .null, .null])), (q1, .inr (1, [.int 0]))]) (b := [(q2, .inr (2, [.null, .null]))]) hP hD).symm
  refine sc_init (rest := [.ref q2, .ref h]) S X.2.2.2.1 X.2.2.2.2.1 hN (ctX2 (h := q2) (a1 := q1)) calcX2 kc_39 rfl rfl h2 hS ⟨by decide, by decide⟩ ⟨by decide, by decide⟩ rfl hl.1 rfl (Nat.le_of_ble_eq_true rfl) dX8_init_24 (fun u2 H locs huu2 h2 hS => ?_)
  obtain ⟨hP, hD⟩ := h2.symm.app
  replace hP : va_P (dC, dI) vwCl [(h, .inr (8, [.ref q1, .null, .null, .null, .null])), (q1, .inr (1, [.int 0])), (q2, .inr (2, [.ref q1, .ref (u2 0)])), ((u2 0), .inl (cI, 4096, .inl (fun _ => 0)))] H := hP
  replace hD : va_D A [(h, .inr (8, [.ref q1, .null, .null, .null, .null])), (q1, .inr (1, [.int 0])), (q2, .inr (2, [.ref q1, .ref (u2 0)])), ((u2 0), .inl (cI, 4096, .inl (fun _ => 0)))] := hD
  refine W.widen (k := 3) (n := 4099) (by decide) (by decide) ?_
  refine va_putF hx hb hts1 tbX8 tyX8 tyX8_ok nmX8 hown X.2.2.2.1 hP hD hS 0 rfl rfl 1 (by decide) (hts1 _ kc_178) (fun _ h => h) rfl hin rfl (tyX8_ok 1 (by decide)) rfl rfl (Nat.le_of_ble_eq_true rfl) dX8_init_27 (fun H locs hP hD hS => ?_)
  replace hP : va_P (dC, dI) vwCl [(h, .inr (8, [.ref q1, .ref q2, .null, .null, .null])), (q1, .inr (1, [.int 0])), (q2, .inr (2, [.ref q1, .ref (u2 0)])), ((u2 0), .inl (cI, 4096, .inl (fun _ => 0)))] H := hP
  replace hD : va_D A [(h, .inr (8, [.ref q1, .ref q2, .null, .null, .null])), (q1, .inr (1, [.int 0])), (q2, .inr (2, [.ref q1, .ref (u2 0)])), ((u2 0), .inl (cI, 4096, .inl (fun _ => 0)))] := hD
  refine lv_aload_n hx hb dX8_init_30 rfl (lv_at hl 0 rfl) ?_
  refine va_new (ci := 4) (fs := [.null, .null, .null, .int 0, .int 0, .int 0, .null]) (C := RX4) (T := TX4) (N := 7) hx hb hts1 tbX4 tyX4 tyX4_ok hown (hts1 _ kc_51) (hts1 _ kc_52) (hts1 _ kc_4) X.2.2.2.1 hP hD hS X.2.2.2.2.1 rfl (fun j hj => by rcases (show j = 0 ∨ j = 1 ∨ j = 2 ∨ j = 3 ∨ j = 4 ∨ j = 5 ∨ j = 6 by omega) with rfl | rfl | rfl | rfl | rfl | rfl | rfl <;> rfl) (by decide) (by decide) dX8_init_31 (fun q3 H hP hD hS => ?_)
  replace hP : va_P (dC, dI) vwCl [(h, .inr (8, [.ref q1, .ref q2, .null, .null, .null])), (q1, .inr (1, [.int 0])), (q2, .inr (2, [.ref q1, .ref (u2 0)])), ((u2 0), .inl (cI, 4096, .inl (fun _ => 0))), (q3, .inr (4, [.null, .null, .null, .int 0, .int 0, .int 0, .null]))] H := hP
  replace hD : va_D A [(h, .inr (8, [.ref q1, .ref q2, .null, .null, .null])), (q1, .inr (1, [.int 0])), (q2, .inr (2, [.ref q1, .ref (u2 0)])), ((u2 0), .inl (cI, 4096, .inl (fun _ => 0))), (q3, .inr (4, [.null, .null, .null, .int 0, .int 0, .int 0, .null]))] := hD
  refine W.widen (k := 4) (n := 4106) (by decide) (by decide) ?_
  refine lv_dup hx hb dX8_init_34 rfl ?_
  refine lv_aload_n hx hb dX8_init_35 rfl (lv_at hl 0 rfl) ?_
  refine va_get hx hb hts1 tbX8 hown X.2.2.2.1 hP 0 rfl rfl 0 (by decide) (hts1 _ kc_177) (fun _ h => h) (v := .ref q1) rfl dX8_init_36 ?_
  have h2 := (sg_2.spl (a := [(h, .inr (8, [.ref q1, .ref q2, .null, .null, .null])), (q1, .inr (1, [.int 0])), (q2, .inr (2, [.ref q1, .ref (u2 0)])), ((u2 0), .inl (cI, 4096, .inl (fun _ => 0)))]) (b := [(q3, .inr (4, [.null, .null, .null, .int 0, .int 0, .int 0, .null]))]) hP hD).symm
  refine sc_init (rest := [.ref q3, .ref h]) S X.2.2.2.1 X.2.2.2.2.1 hN (ctX4 (h := q3) (a1 := q1)) calcX4 kc_53 rfl rfl h2 hS ⟨by decide, by decide⟩ ⟨by decide, by decide⟩ rfl hl.1 rfl (Nat.le_of_ble_eq_true rfl) dX8_init_39 (fun u3 H locs huu3 h2 hS => ?_)
  obtain ⟨hP, hD⟩ := h2.symm.app
  replace hP : va_P (dC, dI) vwCl [(h, .inr (8, [.ref q1, .ref q2, .null, .null, .null])), (q1, .inr (1, [.int 0])), (q2, .inr (2, [.ref q1, .ref (u2 0)])), ((u2 0), .inl (cI, 4096, .inl (fun _ => 0))), (q3, .inr (4, [.ref q1, .ref (u3 0), .ref (u3 2), .int 0, .int 0, .int 0, .ref (u3 3)])), ((u3 0), .inr (7, [.ref (u3 1), .int 0, .int 0])), ((u3 1), .inl (cI, 64, .inl (fun _ => 0))), ((u3 2), .inl (cI, 8, .inl (upd (upd (upd (upd (upd (upd (upd (upd (fun _ => 0) 0 31) 1 31) 2 31) 3 31) 4 31) 5 31) 6 31) 7 31))), ((u3 3), .inl (cI, 100, .inl (fun _ => 0)))] H := hP
  replace hD : va_D A [(h, .inr (8, [.ref q1, .ref q2, .null, .null, .null])), (q1, .inr (1, [.int 0])), (q2, .inr (2, [.ref q1, .ref (u2 0)])), ((u2 0), .inl (cI, 4096, .inl (fun _ => 0))), (q3, .inr (4, [.ref q1, .ref (u3 0), .ref (u3 2), .int 0, .int 0, .int 0, .ref (u3 3)])), ((u3 0), .inr (7, [.ref (u3 1), .int 0, .int 0])), ((u3 1), .inl (cI, 64, .inl (fun _ => 0))), ((u3 2), .inl (cI, 8, .inl (upd (upd (upd (upd (upd (upd (upd (upd (fun _ => 0) 0 31) 1 31) 2 31) 3 31) 4 31) 5 31) 6 31) 7 31))), ((u3 3), .inl (cI, 100, .inl (fun _ => 0)))] := hD
  refine W.widen (k := 8) (n := 4281) (by decide) (by decide) ?_
  refine va_putF hx hb hts1 tbX8 tyX8 tyX8_ok nmX8 hown X.2.2.2.1 hP hD hS 0 rfl rfl 2 (by decide) (hts1 _ kc_179) (fun _ h => h) rfl hin rfl (tyX8_ok 2 (by decide)) rfl rfl (Nat.le_of_ble_eq_true rfl) dX8_init_42 (fun H locs hP hD hS => ?_)
  replace hP : va_P (dC, dI) vwCl [(h, .inr (8, [.ref q1, .ref q2, .ref q3, .null, .null])), (q1, .inr (1, [.int 0])), (q2, .inr (2, [.ref q1, .ref (u2 0)])), ((u2 0), .inl (cI, 4096, .inl (fun _ => 0))), (q3, .inr (4, [.ref q1, .ref (u3 0), .ref (u3 2), .int 0, .int 0, .int 0, .ref (u3 3)])), ((u3 0), .inr (7, [.ref (u3 1), .int 0, .int 0])), ((u3 1), .inl (cI, 64, .inl (fun _ => 0))), ((u3 2), .inl (cI, 8, .inl (upd (upd (upd (upd (upd (upd (upd (upd (fun _ => 0) 0 31) 1 31) 2 31) 3 31) 4 31) 5 31) 6 31) 7 31))), ((u3 3), .inl (cI, 100, .inl (fun _ => 0)))] H := hP
  replace hD : va_D A [(h, .inr (8, [.ref q1, .ref q2, .ref q3, .null, .null])), (q1, .inr (1, [.int 0])), (q2, .inr (2, [.ref q1, .ref (u2 0)])), ((u2 0), .inl (cI, 4096, .inl (fun _ => 0))), (q3, .inr (4, [.ref q1, .ref (u3 0), .ref (u3 2), .int 0, .int 0, .int 0, .ref (u3 3)])), ((u3 0), .inr (7, [.ref (u3 1), .int 0, .int 0])), ((u3 1), .inl (cI, 64, .inl (fun _ => 0))), ((u3 2), .inl (cI, 8, .inl (upd (upd (upd (upd (upd (upd (upd (upd (fun _ => 0) 0 31) 1 31) 2 31) 3 31) 4 31) 5 31) 6 31) 7 31))), ((u3 3), .inl (cI, 100, .inl (fun _ => 0)))] := hD
  refine lv_aload_n hx hb dX8_init_45 rfl (lv_at hl 0 rfl) ?_
  refine va_new (ci := 6) (fs := [.null]) (C := RX6) (T := TX6) (N := 1) hx hb hts1 tbX6 tyX6 tyX6_ok hown (hts1 _ kc_100) (hts1 _ kc_101) (hts1 _ kc_6) X.2.2.2.1 hP hD hS X.2.2.2.2.1 rfl (fun j hj => by rcases (show j = 0 by omega) with rfl <;> rfl) (by decide) (by decide) dX8_init_46 (fun q4 H hP hD hS => ?_)
  replace hP : va_P (dC, dI) vwCl [(h, .inr (8, [.ref q1, .ref q2, .ref q3, .null, .null])), (q1, .inr (1, [.int 0])), (q2, .inr (2, [.ref q1, .ref (u2 0)])), ((u2 0), .inl (cI, 4096, .inl (fun _ => 0))), (q3, .inr (4, [.ref q1, .ref (u3 0), .ref (u3 2), .int 0, .int 0, .int 0, .ref (u3 3)])), ((u3 0), .inr (7, [.ref (u3 1), .int 0, .int 0])), ((u3 1), .inl (cI, 64, .inl (fun _ => 0))), ((u3 2), .inl (cI, 8, .inl (upd (upd (upd (upd (upd (upd (upd (upd (fun _ => 0) 0 31) 1 31) 2 31) 3 31) 4 31) 5 31) 6 31) 7 31))), ((u3 3), .inl (cI, 100, .inl (fun _ => 0))), (q4, .inr (6, [.null]))] H := hP
  replace hD : va_D A [(h, .inr (8, [.ref q1, .ref q2, .ref q3, .null, .null])), (q1, .inr (1, [.int 0])), (q2, .inr (2, [.ref q1, .ref (u2 0)])), ((u2 0), .inl (cI, 4096, .inl (fun _ => 0))), (q3, .inr (4, [.ref q1, .ref (u3 0), .ref (u3 2), .int 0, .int 0, .int 0, .ref (u3 3)])), ((u3 0), .inr (7, [.ref (u3 1), .int 0, .int 0])), ((u3 1), .inl (cI, 64, .inl (fun _ => 0))), ((u3 2), .inl (cI, 8, .inl (upd (upd (upd (upd (upd (upd (upd (upd (fun _ => 0) 0 31) 1 31) 2 31) 3 31) 4 31) 5 31) 6 31) 7 31))), ((u3 3), .inl (cI, 100, .inl (fun _ => 0))), (q4, .inr (6, [.null]))] := hD
  refine W.widen (k := 9) (n := 4282) (by decide) (by decide) ?_
  refine lv_dup hx hb dX8_init_49 rfl ?_
  have h2 := (sg_2.spl (a := [(h, .inr (8, [.ref q1, .ref q2, .ref q3, .null, .null])), (q1, .inr (1, [.int 0])), (q2, .inr (2, [.ref q1, .ref (u2 0)])), ((u2 0), .inl (cI, 4096, .inl (fun _ => 0))), (q3, .inr (4, [.ref q1, .ref (u3 0), .ref (u3 2), .int 0, .int 0, .int 0, .ref (u3 3)])), ((u3 0), .inr (7, [.ref (u3 1), .int 0, .int 0])), ((u3 1), .inl (cI, 64, .inl (fun _ => 0))), ((u3 2), .inl (cI, 8, .inl (upd (upd (upd (upd (upd (upd (upd (upd (fun _ => 0) 0 31) 1 31) 2 31) 3 31) 4 31) 5 31) 6 31) 7 31))), ((u3 3), .inl (cI, 100, .inl (fun _ => 0)))]) (b := [(q4, .inr (6, [.null]))]) hP hD).symm
  refine sc_initN (rest := [.ref q4, .ref h]) S X.2.2.2.1 X.2.2.2.2.1 hN (ctX6 (h := q4)) calcX6 hN.2.1 rfl rfl h2 hS ⟨by decide, by decide⟩ ⟨by decide, by decide⟩ rfl hl.1 rfl (Nat.le_of_ble_eq_true rfl) dX8_init_50 (fun u4 H locs huu4 h2 hS => ?_)
  obtain ⟨hP, hD⟩ := h2.symm.app
  replace hP : va_P (dC, dI) vwCl [(h, .inr (8, [.ref q1, .ref q2, .ref q3, .null, .null])), (q1, .inr (1, [.int 0])), (q2, .inr (2, [.ref q1, .ref (u2 0)])), ((u2 0), .inl (cI, 4096, .inl (fun _ => 0))), (q3, .inr (4, [.ref q1, .ref (u3 0), .ref (u3 2), .int 0, .int 0, .int 0, .ref (u3 3)])), ((u3 0), .inr (7, [.ref (u3 1), .int 0, .int 0])), ((u3 1), .inl (cI, 64, .inl (fun _ => 0))), ((u3 2), .inl (cI, 8, .inl (upd (upd (upd (upd (upd (upd (upd (upd (fun _ => 0) 0 31) 1 31) 2 31) 3 31) 4 31) 5 31) 6 31) 7 31))), ((u3 3), .inl (cI, 100, .inl (fun _ => 0))), (q4, .inr (6, [.ref (u4 0)])), ((u4 0), .inl (cI, 10, .inl (fun _ => 0)))] H := hP
  replace hD : va_D A [(h, .inr (8, [.ref q1, .ref q2, .ref q3, .null, .null])), (q1, .inr (1, [.int 0])), (q2, .inr (2, [.ref q1, .ref (u2 0)])), ((u2 0), .inl (cI, 4096, .inl (fun _ => 0))), (q3, .inr (4, [.ref q1, .ref (u3 0), .ref (u3 2), .int 0, .int 0, .int 0, .ref (u3 3)])), ((u3 0), .inr (7, [.ref (u3 1), .int 0, .int 0])), ((u3 1), .inl (cI, 64, .inl (fun _ => 0))), ((u3 2), .inl (cI, 8, .inl (upd (upd (upd (upd (upd (upd (upd (upd (fun _ => 0) 0 31) 1 31) 2 31) 3 31) 4 31) 5 31) 6 31) 7 31))), ((u3 3), .inl (cI, 100, .inl (fun _ => 0))), (q4, .inr (6, [.ref (u4 0)])), ((u4 0), .inl (cI, 10, .inl (fun _ => 0)))] := hD
  refine W.widen (k := 10) (n := 4292) (by decide) (by decide) ?_
  refine va_putF hx hb hts1 tbX8 tyX8 tyX8_ok nmX8 hown X.2.2.2.1 hP hD hS 0 rfl rfl 3 (by decide) (hts1 _ kc_180) (fun _ h => h) rfl hin rfl (tyX8_ok 3 (by decide)) rfl rfl (Nat.le_of_ble_eq_true rfl) dX8_init_53 (fun H locs hP hD hS => ?_)
  replace hP : va_P (dC, dI) vwCl [(h, .inr (8, [.ref q1, .ref q2, .ref q3, .ref q4, .null])), (q1, .inr (1, [.int 0])), (q2, .inr (2, [.ref q1, .ref (u2 0)])), ((u2 0), .inl (cI, 4096, .inl (fun _ => 0))), (q3, .inr (4, [.ref q1, .ref (u3 0), .ref (u3 2), .int 0, .int 0, .int 0, .ref (u3 3)])), ((u3 0), .inr (7, [.ref (u3 1), .int 0, .int 0])), ((u3 1), .inl (cI, 64, .inl (fun _ => 0))), ((u3 2), .inl (cI, 8, .inl (upd (upd (upd (upd (upd (upd (upd (upd (fun _ => 0) 0 31) 1 31) 2 31) 3 31) 4 31) 5 31) 6 31) 7 31))), ((u3 3), .inl (cI, 100, .inl (fun _ => 0))), (q4, .inr (6, [.ref (u4 0)])), ((u4 0), .inl (cI, 10, .inl (fun _ => 0)))] H := hP
  replace hD : va_D A [(h, .inr (8, [.ref q1, .ref q2, .ref q3, .ref q4, .null])), (q1, .inr (1, [.int 0])), (q2, .inr (2, [.ref q1, .ref (u2 0)])), ((u2 0), .inl (cI, 4096, .inl (fun _ => 0))), (q3, .inr (4, [.ref q1, .ref (u3 0), .ref (u3 2), .int 0, .int 0, .int 0, .ref (u3 3)])), ((u3 0), .inr (7, [.ref (u3 1), .int 0, .int 0])), ((u3 1), .inl (cI, 64, .inl (fun _ => 0))), ((u3 2), .inl (cI, 8, .inl (upd (upd (upd (upd (upd (upd (upd (upd (fun _ => 0) 0 31) 1 31) 2 31) 3 31) 4 31) 5 31) 6 31) 7 31))), ((u3 3), .inl (cI, 100, .inl (fun _ => 0))), (q4, .inr (6, [.ref (u4 0)])), ((u4 0), .inl (cI, 10, .inl (fun _ => 0)))] := hD
  refine lv_aload_n hx hb dX8_init_56 rfl (lv_at hl 0 rfl) ?_
  refine va_new (ci := 5) (fs := [.null, .null, .null, .null, .null, .null, .int 0, .int 0, .int 0, .int 0, .int 0]) (C := RX5) (T := TX5) (N := 11) hx hb hts1 tbX5 tyX5 tyX5_ok hown (hts1 _ kc_110) (hts1 _ kc_111) (hts1 _ kc_7) X.2.2.2.1 hP hD hS X.2.2.2.2.1 rfl (fun j hj => by rcases (show j = 0 ∨ j = 1 ∨ j = 2 ∨ j = 3 ∨ j = 4 ∨ j = 5 ∨ j = 6 ∨ j = 7 ∨ j = 8 ∨ j = 9 ∨ j = 10 by omega) with rfl | rfl | rfl | rfl | rfl | rfl | rfl | rfl | rfl | rfl | rfl <;> rfl) (by decide) (by decide) dX8_init_57 (fun q5 H hP hD hS => ?_)
  replace hP : va_P (dC, dI) vwCl [(h, .inr (8, [.ref q1, .ref q2, .ref q3, .ref q4, .null])), (q1, .inr (1, [.int 0])), (q2, .inr (2, [.ref q1, .ref (u2 0)])), ((u2 0), .inl (cI, 4096, .inl (fun _ => 0))), (q3, .inr (4, [.ref q1, .ref (u3 0), .ref (u3 2), .int 0, .int 0, .int 0, .ref (u3 3)])), ((u3 0), .inr (7, [.ref (u3 1), .int 0, .int 0])), ((u3 1), .inl (cI, 64, .inl (fun _ => 0))), ((u3 2), .inl (cI, 8, .inl (upd (upd (upd (upd (upd (upd (upd (upd (fun _ => 0) 0 31) 1 31) 2 31) 3 31) 4 31) 5 31) 6 31) 7 31))), ((u3 3), .inl (cI, 100, .inl (fun _ => 0))), (q4, .inr (6, [.ref (u4 0)])), ((u4 0), .inl (cI, 10, .inl (fun _ => 0))), (q5, .inr (5, [.null, .null, .null, .null, .null, .null, .int 0, .int 0, .int 0, .int 0, .int 0]))] H := hP
  replace hD : va_D A [(h, .inr (8, [.ref q1, .ref q2, .ref q3, .ref q4, .null])), (q1, .inr (1, [.int 0])), (q2, .inr (2, [.ref q1, .ref (u2 0)])), ((u2 0), .inl (cI, 4096, .inl (fun _ => 0))), (q3, .inr (4, [.ref q1, .ref (u3 0), .ref (u3 2), .int 0, .int 0, .int 0, .ref (u3 3)])), ((u3 0), .inr (7, [.ref (u3 1), .int 0, .int 0])), ((u3 1), .inl (cI, 64, .inl (fun _ => 0))), ((u3 2), .inl (cI, 8, .inl (upd (upd (upd (upd (upd (upd (upd (upd (fun _ => 0) 0 31) 1 31) 2 31) 3 31) 4 31) 5 31) 6 31) 7 31))), ((u3 3), .inl (cI, 100, .inl (fun _ => 0))), (q4, .inr (6, [.ref (u4 0)])), ((u4 0), .inl (cI, 10, .inl (fun _ => 0))), (q5, .inr (5, [.null, .null, .null, .null, .null, .null, .int 0, .int 0, .int 0, .int 0, .int 0]))] := hD
  refine W.widen (k := 11) (n := 4303) (by decide) (by decide) ?_
  refine lv_dup hx hb dX8_init_60 rfl ?_
  refine lv_aload_n hx hb dX8_init_61 rfl (lv_at hl 0 rfl) ?_
  refine va_get hx hb hts1 tbX8 hown X.2.2.2.1 hP 0 rfl rfl 0 (by decide) (hts1 _ kc_177) (fun _ h => h) (v := .ref q1) rfl dX8_init_62 ?_
  refine lv_aload_n hx hb dX8_init_65 rfl (lv_at hl 0 rfl) ?_
  refine va_get hx hb hts1 tbX8 hown X.2.2.2.1 hP 0 rfl rfl 1 (by decide) (hts1 _ kc_178) (fun _ h => h) (v := .ref q2) rfl dX8_init_66 ?_
  refine lv_aload_n hx hb dX8_init_69 rfl (lv_at hl 0 rfl) ?_
  refine va_get hx hb hts1 tbX8 hown X.2.2.2.1 hP 0 rfl rfl 2 (by decide) (hts1 _ kc_179) (fun _ h => h) (v := .ref q3) rfl dX8_init_70 ?_
  refine lv_aload_n hx hb dX8_init_73 rfl (lv_at hl 0 rfl) ?_
  refine va_get hx hb hts1 tbX8 hown X.2.2.2.1 hP 0 rfl rfl 3 (by decide) (hts1 _ kc_180) (fun _ h => h) (v := .ref q4) rfl dX8_init_74 ?_
  have h2 := (sg_2.spl (a := [(h, .inr (8, [.ref q1, .ref q2, .ref q3, .ref q4, .null])), (q1, .inr (1, [.int 0])), (q2, .inr (2, [.ref q1, .ref (u2 0)])), ((u2 0), .inl (cI, 4096, .inl (fun _ => 0))), (q3, .inr (4, [.ref q1, .ref (u3 0), .ref (u3 2), .int 0, .int 0, .int 0, .ref (u3 3)])), ((u3 0), .inr (7, [.ref (u3 1), .int 0, .int 0])), ((u3 1), .inl (cI, 64, .inl (fun _ => 0))), ((u3 2), .inl (cI, 8, .inl (upd (upd (upd (upd (upd (upd (upd (upd (fun _ => 0) 0 31) 1 31) 2 31) 3 31) 4 31) 5 31) 6 31) 7 31))), ((u3 3), .inl (cI, 100, .inl (fun _ => 0))), (q4, .inr (6, [.ref (u4 0)])), ((u4 0), .inl (cI, 10, .inl (fun _ => 0)))]) (b := [(q5, .inr (5, [.null, .null, .null, .null, .null, .null, .int 0, .int 0, .int 0, .int 0, .int 0]))]) hP hD).symm
  refine sc_init (rest := [.ref q5, .ref h]) S X.2.2.2.1 X.2.2.2.2.1 hN (ctX5 (h := q5) (a1 := q1) (a2 := q2) (a3 := q3) (a4 := q4)) calcX5 kc_112 rfl rfl h2 hS ⟨by decide, by decide⟩ ⟨by decide, by decide⟩ rfl hl.1 rfl (Nat.le_of_ble_eq_true rfl) dX8_init_77 (fun u5 H locs huu5 h2 hS => ?_)
  obtain ⟨hP, hD⟩ := h2.symm.app
  replace hP : va_P (dC, dI) vwCl [(h, .inr (8, [.ref q1, .ref q2, .ref q3, .ref q4, .null])), (q1, .inr (1, [.int 0])), (q2, .inr (2, [.ref q1, .ref (u2 0)])), ((u2 0), .inl (cI, 4096, .inl (fun _ => 0))), (q3, .inr (4, [.ref q1, .ref (u3 0), .ref (u3 2), .int 0, .int 0, .int 0, .ref (u3 3)])), ((u3 0), .inr (7, [.ref (u3 1), .int 0, .int 0])), ((u3 1), .inl (cI, 64, .inl (fun _ => 0))), ((u3 2), .inl (cI, 8, .inl (upd (upd (upd (upd (upd (upd (upd (upd (fun _ => 0) 0 31) 1 31) 2 31) 3 31) 4 31) 5 31) 6 31) 7 31))), ((u3 3), .inl (cI, 100, .inl (fun _ => 0))), (q4, .inr (6, [.ref (u4 0)])), ((u4 0), .inl (cI, 10, .inl (fun _ => 0))), (q5, .inr (5, [.ref q1, .ref q2, .ref q3, .ref q4, .ref (u5 0), .ref (u5 1), .int 0, .int 0, .int 0, .int 0, .int 0])), ((u5 0), .inr (0, [.ref q4])), ((u5 1), .inr (3, [.ref q2, .ref q4]))] H := hP
  replace hD : va_D A [(h, .inr (8, [.ref q1, .ref q2, .ref q3, .ref q4, .null])), (q1, .inr (1, [.int 0])), (q2, .inr (2, [.ref q1, .ref (u2 0)])), ((u2 0), .inl (cI, 4096, .inl (fun _ => 0))), (q3, .inr (4, [.ref q1, .ref (u3 0), .ref (u3 2), .int 0, .int 0, .int 0, .ref (u3 3)])), ((u3 0), .inr (7, [.ref (u3 1), .int 0, .int 0])), ((u3 1), .inl (cI, 64, .inl (fun _ => 0))), ((u3 2), .inl (cI, 8, .inl (upd (upd (upd (upd (upd (upd (upd (upd (fun _ => 0) 0 31) 1 31) 2 31) 3 31) 4 31) 5 31) 6 31) 7 31))), ((u3 3), .inl (cI, 100, .inl (fun _ => 0))), (q4, .inr (6, [.ref (u4 0)])), ((u4 0), .inl (cI, 10, .inl (fun _ => 0))), (q5, .inr (5, [.ref q1, .ref q2, .ref q3, .ref q4, .ref (u5 0), .ref (u5 1), .int 0, .int 0, .int 0, .int 0, .int 0])), ((u5 0), .inr (0, [.ref q4])), ((u5 1), .inr (3, [.ref q2, .ref q4]))] := hD
  refine W.widen (k := 13) (n := 4306) (by decide) (by decide) ?_
  refine va_putF hx hb hts1 tbX8 tyX8 tyX8_ok nmX8 hown X.2.2.2.1 hP hD hS 0 rfl rfl 4 (by decide) (hts1 _ kc_181) (fun _ h => h) rfl hin rfl (tyX8_ok 4 (by decide)) rfl rfl (Nat.le_of_ble_eq_true rfl) dX8_init_80 (fun H locs hP hD hS => ?_)
  replace hP : va_P (dC, dI) vwCl [(h, .inr (8, [.ref q1, .ref q2, .ref q3, .ref q4, .ref q5])), (q1, .inr (1, [.int 0])), (q2, .inr (2, [.ref q1, .ref (u2 0)])), ((u2 0), .inl (cI, 4096, .inl (fun _ => 0))), (q3, .inr (4, [.ref q1, .ref (u3 0), .ref (u3 2), .int 0, .int 0, .int 0, .ref (u3 3)])), ((u3 0), .inr (7, [.ref (u3 1), .int 0, .int 0])), ((u3 1), .inl (cI, 64, .inl (fun _ => 0))), ((u3 2), .inl (cI, 8, .inl (upd (upd (upd (upd (upd (upd (upd (upd (fun _ => 0) 0 31) 1 31) 2 31) 3 31) 4 31) 5 31) 6 31) 7 31))), ((u3 3), .inl (cI, 100, .inl (fun _ => 0))), (q4, .inr (6, [.ref (u4 0)])), ((u4 0), .inl (cI, 10, .inl (fun _ => 0))), (q5, .inr (5, [.ref q1, .ref q2, .ref q3, .ref q4, .ref (u5 0), .ref (u5 1), .int 0, .int 0, .int 0, .int 0, .int 0])), ((u5 0), .inr (0, [.ref q4])), ((u5 1), .inr (3, [.ref q2, .ref q4]))] H := hP
  replace hD : va_D A [(h, .inr (8, [.ref q1, .ref q2, .ref q3, .ref q4, .ref q5])), (q1, .inr (1, [.int 0])), (q2, .inr (2, [.ref q1, .ref (u2 0)])), ((u2 0), .inl (cI, 4096, .inl (fun _ => 0))), (q3, .inr (4, [.ref q1, .ref (u3 0), .ref (u3 2), .int 0, .int 0, .int 0, .ref (u3 3)])), ((u3 0), .inr (7, [.ref (u3 1), .int 0, .int 0])), ((u3 1), .inl (cI, 64, .inl (fun _ => 0))), ((u3 2), .inl (cI, 8, .inl (upd (upd (upd (upd (upd (upd (upd (upd (fun _ => 0) 0 31) 1 31) 2 31) 3 31) 4 31) 5 31) 6 31) 7 31))), ((u3 3), .inl (cI, 100, .inl (fun _ => 0))), (q4, .inr (6, [.ref (u4 0)])), ((u4 0), .inl (cI, 10, .inl (fun _ => 0))), (q5, .inr (5, [.ref q1, .ref q2, .ref q3, .ref q4, .ref (u5 0), .ref (u5 1), .int 0, .int 0, .int 0, .int 0, .int 0])), ((u5 0), .inr (0, [.ref q4])), ((u5 1), .inr (3, [.ref q2, .ref q4]))] := hD
  have hP' := hP.sub (ws' := cW (fun i => ([h, q1, q2, q3, q4, q5, (u5 0), (u5 1), (u3 0), (u2 0), (u3 2), (u3 3), (u3 1), (u4 0)] : List Nat).getD i 0) cI z0) [0, 1, 2, 4, 9, 11, 12, 13, 5, 3, 7, 8, 6, 10] rfl
  have hD' := hD.sub (ws' := cW (fun i => ([h, q1, q2, q3, q4, q5, (u5 0), (u5 1), (u3 0), (u2 0), (u3 2), (u3 3), (u3 1), (u4 0)] : List Nat).getD i 0) cI z0) [0, 1, 2, 4, 9, 11, 12, 13, 5, 3, 7, 8, 6, 10] (by decide) rfl
  exact sc_ret (wf := (fun u => cW u cI z0)) X (fun i => ([h, q1, q2, q3, q4, q5, (u5 0), (u5 1), (u3 0), (u2 0), (u3 2), (u3 3), (u3 1), (u4 0)] : List Nat).getD i 0) rfl hP' hD' hS dX8_init_83
theorem dX9_init_0 : decode cX9_init 0 = .ok (.aload_n 0, 1) := by decide +kernel
theorem dX9_init_1 : decode cX9_init 1 = .ok (.invokespecial 1, 3) := by decide +kernel
theorem dX9_init_4 : decode cX9_init 4 = .ok (.aload_n 0, 1) := by decide +kernel
theorem dX9_init_5 : decode cX9_init 5 = .ok (.sipush 4096, 3) := by decide +kernel
theorem dX9_init_8 : decode cX9_init 8 = .ok (.newarray .int, 2) := by decide +kernel
theorem dX9_init_10 : decode cX9_init 10 = .ok (.putfield 7, 3) := by decide +kernel
theorem dX9_init_13 : decode cX9_init 13 = .ok (.aload_n 0, 1) := by decide +kernel
theorem dX9_init_14 : decode cX9_init 14 = .ok (.bipush 8, 2) := by decide +kernel
theorem dX9_init_16 : decode cX9_init 16 = .ok (.newarray .int, 2) := by decide +kernel
theorem dX9_init_18 : decode cX9_init 18 = .ok (.putfield 13, 3) := by decide +kernel
theorem dX9_init_21 : decode cX9_init 21 = .ok (.aload_n 0, 1) := by decide +kernel
theorem dX9_init_22 : decode cX9_init 22 = .ok (.bipush 8, 2) := by decide +kernel
theorem dX9_init_24 : decode cX9_init 24 = .ok (.newarray .int, 2) := by decide +kernel
theorem dX9_init_26 : decode cX9_init 26 = .ok (.putfield 16, 3) := by decide +kernel
theorem dX9_init_29 : decode cX9_init 29 = .ok (.aload_n 0, 1) := by decide +kernel
theorem dX9_init_30 : decode cX9_init 30 = .ok (.bipush 8, 2) := by decide +kernel
theorem dX9_init_32 : decode cX9_init 32 = .ok (.newarray .int, 2) := by decide +kernel
theorem dX9_init_34 : decode cX9_init 34 = .ok (.putfield 19, 3) := by decide +kernel
theorem dX9_init_37 : decode cX9_init 37 = .ok (.aload_n 0, 1) := by decide +kernel
theorem dX9_init_38 : decode cX9_init 38 = .ok (.bipush 64, 2) := by decide +kernel
theorem dX9_init_40 : decode cX9_init 40 = .ok (.newarray .int, 2) := by decide +kernel
theorem dX9_init_42 : decode cX9_init 42 = .ok (.putfield 22, 3) := by decide +kernel
theorem dX9_init_45 : decode cX9_init 45 = .ok (.aload_n 0, 1) := by decide +kernel
theorem dX9_init_46 : decode cX9_init 46 = .ok (.bipush 100, 2) := by decide +kernel
theorem dX9_init_48 : decode cX9_init 48 = .ok (.newarray .int, 2) := by decide +kernel
theorem dX9_init_50 : decode cX9_init 50 = .ok (.putfield 25, 3) := by decide +kernel
theorem dX9_init_53 : decode cX9_init 53 = .ok (.iconst 0, 1) := by decide +kernel
theorem dX9_init_54 : decode cX9_init 54 = .ok (.istore_n 1, 1) := by decide +kernel
theorem dX9_init_55 : decode cX9_init 55 = .ok (.iload_n 1, 1) := by decide +kernel
theorem dX9_init_56 : decode cX9_init 56 = .ok (.bipush 8, 2) := by decide +kernel
theorem dX9_init_58 : decode cX9_init 58 = .ok (.if_icmp .ge 17, 3) := by decide +kernel
theorem dX9_init_61 : decode cX9_init 61 = .ok (.aload_n 0, 1) := by decide +kernel
theorem dX9_init_62 : decode cX9_init 62 = .ok (.getfield 19, 3) := by decide +kernel
theorem dX9_init_65 : decode cX9_init 65 = .ok (.iload_n 1, 1) := by decide +kernel
theorem dX9_init_66 : decode cX9_init 66 = .ok (.bipush 31, 2) := by decide +kernel
theorem dX9_init_68 : decode cX9_init 68 = .ok (.iastore, 1) := by decide +kernel
theorem dX9_init_69 : decode cX9_init 69 = .ok (.iinc 1 1, 3) := by decide +kernel
theorem dX9_init_72 : decode cX9_init 72 = .ok (.goto (-17), 3) := by decide +kernel
theorem dX9_init_75 : decode cX9_init 75 = .ok (.return_, 1) := by decide +kernel
theorem calcX9 : sc_cal yX9_init cX9_init 2 0 := ⟨sw_in 755 (by decide +kernel) rfl, sw_in 754 (by decide +kernel) rfl, sw_in 10 (by decide +kernel) rfl, rfl, by decide, by decide, by decide +kernel⟩
theorem kc_756 : Cond.methodLink RX9 1 Lib.objectInit ∈ sw_tb := sw_in 756 (by decide +kernel) rfl
theorem kc_758 : Cond.fieldLink RX9 7 "SpectrumBoardModel" "memory" "[I" ∈ sw_tb := sw_in 758 (by decide +kernel) rfl
theorem kc_759 : Cond.fieldLink RX9 13 "SpectrumBoardModel" "reg" "[I" ∈ sw_tb := sw_in 759 (by decide +kernel) rfl
theorem kc_760 : Cond.fieldLink RX9 16 "SpectrumBoardModel" "other" "[I" ∈ sw_tb := sw_in 760 (by decide +kernel) rfl
theorem kc_770 : Cond.fieldLink RX9 19 "SpectrumBoardModel" "rows" "[I" ∈ sw_tb := sw_in 770 (by decide +kernel) rfl
theorem kc_772 : Cond.fieldLink RX9 22 "SpectrumBoardModel" "edgeAt" "[I" ∈ sw_tb := sw_in 772 (by decide +kernel) rfl
theorem kc_776 : Cond.fieldLink RX9 25 "SpectrumBoardModel" "changeAt" "[I" ∈ sw_tb := sw_in 776 (by decide +kernel) rfl
set_option maxHeartbeats 4000000 in
set_option maxRecDepth 100000 in
theorem ctX9 {l : Launch} {dC : Nat → ClassId} {dI : Nat → Nat → Nat} {cI : ClassId} {h : Nat} : sc_M l yX9_init (sw_ws yX9_init cX9_init 2 none) { frames := 1, cells := 6, slots := 4284, locals := 12 } (dC, dI) vwCl [(cI, .int)] [.ref h] [(h, .inr (9, [.int 0, .null, .null, .null, .int 0, .int 0, .int 0, .int 0, .int 0, .int 0, .int 0, .int 0, .int 0, .null, .int 0, .null, .int 0, .int 0, .int 0, .null]))] (fun u => u 0 = h) (fun u => mW u cI z1) 6 4284 := by
  intro sz
  refine sw_of (cc := cX9_init) (maxL := 2) (ret := none) (by decide) rfl (Nat.le_of_ble_eq_true rfl) ?_
  intro p e s m args below meth c A ls hAe hsz X hin hP hD hS hl
  rw [hAe]
  replace hin := hin rfl
  have hx := X.1.1
  have hb := X.1.2.1
  have hown := X.1.2.2.2.1
  have hts := X.1.2.2.2.2
  have hts1 : ∀ w ∈ sw_tb, w.before args s = true := fun w h => hts w (List.mem_cons_of_mem _ h)
  have S : CallFix p m c cX9_init 2 s args sw_tb RX9 := ⟨hx, hb, X.1.2.2.1, hown, hts1⟩
  have hN : nN s := X.2.2.2.2.2
  replace hl : lv_has ls 2 [(0, .ref h)] := hl
  refine lv_aload_n hx hb dX9_init_0 rfl (lv_at hl 0 rfl) ?_
  refine sc_obj S kc_756 hl.1 (by decide) (by decide) dX9_init_1 ?_
  refine lv_aload_n hx hb dX9_init_4 rfl (lv_at hl 0 rfl) ?_
  refine lv_sipush (v := 4096) hx hb dX9_init_5 (by decide) ?_
  refine sc_newa (n := 4096) (N := 4096) S X.2.2.2.1 X.2.2.2.2.1 hP hD hS (by decide) (by decide) (by decide) ⟨by decide, by decide⟩ dX9_init_8 (fun q1 H hP hD hS => ?_)
  replace hP : va_P (dC, dI) vwCl [(h, .inr (9, [.int 0, .null, .null, .null, .int 0, .int 0, .int 0, .int 0, .int 0, .int 0, .int 0, .int 0, .int 0, .null, .int 0, .null, .int 0, .int 0, .int 0, .null])), (q1, .inl (cI, 4096, .inl (fun _ => 0)))] H := hP
  replace hD : va_D A [(h, .inr (9, [.int 0, .null, .null, .null, .int 0, .int 0, .int 0, .int 0, .int 0, .int 0, .int 0, .int 0, .int 0, .null, .int 0, .null, .int 0, .int 0, .int 0, .null])), (q1, .inl (cI, 4096, .inl (fun _ => 0)))] := hD
  refine W.widen (k := 1) (n := 4096) (by decide) (by decide) ?_
  refine va_putF hx hb hts1 tbX9 tyX9 tyX9_ok nmX9 hown X.2.2.2.1 hP hD hS 0 rfl rfl 1 (by decide) (hts1 _ kc_758) (fun _ h => h) rfl hin rfl (tyX9_ok 1 (by decide)) rfl rfl (Nat.le_of_ble_eq_true rfl) dX9_init_10 (fun H locs hP hD hS => ?_)
  replace hP : va_P (dC, dI) vwCl [(h, .inr (9, [.int 0, .ref q1, .null, .null, .int 0, .int 0, .int 0, .int 0, .int 0, .int 0, .int 0, .int 0, .int 0, .null, .int 0, .null, .int 0, .int 0, .int 0, .null])), (q1, .inl (cI, 4096, .inl (fun _ => 0)))] H := hP
  replace hD : va_D A [(h, .inr (9, [.int 0, .ref q1, .null, .null, .int 0, .int 0, .int 0, .int 0, .int 0, .int 0, .int 0, .int 0, .int 0, .null, .int 0, .null, .int 0, .int 0, .int 0, .null])), (q1, .inl (cI, 4096, .inl (fun _ => 0)))] := hD
  refine lv_aload_n hx hb dX9_init_13 rfl (lv_at hl 0 rfl) ?_
  refine lv_bipush (v := 8) hx hb dX9_init_14 (by decide) ?_
  refine sc_newa (n := 8) (N := 8) S X.2.2.2.1 X.2.2.2.2.1 hP hD hS (by decide) (by decide) (by decide) ⟨by decide, by decide⟩ dX9_init_16 (fun q2 H hP hD hS => ?_)
  replace hP : va_P (dC, dI) vwCl [(h, .inr (9, [.int 0, .ref q1, .null, .null, .int 0, .int 0, .int 0, .int 0, .int 0, .int 0, .int 0, .int 0, .int 0, .null, .int 0, .null, .int 0, .int 0, .int 0, .null])), (q1, .inl (cI, 4096, .inl (fun _ => 0))), (q2, .inl (cI, 8, .inl (fun _ => 0)))] H := hP
  replace hD : va_D A [(h, .inr (9, [.int 0, .ref q1, .null, .null, .int 0, .int 0, .int 0, .int 0, .int 0, .int 0, .int 0, .int 0, .int 0, .null, .int 0, .null, .int 0, .int 0, .int 0, .null])), (q1, .inl (cI, 4096, .inl (fun _ => 0))), (q2, .inl (cI, 8, .inl (fun _ => 0)))] := hD
  refine W.widen (k := 2) (n := 4104) (by decide) (by decide) ?_
  refine va_putF hx hb hts1 tbX9 tyX9 tyX9_ok nmX9 hown X.2.2.2.1 hP hD hS 0 rfl rfl 2 (by decide) (hts1 _ kc_759) (fun _ h => h) rfl hin rfl (tyX9_ok 2 (by decide)) rfl rfl (Nat.le_of_ble_eq_true rfl) dX9_init_18 (fun H locs hP hD hS => ?_)
  replace hP : va_P (dC, dI) vwCl [(h, .inr (9, [.int 0, .ref q1, .ref q2, .null, .int 0, .int 0, .int 0, .int 0, .int 0, .int 0, .int 0, .int 0, .int 0, .null, .int 0, .null, .int 0, .int 0, .int 0, .null])), (q1, .inl (cI, 4096, .inl (fun _ => 0))), (q2, .inl (cI, 8, .inl (fun _ => 0)))] H := hP
  replace hD : va_D A [(h, .inr (9, [.int 0, .ref q1, .ref q2, .null, .int 0, .int 0, .int 0, .int 0, .int 0, .int 0, .int 0, .int 0, .int 0, .null, .int 0, .null, .int 0, .int 0, .int 0, .null])), (q1, .inl (cI, 4096, .inl (fun _ => 0))), (q2, .inl (cI, 8, .inl (fun _ => 0)))] := hD
  refine lv_aload_n hx hb dX9_init_21 rfl (lv_at hl 0 rfl) ?_
  refine lv_bipush (v := 8) hx hb dX9_init_22 (by decide) ?_
  refine sc_newa (n := 8) (N := 8) S X.2.2.2.1 X.2.2.2.2.1 hP hD hS (by decide) (by decide) (by decide) ⟨by decide, by decide⟩ dX9_init_24 (fun q3 H hP hD hS => ?_)
  replace hP : va_P (dC, dI) vwCl [(h, .inr (9, [.int 0, .ref q1, .ref q2, .null, .int 0, .int 0, .int 0, .int 0, .int 0, .int 0, .int 0, .int 0, .int 0, .null, .int 0, .null, .int 0, .int 0, .int 0, .null])), (q1, .inl (cI, 4096, .inl (fun _ => 0))), (q2, .inl (cI, 8, .inl (fun _ => 0))), (q3, .inl (cI, 8, .inl (fun _ => 0)))] H := hP
  replace hD : va_D A [(h, .inr (9, [.int 0, .ref q1, .ref q2, .null, .int 0, .int 0, .int 0, .int 0, .int 0, .int 0, .int 0, .int 0, .int 0, .null, .int 0, .null, .int 0, .int 0, .int 0, .null])), (q1, .inl (cI, 4096, .inl (fun _ => 0))), (q2, .inl (cI, 8, .inl (fun _ => 0))), (q3, .inl (cI, 8, .inl (fun _ => 0)))] := hD
  refine W.widen (k := 3) (n := 4112) (by decide) (by decide) ?_
  refine va_putF hx hb hts1 tbX9 tyX9 tyX9_ok nmX9 hown X.2.2.2.1 hP hD hS 0 rfl rfl 3 (by decide) (hts1 _ kc_760) (fun _ h => h) rfl hin rfl (tyX9_ok 3 (by decide)) rfl rfl (Nat.le_of_ble_eq_true rfl) dX9_init_26 (fun H locs hP hD hS => ?_)
  replace hP : va_P (dC, dI) vwCl [(h, .inr (9, [.int 0, .ref q1, .ref q2, .ref q3, .int 0, .int 0, .int 0, .int 0, .int 0, .int 0, .int 0, .int 0, .int 0, .null, .int 0, .null, .int 0, .int 0, .int 0, .null])), (q1, .inl (cI, 4096, .inl (fun _ => 0))), (q2, .inl (cI, 8, .inl (fun _ => 0))), (q3, .inl (cI, 8, .inl (fun _ => 0)))] H := hP
  replace hD : va_D A [(h, .inr (9, [.int 0, .ref q1, .ref q2, .ref q3, .int 0, .int 0, .int 0, .int 0, .int 0, .int 0, .int 0, .int 0, .int 0, .null, .int 0, .null, .int 0, .int 0, .int 0, .null])), (q1, .inl (cI, 4096, .inl (fun _ => 0))), (q2, .inl (cI, 8, .inl (fun _ => 0))), (q3, .inl (cI, 8, .inl (fun _ => 0)))] := hD
  refine lv_aload_n hx hb dX9_init_29 rfl (lv_at hl 0 rfl) ?_
  refine lv_bipush (v := 8) hx hb dX9_init_30 (by decide) ?_
  refine sc_newa (n := 8) (N := 8) S X.2.2.2.1 X.2.2.2.2.1 hP hD hS (by decide) (by decide) (by decide) ⟨by decide, by decide⟩ dX9_init_32 (fun q4 H hP hD hS => ?_)
  replace hP : va_P (dC, dI) vwCl [(h, .inr (9, [.int 0, .ref q1, .ref q2, .ref q3, .int 0, .int 0, .int 0, .int 0, .int 0, .int 0, .int 0, .int 0, .int 0, .null, .int 0, .null, .int 0, .int 0, .int 0, .null])), (q1, .inl (cI, 4096, .inl (fun _ => 0))), (q2, .inl (cI, 8, .inl (fun _ => 0))), (q3, .inl (cI, 8, .inl (fun _ => 0))), (q4, .inl (cI, 8, .inl (fun _ => 0)))] H := hP
  replace hD : va_D A [(h, .inr (9, [.int 0, .ref q1, .ref q2, .ref q3, .int 0, .int 0, .int 0, .int 0, .int 0, .int 0, .int 0, .int 0, .int 0, .null, .int 0, .null, .int 0, .int 0, .int 0, .null])), (q1, .inl (cI, 4096, .inl (fun _ => 0))), (q2, .inl (cI, 8, .inl (fun _ => 0))), (q3, .inl (cI, 8, .inl (fun _ => 0))), (q4, .inl (cI, 8, .inl (fun _ => 0)))] := hD
  refine W.widen (k := 4) (n := 4120) (by decide) (by decide) ?_
  refine va_putF hx hb hts1 tbX9 tyX9 tyX9_ok nmX9 hown X.2.2.2.1 hP hD hS 0 rfl rfl 13 (by decide) (hts1 _ kc_770) (fun _ h => h) rfl hin rfl (tyX9_ok 13 (by decide)) rfl rfl (Nat.le_of_ble_eq_true rfl) dX9_init_34 (fun H locs hP hD hS => ?_)
  replace hP : va_P (dC, dI) vwCl [(h, .inr (9, [.int 0, .ref q1, .ref q2, .ref q3, .int 0, .int 0, .int 0, .int 0, .int 0, .int 0, .int 0, .int 0, .int 0, .ref q4, .int 0, .null, .int 0, .int 0, .int 0, .null])), (q1, .inl (cI, 4096, .inl (fun _ => 0))), (q2, .inl (cI, 8, .inl (fun _ => 0))), (q3, .inl (cI, 8, .inl (fun _ => 0))), (q4, .inl (cI, 8, .inl (fun _ => 0)))] H := hP
  replace hD : va_D A [(h, .inr (9, [.int 0, .ref q1, .ref q2, .ref q3, .int 0, .int 0, .int 0, .int 0, .int 0, .int 0, .int 0, .int 0, .int 0, .ref q4, .int 0, .null, .int 0, .int 0, .int 0, .null])), (q1, .inl (cI, 4096, .inl (fun _ => 0))), (q2, .inl (cI, 8, .inl (fun _ => 0))), (q3, .inl (cI, 8, .inl (fun _ => 0))), (q4, .inl (cI, 8, .inl (fun _ => 0)))] := hD
  refine lv_aload_n hx hb dX9_init_37 rfl (lv_at hl 0 rfl) ?_
  refine lv_bipush (v := 64) hx hb dX9_init_38 (by decide) ?_
  refine sc_newa (n := 64) (N := 64) S X.2.2.2.1 X.2.2.2.2.1 hP hD hS (by decide) (by decide) (by decide) ⟨by decide, by decide⟩ dX9_init_40 (fun q5 H hP hD hS => ?_)
  replace hP : va_P (dC, dI) vwCl [(h, .inr (9, [.int 0, .ref q1, .ref q2, .ref q3, .int 0, .int 0, .int 0, .int 0, .int 0, .int 0, .int 0, .int 0, .int 0, .ref q4, .int 0, .null, .int 0, .int 0, .int 0, .null])), (q1, .inl (cI, 4096, .inl (fun _ => 0))), (q2, .inl (cI, 8, .inl (fun _ => 0))), (q3, .inl (cI, 8, .inl (fun _ => 0))), (q4, .inl (cI, 8, .inl (fun _ => 0))), (q5, .inl (cI, 64, .inl (fun _ => 0)))] H := hP
  replace hD : va_D A [(h, .inr (9, [.int 0, .ref q1, .ref q2, .ref q3, .int 0, .int 0, .int 0, .int 0, .int 0, .int 0, .int 0, .int 0, .int 0, .ref q4, .int 0, .null, .int 0, .int 0, .int 0, .null])), (q1, .inl (cI, 4096, .inl (fun _ => 0))), (q2, .inl (cI, 8, .inl (fun _ => 0))), (q3, .inl (cI, 8, .inl (fun _ => 0))), (q4, .inl (cI, 8, .inl (fun _ => 0))), (q5, .inl (cI, 64, .inl (fun _ => 0)))] := hD
  refine W.widen (k := 5) (n := 4184) (by decide) (by decide) ?_
  refine va_putF hx hb hts1 tbX9 tyX9 tyX9_ok nmX9 hown X.2.2.2.1 hP hD hS 0 rfl rfl 15 (by decide) (hts1 _ kc_772) (fun _ h => h) rfl hin rfl (tyX9_ok 15 (by decide)) rfl rfl (Nat.le_of_ble_eq_true rfl) dX9_init_42 (fun H locs hP hD hS => ?_)
  replace hP : va_P (dC, dI) vwCl [(h, .inr (9, [.int 0, .ref q1, .ref q2, .ref q3, .int 0, .int 0, .int 0, .int 0, .int 0, .int 0, .int 0, .int 0, .int 0, .ref q4, .int 0, .ref q5, .int 0, .int 0, .int 0, .null])), (q1, .inl (cI, 4096, .inl (fun _ => 0))), (q2, .inl (cI, 8, .inl (fun _ => 0))), (q3, .inl (cI, 8, .inl (fun _ => 0))), (q4, .inl (cI, 8, .inl (fun _ => 0))), (q5, .inl (cI, 64, .inl (fun _ => 0)))] H := hP
  replace hD : va_D A [(h, .inr (9, [.int 0, .ref q1, .ref q2, .ref q3, .int 0, .int 0, .int 0, .int 0, .int 0, .int 0, .int 0, .int 0, .int 0, .ref q4, .int 0, .ref q5, .int 0, .int 0, .int 0, .null])), (q1, .inl (cI, 4096, .inl (fun _ => 0))), (q2, .inl (cI, 8, .inl (fun _ => 0))), (q3, .inl (cI, 8, .inl (fun _ => 0))), (q4, .inl (cI, 8, .inl (fun _ => 0))), (q5, .inl (cI, 64, .inl (fun _ => 0)))] := hD
  refine lv_aload_n hx hb dX9_init_45 rfl (lv_at hl 0 rfl) ?_
  refine lv_bipush (v := 100) hx hb dX9_init_46 (by decide) ?_
  refine sc_newa (n := 100) (N := 100) S X.2.2.2.1 X.2.2.2.2.1 hP hD hS (by decide) (by decide) (by decide) ⟨by decide, by decide⟩ dX9_init_48 (fun q6 H hP hD hS => ?_)
  replace hP : va_P (dC, dI) vwCl [(h, .inr (9, [.int 0, .ref q1, .ref q2, .ref q3, .int 0, .int 0, .int 0, .int 0, .int 0, .int 0, .int 0, .int 0, .int 0, .ref q4, .int 0, .ref q5, .int 0, .int 0, .int 0, .null])), (q1, .inl (cI, 4096, .inl (fun _ => 0))), (q2, .inl (cI, 8, .inl (fun _ => 0))), (q3, .inl (cI, 8, .inl (fun _ => 0))), (q4, .inl (cI, 8, .inl (fun _ => 0))), (q5, .inl (cI, 64, .inl (fun _ => 0))), (q6, .inl (cI, 100, .inl (fun _ => 0)))] H := hP
  replace hD : va_D A [(h, .inr (9, [.int 0, .ref q1, .ref q2, .ref q3, .int 0, .int 0, .int 0, .int 0, .int 0, .int 0, .int 0, .int 0, .int 0, .ref q4, .int 0, .ref q5, .int 0, .int 0, .int 0, .null])), (q1, .inl (cI, 4096, .inl (fun _ => 0))), (q2, .inl (cI, 8, .inl (fun _ => 0))), (q3, .inl (cI, 8, .inl (fun _ => 0))), (q4, .inl (cI, 8, .inl (fun _ => 0))), (q5, .inl (cI, 64, .inl (fun _ => 0))), (q6, .inl (cI, 100, .inl (fun _ => 0)))] := hD
  refine W.widen (k := 6) (n := 4284) (by decide) (by decide) ?_
  refine va_putF hx hb hts1 tbX9 tyX9 tyX9_ok nmX9 hown X.2.2.2.1 hP hD hS 0 rfl rfl 19 (by decide) (hts1 _ kc_776) (fun _ h => h) rfl hin rfl (tyX9_ok 19 (by decide)) rfl rfl (Nat.le_of_ble_eq_true rfl) dX9_init_50 (fun H locs hP hD hS => ?_)
  replace hP : va_P (dC, dI) vwCl [(h, .inr (9, [.int 0, .ref q1, .ref q2, .ref q3, .int 0, .int 0, .int 0, .int 0, .int 0, .int 0, .int 0, .int 0, .int 0, .ref q4, .int 0, .ref q5, .int 0, .int 0, .int 0, .ref q6])), (q1, .inl (cI, 4096, .inl (fun _ => 0))), (q2, .inl (cI, 8, .inl (fun _ => 0))), (q3, .inl (cI, 8, .inl (fun _ => 0))), (q4, .inl (cI, 8, .inl (fun _ => 0))), (q5, .inl (cI, 64, .inl (fun _ => 0))), (q6, .inl (cI, 100, .inl (fun _ => 0)))] H := hP
  replace hD : va_D A [(h, .inr (9, [.int 0, .ref q1, .ref q2, .ref q3, .int 0, .int 0, .int 0, .int 0, .int 0, .int 0, .int 0, .int 0, .int 0, .ref q4, .int 0, .ref q5, .int 0, .int 0, .int 0, .ref q6])), (q1, .inl (cI, 4096, .inl (fun _ => 0))), (q2, .inl (cI, 8, .inl (fun _ => 0))), (q3, .inl (cI, 8, .inl (fun _ => 0))), (q4, .inl (cI, 8, .inl (fun _ => 0))), (q5, .inl (cI, 64, .inl (fun _ => 0))), (q6, .inl (cI, 100, .inl (fun _ => 0)))] := hD
  refine lv_iconst (v := 0) hx hb dX9_init_53 (by decide) ?_
  refine lv_istore_n (lv' := [(1, .int 0), (0, .ref h)]) hx hb dX9_init_54 rfl hl (by decide) rfl (fun ls hl => ?_)
  refine lv_iload_n hx hb dX9_init_55 rfl (lv_at hl 0 rfl) ?_
  refine lv_bipush (v := 8) hx hb dX9_init_56 (by decide) ?_
  refine lv_icmp_ge (tgt := 75) hx hb dX9_init_58 (by decide) (fun c => absurd c (by decide)) (fun _ => ?_)
  refine lv_aload_n hx hb dX9_init_61 rfl (lv_at hl 1 rfl) ?_
  refine va_get hx hb hts1 tbX9 hown X.2.2.2.1 hP 0 rfl rfl 13 (by decide) (hts1 _ kc_770) (fun _ h => h) (v := .ref q4) rfl dX9_init_62 ?_
  refine lv_iload_n hx hb dX9_init_65 rfl (lv_at hl 0 rfl) ?_
  refine lv_bipush (v := 31) hx hb dX9_init_66 (by decide) ?_
  refine va_iast (i := 0) (x := 31) hx hb X.2.2.2.1 hP hD hS 4 0 rfl rfl (by unfold vp_in; decide) dX9_init_68 (fun H locs hP hD hS => ?_)
  replace hP : va_P (dC, dI) vwCl [(h, .inr (9, [.int 0, .ref q1, .ref q2, .ref q3, .int 0, .int 0, .int 0, .int 0, .int 0, .int 0, .int 0, .int 0, .int 0, .ref q4, .int 0, .ref q5, .int 0, .int 0, .int 0, .ref q6])), (q1, .inl (cI, 4096, .inl (fun _ => 0))), (q2, .inl (cI, 8, .inl (fun _ => 0))), (q3, .inl (cI, 8, .inl (fun _ => 0))), (q4, .inl (cI, 8, .inl (upd (fun _ => 0) 0 31))), (q5, .inl (cI, 64, .inl (fun _ => 0))), (q6, .inl (cI, 100, .inl (fun _ => 0)))] H := hP
  replace hD : va_D A [(h, .inr (9, [.int 0, .ref q1, .ref q2, .ref q3, .int 0, .int 0, .int 0, .int 0, .int 0, .int 0, .int 0, .int 0, .int 0, .ref q4, .int 0, .ref q5, .int 0, .int 0, .int 0, .ref q6])), (q1, .inl (cI, 4096, .inl (fun _ => 0))), (q2, .inl (cI, 8, .inl (fun _ => 0))), (q3, .inl (cI, 8, .inl (fun _ => 0))), (q4, .inl (cI, 8, .inl (upd (fun _ => 0) 0 31))), (q5, .inl (cI, 64, .inl (fun _ => 0))), (q6, .inl (cI, 100, .inl (fun _ => 0)))] := hD
  refine lv_iinc (v := 1) (lv' := [(1, .int 1), (0, .ref h)]) hx hb dX9_init_69 hl (k := 0) rfl (by decide) (by decide) rfl (fun ls hl => ?_)
  refine lv_goto (tgt := 55) hx hb dX9_init_72 (by decide) ?_
  refine lv_iload_n hx hb dX9_init_55 rfl (lv_at hl 0 rfl) ?_
  refine lv_bipush (v := 8) hx hb dX9_init_56 (by decide) ?_
  refine lv_icmp_ge (tgt := 75) hx hb dX9_init_58 (by decide) (fun c => absurd c (by decide)) (fun _ => ?_)
  refine lv_aload_n hx hb dX9_init_61 rfl (lv_at hl 1 rfl) ?_
  refine va_get hx hb hts1 tbX9 hown X.2.2.2.1 hP 0 rfl rfl 13 (by decide) (hts1 _ kc_770) (fun _ h => h) (v := .ref q4) rfl dX9_init_62 ?_
  refine lv_iload_n hx hb dX9_init_65 rfl (lv_at hl 0 rfl) ?_
  refine lv_bipush (v := 31) hx hb dX9_init_66 (by decide) ?_
  refine va_iast (i := 1) (x := 31) hx hb X.2.2.2.1 hP hD hS 4 0 rfl rfl (by unfold vp_in; decide) dX9_init_68 (fun H locs hP hD hS => ?_)
  replace hP : va_P (dC, dI) vwCl [(h, .inr (9, [.int 0, .ref q1, .ref q2, .ref q3, .int 0, .int 0, .int 0, .int 0, .int 0, .int 0, .int 0, .int 0, .int 0, .ref q4, .int 0, .ref q5, .int 0, .int 0, .int 0, .ref q6])), (q1, .inl (cI, 4096, .inl (fun _ => 0))), (q2, .inl (cI, 8, .inl (fun _ => 0))), (q3, .inl (cI, 8, .inl (fun _ => 0))), (q4, .inl (cI, 8, .inl (upd (upd (fun _ => 0) 0 31) 1 31))), (q5, .inl (cI, 64, .inl (fun _ => 0))), (q6, .inl (cI, 100, .inl (fun _ => 0)))] H := hP
  replace hD : va_D A [(h, .inr (9, [.int 0, .ref q1, .ref q2, .ref q3, .int 0, .int 0, .int 0, .int 0, .int 0, .int 0, .int 0, .int 0, .int 0, .ref q4, .int 0, .ref q5, .int 0, .int 0, .int 0, .ref q6])), (q1, .inl (cI, 4096, .inl (fun _ => 0))), (q2, .inl (cI, 8, .inl (fun _ => 0))), (q3, .inl (cI, 8, .inl (fun _ => 0))), (q4, .inl (cI, 8, .inl (upd (upd (fun _ => 0) 0 31) 1 31))), (q5, .inl (cI, 64, .inl (fun _ => 0))), (q6, .inl (cI, 100, .inl (fun _ => 0)))] := hD
  refine lv_iinc (v := 2) (lv' := [(1, .int 2), (0, .ref h)]) hx hb dX9_init_69 hl (k := 0) rfl (by decide) (by decide) rfl (fun ls hl => ?_)
  refine lv_goto (tgt := 55) hx hb dX9_init_72 (by decide) ?_
  refine lv_iload_n hx hb dX9_init_55 rfl (lv_at hl 0 rfl) ?_
  refine lv_bipush (v := 8) hx hb dX9_init_56 (by decide) ?_
  refine lv_icmp_ge (tgt := 75) hx hb dX9_init_58 (by decide) (fun c => absurd c (by decide)) (fun _ => ?_)
  refine lv_aload_n hx hb dX9_init_61 rfl (lv_at hl 1 rfl) ?_
  refine va_get hx hb hts1 tbX9 hown X.2.2.2.1 hP 0 rfl rfl 13 (by decide) (hts1 _ kc_770) (fun _ h => h) (v := .ref q4) rfl dX9_init_62 ?_
  refine lv_iload_n hx hb dX9_init_65 rfl (lv_at hl 0 rfl) ?_
  refine lv_bipush (v := 31) hx hb dX9_init_66 (by decide) ?_
  refine va_iast (i := 2) (x := 31) hx hb X.2.2.2.1 hP hD hS 4 0 rfl rfl (by unfold vp_in; decide) dX9_init_68 (fun H locs hP hD hS => ?_)
  replace hP : va_P (dC, dI) vwCl [(h, .inr (9, [.int 0, .ref q1, .ref q2, .ref q3, .int 0, .int 0, .int 0, .int 0, .int 0, .int 0, .int 0, .int 0, .int 0, .ref q4, .int 0, .ref q5, .int 0, .int 0, .int 0, .ref q6])), (q1, .inl (cI, 4096, .inl (fun _ => 0))), (q2, .inl (cI, 8, .inl (fun _ => 0))), (q3, .inl (cI, 8, .inl (fun _ => 0))), (q4, .inl (cI, 8, .inl (upd (upd (upd (fun _ => 0) 0 31) 1 31) 2 31))), (q5, .inl (cI, 64, .inl (fun _ => 0))), (q6, .inl (cI, 100, .inl (fun _ => 0)))] H := hP
  replace hD : va_D A [(h, .inr (9, [.int 0, .ref q1, .ref q2, .ref q3, .int 0, .int 0, .int 0, .int 0, .int 0, .int 0, .int 0, .int 0, .int 0, .ref q4, .int 0, .ref q5, .int 0, .int 0, .int 0, .ref q6])), (q1, .inl (cI, 4096, .inl (fun _ => 0))), (q2, .inl (cI, 8, .inl (fun _ => 0))), (q3, .inl (cI, 8, .inl (fun _ => 0))), (q4, .inl (cI, 8, .inl (upd (upd (upd (fun _ => 0) 0 31) 1 31) 2 31))), (q5, .inl (cI, 64, .inl (fun _ => 0))), (q6, .inl (cI, 100, .inl (fun _ => 0)))] := hD
  refine lv_iinc (v := 3) (lv' := [(1, .int 3), (0, .ref h)]) hx hb dX9_init_69 hl (k := 0) rfl (by decide) (by decide) rfl (fun ls hl => ?_)
  refine lv_goto (tgt := 55) hx hb dX9_init_72 (by decide) ?_
  refine lv_iload_n hx hb dX9_init_55 rfl (lv_at hl 0 rfl) ?_
  refine lv_bipush (v := 8) hx hb dX9_init_56 (by decide) ?_
  refine lv_icmp_ge (tgt := 75) hx hb dX9_init_58 (by decide) (fun c => absurd c (by decide)) (fun _ => ?_)
  refine lv_aload_n hx hb dX9_init_61 rfl (lv_at hl 1 rfl) ?_
  refine va_get hx hb hts1 tbX9 hown X.2.2.2.1 hP 0 rfl rfl 13 (by decide) (hts1 _ kc_770) (fun _ h => h) (v := .ref q4) rfl dX9_init_62 ?_
  refine lv_iload_n hx hb dX9_init_65 rfl (lv_at hl 0 rfl) ?_
  refine lv_bipush (v := 31) hx hb dX9_init_66 (by decide) ?_
  refine va_iast (i := 3) (x := 31) hx hb X.2.2.2.1 hP hD hS 4 0 rfl rfl (by unfold vp_in; decide) dX9_init_68 (fun H locs hP hD hS => ?_)
  replace hP : va_P (dC, dI) vwCl [(h, .inr (9, [.int 0, .ref q1, .ref q2, .ref q3, .int 0, .int 0, .int 0, .int 0, .int 0, .int 0, .int 0, .int 0, .int 0, .ref q4, .int 0, .ref q5, .int 0, .int 0, .int 0, .ref q6])), (q1, .inl (cI, 4096, .inl (fun _ => 0))), (q2, .inl (cI, 8, .inl (fun _ => 0))), (q3, .inl (cI, 8, .inl (fun _ => 0))), (q4, .inl (cI, 8, .inl (upd (upd (upd (upd (fun _ => 0) 0 31) 1 31) 2 31) 3 31))), (q5, .inl (cI, 64, .inl (fun _ => 0))), (q6, .inl (cI, 100, .inl (fun _ => 0)))] H := hP
  replace hD : va_D A [(h, .inr (9, [.int 0, .ref q1, .ref q2, .ref q3, .int 0, .int 0, .int 0, .int 0, .int 0, .int 0, .int 0, .int 0, .int 0, .ref q4, .int 0, .ref q5, .int 0, .int 0, .int 0, .ref q6])), (q1, .inl (cI, 4096, .inl (fun _ => 0))), (q2, .inl (cI, 8, .inl (fun _ => 0))), (q3, .inl (cI, 8, .inl (fun _ => 0))), (q4, .inl (cI, 8, .inl (upd (upd (upd (upd (fun _ => 0) 0 31) 1 31) 2 31) 3 31))), (q5, .inl (cI, 64, .inl (fun _ => 0))), (q6, .inl (cI, 100, .inl (fun _ => 0)))] := hD
  refine lv_iinc (v := 4) (lv' := [(1, .int 4), (0, .ref h)]) hx hb dX9_init_69 hl (k := 0) rfl (by decide) (by decide) rfl (fun ls hl => ?_)
  refine lv_goto (tgt := 55) hx hb dX9_init_72 (by decide) ?_
  refine lv_iload_n hx hb dX9_init_55 rfl (lv_at hl 0 rfl) ?_
  refine lv_bipush (v := 8) hx hb dX9_init_56 (by decide) ?_
  refine lv_icmp_ge (tgt := 75) hx hb dX9_init_58 (by decide) (fun c => absurd c (by decide)) (fun _ => ?_)
  refine lv_aload_n hx hb dX9_init_61 rfl (lv_at hl 1 rfl) ?_
  refine va_get hx hb hts1 tbX9 hown X.2.2.2.1 hP 0 rfl rfl 13 (by decide) (hts1 _ kc_770) (fun _ h => h) (v := .ref q4) rfl dX9_init_62 ?_
  refine lv_iload_n hx hb dX9_init_65 rfl (lv_at hl 0 rfl) ?_
  refine lv_bipush (v := 31) hx hb dX9_init_66 (by decide) ?_
  refine va_iast (i := 4) (x := 31) hx hb X.2.2.2.1 hP hD hS 4 0 rfl rfl (by unfold vp_in; decide) dX9_init_68 (fun H locs hP hD hS => ?_)
  replace hP : va_P (dC, dI) vwCl [(h, .inr (9, [.int 0, .ref q1, .ref q2, .ref q3, .int 0, .int 0, .int 0, .int 0, .int 0, .int 0, .int 0, .int 0, .int 0, .ref q4, .int 0, .ref q5, .int 0, .int 0, .int 0, .ref q6])), (q1, .inl (cI, 4096, .inl (fun _ => 0))), (q2, .inl (cI, 8, .inl (fun _ => 0))), (q3, .inl (cI, 8, .inl (fun _ => 0))), (q4, .inl (cI, 8, .inl (upd (upd (upd (upd (upd (fun _ => 0) 0 31) 1 31) 2 31) 3 31) 4 31))), (q5, .inl (cI, 64, .inl (fun _ => 0))), (q6, .inl (cI, 100, .inl (fun _ => 0)))] H := hP
  replace hD : va_D A [(h, .inr (9, [.int 0, .ref q1, .ref q2, .ref q3, .int 0, .int 0, .int 0, .int 0, .int 0, .int 0, .int 0, .int 0, .int 0, .ref q4, .int 0, .ref q5, .int 0, .int 0, .int 0, .ref q6])), (q1, .inl (cI, 4096, .inl (fun _ => 0))), (q2, .inl (cI, 8, .inl (fun _ => 0))), (q3, .inl (cI, 8, .inl (fun _ => 0))), (q4, .inl (cI, 8, .inl (upd (upd (upd (upd (upd (fun _ => 0) 0 31) 1 31) 2 31) 3 31) 4 31))), (q5, .inl (cI, 64, .inl (fun _ => 0))), (q6, .inl (cI, 100, .inl (fun _ => 0)))] := hD
  refine lv_iinc (v := 5) (lv' := [(1, .int 5), (0, .ref h)]) hx hb dX9_init_69 hl (k := 0) rfl (by decide) (by decide) rfl (fun ls hl => ?_)
  refine lv_goto (tgt := 55) hx hb dX9_init_72 (by decide) ?_
  refine lv_iload_n hx hb dX9_init_55 rfl (lv_at hl 0 rfl) ?_
  refine lv_bipush (v := 8) hx hb dX9_init_56 (by decide) ?_
  refine lv_icmp_ge (tgt := 75) hx hb dX9_init_58 (by decide) (fun c => absurd c (by decide)) (fun _ => ?_)
  refine lv_aload_n hx hb dX9_init_61 rfl (lv_at hl 1 rfl) ?_
  refine va_get hx hb hts1 tbX9 hown X.2.2.2.1 hP 0 rfl rfl 13 (by decide) (hts1 _ kc_770) (fun _ h => h) (v := .ref q4) rfl dX9_init_62 ?_
  refine lv_iload_n hx hb dX9_init_65 rfl (lv_at hl 0 rfl) ?_
  refine lv_bipush (v := 31) hx hb dX9_init_66 (by decide) ?_
  refine va_iast (i := 5) (x := 31) hx hb X.2.2.2.1 hP hD hS 4 0 rfl rfl (by unfold vp_in; decide) dX9_init_68 (fun H locs hP hD hS => ?_)
  replace hP : va_P (dC, dI) vwCl [(h, .inr (9, [.int 0, .ref q1, .ref q2, .ref q3, .int 0, .int 0, .int 0, .int 0, .int 0, .int 0, .int 0, .int 0, .int 0, .ref q4, .int 0, .ref q5, .int 0, .int 0, .int 0, .ref q6])), (q1, .inl (cI, 4096, .inl (fun _ => 0))), (q2, .inl (cI, 8, .inl (fun _ => 0))), (q3, .inl (cI, 8, .inl (fun _ => 0))), (q4, .inl (cI, 8, .inl (upd (upd (upd (upd (upd (upd (fun _ => 0) 0 31) 1 31) 2 31) 3 31) 4 31) 5 31))), (q5, .inl (cI, 64, .inl (fun _ => 0))), (q6, .inl (cI, 100, .inl (fun _ => 0)))] H := hP
  replace hD : va_D A [(h, .inr (9, [.int 0, .ref q1, .ref q2, .ref q3, .int 0, .int 0, .int 0, .int 0, .int 0, .int 0, .int 0, .int 0, .int 0, .ref q4, .int 0, .ref q5, .int 0, .int 0, .int 0, .ref q6])), (q1, .inl (cI, 4096, .inl (fun _ => 0))), (q2, .inl (cI, 8, .inl (fun _ => 0))), (q3, .inl (cI, 8, .inl (fun _ => 0))), (q4, .inl (cI, 8, .inl (upd (upd (upd (upd (upd (upd (fun _ => 0) 0 31) 1 31) 2 31) 3 31) 4 31) 5 31))), (q5, .inl (cI, 64, .inl (fun _ => 0))), (q6, .inl (cI, 100, .inl (fun _ => 0)))] := hD
  refine lv_iinc (v := 6) (lv' := [(1, .int 6), (0, .ref h)]) hx hb dX9_init_69 hl (k := 0) rfl (by decide) (by decide) rfl (fun ls hl => ?_)
  refine lv_goto (tgt := 55) hx hb dX9_init_72 (by decide) ?_
  refine lv_iload_n hx hb dX9_init_55 rfl (lv_at hl 0 rfl) ?_
  refine lv_bipush (v := 8) hx hb dX9_init_56 (by decide) ?_
  refine lv_icmp_ge (tgt := 75) hx hb dX9_init_58 (by decide) (fun c => absurd c (by decide)) (fun _ => ?_)
  refine lv_aload_n hx hb dX9_init_61 rfl (lv_at hl 1 rfl) ?_
  refine va_get hx hb hts1 tbX9 hown X.2.2.2.1 hP 0 rfl rfl 13 (by decide) (hts1 _ kc_770) (fun _ h => h) (v := .ref q4) rfl dX9_init_62 ?_
  refine lv_iload_n hx hb dX9_init_65 rfl (lv_at hl 0 rfl) ?_
  refine lv_bipush (v := 31) hx hb dX9_init_66 (by decide) ?_
  refine va_iast (i := 6) (x := 31) hx hb X.2.2.2.1 hP hD hS 4 0 rfl rfl (by unfold vp_in; decide) dX9_init_68 (fun H locs hP hD hS => ?_)
  replace hP : va_P (dC, dI) vwCl [(h, .inr (9, [.int 0, .ref q1, .ref q2, .ref q3, .int 0, .int 0, .int 0, .int 0, .int 0, .int 0, .int 0, .int 0, .int 0, .ref q4, .int 0, .ref q5, .int 0, .int 0, .int 0, .ref q6])), (q1, .inl (cI, 4096, .inl (fun _ => 0))), (q2, .inl (cI, 8, .inl (fun _ => 0))), (q3, .inl (cI, 8, .inl (fun _ => 0))), (q4, .inl (cI, 8, .inl (upd (upd (upd (upd (upd (upd (upd (fun _ => 0) 0 31) 1 31) 2 31) 3 31) 4 31) 5 31) 6 31))), (q5, .inl (cI, 64, .inl (fun _ => 0))), (q6, .inl (cI, 100, .inl (fun _ => 0)))] H := hP
  replace hD : va_D A [(h, .inr (9, [.int 0, .ref q1, .ref q2, .ref q3, .int 0, .int 0, .int 0, .int 0, .int 0, .int 0, .int 0, .int 0, .int 0, .ref q4, .int 0, .ref q5, .int 0, .int 0, .int 0, .ref q6])), (q1, .inl (cI, 4096, .inl (fun _ => 0))), (q2, .inl (cI, 8, .inl (fun _ => 0))), (q3, .inl (cI, 8, .inl (fun _ => 0))), (q4, .inl (cI, 8, .inl (upd (upd (upd (upd (upd (upd (upd (fun _ => 0) 0 31) 1 31) 2 31) 3 31) 4 31) 5 31) 6 31))), (q5, .inl (cI, 64, .inl (fun _ => 0))), (q6, .inl (cI, 100, .inl (fun _ => 0)))] := hD
  refine lv_iinc (v := 7) (lv' := [(1, .int 7), (0, .ref h)]) hx hb dX9_init_69 hl (k := 0) rfl (by decide) (by decide) rfl (fun ls hl => ?_)
  refine lv_goto (tgt := 55) hx hb dX9_init_72 (by decide) ?_
  refine lv_iload_n hx hb dX9_init_55 rfl (lv_at hl 0 rfl) ?_
  refine lv_bipush (v := 8) hx hb dX9_init_56 (by decide) ?_
  refine lv_icmp_ge (tgt := 75) hx hb dX9_init_58 (by decide) (fun c => absurd c (by decide)) (fun _ => ?_)
  refine lv_aload_n hx hb dX9_init_61 rfl (lv_at hl 1 rfl) ?_
  refine va_get hx hb hts1 tbX9 hown X.2.2.2.1 hP 0 rfl rfl 13 (by decide) (hts1 _ kc_770) (fun _ h => h) (v := .ref q4) rfl dX9_init_62 ?_
  refine lv_iload_n hx hb dX9_init_65 rfl (lv_at hl 0 rfl) ?_
  refine lv_bipush (v := 31) hx hb dX9_init_66 (by decide) ?_
  refine va_iast (i := 7) (x := 31) hx hb X.2.2.2.1 hP hD hS 4 0 rfl rfl (by unfold vp_in; decide) dX9_init_68 (fun H locs hP hD hS => ?_)
  replace hP : va_P (dC, dI) vwCl [(h, .inr (9, [.int 0, .ref q1, .ref q2, .ref q3, .int 0, .int 0, .int 0, .int 0, .int 0, .int 0, .int 0, .int 0, .int 0, .ref q4, .int 0, .ref q5, .int 0, .int 0, .int 0, .ref q6])), (q1, .inl (cI, 4096, .inl (fun _ => 0))), (q2, .inl (cI, 8, .inl (fun _ => 0))), (q3, .inl (cI, 8, .inl (fun _ => 0))), (q4, .inl (cI, 8, .inl (upd (upd (upd (upd (upd (upd (upd (upd (fun _ => 0) 0 31) 1 31) 2 31) 3 31) 4 31) 5 31) 6 31) 7 31))), (q5, .inl (cI, 64, .inl (fun _ => 0))), (q6, .inl (cI, 100, .inl (fun _ => 0)))] H := hP
  replace hD : va_D A [(h, .inr (9, [.int 0, .ref q1, .ref q2, .ref q3, .int 0, .int 0, .int 0, .int 0, .int 0, .int 0, .int 0, .int 0, .int 0, .ref q4, .int 0, .ref q5, .int 0, .int 0, .int 0, .ref q6])), (q1, .inl (cI, 4096, .inl (fun _ => 0))), (q2, .inl (cI, 8, .inl (fun _ => 0))), (q3, .inl (cI, 8, .inl (fun _ => 0))), (q4, .inl (cI, 8, .inl (upd (upd (upd (upd (upd (upd (upd (upd (fun _ => 0) 0 31) 1 31) 2 31) 3 31) 4 31) 5 31) 6 31) 7 31))), (q5, .inl (cI, 64, .inl (fun _ => 0))), (q6, .inl (cI, 100, .inl (fun _ => 0)))] := hD
  refine lv_iinc (v := 8) (lv' := [(1, .int 8), (0, .ref h)]) hx hb dX9_init_69 hl (k := 0) rfl (by decide) (by decide) rfl (fun ls hl => ?_)
  refine lv_goto (tgt := 55) hx hb dX9_init_72 (by decide) ?_
  refine lv_iload_n hx hb dX9_init_55 rfl (lv_at hl 0 rfl) ?_
  refine lv_bipush (v := 8) hx hb dX9_init_56 (by decide) ?_
  refine lv_icmp_ge (tgt := 75) hx hb dX9_init_58 (by decide) (fun _ => ?_) (fun c => absurd (by decide) c)
  have hP' := hP.sub (ws' := mW (fun i => ([h, q1, q2, q3, q4, q5, q6] : List Nat).getD i 0) cI z1) [0, 1, 2, 3, 4, 5, 6] rfl
  have hD' := hD.sub (ws' := mW (fun i => ([h, q1, q2, q3, q4, q5, q6] : List Nat).getD i 0) cI z1) [0, 1, 2, 3, 4, 5, 6] (by decide) rfl
  exact sc_ret (wf := (fun u => mW u cI z1)) X (fun i => ([h, q1, q2, q3, q4, q5, q6] : List Nat).getD i 0) rfl hP' hD' hS dX9_init_75
