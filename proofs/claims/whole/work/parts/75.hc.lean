/-! the helpers of the law: words, contracts -/
theorem calX8_poke : sw_calV yX8_poke cX8_poke 5 (some .int) 3 := ⟨sw_in 211 (by decide +kernel) rfl, sw_in 209 (by decide +kernel) rfl, sw_in 210 (by decide +kernel) rfl, sw_in 1 (by decide +kernel) rfl, by decide, by decide, by decide +kernel⟩
theorem calX9_poke : sw_calV yX9_poke cX9_poke 5 (some .int) 3 := ⟨sw_in 1019 (by decide +kernel) rfl, sw_in 1017 (by decide +kernel) rfl, sw_in 1018 (by decide +kernel) rfl, sw_in 10 (by decide +kernel) rfl, by decide, by decide, by decide +kernel⟩
theorem calX8_peek : sw_calV yX8_peek cX8_peek 2 (some .int) 1 := ⟨sw_in 290 (by decide +kernel) rfl, sw_in 288 (by decide +kernel) rfl, sw_in 289 (by decide +kernel) rfl, sw_in 1 (by decide +kernel) rfl, by decide, by decide, by decide +kernel⟩
theorem calX9_peek : sw_calV yX9_peek cX9_peek 2 (some .int) 1 := ⟨sw_in 1023 (by decide +kernel) rfl, sw_in 1021 (by decide +kernel) rfl, sw_in 1022 (by decide +kernel) rfl, sw_in 10 (by decide +kernel) rfl, by decide, by decide, by decide +kernel⟩
theorem calX8_set : sw_calV yX8_set cX8_set 3 none 2 := ⟨sw_in 301 (by decide +kernel) rfl, sw_in 299 (by decide +kernel) rfl, sw_in 300 (by decide +kernel) rfl, sw_in 1 (by decide +kernel) rfl, by decide, by decide, by decide +kernel⟩
theorem calX9_set : sw_calV yX9_set cX9_set 6 none 2 := ⟨sw_in 1027 (by decide +kernel) rfl, sw_in 1025 (by decide +kernel) rfl, sw_in 1026 (by decide +kernel) rfl, sw_in 10 (by decide +kernel) rfl, by decide, by decide, by decide +kernel⟩
theorem calX8_get : sw_calV yX8_get cX8_get 2 (some .int) 1 := ⟨sw_in 318 (by decide +kernel) rfl, sw_in 316 (by decide +kernel) rfl, sw_in 317 (by decide +kernel) rfl, sw_in 1 (by decide +kernel) rfl, by decide, by decide, by decide +kernel⟩
theorem calX9_get : sw_calV yX9_get cX9_get 4 (some .int) 1 := ⟨sw_in 1031 (by decide +kernel) rfl, sw_in 1029 (by decide +kernel) rfl, sw_in 1030 (by decide +kernel) rfl, sw_in 10 (by decide +kernel) rfl, by decide, by decide, by decide +kernel⟩
theorem calX8_key : sw_calV yX8_key cX8_key 3 none 2 := ⟨sw_in 329 (by decide +kernel) rfl, sw_in 327 (by decide +kernel) rfl, sw_in 328 (by decide +kernel) rfl, sw_in 1 (by decide +kernel) rfl, by decide, by decide, by decide +kernel⟩
theorem calX9_key : sw_calV yX9_key cX9_key 3 none 2 := ⟨sw_in 1035 (by decide +kernel) rfl, sw_in 1033 (by decide +kernel) rfl, sw_in 1034 (by decide +kernel) rfl, sw_in 10 (by decide +kernel) rfl, by decide, by decide, by decide +kernel⟩
theorem calX8_edge : sw_calV yX8_edge cX8_edge 2 (some .int) 1 := ⟨sw_in 337 (by decide +kernel) rfl, sw_in 335 (by decide +kernel) rfl, sw_in 336 (by decide +kernel) rfl, sw_in 1 (by decide +kernel) rfl, by decide, by decide, by decide +kernel⟩
theorem calX9_edge : sw_calV yX9_edge cX9_edge 2 (some .int) 1 := ⟨sw_in 1039 (by decide +kernel) rfl, sw_in 1037 (by decide +kernel) rfl, sw_in 1038 (by decide +kernel) rfl, sw_in 10 (by decide +kernel) rfl, by decide, by decide, by decide +kernel⟩
theorem calX8_run : sw_calV yX8_run cX8_run 4 (some .boolean) 1 := ⟨sw_in 368 (by decide +kernel) rfl, sw_in 366 (by decide +kernel) rfl, sw_in 367 (by decide +kernel) rfl, sw_in 1 (by decide +kernel) rfl, by decide, by decide, by decide +kernel⟩
theorem calX9_run : sw_calV yX9_run cX9_run 3 (some .boolean) 1 := ⟨sw_in 825 (by decide +kernel) rfl, sw_in 823 (by decide +kernel) rfl, sw_in 824 (by decide +kernel) rfl, sw_in 10 (by decide +kernel) rfl, by decide, by decide, by decide +kernel⟩
theorem calX8_count : sw_calV yX8_count cX8_count 2 (some .int) 1 := ⟨sw_in 750 (by decide +kernel) rfl, sw_in 748 (by decide +kernel) rfl, sw_in 749 (by decide +kernel) rfl, sw_in 1 (by decide +kernel) rfl, by decide, by decide, by decide +kernel⟩
theorem calX9_count : sw_calV yX9_count cX9_count 2 (some .int) 1 := ⟨sw_in 1044 (by decide +kernel) rfl, sw_in 1042 (by decide +kernel) rfl, sw_in 1043 (by decide +kernel) rfl, sw_in 10 (by decide +kernel) rfl, by decide, by decide, by decide +kernel⟩
theorem calX8_change : sw_calV yX8_change cX8_change 2 (some .int) 1 := ⟨sw_in 196 (by decide +kernel) rfl, sw_in 194 (by decide +kernel) rfl, sw_in 195 (by decide +kernel) rfl, sw_in 1 (by decide +kernel) rfl, by decide, by decide, by decide +kernel⟩
theorem calX9_change : sw_calV yX9_change cX9_change 2 (some .int) 1 := ⟨sw_in 1048 (by decide +kernel) rfl, sw_in 1046 (by decide +kernel) rfl, sw_in 1047 (by decide +kernel) rfl, sw_in 10 (by decide +kernel) rfl, by decide, by decide, by decide +kernel⟩
theorem calX9_thrown : sw_calV yX9_thrown cX9_thrown 1 (some .int) 0 := ⟨sw_in 821 (by decide +kernel) rfl, sw_in 819 (by decide +kernel) rfl, sw_in 820 (by decide +kernel) rfl, sw_in 10 (by decide +kernel) rfl, by decide, by decide, by decide +kernel⟩
theorem lk_X8_poke : Cond.methodLink RL 7 yX8_poke ∈ sw_tb := sw_in 208 (by decide +kernel) rfl
theorem lk_X8_peek : Cond.methodLink RL 15 yX8_peek ∈ sw_tb := sw_in 287 (by decide +kernel) rfl
theorem lk_X8_set : Cond.methodLink RL 19 yX8_set ∈ sw_tb := sw_in 298 (by decide +kernel) rfl
theorem lk_X8_get : Cond.methodLink RL 23 yX8_get ∈ sw_tb := sw_in 315 (by decide +kernel) rfl
theorem lk_X8_key : Cond.methodLink RL 26 yX8_key ∈ sw_tb := sw_in 326 (by decide +kernel) rfl
theorem lk_X8_edge : Cond.methodLink RL 29 yX8_edge ∈ sw_tb := sw_in 334 (by decide +kernel) rfl
theorem lk_X8_run : Cond.methodLink RL 34 yX8_run ∈ sw_tb := sw_in 365 (by decide +kernel) rfl
theorem lk_X8_count : Cond.methodLink RL 38 yX8_count ∈ sw_tb := sw_in 747 (by decide +kernel) rfl
theorem lk_X9_poke : Cond.methodLink RL 50 yX9_poke ∈ sw_tb := sw_in 1016 (by decide +kernel) rfl
theorem lk_X9_thrown : Cond.methodLink RL 51 yX9_thrown ∈ sw_tb := sw_in 818 (by decide +kernel) rfl
theorem lk_X9_peek : Cond.methodLink RL 58 yX9_peek ∈ sw_tb := sw_in 1020 (by decide +kernel) rfl
theorem lk_X9_set : Cond.methodLink RL 62 yX9_set ∈ sw_tb := sw_in 1024 (by decide +kernel) rfl
theorem lk_X9_get : Cond.methodLink RL 65 yX9_get ∈ sw_tb := sw_in 1028 (by decide +kernel) rfl
theorem lk_X9_key : Cond.methodLink RL 68 yX9_key ∈ sw_tb := sw_in 1032 (by decide +kernel) rfl
theorem lk_X9_edge : Cond.methodLink RL 71 yX9_edge ∈ sw_tb := sw_in 1036 (by decide +kernel) rfl
theorem lk_X9_run : Cond.methodLink RL 74 yX9_run ∈ sw_tb := sw_in 822 (by decide +kernel) rfl
theorem lk_X9_count : Cond.methodLink RL 77 yX9_count ∈ sw_tb := sw_in 1041 (by decide +kernel) rfl
theorem lk_X8_change : Cond.methodLink RL 78 yX8_change ∈ sw_tb := sw_in 193 (by decide +kernel) rfl
theorem lk_X9_change : Cond.methodLink RL 81 yX9_change ∈ sw_tb := sw_in 1045 (by decide +kernel) rfl
theorem lk_clA : Cond.classLink RL 13 eA ∈ sw_tb := sw_in 207 (by decide +kernel) rfl
theorem lk_clS : Cond.classLink RL 32 eS ∈ sw_tb := sw_in 333 (by decide +kernel) rfl
def oW (o : Nat) (cL : ClassId) (g : Nat → Int64) : va_W := [(o, .inl (cL, 1, .inr (.inl g)))]
theorem dL_poke_0 : decode cL_poke 0 = .ok (.aload 4, 2) := by decide +kernel
theorem dL_poke_2 : decode cL_poke 2 = .ok (.iconst 0, 1) := by decide +kernel
theorem dL_poke_3 : decode cL_poke 3 = .ok (.aload_n 0, 1) := by decide +kernel
theorem dL_poke_4 : decode cL_poke 4 = .ok (.iload_n 1, 1) := by decide +kernel
theorem dL_poke_5 : decode cL_poke 5 = .ok (.iload_n 2, 1) := by decide +kernel
theorem dL_poke_6 : decode cL_poke 6 = .ok (.iload_n 3, 1) := by decide +kernel
theorem dL_poke_7 : decode cL_poke 7 = .ok (.invokevirtual 7, 3) := by decide +kernel
theorem dL_poke_10 : decode cL_poke 10 = .ok (.i2l, 1) := by decide +kernel
theorem dL_poke_11 : decode cL_poke 11 = .ok (.lastore, 1) := by decide +kernel
theorem dL_poke_12 : decode cL_poke 12 = .ok (.goto 7, 3) := by decide +kernel
theorem dL_poke_15 : decode cL_poke 15 = .ok (.astore 5, 2) := by decide +kernel
theorem dL_poke_17 : decode cL_poke 17 = .ok (.iconst 1, 1) := by decide +kernel
theorem dL_poke_18 : decode cL_poke 18 = .ok (.ireturn, 1) := by decide +kernel
theorem dL_poke_19 : decode cL_poke 19 = .ok (.iconst 0, 1) := by decide +kernel
theorem dL_poke_20 : decode cL_poke 20 = .ok (.ireturn, 1) := by decide +kernel
theorem calL_poke : sh_cal yL_poke cL_poke 6 (some .int) [(0, 12, 15, 13)] RL 45 5 := ⟨⟨sw_in 206 (by decide +kernel) rfl, sw_in 205 (by decide +kernel) rfl, sw_in 0 (by decide +kernel) rfl, sw_in 204 (by decide +kernel) rfl⟩, by decide, by decide, by decide +kernel⟩
set_option maxHeartbeats 4000000 in
set_option maxRecDepth 100000 in
theorem hL_poke {l : Launch} {dC : Nat → ClassId} {dI : Nat → Nat → Nat} {ad : Nat → Nat} {cI cL : ClassId} {o : Nat} {g : Nat → Int64} {p1 p2 p3 : Int32} {c0 c1 : zS} {v : Int32} (h : fX8_poke p1 p2 p3 c0 = some (v, c1)) : sh_M l yL_poke (wsH yL_poke cL_poke 6 (some .int) [(0, 12, 15, 13)]) { frames := 7, cells := 1, slots := 6, locals := 124 } (dC, dI) vwCl [(cI, .int), (cL, .long)] tF [.ref (ad 0), .int p1, .int p2, .int p3, .ref o] (cW ad cI c0 ++ oW o cL g) (cW ad cI c1 ++ oW o cL (vp_updL g 0 v.toInt64)) 0 := by
  intro sz
  refine sh_of (cc := cL_poke) (maxL := 6) (ret := some .int) (by decide) rfl (Nat.le_of_ble_eq_true rfl) ?_
  intro p e s m args below meth c A ls hAe X htab hP hD hS hl
  rw [hAe]
  have hx := X.1.1
  have hb := X.1.2.1
  have hown := X.1.2.2.2.1
  have hts := X.1.2.2.2.2
  have S : CallFix p m c cL_poke 6 s args sw_tb RL := ⟨hx, hb, X.1.2.2.1, hown, fun w h => hts w (List.mem_cons_of_mem _ h)⟩
  have hKc : va_K (dC, dI) vwCl [(cI, .int)] s := X.2.2.2.1.sub [0] rfl
  have h2 := sg_2.spl hP hD
  replace hl : lv_has ls 6 [(0, .ref (ad 0)), (1, .int p1), (2, .int p2), (3, .int p3), (4, .ref o)] := hl
  refine lv_aload hx hb dL_poke_0 (lv_at hl 4 rfl) ?_
  refine lv_iconst (v := 0) hx hb dL_poke_2 (by decide) ?_
  refine lv_aload_n hx hb dL_poke_3 rfl (lv_at hl 0 rfl) ?_
  refine lv_iload_n hx hb dL_poke_4 rfl (lv_at hl 1 rfl) ?_
  refine lv_iload_n hx hb dL_poke_5 rfl (lv_at hl 2 rfl) ?_
  refine lv_iload_n hx hb dL_poke_6 rfl (lv_at hl 3 rfl) ?_
  refine sg_vi (wr := oW o cL g) (rest := [.int 0, .ref o]) S c_good hKc X.2.2.2.2.1 X.2.2.2.2.2.1 (cX8_poke_m h) calX8_poke lk_X8_poke h2 hS 0 8 rfl rfl rfl ⟨by decide, by decide⟩ ⟨by decide, by decide⟩ rfl hl.1 rfl (Nat.le_of_ble_eq_true rfl) dL_poke_7 (fun H locs h2 hS => ?_)
  refine lv_i2l hx hb dL_poke_10 rfl ?_
  obtain ⟨hP, hD⟩ := h2.symm.app
  refine va_last hx hb X.2.2.2.1 hP hD hS 0 1 rfl rfl (by unfold vp_in; decide) dL_poke_11 (fun H locs hP hD hS => ?_)
  replace hP : va_P (dC, dI) vwCl (oW o cL (vp_updL g 0 v.toInt64) ++ cW ad cI c1) H := hP
  replace hD : va_D A (oW o cL (vp_updL g 0 v.toInt64) ++ cW ad cI c1) := hD
  obtain ⟨hP, hD⟩ := (sg_2.spl hP hD).symm.app
  refine lv_goto (tgt := 19) hx hb dL_poke_12 (by decide) ?_
  refine lv_iconst (v := 0) hx hb dL_poke_19 (by decide) ?_
  refine W.widen (k := 1) (n := 6) (by decide) (by decide) ?_
  exact sw_iret X hP hD hS dL_poke_20
set_option maxHeartbeats 4000000 in
set_option maxRecDepth 100000 in
theorem hL_poke_1 {l : Launch} {dC : Nat → ClassId} {dI : Nat → Nat → Nat} {ad : Nat → Nat} {cI cL : ClassId} {o : Nat} {g : Nat → Int64} {p1 p2 p3 : Int32} {c0 : zS} (hst : l.stackTraces = false) (h : tX8_poke p1 p3 = some 1) : sh_M l yL_poke (wsH yL_poke cL_poke 6 (some .int) [(0, 12, 15, 13)]) { frames := 7, cells := 1, slots := 6, locals := 124 } (dC, dI) vwCl [(cI, .int), (cL, .long)] tF [.ref (ad 0), .int p1, .int p2, .int p3, .ref o] (cW ad cI c0 ++ oW o cL g) (cW ad cI c0 ++ oW o cL g) 1 := by
  intro sz
  refine sh_of (cc := cL_poke) (maxL := 6) (ret := some .int) (by decide) rfl (Nat.le_of_ble_eq_true rfl) ?_
  intro p e s m args below meth c A ls hAe X htab hP hD hS hl
  rw [hAe]
  have hx := X.1.1
  have hb := X.1.2.1
  have hown := X.1.2.2.2.1
  have hts := X.1.2.2.2.2
  have S : CallFix p m c cL_poke 6 s args sw_tb RL := ⟨hx, hb, X.1.2.2.1, hown, fun w h => hts w (List.mem_cons_of_mem _ h)⟩
  have hKc : va_K (dC, dI) vwCl [(cI, .int)] s := X.2.2.2.1.sub [0] rfl
  have h2 := sg_2.spl hP hD
  replace hl : lv_has ls 6 [(0, .ref (ad 0)), (1, .int p1), (2, .int p2), (3, .int p3), (4, .ref o)] := hl
  refine lv_aload hx hb dL_poke_0 (lv_at hl 4 rfl) ?_
  refine lv_iconst (v := 0) hx hb dL_poke_2 (by decide) ?_
  refine lv_aload_n hx hb dL_poke_3 rfl (lv_at hl 0 rfl) ?_
  refine lv_iload_n hx hb dL_poke_4 rfl (lv_at hl 1 rfl) ?_
  refine lv_iload_n hx hb dL_poke_5 rfl (lv_at hl 2 rfl) ?_
  refine lv_iload_n hx hb dL_poke_6 rfl (lv_at hl 3 rfl) ?_
  refine sg_tx (E := eA) (name := eA) (wr := oW o cL g) (rest := [.int 0, .ref o]) S t_good hKc X.2.2.2.2.1 X.2.2.2.2.2 (cX8_poke_t hst h) calX8_poke lk_X8_poke h2 hS 0 8 rfl rfl rfl ⟨by decide, by decide⟩ ⟨by decide, by decide⟩ rfl hl.1 rfl (Nat.le_of_ble_eq_true rfl) dL_poke_7 [] ⟨0, 12, 15, 13⟩ [] htab (fun z hz => by simp at hz) rfl (by decide) (hts _ (List.mem_cons_of_mem _ lk_clA)) (va_Nw.use rfl (X.2.2.2.2.2.2.2.2.1 (.castable eA eA) (by decide))) (fun H locs q9 h2 hS => ?_)
  refine lv_astore (lv' := [(5, .ref q9), (0, .ref (ad 0)), (1, .int p1), (2, .int p2), (3, .int p3), (4, .ref o)]) hx hb dL_poke_15 hl (by decide) rfl (fun ls hl => ?_)
  refine lv_iconst (v := 1) hx hb dL_poke_17 (by decide) ?_
  obtain ⟨hP, hD⟩ := h2.app
  exact sw_iret X hP hD hS dL_poke_18
theorem dL_peek_0 : decode cL_peek 0 = .ok (.aload_n 2, 1) := by decide +kernel
theorem dL_peek_1 : decode cL_peek 1 = .ok (.iconst 0, 1) := by decide +kernel
theorem dL_peek_2 : decode cL_peek 2 = .ok (.aload_n 0, 1) := by decide +kernel
theorem dL_peek_3 : decode cL_peek 3 = .ok (.iload_n 1, 1) := by decide +kernel
theorem dL_peek_4 : decode cL_peek 4 = .ok (.invokevirtual 15, 3) := by decide +kernel
theorem dL_peek_7 : decode cL_peek 7 = .ok (.i2l, 1) := by decide +kernel
theorem dL_peek_8 : decode cL_peek 8 = .ok (.lastore, 1) := by decide +kernel
theorem dL_peek_9 : decode cL_peek 9 = .ok (.goto 6, 3) := by decide +kernel
theorem dL_peek_12 : decode cL_peek 12 = .ok (.astore_n 3, 1) := by decide +kernel
theorem dL_peek_13 : decode cL_peek 13 = .ok (.iconst 1, 1) := by decide +kernel
theorem dL_peek_14 : decode cL_peek 14 = .ok (.ireturn, 1) := by decide +kernel
theorem dL_peek_15 : decode cL_peek 15 = .ok (.iconst 0, 1) := by decide +kernel
theorem dL_peek_16 : decode cL_peek 16 = .ok (.ireturn, 1) := by decide +kernel
theorem calL_peek : sh_cal yL_peek cL_peek 4 (some .int) [(0, 9, 12, 13)] RL 55 3 := ⟨⟨sw_in 286 (by decide +kernel) rfl, sw_in 285 (by decide +kernel) rfl, sw_in 0 (by decide +kernel) rfl, sw_in 284 (by decide +kernel) rfl⟩, by decide, by decide, by decide +kernel⟩
set_option maxHeartbeats 4000000 in
set_option maxRecDepth 100000 in
theorem hL_peek {l : Launch} {dC : Nat → ClassId} {dI : Nat → Nat → Nat} {ad : Nat → Nat} {cI cL : ClassId} {o : Nat} {g : Nat → Int64} {p1 : Int32} {c0 c1 : zS} {v : Int32} (h : fX8_peek p1 c0 = some (v, c1)) : sh_M l yL_peek (wsH yL_peek cL_peek 4 (some .int) [(0, 9, 12, 13)]) { frames := 7, cells := 1, slots := 6, locals := 121 } (dC, dI) vwCl [(cI, .int), (cL, .long)] tF [.ref (ad 0), .int p1, .ref o] (cW ad cI c0 ++ oW o cL g) (cW ad cI c1 ++ oW o cL (vp_updL g 0 v.toInt64)) 0 := by
  intro sz
  refine sh_of (cc := cL_peek) (maxL := 4) (ret := some .int) (by decide) rfl (Nat.le_of_ble_eq_true rfl) ?_
  intro p e s m args below meth c A ls hAe X htab hP hD hS hl
  rw [hAe]
  have hx := X.1.1
  have hb := X.1.2.1
  have hown := X.1.2.2.2.1
  have hts := X.1.2.2.2.2
  have S : CallFix p m c cL_peek 4 s args sw_tb RL := ⟨hx, hb, X.1.2.2.1, hown, fun w h => hts w (List.mem_cons_of_mem _ h)⟩
  have hKc : va_K (dC, dI) vwCl [(cI, .int)] s := X.2.2.2.1.sub [0] rfl
  have h2 := sg_2.spl hP hD
  replace hl : lv_has ls 4 [(0, .ref (ad 0)), (1, .int p1), (2, .ref o)] := hl
  refine lv_aload_n hx hb dL_peek_0 rfl (lv_at hl 2 rfl) ?_
  refine lv_iconst (v := 0) hx hb dL_peek_1 (by decide) ?_
  refine lv_aload_n hx hb dL_peek_2 rfl (lv_at hl 0 rfl) ?_
  refine lv_iload_n hx hb dL_peek_3 rfl (lv_at hl 1 rfl) ?_
  refine sg_vi (wr := oW o cL g) (rest := [.int 0, .ref o]) S c_good hKc X.2.2.2.2.1 X.2.2.2.2.2.1 (cX8_peek_m h) calX8_peek lk_X8_peek h2 hS 0 8 rfl rfl rfl ⟨by decide, by decide⟩ ⟨by decide, by decide⟩ rfl hl.1 rfl (Nat.le_of_ble_eq_true rfl) dL_peek_4 (fun H locs h2 hS => ?_)
  refine lv_i2l hx hb dL_peek_7 rfl ?_
  obtain ⟨hP, hD⟩ := h2.symm.app
  refine va_last hx hb X.2.2.2.1 hP hD hS 0 1 rfl rfl (by unfold vp_in; decide) dL_peek_8 (fun H locs hP hD hS => ?_)
  replace hP : va_P (dC, dI) vwCl (oW o cL (vp_updL g 0 v.toInt64) ++ cW ad cI c1) H := hP
  replace hD : va_D A (oW o cL (vp_updL g 0 v.toInt64) ++ cW ad cI c1) := hD
  obtain ⟨hP, hD⟩ := (sg_2.spl hP hD).symm.app
  refine lv_goto (tgt := 15) hx hb dL_peek_9 (by decide) ?_
  refine lv_iconst (v := 0) hx hb dL_peek_15 (by decide) ?_
  refine W.widen (k := 1) (n := 6) (by decide) (by decide) ?_
  exact sw_iret X hP hD hS dL_peek_16
set_option maxHeartbeats 4000000 in
set_option maxRecDepth 100000 in
theorem hL_peek_1 {l : Launch} {dC : Nat → ClassId} {dI : Nat → Nat → Nat} {ad : Nat → Nat} {cI cL : ClassId} {o : Nat} {g : Nat → Int64} {p1 : Int32} {c0 : zS} (hst : l.stackTraces = false) (h : tX8_peek p1 = some 1) : sh_M l yL_peek (wsH yL_peek cL_peek 4 (some .int) [(0, 9, 12, 13)]) { frames := 7, cells := 1, slots := 6, locals := 121 } (dC, dI) vwCl [(cI, .int), (cL, .long)] tF [.ref (ad 0), .int p1, .ref o] (cW ad cI c0 ++ oW o cL g) (cW ad cI c0 ++ oW o cL g) 1 := by
  intro sz
  refine sh_of (cc := cL_peek) (maxL := 4) (ret := some .int) (by decide) rfl (Nat.le_of_ble_eq_true rfl) ?_
  intro p e s m args below meth c A ls hAe X htab hP hD hS hl
  rw [hAe]
  have hx := X.1.1
  have hb := X.1.2.1
  have hown := X.1.2.2.2.1
  have hts := X.1.2.2.2.2
  have S : CallFix p m c cL_peek 4 s args sw_tb RL := ⟨hx, hb, X.1.2.2.1, hown, fun w h => hts w (List.mem_cons_of_mem _ h)⟩
  have hKc : va_K (dC, dI) vwCl [(cI, .int)] s := X.2.2.2.1.sub [0] rfl
  have h2 := sg_2.spl hP hD
  replace hl : lv_has ls 4 [(0, .ref (ad 0)), (1, .int p1), (2, .ref o)] := hl
  refine lv_aload_n hx hb dL_peek_0 rfl (lv_at hl 2 rfl) ?_
  refine lv_iconst (v := 0) hx hb dL_peek_1 (by decide) ?_
  refine lv_aload_n hx hb dL_peek_2 rfl (lv_at hl 0 rfl) ?_
  refine lv_iload_n hx hb dL_peek_3 rfl (lv_at hl 1 rfl) ?_
  refine sg_tx (E := eA) (name := eA) (wr := oW o cL g) (rest := [.int 0, .ref o]) S t_good hKc X.2.2.2.2.1 X.2.2.2.2.2 (cX8_peek_t hst h) calX8_peek lk_X8_peek h2 hS 0 8 rfl rfl rfl ⟨by decide, by decide⟩ ⟨by decide, by decide⟩ rfl hl.1 rfl (Nat.le_of_ble_eq_true rfl) dL_peek_4 [] ⟨0, 9, 12, 13⟩ [] htab (fun z hz => by simp at hz) rfl (by decide) (hts _ (List.mem_cons_of_mem _ lk_clA)) (va_Nw.use rfl (X.2.2.2.2.2.2.2.2.1 (.castable eA eA) (by decide))) (fun H locs q9 h2 hS => ?_)
  refine lv_astore_n (lv' := [(3, .ref q9), (0, .ref (ad 0)), (1, .int p1), (2, .ref o)]) hx hb dL_peek_12 rfl hl (by decide) rfl (fun ls hl => ?_)
  refine lv_iconst (v := 1) hx hb dL_peek_13 (by decide) ?_
  obtain ⟨hP, hD⟩ := h2.app
  exact sw_iret X hP hD hS dL_peek_14
theorem dL_set_0 : decode cL_set 0 = .ok (.aload_n 0, 1) := by decide +kernel
theorem dL_set_1 : decode cL_set 1 = .ok (.iload_n 1, 1) := by decide +kernel
theorem dL_set_2 : decode cL_set 2 = .ok (.iload_n 2, 1) := by decide +kernel
theorem dL_set_3 : decode cL_set 3 = .ok (.invokevirtual 19, 3) := by decide +kernel
theorem dL_set_6 : decode cL_set 6 = .ok (.goto 6, 3) := by decide +kernel
theorem dL_set_9 : decode cL_set 9 = .ok (.astore_n 3, 1) := by decide +kernel
theorem dL_set_10 : decode cL_set 10 = .ok (.iconst 1, 1) := by decide +kernel
theorem dL_set_11 : decode cL_set 11 = .ok (.ireturn, 1) := by decide +kernel
theorem dL_set_12 : decode cL_set 12 = .ok (.iconst 0, 1) := by decide +kernel
theorem dL_set_13 : decode cL_set 13 = .ok (.ireturn, 1) := by decide +kernel
theorem calL_set : sh_cal yL_set cL_set 4 (some .int) [(0, 6, 9, 13)] RL 59 3 := ⟨⟨sw_in 297 (by decide +kernel) rfl, sw_in 296 (by decide +kernel) rfl, sw_in 0 (by decide +kernel) rfl, sw_in 295 (by decide +kernel) rfl⟩, by decide, by decide, by decide +kernel⟩
set_option maxHeartbeats 4000000 in
set_option maxRecDepth 100000 in
theorem hL_set {l : Launch} {dC : Nat → ClassId} {dI : Nat → Nat → Nat} {ad : Nat → Nat} {cI cL : ClassId} {o : Nat} {g : Nat → Int64} {p1 p2 : Int32} {c0 c1 : zS} (h : fX8_set p1 p2 c0 = some c1) : sh_M l yL_set (wsH yL_set cL_set 4 (some .int) [(0, 6, 9, 13)]) { frames := 7, cells := 1, slots := 6, locals := 122 } (dC, dI) vwCl [(cI, .int), (cL, .long)] tF [.ref (ad 0), .int p1, .int p2] (cW ad cI c0 ++ oW o cL g) (cW ad cI c1 ++ oW o cL g) 0 := by
  intro sz
  refine sh_of (cc := cL_set) (maxL := 4) (ret := some .int) (by decide) rfl (Nat.le_of_ble_eq_true rfl) ?_
  intro p e s m args below meth c A ls hAe X htab hP hD hS hl
  rw [hAe]
  have hx := X.1.1
  have hb := X.1.2.1
  have hown := X.1.2.2.2.1
  have hts := X.1.2.2.2.2
  have S : CallFix p m c cL_set 4 s args sw_tb RL := ⟨hx, hb, X.1.2.2.1, hown, fun w h => hts w (List.mem_cons_of_mem _ h)⟩
  have hKc : va_K (dC, dI) vwCl [(cI, .int)] s := X.2.2.2.1.sub [0] rfl
  have h2 := sg_2.spl hP hD
  replace hl : lv_has ls 4 [(0, .ref (ad 0)), (1, .int p1), (2, .int p2)] := hl
  refine lv_aload_n hx hb dL_set_0 rfl (lv_at hl 0 rfl) ?_
  refine lv_iload_n hx hb dL_set_1 rfl (lv_at hl 1 rfl) ?_
  refine lv_iload_n hx hb dL_set_2 rfl (lv_at hl 2 rfl) ?_
  refine sg_vv (wr := oW o cL g) (rest := []) S c_good hKc X.2.2.2.2.1 X.2.2.2.2.2.1 (cX8_set_m h) calX8_set lk_X8_set h2 hS 0 8 rfl rfl rfl ⟨by decide, by decide⟩ ⟨by decide, by decide⟩ rfl hl.1 rfl (Nat.le_of_ble_eq_true rfl) dL_set_3 (fun H locs h2 hS => ?_)
  obtain ⟨hP, hD⟩ := h2.app
  refine lv_goto (tgt := 12) hx hb dL_set_6 (by decide) ?_
  refine lv_iconst (v := 0) hx hb dL_set_12 (by decide) ?_
  refine W.widen (k := 1) (n := 6) (by decide) (by decide) ?_
  exact sw_iret X hP hD hS dL_set_13
set_option maxHeartbeats 4000000 in
set_option maxRecDepth 100000 in
theorem hL_set_1 {l : Launch} {dC : Nat → ClassId} {dI : Nat → Nat → Nat} {ad : Nat → Nat} {cI cL : ClassId} {o : Nat} {g : Nat → Int64} {p1 p2 : Int32} {c0 : zS} (hst : l.stackTraces = false) (h : tX8_set p1 p2 = some 1) : sh_M l yL_set (wsH yL_set cL_set 4 (some .int) [(0, 6, 9, 13)]) { frames := 7, cells := 1, slots := 6, locals := 122 } (dC, dI) vwCl [(cI, .int), (cL, .long)] tF [.ref (ad 0), .int p1, .int p2] (cW ad cI c0 ++ oW o cL g) (cW ad cI c0 ++ oW o cL g) 1 := by
  intro sz
  refine sh_of (cc := cL_set) (maxL := 4) (ret := some .int) (by decide) rfl (Nat.le_of_ble_eq_true rfl) ?_
  intro p e s m args below meth c A ls hAe X htab hP hD hS hl
  rw [hAe]
  have hx := X.1.1
  have hb := X.1.2.1
  have hown := X.1.2.2.2.1
  have hts := X.1.2.2.2.2
  have S : CallFix p m c cL_set 4 s args sw_tb RL := ⟨hx, hb, X.1.2.2.1, hown, fun w h => hts w (List.mem_cons_of_mem _ h)⟩
  have hKc : va_K (dC, dI) vwCl [(cI, .int)] s := X.2.2.2.1.sub [0] rfl
  have h2 := sg_2.spl hP hD
  replace hl : lv_has ls 4 [(0, .ref (ad 0)), (1, .int p1), (2, .int p2)] := hl
  refine lv_aload_n hx hb dL_set_0 rfl (lv_at hl 0 rfl) ?_
  refine lv_iload_n hx hb dL_set_1 rfl (lv_at hl 1 rfl) ?_
  refine lv_iload_n hx hb dL_set_2 rfl (lv_at hl 2 rfl) ?_
  refine sg_tx (E := eA) (name := eA) (wr := oW o cL g) (rest := []) S t_good hKc X.2.2.2.2.1 X.2.2.2.2.2 (cX8_set_t hst h) calX8_set lk_X8_set h2 hS 0 8 rfl rfl rfl ⟨by decide, by decide⟩ ⟨by decide, by decide⟩ rfl hl.1 rfl (Nat.le_of_ble_eq_true rfl) dL_set_3 [] ⟨0, 6, 9, 13⟩ [] htab (fun z hz => by simp at hz) rfl (by decide) (hts _ (List.mem_cons_of_mem _ lk_clA)) (va_Nw.use rfl (X.2.2.2.2.2.2.2.2.1 (.castable eA eA) (by decide))) (fun H locs q9 h2 hS => ?_)
  refine lv_astore_n (lv' := [(3, .ref q9), (0, .ref (ad 0)), (1, .int p1), (2, .int p2)]) hx hb dL_set_9 rfl hl (by decide) rfl (fun ls hl => ?_)
  refine lv_iconst (v := 1) hx hb dL_set_10 (by decide) ?_
  obtain ⟨hP, hD⟩ := h2.app
  exact sw_iret X hP hD hS dL_set_11
theorem dL_get_0 : decode cL_get 0 = .ok (.aload_n 2, 1) := by decide +kernel
theorem dL_get_1 : decode cL_get 1 = .ok (.iconst 0, 1) := by decide +kernel
theorem dL_get_2 : decode cL_get 2 = .ok (.aload_n 0, 1) := by decide +kernel
theorem dL_get_3 : decode cL_get 3 = .ok (.iload_n 1, 1) := by decide +kernel
theorem dL_get_4 : decode cL_get 4 = .ok (.invokevirtual 23, 3) := by decide +kernel
theorem dL_get_7 : decode cL_get 7 = .ok (.i2l, 1) := by decide +kernel
theorem dL_get_8 : decode cL_get 8 = .ok (.lastore, 1) := by decide +kernel
theorem dL_get_9 : decode cL_get 9 = .ok (.goto 6, 3) := by decide +kernel
theorem dL_get_12 : decode cL_get 12 = .ok (.astore_n 3, 1) := by decide +kernel
theorem dL_get_13 : decode cL_get 13 = .ok (.iconst 1, 1) := by decide +kernel
theorem dL_get_14 : decode cL_get 14 = .ok (.ireturn, 1) := by decide +kernel
theorem dL_get_15 : decode cL_get 15 = .ok (.iconst 0, 1) := by decide +kernel
theorem dL_get_16 : decode cL_get 16 = .ok (.ireturn, 1) := by decide +kernel
theorem calL_get : sh_cal yL_get cL_get 4 (some .int) [(0, 9, 12, 13)] RL 63 3 := ⟨⟨sw_in 314 (by decide +kernel) rfl, sw_in 313 (by decide +kernel) rfl, sw_in 0 (by decide +kernel) rfl, sw_in 312 (by decide +kernel) rfl⟩, by decide, by decide, by decide +kernel⟩
set_option maxHeartbeats 4000000 in
set_option maxRecDepth 100000 in
theorem hL_get {l : Launch} {dC : Nat → ClassId} {dI : Nat → Nat → Nat} {ad : Nat → Nat} {cI cL : ClassId} {o : Nat} {g : Nat → Int64} {p1 : Int32} {c0 c1 : zS} {v : Int32} (h : fX8_get p1 c0 = some (v, c1)) : sh_M l yL_get (wsH yL_get cL_get 4 (some .int) [(0, 9, 12, 13)]) { frames := 7, cells := 1, slots := 6, locals := 121 } (dC, dI) vwCl [(cI, .int), (cL, .long)] tF [.ref (ad 0), .int p1, .ref o] (cW ad cI c0 ++ oW o cL g) (cW ad cI c1 ++ oW o cL (vp_updL g 0 v.toInt64)) 0 := by
  intro sz
  refine sh_of (cc := cL_get) (maxL := 4) (ret := some .int) (by decide) rfl (Nat.le_of_ble_eq_true rfl) ?_
  intro p e s m args below meth c A ls hAe X htab hP hD hS hl
  rw [hAe]
  have hx := X.1.1
  have hb := X.1.2.1
  have hown := X.1.2.2.2.1
  have hts := X.1.2.2.2.2
  have S : CallFix p m c cL_get 4 s args sw_tb RL := ⟨hx, hb, X.1.2.2.1, hown, fun w h => hts w (List.mem_cons_of_mem _ h)⟩
  have hKc : va_K (dC, dI) vwCl [(cI, .int)] s := X.2.2.2.1.sub [0] rfl
  have h2 := sg_2.spl hP hD
  replace hl : lv_has ls 4 [(0, .ref (ad 0)), (1, .int p1), (2, .ref o)] := hl
  refine lv_aload_n hx hb dL_get_0 rfl (lv_at hl 2 rfl) ?_
  refine lv_iconst (v := 0) hx hb dL_get_1 (by decide) ?_
  refine lv_aload_n hx hb dL_get_2 rfl (lv_at hl 0 rfl) ?_
  refine lv_iload_n hx hb dL_get_3 rfl (lv_at hl 1 rfl) ?_
  refine sg_vi (wr := oW o cL g) (rest := [.int 0, .ref o]) S c_good hKc X.2.2.2.2.1 X.2.2.2.2.2.1 (cX8_get_m h) calX8_get lk_X8_get h2 hS 0 8 rfl rfl rfl ⟨by decide, by decide⟩ ⟨by decide, by decide⟩ rfl hl.1 rfl (Nat.le_of_ble_eq_true rfl) dL_get_4 (fun H locs h2 hS => ?_)
  refine lv_i2l hx hb dL_get_7 rfl ?_
  obtain ⟨hP, hD⟩ := h2.symm.app
  refine va_last hx hb X.2.2.2.1 hP hD hS 0 1 rfl rfl (by unfold vp_in; decide) dL_get_8 (fun H locs hP hD hS => ?_)
  replace hP : va_P (dC, dI) vwCl (oW o cL (vp_updL g 0 v.toInt64) ++ cW ad cI c1) H := hP
  replace hD : va_D A (oW o cL (vp_updL g 0 v.toInt64) ++ cW ad cI c1) := hD
  obtain ⟨hP, hD⟩ := (sg_2.spl hP hD).symm.app
  refine lv_goto (tgt := 15) hx hb dL_get_9 (by decide) ?_
  refine lv_iconst (v := 0) hx hb dL_get_15 (by decide) ?_
  refine W.widen (k := 1) (n := 6) (by decide) (by decide) ?_
  exact sw_iret X hP hD hS dL_get_16
set_option maxHeartbeats 4000000 in
set_option maxRecDepth 100000 in
theorem hL_get_1 {l : Launch} {dC : Nat → ClassId} {dI : Nat → Nat → Nat} {ad : Nat → Nat} {cI cL : ClassId} {o : Nat} {g : Nat → Int64} {p1 : Int32} {c0 : zS} (hst : l.stackTraces = false) (h : tX8_get p1 = some 1) : sh_M l yL_get (wsH yL_get cL_get 4 (some .int) [(0, 9, 12, 13)]) { frames := 7, cells := 1, slots := 6, locals := 121 } (dC, dI) vwCl [(cI, .int), (cL, .long)] tF [.ref (ad 0), .int p1, .ref o] (cW ad cI c0 ++ oW o cL g) (cW ad cI c0 ++ oW o cL g) 1 := by
  intro sz
  refine sh_of (cc := cL_get) (maxL := 4) (ret := some .int) (by decide) rfl (Nat.le_of_ble_eq_true rfl) ?_
  intro p e s m args below meth c A ls hAe X htab hP hD hS hl
  rw [hAe]
  have hx := X.1.1
  have hb := X.1.2.1
  have hown := X.1.2.2.2.1
  have hts := X.1.2.2.2.2
  have S : CallFix p m c cL_get 4 s args sw_tb RL := ⟨hx, hb, X.1.2.2.1, hown, fun w h => hts w (List.mem_cons_of_mem _ h)⟩
  have hKc : va_K (dC, dI) vwCl [(cI, .int)] s := X.2.2.2.1.sub [0] rfl
  have h2 := sg_2.spl hP hD
  replace hl : lv_has ls 4 [(0, .ref (ad 0)), (1, .int p1), (2, .ref o)] := hl
  refine lv_aload_n hx hb dL_get_0 rfl (lv_at hl 2 rfl) ?_
  refine lv_iconst (v := 0) hx hb dL_get_1 (by decide) ?_
  refine lv_aload_n hx hb dL_get_2 rfl (lv_at hl 0 rfl) ?_
  refine lv_iload_n hx hb dL_get_3 rfl (lv_at hl 1 rfl) ?_
  refine sg_tx (E := eA) (name := eA) (wr := oW o cL g) (rest := [.int 0, .ref o]) S t_good hKc X.2.2.2.2.1 X.2.2.2.2.2 (cX8_get_t hst h) calX8_get lk_X8_get h2 hS 0 8 rfl rfl rfl ⟨by decide, by decide⟩ ⟨by decide, by decide⟩ rfl hl.1 rfl (Nat.le_of_ble_eq_true rfl) dL_get_4 [] ⟨0, 9, 12, 13⟩ [] htab (fun z hz => by simp at hz) rfl (by decide) (hts _ (List.mem_cons_of_mem _ lk_clA)) (va_Nw.use rfl (X.2.2.2.2.2.2.2.2.1 (.castable eA eA) (by decide))) (fun H locs q9 h2 hS => ?_)
  refine lv_astore_n (lv' := [(3, .ref q9), (0, .ref (ad 0)), (1, .int p1), (2, .ref o)]) hx hb dL_get_12 rfl hl (by decide) rfl (fun ls hl => ?_)
  refine lv_iconst (v := 1) hx hb dL_get_13 (by decide) ?_
  obtain ⟨hP, hD⟩ := h2.app
  exact sw_iret X hP hD hS dL_get_14
theorem dL_key_0 : decode cL_key 0 = .ok (.aload_n 0, 1) := by decide +kernel
theorem dL_key_1 : decode cL_key 1 = .ok (.iload_n 1, 1) := by decide +kernel
theorem dL_key_2 : decode cL_key 2 = .ok (.iload_n 2, 1) := by decide +kernel
theorem dL_key_3 : decode cL_key 3 = .ok (.invokevirtual 26, 3) := by decide +kernel
theorem dL_key_6 : decode cL_key 6 = .ok (.goto 6, 3) := by decide +kernel
theorem dL_key_9 : decode cL_key 9 = .ok (.astore_n 3, 1) := by decide +kernel
theorem dL_key_10 : decode cL_key 10 = .ok (.iconst 1, 1) := by decide +kernel
theorem dL_key_11 : decode cL_key 11 = .ok (.ireturn, 1) := by decide +kernel
theorem dL_key_12 : decode cL_key 12 = .ok (.iconst 0, 1) := by decide +kernel
theorem dL_key_13 : decode cL_key 13 = .ok (.ireturn, 1) := by decide +kernel
theorem calL_key : sh_cal yL_key cL_key 4 (some .int) [(0, 6, 9, 13)] RL 66 3 := ⟨⟨sw_in 325 (by decide +kernel) rfl, sw_in 324 (by decide +kernel) rfl, sw_in 0 (by decide +kernel) rfl, sw_in 323 (by decide +kernel) rfl⟩, by decide, by decide, by decide +kernel⟩
set_option maxHeartbeats 4000000 in
set_option maxRecDepth 100000 in
theorem hL_key {l : Launch} {dC : Nat → ClassId} {dI : Nat → Nat → Nat} {ad : Nat → Nat} {cI cL : ClassId} {o : Nat} {g : Nat → Int64} {p1 p2 : Int32} {c0 c1 : zS} (h : fX8_key p1 p2 c0 = some c1) : sh_M l yL_key (wsH yL_key cL_key 4 (some .int) [(0, 6, 9, 13)]) { frames := 7, cells := 1, slots := 6, locals := 122 } (dC, dI) vwCl [(cI, .int), (cL, .long)] tF [.ref (ad 0), .int p1, .int p2] (cW ad cI c0 ++ oW o cL g) (cW ad cI c1 ++ oW o cL g) 0 := by
  intro sz
  refine sh_of (cc := cL_key) (maxL := 4) (ret := some .int) (by decide) rfl (Nat.le_of_ble_eq_true rfl) ?_
  intro p e s m args below meth c A ls hAe X htab hP hD hS hl
  rw [hAe]
  have hx := X.1.1
  have hb := X.1.2.1
  have hown := X.1.2.2.2.1
  have hts := X.1.2.2.2.2
  have S : CallFix p m c cL_key 4 s args sw_tb RL := ⟨hx, hb, X.1.2.2.1, hown, fun w h => hts w (List.mem_cons_of_mem _ h)⟩
  have hKc : va_K (dC, dI) vwCl [(cI, .int)] s := X.2.2.2.1.sub [0] rfl
  have h2 := sg_2.spl hP hD
  replace hl : lv_has ls 4 [(0, .ref (ad 0)), (1, .int p1), (2, .int p2)] := hl
  refine lv_aload_n hx hb dL_key_0 rfl (lv_at hl 0 rfl) ?_
  refine lv_iload_n hx hb dL_key_1 rfl (lv_at hl 1 rfl) ?_
  refine lv_iload_n hx hb dL_key_2 rfl (lv_at hl 2 rfl) ?_
  refine sg_vv (wr := oW o cL g) (rest := []) S c_good hKc X.2.2.2.2.1 X.2.2.2.2.2.1 (cX8_key_m h) calX8_key lk_X8_key h2 hS 0 8 rfl rfl rfl ⟨by decide, by decide⟩ ⟨by decide, by decide⟩ rfl hl.1 rfl (Nat.le_of_ble_eq_true rfl) dL_key_3 (fun H locs h2 hS => ?_)
  obtain ⟨hP, hD⟩ := h2.app
  refine lv_goto (tgt := 12) hx hb dL_key_6 (by decide) ?_
  refine lv_iconst (v := 0) hx hb dL_key_12 (by decide) ?_
  refine W.widen (k := 1) (n := 6) (by decide) (by decide) ?_
  exact sw_iret X hP hD hS dL_key_13
set_option maxHeartbeats 4000000 in
set_option maxRecDepth 100000 in
theorem hL_key_1 {l : Launch} {dC : Nat → ClassId} {dI : Nat → Nat → Nat} {ad : Nat → Nat} {cI cL : ClassId} {o : Nat} {g : Nat → Int64} {p1 p2 : Int32} {c0 : zS} (hst : l.stackTraces = false) (h : tX8_key p1 p2 = some 1) : sh_M l yL_key (wsH yL_key cL_key 4 (some .int) [(0, 6, 9, 13)]) { frames := 7, cells := 1, slots := 6, locals := 122 } (dC, dI) vwCl [(cI, .int), (cL, .long)] tF [.ref (ad 0), .int p1, .int p2] (cW ad cI c0 ++ oW o cL g) (cW ad cI c0 ++ oW o cL g) 1 := by
  intro sz
  refine sh_of (cc := cL_key) (maxL := 4) (ret := some .int) (by decide) rfl (Nat.le_of_ble_eq_true rfl) ?_
  intro p e s m args below meth c A ls hAe X htab hP hD hS hl
  rw [hAe]
  have hx := X.1.1
  have hb := X.1.2.1
  have hown := X.1.2.2.2.1
  have hts := X.1.2.2.2.2
  have S : CallFix p m c cL_key 4 s args sw_tb RL := ⟨hx, hb, X.1.2.2.1, hown, fun w h => hts w (List.mem_cons_of_mem _ h)⟩
  have hKc : va_K (dC, dI) vwCl [(cI, .int)] s := X.2.2.2.1.sub [0] rfl
  have h2 := sg_2.spl hP hD
  replace hl : lv_has ls 4 [(0, .ref (ad 0)), (1, .int p1), (2, .int p2)] := hl
  refine lv_aload_n hx hb dL_key_0 rfl (lv_at hl 0 rfl) ?_
  refine lv_iload_n hx hb dL_key_1 rfl (lv_at hl 1 rfl) ?_
  refine lv_iload_n hx hb dL_key_2 rfl (lv_at hl 2 rfl) ?_
  refine sg_tx (E := eA) (name := eA) (wr := oW o cL g) (rest := []) S t_good hKc X.2.2.2.2.1 X.2.2.2.2.2 (cX8_key_t hst h) calX8_key lk_X8_key h2 hS 0 8 rfl rfl rfl ⟨by decide, by decide⟩ ⟨by decide, by decide⟩ rfl hl.1 rfl (Nat.le_of_ble_eq_true rfl) dL_key_3 [] ⟨0, 6, 9, 13⟩ [] htab (fun z hz => by simp at hz) rfl (by decide) (hts _ (List.mem_cons_of_mem _ lk_clA)) (va_Nw.use rfl (X.2.2.2.2.2.2.2.2.1 (.castable eA eA) (by decide))) (fun H locs q9 h2 hS => ?_)
  refine lv_astore_n (lv' := [(3, .ref q9), (0, .ref (ad 0)), (1, .int p1), (2, .int p2)]) hx hb dL_key_9 rfl hl (by decide) rfl (fun ls hl => ?_)
  refine lv_iconst (v := 1) hx hb dL_key_10 (by decide) ?_
  obtain ⟨hP, hD⟩ := h2.app
  exact sw_iret X hP hD hS dL_key_11
theorem dL_edge_0 : decode cL_edge 0 = .ok (.aload_n 2, 1) := by decide +kernel
theorem dL_edge_1 : decode cL_edge 1 = .ok (.iconst 0, 1) := by decide +kernel
theorem dL_edge_2 : decode cL_edge 2 = .ok (.aload_n 0, 1) := by decide +kernel
theorem dL_edge_3 : decode cL_edge 3 = .ok (.iload_n 1, 1) := by decide +kernel
theorem dL_edge_4 : decode cL_edge 4 = .ok (.invokevirtual 29, 3) := by decide +kernel
theorem dL_edge_7 : decode cL_edge 7 = .ok (.i2l, 1) := by decide +kernel
theorem dL_edge_8 : decode cL_edge 8 = .ok (.lastore, 1) := by decide +kernel
theorem dL_edge_9 : decode cL_edge 9 = .ok (.goto 9, 3) := by decide +kernel
theorem dL_edge_12 : decode cL_edge 12 = .ok (.astore_n 3, 1) := by decide +kernel
theorem dL_edge_13 : decode cL_edge 13 = .ok (.iconst 1, 1) := by decide +kernel
theorem dL_edge_14 : decode cL_edge 14 = .ok (.ireturn, 1) := by decide +kernel
theorem dL_edge_15 : decode cL_edge 15 = .ok (.astore_n 3, 1) := by decide +kernel
theorem dL_edge_16 : decode cL_edge 16 = .ok (.iconst 2, 1) := by decide +kernel
theorem dL_edge_17 : decode cL_edge 17 = .ok (.ireturn, 1) := by decide +kernel
theorem dL_edge_18 : decode cL_edge 18 = .ok (.iconst 0, 1) := by decide +kernel
theorem dL_edge_19 : decode cL_edge 19 = .ok (.ireturn, 1) := by decide +kernel
theorem calL_edge : sh_cal yL_edge cL_edge 4 (some .int) [(0, 9, 12, 13), (0, 9, 15, 32)] RL 69 3 := ⟨⟨sw_in 332 (by decide +kernel) rfl, sw_in 331 (by decide +kernel) rfl, sw_in 0 (by decide +kernel) rfl, sw_in 330 (by decide +kernel) rfl⟩, by decide, by decide, by decide +kernel⟩
set_option maxHeartbeats 4000000 in
set_option maxRecDepth 100000 in
theorem hL_edge {l : Launch} {dC : Nat → ClassId} {dI : Nat → Nat → Nat} {ad : Nat → Nat} {cI cL : ClassId} {o : Nat} {g : Nat → Int64} {p1 : Int32} {c0 c1 : zS} {v : Int32} (h : fX8_edge p1 c0 = some (v, c1)) : sh_M l yL_edge (wsH yL_edge cL_edge 4 (some .int) [(0, 9, 12, 13), (0, 9, 15, 32)]) { frames := 7, cells := 1, slots := 6, locals := 121 } (dC, dI) vwCl [(cI, .int), (cL, .long)] tF [.ref (ad 0), .int p1, .ref o] (cW ad cI c0 ++ oW o cL g) (cW ad cI c1 ++ oW o cL (vp_updL g 0 v.toInt64)) 0 := by
  intro sz
  refine sh_of (cc := cL_edge) (maxL := 4) (ret := some .int) (by decide) rfl (Nat.le_of_ble_eq_true rfl) ?_
  intro p e s m args below meth c A ls hAe X htab hP hD hS hl
  rw [hAe]
  have hx := X.1.1
  have hb := X.1.2.1
  have hown := X.1.2.2.2.1
  have hts := X.1.2.2.2.2
  have S : CallFix p m c cL_edge 4 s args sw_tb RL := ⟨hx, hb, X.1.2.2.1, hown, fun w h => hts w (List.mem_cons_of_mem _ h)⟩
  have hKc : va_K (dC, dI) vwCl [(cI, .int)] s := X.2.2.2.1.sub [0] rfl
  have h2 := sg_2.spl hP hD
  replace hl : lv_has ls 4 [(0, .ref (ad 0)), (1, .int p1), (2, .ref o)] := hl
  refine lv_aload_n hx hb dL_edge_0 rfl (lv_at hl 2 rfl) ?_
  refine lv_iconst (v := 0) hx hb dL_edge_1 (by decide) ?_
  refine lv_aload_n hx hb dL_edge_2 rfl (lv_at hl 0 rfl) ?_
  refine lv_iload_n hx hb dL_edge_3 rfl (lv_at hl 1 rfl) ?_
  refine sg_vi (wr := oW o cL g) (rest := [.int 0, .ref o]) S c_good hKc X.2.2.2.2.1 X.2.2.2.2.2.1 (cX8_edge_m h) calX8_edge lk_X8_edge h2 hS 0 8 rfl rfl rfl ⟨by decide, by decide⟩ ⟨by decide, by decide⟩ rfl hl.1 rfl (Nat.le_of_ble_eq_true rfl) dL_edge_4 (fun H locs h2 hS => ?_)
  refine lv_i2l hx hb dL_edge_7 rfl ?_
  obtain ⟨hP, hD⟩ := h2.symm.app
  refine va_last hx hb X.2.2.2.1 hP hD hS 0 1 rfl rfl (by unfold vp_in; decide) dL_edge_8 (fun H locs hP hD hS => ?_)
  replace hP : va_P (dC, dI) vwCl (oW o cL (vp_updL g 0 v.toInt64) ++ cW ad cI c1) H := hP
  replace hD : va_D A (oW o cL (vp_updL g 0 v.toInt64) ++ cW ad cI c1) := hD
  obtain ⟨hP, hD⟩ := (sg_2.spl hP hD).symm.app
  refine lv_goto (tgt := 18) hx hb dL_edge_9 (by decide) ?_
  refine lv_iconst (v := 0) hx hb dL_edge_18 (by decide) ?_
  refine W.widen (k := 1) (n := 6) (by decide) (by decide) ?_
  exact sw_iret X hP hD hS dL_edge_19
set_option maxHeartbeats 4000000 in
set_option maxRecDepth 100000 in
theorem hL_edge_1 {l : Launch} {dC : Nat → ClassId} {dI : Nat → Nat → Nat} {ad : Nat → Nat} {cI cL : ClassId} {o : Nat} {g : Nat → Int64} {p1 : Int32} {c0 : zS} (hst : l.stackTraces = false) (h : tX8_edge p1 c0 = some 1) : sh_M l yL_edge (wsH yL_edge cL_edge 4 (some .int) [(0, 9, 12, 13), (0, 9, 15, 32)]) { frames := 7, cells := 1, slots := 6, locals := 121 } (dC, dI) vwCl [(cI, .int), (cL, .long)] tF [.ref (ad 0), .int p1, .ref o] (cW ad cI c0 ++ oW o cL g) (cW ad cI c0 ++ oW o cL g) 1 := by
  intro sz
  refine sh_of (cc := cL_edge) (maxL := 4) (ret := some .int) (by decide) rfl (Nat.le_of_ble_eq_true rfl) ?_
  intro p e s m args below meth c A ls hAe X htab hP hD hS hl
  rw [hAe]
  have hx := X.1.1
  have hb := X.1.2.1
  have hown := X.1.2.2.2.1
  have hts := X.1.2.2.2.2
  have S : CallFix p m c cL_edge 4 s args sw_tb RL := ⟨hx, hb, X.1.2.2.1, hown, fun w h => hts w (List.mem_cons_of_mem _ h)⟩
  have hKc : va_K (dC, dI) vwCl [(cI, .int)] s := X.2.2.2.1.sub [0] rfl
  have h2 := sg_2.spl hP hD
  replace hl : lv_has ls 4 [(0, .ref (ad 0)), (1, .int p1), (2, .ref o)] := hl
  refine lv_aload_n hx hb dL_edge_0 rfl (lv_at hl 2 rfl) ?_
  refine lv_iconst (v := 0) hx hb dL_edge_1 (by decide) ?_
  refine lv_aload_n hx hb dL_edge_2 rfl (lv_at hl 0 rfl) ?_
  refine lv_iload_n hx hb dL_edge_3 rfl (lv_at hl 1 rfl) ?_
  refine sg_tx (E := eA) (name := eA) (wr := oW o cL g) (rest := [.int 0, .ref o]) S t_good hKc X.2.2.2.2.1 X.2.2.2.2.2 (cX8_edge_t hst h) calX8_edge lk_X8_edge h2 hS 0 8 rfl rfl rfl ⟨by decide, by decide⟩ ⟨by decide, by decide⟩ rfl hl.1 rfl (Nat.le_of_ble_eq_true rfl) dL_edge_4 [] ⟨0, 9, 12, 13⟩ [⟨0, 9, 15, 32⟩] htab (fun z hz => by simp at hz) rfl (by decide) (hts _ (List.mem_cons_of_mem _ lk_clA)) (va_Nw.use rfl (X.2.2.2.2.2.2.2.2.1 (.castable eA eA) (by decide))) (fun H locs q9 h2 hS => ?_)
  refine lv_astore_n (lv' := [(3, .ref q9), (0, .ref (ad 0)), (1, .int p1), (2, .ref o)]) hx hb dL_edge_12 rfl hl (by decide) rfl (fun ls hl => ?_)
  refine lv_iconst (v := 1) hx hb dL_edge_13 (by decide) ?_
  obtain ⟨hP, hD⟩ := h2.app
  exact sw_iret X hP hD hS dL_edge_14
set_option maxHeartbeats 4000000 in
set_option maxRecDepth 100000 in
theorem hL_edge_2 {l : Launch} {dC : Nat → ClassId} {dI : Nat → Nat → Nat} {ad : Nat → Nat} {cI cL : ClassId} {o : Nat} {g : Nat → Int64} {p1 : Int32} {c0 : zS} (hst : l.stackTraces = false) (h : tX8_edge p1 c0 = some 2) : sh_M l yL_edge (wsH yL_edge cL_edge 4 (some .int) [(0, 9, 12, 13), (0, 9, 15, 32)]) { frames := 7, cells := 1, slots := 6, locals := 121 } (dC, dI) vwCl [(cI, .int), (cL, .long)] tF [.ref (ad 0), .int p1, .ref o] (cW ad cI c0 ++ oW o cL g) (cW ad cI c0 ++ oW o cL g) 2 := by
  intro sz
  refine sh_of (cc := cL_edge) (maxL := 4) (ret := some .int) (by decide) rfl (Nat.le_of_ble_eq_true rfl) ?_
  intro p e s m args below meth c A ls hAe X htab hP hD hS hl
  rw [hAe]
  have hx := X.1.1
  have hb := X.1.2.1
  have hown := X.1.2.2.2.1
  have hts := X.1.2.2.2.2
  have S : CallFix p m c cL_edge 4 s args sw_tb RL := ⟨hx, hb, X.1.2.2.1, hown, fun w h => hts w (List.mem_cons_of_mem _ h)⟩
  have hKc : va_K (dC, dI) vwCl [(cI, .int)] s := X.2.2.2.1.sub [0] rfl
  have h2 := sg_2.spl hP hD
  replace hl : lv_has ls 4 [(0, .ref (ad 0)), (1, .int p1), (2, .ref o)] := hl
  refine lv_aload_n hx hb dL_edge_0 rfl (lv_at hl 2 rfl) ?_
  refine lv_iconst (v := 0) hx hb dL_edge_1 (by decide) ?_
  refine lv_aload_n hx hb dL_edge_2 rfl (lv_at hl 0 rfl) ?_
  refine lv_iload_n hx hb dL_edge_3 rfl (lv_at hl 1 rfl) ?_
  refine sg_tx (E := eS) (name := eS) (wr := oW o cL g) (rest := [.int 0, .ref o]) S t_good hKc X.2.2.2.2.1 X.2.2.2.2.2 (cX8_edge_t hst h) calX8_edge lk_X8_edge h2 hS 0 8 rfl rfl rfl ⟨by decide, by decide⟩ ⟨by decide, by decide⟩ rfl hl.1 rfl (Nat.le_of_ble_eq_true rfl) dL_edge_4 [⟨0, 9, 12, 13⟩] ⟨0, 9, 15, 32⟩ [] htab (fun z hz => by have e := List.mem_singleton.mp hz; subst e; exact Or.inr ⟨by decide, eA, hts _ (List.mem_cons_of_mem _ lk_clA), X.2.2.2.2.2.2.2.2.2⟩) rfl (by decide) (hts _ (List.mem_cons_of_mem _ lk_clS)) (va_Nw.use rfl (X.2.2.2.2.2.2.2.2.1 (.castable eS eS) (by decide))) (fun H locs q9 h2 hS => ?_)
  refine lv_astore_n (lv' := [(3, .ref q9), (0, .ref (ad 0)), (1, .int p1), (2, .ref o)]) hx hb dL_edge_15 rfl hl (by decide) rfl (fun ls hl => ?_)
  refine lv_iconst (v := 2) hx hb dL_edge_16 (by decide) ?_
  obtain ⟨hP, hD⟩ := h2.app
  exact sw_iret X hP hD hS dL_edge_17
theorem dL_run_0 : decode cL_run 0 = .ok (.aload_n 2, 1) := by decide +kernel
theorem dL_run_1 : decode cL_run 1 = .ok (.iconst 0, 1) := by decide +kernel
theorem dL_run_2 : decode cL_run 2 = .ok (.aload_n 0, 1) := by decide +kernel
theorem dL_run_3 : decode cL_run 3 = .ok (.iload_n 1, 1) := by decide +kernel
theorem dL_run_4 : decode cL_run 4 = .ok (.invokevirtual 34, 3) := by decide +kernel
theorem dL_run_7 : decode cL_run 7 = .ok (.ifCond .eq 7, 3) := by decide +kernel
theorem dL_run_10 : decode cL_run 10 = .ok (.lconst 1, 1) := by decide +kernel
theorem dL_run_11 : decode cL_run 11 = .ok (.goto 4, 3) := by decide +kernel
theorem dL_run_14 : decode cL_run 14 = .ok (.lconst 0, 1) := by decide +kernel
theorem dL_run_15 : decode cL_run 15 = .ok (.lastore, 1) := by decide +kernel
theorem dL_run_16 : decode cL_run 16 = .ok (.goto 6, 3) := by decide +kernel
theorem dL_run_19 : decode cL_run 19 = .ok (.astore_n 3, 1) := by decide +kernel
theorem dL_run_20 : decode cL_run 20 = .ok (.iconst 1, 1) := by decide +kernel
theorem dL_run_21 : decode cL_run 21 = .ok (.ireturn, 1) := by decide +kernel
theorem dL_run_22 : decode cL_run 22 = .ok (.iconst 0, 1) := by decide +kernel
theorem dL_run_23 : decode cL_run 23 = .ok (.ireturn, 1) := by decide +kernel
theorem calL_run : sh_cal yL_run cL_run 4 (some .int) [(0, 16, 19, 13)] RL 72 3 := ⟨⟨sw_in 364 (by decide +kernel) rfl, sw_in 363 (by decide +kernel) rfl, sw_in 0 (by decide +kernel) rfl, sw_in 362 (by decide +kernel) rfl⟩, by decide, by decide, by decide +kernel⟩
set_option maxHeartbeats 4000000 in
set_option maxRecDepth 100000 in
theorem hL_run {l : Launch} {dC : Nat → ClassId} {dI : Nat → Nat → Nat} {ad : Nat → Nat} {cI cL : ClassId} {o : Nat} {g : Nat → Int64} {p1 : Int32} {c0 c1 : zS} {v : Int32} (h : fX8_run p1 c0 = some (v, c1)) : sh_M l yL_run (wsH yL_run cL_run 4 (some .int) [(0, 16, 19, 13)]) { frames := 7, cells := 1, slots := 6, locals := 159 } (dC, dI) vwCl [(cI, .int), (cL, .long)] tF [.ref (ad 0), .int p1, .ref o] (cW ad cI c0 ++ oW o cL g) (cW ad cI c1 ++ oW o cL (vp_updL g 0 (if v = 0 then (0 : Int64) else 1))) 0 := by
  intro sz
  refine sh_of (cc := cL_run) (maxL := 4) (ret := some .int) (by decide) rfl (Nat.le_of_ble_eq_true rfl) ?_
  intro p e s m args below meth c A ls hAe X htab hP hD hS hl
  rw [hAe]
  have hx := X.1.1
  have hb := X.1.2.1
  have hown := X.1.2.2.2.1
  have hts := X.1.2.2.2.2
  have S : CallFix p m c cL_run 4 s args sw_tb RL := ⟨hx, hb, X.1.2.2.1, hown, fun w h => hts w (List.mem_cons_of_mem _ h)⟩
  have hKc : va_K (dC, dI) vwCl [(cI, .int)] s := X.2.2.2.1.sub [0] rfl
  have h2 := sg_2.spl hP hD
  replace hl : lv_has ls 4 [(0, .ref (ad 0)), (1, .int p1), (2, .ref o)] := hl
  refine lv_aload_n hx hb dL_run_0 rfl (lv_at hl 2 rfl) ?_
  refine lv_iconst (v := 0) hx hb dL_run_1 (by decide) ?_
  refine lv_aload_n hx hb dL_run_2 rfl (lv_at hl 0 rfl) ?_
  refine lv_iload_n hx hb dL_run_3 rfl (lv_at hl 1 rfl) ?_
  refine sg_vi (wr := oW o cL g) (rest := [.int 0, .ref o]) S c_good hKc X.2.2.2.2.1 X.2.2.2.2.2.1 (cX8_run_m h) calX8_run lk_X8_run h2 hS 0 8 rfl rfl rfl ⟨by decide, by decide⟩ ⟨by decide, by decide⟩ rfl hl.1 rfl (Nat.le_of_ble_eq_true rfl) dL_run_4 (fun H locs h2 hS => ?_)
  refine lv_if_eq (tgt := 14) hx hb dL_run_7 (by decide) (fun hc => ?_) (fun hc => ?_)
  · rw [if_pos hc]
    refine lv_lconst (v := 0) hx hb dL_run_14 rfl ?_
    obtain ⟨hP, hD⟩ := h2.symm.app
    refine va_last hx hb X.2.2.2.1 hP hD hS 0 1 rfl rfl (by unfold vp_in; decide) dL_run_15 (fun H locs hP hD hS => ?_)
    replace hP : va_P (dC, dI) vwCl (oW o cL (vp_updL g 0 0) ++ cW ad cI c1) H := hP
    replace hD : va_D A (oW o cL (vp_updL g 0 0) ++ cW ad cI c1) := hD
    obtain ⟨hP, hD⟩ := (sg_2.spl hP hD).symm.app
    refine lv_goto (tgt := 22) hx hb dL_run_16 (by decide) ?_
    refine lv_iconst (v := 0) hx hb dL_run_22 (by decide) ?_
    refine W.widen (k := 1) (n := 6) (by decide) (by decide) ?_
    exact sw_iret X hP hD hS dL_run_23
  · rw [if_neg hc]
    refine lv_lconst (v := 1) hx hb dL_run_10 rfl ?_
    refine lv_goto (tgt := 15) hx hb dL_run_11 (by decide) ?_
    obtain ⟨hP, hD⟩ := h2.symm.app
    refine va_last hx hb X.2.2.2.1 hP hD hS 0 1 rfl rfl (by unfold vp_in; decide) dL_run_15 (fun H locs hP hD hS => ?_)
    replace hP : va_P (dC, dI) vwCl (oW o cL (vp_updL g 0 1) ++ cW ad cI c1) H := hP
    replace hD : va_D A (oW o cL (vp_updL g 0 1) ++ cW ad cI c1) := hD
    obtain ⟨hP, hD⟩ := (sg_2.spl hP hD).symm.app
    refine lv_goto (tgt := 22) hx hb dL_run_16 (by decide) ?_
    refine lv_iconst (v := 0) hx hb dL_run_22 (by decide) ?_
    refine W.widen (k := 1) (n := 6) (by decide) (by decide) ?_
    exact sw_iret X hP hD hS dL_run_23
set_option maxHeartbeats 4000000 in
set_option maxRecDepth 100000 in
theorem hL_run_1 {l : Launch} {dC : Nat → ClassId} {dI : Nat → Nat → Nat} {ad : Nat → Nat} {cI cL : ClassId} {o : Nat} {g : Nat → Int64} {p1 : Int32} {c0 : zS} (hst : l.stackTraces = false) (h : tX8_run p1 = some 1) : sh_M l yL_run (wsH yL_run cL_run 4 (some .int) [(0, 16, 19, 13)]) { frames := 7, cells := 1, slots := 6, locals := 159 } (dC, dI) vwCl [(cI, .int), (cL, .long)] tF [.ref (ad 0), .int p1, .ref o] (cW ad cI c0 ++ oW o cL g) (cW ad cI c0 ++ oW o cL g) 1 := by
  intro sz
  refine sh_of (cc := cL_run) (maxL := 4) (ret := some .int) (by decide) rfl (Nat.le_of_ble_eq_true rfl) ?_
  intro p e s m args below meth c A ls hAe X htab hP hD hS hl
  rw [hAe]
  have hx := X.1.1
  have hb := X.1.2.1
  have hown := X.1.2.2.2.1
  have hts := X.1.2.2.2.2
  have S : CallFix p m c cL_run 4 s args sw_tb RL := ⟨hx, hb, X.1.2.2.1, hown, fun w h => hts w (List.mem_cons_of_mem _ h)⟩
  have hKc : va_K (dC, dI) vwCl [(cI, .int)] s := X.2.2.2.1.sub [0] rfl
  have h2 := sg_2.spl hP hD
  replace hl : lv_has ls 4 [(0, .ref (ad 0)), (1, .int p1), (2, .ref o)] := hl
  refine lv_aload_n hx hb dL_run_0 rfl (lv_at hl 2 rfl) ?_
  refine lv_iconst (v := 0) hx hb dL_run_1 (by decide) ?_
  refine lv_aload_n hx hb dL_run_2 rfl (lv_at hl 0 rfl) ?_
  refine lv_iload_n hx hb dL_run_3 rfl (lv_at hl 1 rfl) ?_
  refine sg_tx (E := eA) (name := eA) (wr := oW o cL g) (rest := [.int 0, .ref o]) S t_good hKc X.2.2.2.2.1 X.2.2.2.2.2 (cX8_run_t hst h) calX8_run lk_X8_run h2 hS 0 8 rfl rfl rfl ⟨by decide, by decide⟩ ⟨by decide, by decide⟩ rfl hl.1 rfl (Nat.le_of_ble_eq_true rfl) dL_run_4 [] ⟨0, 16, 19, 13⟩ [] htab (fun z hz => by simp at hz) rfl (by decide) (hts _ (List.mem_cons_of_mem _ lk_clA)) (va_Nw.use rfl (X.2.2.2.2.2.2.2.2.1 (.castable eA eA) (by decide))) (fun H locs q9 h2 hS => ?_)
  refine lv_astore_n (lv' := [(3, .ref q9), (0, .ref (ad 0)), (1, .int p1), (2, .ref o)]) hx hb dL_run_19 rfl hl (by decide) rfl (fun ls hl => ?_)
  refine lv_iconst (v := 1) hx hb dL_run_20 (by decide) ?_
  obtain ⟨hP, hD⟩ := h2.app
  exact sw_iret X hP hD hS dL_run_21
theorem dL_count_0 : decode cL_count 0 = .ok (.aload_n 2, 1) := by decide +kernel
theorem dL_count_1 : decode cL_count 1 = .ok (.iconst 0, 1) := by decide +kernel
theorem dL_count_2 : decode cL_count 2 = .ok (.aload_n 0, 1) := by decide +kernel
theorem dL_count_3 : decode cL_count 3 = .ok (.iload_n 1, 1) := by decide +kernel
theorem dL_count_4 : decode cL_count 4 = .ok (.invokevirtual 38, 3) := by decide +kernel
theorem dL_count_7 : decode cL_count 7 = .ok (.i2l, 1) := by decide +kernel
theorem dL_count_8 : decode cL_count 8 = .ok (.lastore, 1) := by decide +kernel
theorem dL_count_9 : decode cL_count 9 = .ok (.goto 6, 3) := by decide +kernel
theorem dL_count_12 : decode cL_count 12 = .ok (.astore_n 3, 1) := by decide +kernel
theorem dL_count_13 : decode cL_count 13 = .ok (.iconst 1, 1) := by decide +kernel
theorem dL_count_14 : decode cL_count 14 = .ok (.ireturn, 1) := by decide +kernel
theorem dL_count_15 : decode cL_count 15 = .ok (.iconst 0, 1) := by decide +kernel
theorem dL_count_16 : decode cL_count 16 = .ok (.ireturn, 1) := by decide +kernel
theorem calL_count : sh_cal yL_count cL_count 4 (some .int) [(0, 9, 12, 13)] RL 75 3 := ⟨⟨sw_in 746 (by decide +kernel) rfl, sw_in 745 (by decide +kernel) rfl, sw_in 0 (by decide +kernel) rfl, sw_in 744 (by decide +kernel) rfl⟩, by decide, by decide, by decide +kernel⟩
set_option maxHeartbeats 4000000 in
set_option maxRecDepth 100000 in
theorem hL_count {l : Launch} {dC : Nat → ClassId} {dI : Nat → Nat → Nat} {ad : Nat → Nat} {cI cL : ClassId} {o : Nat} {g : Nat → Int64} {p1 : Int32} {c0 c1 : zS} {v : Int32} (h : fX8_count p1 c0 = some (v, c1)) : sh_M l yL_count (wsH yL_count cL_count 4 (some .int) [(0, 9, 12, 13)]) { frames := 7, cells := 1, slots := 6, locals := 121 } (dC, dI) vwCl [(cI, .int), (cL, .long)] tF [.ref (ad 0), .int p1, .ref o] (cW ad cI c0 ++ oW o cL g) (cW ad cI c1 ++ oW o cL (vp_updL g 0 v.toInt64)) 0 := by
  intro sz
  refine sh_of (cc := cL_count) (maxL := 4) (ret := some .int) (by decide) rfl (Nat.le_of_ble_eq_true rfl) ?_
  intro p e s m args below meth c A ls hAe X htab hP hD hS hl
  rw [hAe]
  have hx := X.1.1
  have hb := X.1.2.1
  have hown := X.1.2.2.2.1
  have hts := X.1.2.2.2.2
  have S : CallFix p m c cL_count 4 s args sw_tb RL := ⟨hx, hb, X.1.2.2.1, hown, fun w h => hts w (List.mem_cons_of_mem _ h)⟩
  have hKc : va_K (dC, dI) vwCl [(cI, .int)] s := X.2.2.2.1.sub [0] rfl
  have h2 := sg_2.spl hP hD
  replace hl : lv_has ls 4 [(0, .ref (ad 0)), (1, .int p1), (2, .ref o)] := hl
  refine lv_aload_n hx hb dL_count_0 rfl (lv_at hl 2 rfl) ?_
  refine lv_iconst (v := 0) hx hb dL_count_1 (by decide) ?_
  refine lv_aload_n hx hb dL_count_2 rfl (lv_at hl 0 rfl) ?_
  refine lv_iload_n hx hb dL_count_3 rfl (lv_at hl 1 rfl) ?_
  refine sg_vi (wr := oW o cL g) (rest := [.int 0, .ref o]) S c_good hKc X.2.2.2.2.1 X.2.2.2.2.2.1 (cX8_count_m h) calX8_count lk_X8_count h2 hS 0 8 rfl rfl rfl ⟨by decide, by decide⟩ ⟨by decide, by decide⟩ rfl hl.1 rfl (Nat.le_of_ble_eq_true rfl) dL_count_4 (fun H locs h2 hS => ?_)
  refine lv_i2l hx hb dL_count_7 rfl ?_
  obtain ⟨hP, hD⟩ := h2.symm.app
  refine va_last hx hb X.2.2.2.1 hP hD hS 0 1 rfl rfl (by unfold vp_in; decide) dL_count_8 (fun H locs hP hD hS => ?_)
  replace hP : va_P (dC, dI) vwCl (oW o cL (vp_updL g 0 v.toInt64) ++ cW ad cI c1) H := hP
  replace hD : va_D A (oW o cL (vp_updL g 0 v.toInt64) ++ cW ad cI c1) := hD
  obtain ⟨hP, hD⟩ := (sg_2.spl hP hD).symm.app
  refine lv_goto (tgt := 15) hx hb dL_count_9 (by decide) ?_
  refine lv_iconst (v := 0) hx hb dL_count_15 (by decide) ?_
  refine W.widen (k := 1) (n := 6) (by decide) (by decide) ?_
  exact sw_iret X hP hD hS dL_count_16
set_option maxHeartbeats 4000000 in
set_option maxRecDepth 100000 in
theorem hL_count_1 {l : Launch} {dC : Nat → ClassId} {dI : Nat → Nat → Nat} {ad : Nat → Nat} {cI cL : ClassId} {o : Nat} {g : Nat → Int64} {p1 : Int32} {c0 : zS} (hst : l.stackTraces = false) (h : tX8_count p1 = some 1) : sh_M l yL_count (wsH yL_count cL_count 4 (some .int) [(0, 9, 12, 13)]) { frames := 7, cells := 1, slots := 6, locals := 121 } (dC, dI) vwCl [(cI, .int), (cL, .long)] tF [.ref (ad 0), .int p1, .ref o] (cW ad cI c0 ++ oW o cL g) (cW ad cI c0 ++ oW o cL g) 1 := by
  intro sz
  refine sh_of (cc := cL_count) (maxL := 4) (ret := some .int) (by decide) rfl (Nat.le_of_ble_eq_true rfl) ?_
  intro p e s m args below meth c A ls hAe X htab hP hD hS hl
  rw [hAe]
  have hx := X.1.1
  have hb := X.1.2.1
  have hown := X.1.2.2.2.1
  have hts := X.1.2.2.2.2
  have S : CallFix p m c cL_count 4 s args sw_tb RL := ⟨hx, hb, X.1.2.2.1, hown, fun w h => hts w (List.mem_cons_of_mem _ h)⟩
  have hKc : va_K (dC, dI) vwCl [(cI, .int)] s := X.2.2.2.1.sub [0] rfl
  have h2 := sg_2.spl hP hD
  replace hl : lv_has ls 4 [(0, .ref (ad 0)), (1, .int p1), (2, .ref o)] := hl
  refine lv_aload_n hx hb dL_count_0 rfl (lv_at hl 2 rfl) ?_
  refine lv_iconst (v := 0) hx hb dL_count_1 (by decide) ?_
  refine lv_aload_n hx hb dL_count_2 rfl (lv_at hl 0 rfl) ?_
  refine lv_iload_n hx hb dL_count_3 rfl (lv_at hl 1 rfl) ?_
  refine sg_tx (E := eA) (name := eA) (wr := oW o cL g) (rest := [.int 0, .ref o]) S t_good hKc X.2.2.2.2.1 X.2.2.2.2.2 (cX8_count_t hst h) calX8_count lk_X8_count h2 hS 0 8 rfl rfl rfl ⟨by decide, by decide⟩ ⟨by decide, by decide⟩ rfl hl.1 rfl (Nat.le_of_ble_eq_true rfl) dL_count_4 [] ⟨0, 9, 12, 13⟩ [] htab (fun z hz => by simp at hz) rfl (by decide) (hts _ (List.mem_cons_of_mem _ lk_clA)) (va_Nw.use rfl (X.2.2.2.2.2.2.2.2.1 (.castable eA eA) (by decide))) (fun H locs q9 h2 hS => ?_)
  refine lv_astore_n (lv' := [(3, .ref q9), (0, .ref (ad 0)), (1, .int p1), (2, .ref o)]) hx hb dL_count_12 rfl hl (by decide) rfl (fun ls hl => ?_)
  refine lv_iconst (v := 1) hx hb dL_count_13 (by decide) ?_
  obtain ⟨hP, hD⟩ := h2.app
  exact sw_iret X hP hD hS dL_count_14
