theorem dX5_executeAlone_0 : decode cX5_executeAlone 0 = .ok (.iload_n 1, 1) := by decide +kernel
theorem dX5_executeAlone_1 : decode cX5_executeAlone 1 = .ok (.tableswitch 398 195 249 #[235, 398, 398, 398, 398, 398, 250, 398, 265, 398, 279, 398, 398, 398, 398, 398, 294, 398, 398, 398, 398, 398, 320, 398, 327, 398, 398, 398, 398, 398, 398, 398, 334, 398, 398, 398, 398, 398, 341, 398, 357, 398, 369, 398, 398, 398, 398, 398, 383, 398, 398, 398, 398, 398, 391], 235) := by decide +kernel
theorem dX5_executeAlone_236 : decode cX5_executeAlone 236 = .ok (.aload_n 0, 1) := by decide +kernel
theorem dX5_executeAlone_237 : decode cX5_executeAlone 237 = .ok (.aload_n 0, 1) := by decide +kernel
theorem dX5_executeAlone_238 : decode cX5_executeAlone 238 = .ok (.getfield 39, 3) := by decide +kernel
theorem dX5_executeAlone_241 : decode cX5_executeAlone 241 = .ok (.invokevirtual 176, 3) := by decide +kernel
theorem dX5_executeAlone_244 : decode cX5_executeAlone 244 = .ok (.iconst 1, 1) := by decide +kernel
theorem dX5_executeAlone_245 : decode cX5_executeAlone 245 = .ok (.invokevirtual 221, 3) := by decide +kernel
theorem dX5_executeAlone_248 : decode cX5_executeAlone 248 = .ok (.goto 155, 3) := by decide +kernel
theorem dX5_executeAlone_251 : decode cX5_executeAlone 251 = .ok (.aload_n 0, 1) := by decide +kernel
theorem dX5_executeAlone_252 : decode cX5_executeAlone 252 = .ok (.aload_n 0, 1) := by decide +kernel
theorem dX5_executeAlone_253 : decode cX5_executeAlone 253 = .ok (.getfield 39, 3) := by decide +kernel
theorem dX5_executeAlone_256 : decode cX5_executeAlone 256 = .ok (.invokevirtual 224, 3) := by decide +kernel
theorem dX5_executeAlone_259 : decode cX5_executeAlone 259 = .ok (.iconst 1, 1) := by decide +kernel
theorem dX5_executeAlone_260 : decode cX5_executeAlone 260 = .ok (.invokevirtual 221, 3) := by decide +kernel
theorem dX5_executeAlone_263 : decode cX5_executeAlone 263 = .ok (.goto 140, 3) := by decide +kernel
theorem dX5_executeAlone_266 : decode cX5_executeAlone 266 = .ok (.aload_n 0, 1) := by decide +kernel
theorem dX5_executeAlone_267 : decode cX5_executeAlone 267 = .ok (.aload_n 0, 1) := by decide +kernel
theorem dX5_executeAlone_268 : decode cX5_executeAlone 268 = .ok (.getfield 39, 3) := by decide +kernel
theorem dX5_executeAlone_271 : decode cX5_executeAlone 271 = .ok (.invokevirtual 73, 3) := by decide +kernel
theorem dX5_executeAlone_274 : decode cX5_executeAlone 274 = .ok (.invokevirtual 227, 3) := by decide +kernel
theorem dX5_executeAlone_277 : decode cX5_executeAlone 277 = .ok (.goto 126, 3) := by decide +kernel
theorem dX5_executeAlone_280 : decode cX5_executeAlone 280 = .ok (.aload_n 0, 1) := by decide +kernel
theorem dX5_executeAlone_281 : decode cX5_executeAlone 281 = .ok (.aload_n 0, 1) := by decide +kernel
theorem dX5_executeAlone_282 : decode cX5_executeAlone 282 = .ok (.getfield 39, 3) := by decide +kernel
theorem dX5_executeAlone_285 : decode cX5_executeAlone 285 = .ok (.invokevirtual 176, 3) := by decide +kernel
theorem dX5_executeAlone_288 : decode cX5_executeAlone 288 = .ok (.iconst 1, 1) := by decide +kernel
theorem dX5_executeAlone_289 : decode cX5_executeAlone 289 = .ok (.invokevirtual 230, 3) := by decide +kernel
theorem dX5_executeAlone_292 : decode cX5_executeAlone 292 = .ok (.goto 111, 3) := by decide +kernel
theorem dX5_executeAlone_295 : decode cX5_executeAlone 295 = .ok (.aload_n 0, 1) := by decide +kernel
theorem dX5_executeAlone_296 : decode cX5_executeAlone 296 = .ok (.getfield 17, 3) := by decide +kernel
theorem dX5_executeAlone_299 : decode cX5_executeAlone 299 = .ok (.aload_n 0, 1) := by decide +kernel
theorem dX5_executeAlone_300 : decode cX5_executeAlone 300 = .ok (.getfield 39, 3) := by decide +kernel
theorem dX5_executeAlone_303 : decode cX5_executeAlone 303 = .ok (.invokevirtual 146, 3) := by decide +kernel
theorem dX5_executeAlone_306 : decode cX5_executeAlone 306 = .ok (.aload_n 0, 1) := by decide +kernel
theorem dX5_executeAlone_307 : decode cX5_executeAlone 307 = .ok (.getfield 21, 3) := by decide +kernel
theorem dX5_executeAlone_310 : decode cX5_executeAlone 310 = .ok (.bipush 7, 2) := by decide +kernel
theorem dX5_executeAlone_312 : decode cX5_executeAlone 312 = .ok (.invokevirtual 164, 3) := by decide +kernel
theorem dX5_executeAlone_315 : decode cX5_executeAlone 315 = .ok (.invokevirtual 233, 3) := by decide +kernel
theorem dX5_executeAlone_318 : decode cX5_executeAlone 318 = .ok (.goto 85, 3) := by decide +kernel
theorem dX5_executeAlone_321 : decode cX5_executeAlone 321 = .ok (.aload_n 0, 1) := by decide +kernel
theorem dX5_executeAlone_322 : decode cX5_executeAlone 322 = .ok (.invokevirtual 238, 3) := by decide +kernel
theorem dX5_executeAlone_325 : decode cX5_executeAlone 325 = .ok (.goto 78, 3) := by decide +kernel
theorem dX5_executeAlone_328 : decode cX5_executeAlone 328 = .ok (.aload_n 0, 1) := by decide +kernel
theorem dX5_executeAlone_329 : decode cX5_executeAlone 329 = .ok (.invokevirtual 241, 3) := by decide +kernel
theorem dX5_executeAlone_332 : decode cX5_executeAlone 332 = .ok (.goto 71, 3) := by decide +kernel
theorem dX5_executeAlone_335 : decode cX5_executeAlone 335 = .ok (.aload_n 0, 1) := by decide +kernel
theorem dX5_executeAlone_336 : decode cX5_executeAlone 336 = .ok (.invokevirtual 244, 3) := by decide +kernel
theorem dX5_executeAlone_339 : decode cX5_executeAlone 339 = .ok (.goto 64, 3) := by decide +kernel
theorem dX5_executeAlone_342 : decode cX5_executeAlone 342 = .ok (.aload_n 0, 1) := by decide +kernel
theorem dX5_executeAlone_343 : decode cX5_executeAlone 343 = .ok (.aload_n 0, 1) := by decide +kernel
theorem dX5_executeAlone_344 : decode cX5_executeAlone 344 = .ok (.getfield 21, 3) := by decide +kernel
theorem dX5_executeAlone_347 : decode cX5_executeAlone 347 = .ok (.iconst 3, 1) := by decide +kernel
theorem dX5_executeAlone_348 : decode cX5_executeAlone 348 = .ok (.invokevirtual 106, 3) := by decide +kernel
theorem dX5_executeAlone_351 : decode cX5_executeAlone 351 = .ok (.iconst 1, 1) := by decide +kernel
theorem dX5_executeAlone_352 : decode cX5_executeAlone 352 = .ok (.invokevirtual 221, 3) := by decide +kernel
theorem dX5_executeAlone_355 : decode cX5_executeAlone 355 = .ok (.goto 48, 3) := by decide +kernel
theorem dX5_executeAlone_358 : decode cX5_executeAlone 358 = .ok (.aload_n 0, 1) := by decide +kernel
theorem dX5_executeAlone_359 : decode cX5_executeAlone 359 = .ok (.getfield 21, 3) := by decide +kernel
theorem dX5_executeAlone_362 : decode cX5_executeAlone 362 = .ok (.iconst 2, 1) := by decide +kernel
theorem dX5_executeAlone_363 : decode cX5_executeAlone 363 = .ok (.iconst 3, 1) := by decide +kernel
theorem dX5_executeAlone_364 : decode cX5_executeAlone 364 = .ok (.invokevirtual 152, 3) := by decide +kernel
theorem dX5_executeAlone_367 : decode cX5_executeAlone 367 = .ok (.goto 36, 3) := by decide +kernel
theorem dX5_executeAlone_370 : decode cX5_executeAlone 370 = .ok (.aload_n 0, 1) := by decide +kernel
theorem dX5_executeAlone_371 : decode cX5_executeAlone 371 = .ok (.aload_n 0, 1) := by decide +kernel
theorem dX5_executeAlone_372 : decode cX5_executeAlone 372 = .ok (.getfield 39, 3) := by decide +kernel
theorem dX5_executeAlone_375 : decode cX5_executeAlone 375 = .ok (.invokevirtual 73, 3) := by decide +kernel
theorem dX5_executeAlone_378 : decode cX5_executeAlone 378 = .ok (.invokevirtual 247, 3) := by decide +kernel
theorem dX5_executeAlone_381 : decode cX5_executeAlone 381 = .ok (.goto 22, 3) := by decide +kernel
theorem dX5_executeAlone_384 : decode cX5_executeAlone 384 = .ok (.aload_n 0, 1) := by decide +kernel
theorem dX5_executeAlone_385 : decode cX5_executeAlone 385 = .ok (.iconst 0, 1) := by decide +kernel
theorem dX5_executeAlone_386 : decode cX5_executeAlone 386 = .ok (.putfield 43, 3) := by decide +kernel
theorem dX5_executeAlone_389 : decode cX5_executeAlone 389 = .ok (.goto 14, 3) := by decide +kernel
theorem dX5_executeAlone_392 : decode cX5_executeAlone 392 = .ok (.aload_n 0, 1) := by decide +kernel
theorem dX5_executeAlone_393 : decode cX5_executeAlone 393 = .ok (.invokevirtual 250, 3) := by decide +kernel
theorem dX5_executeAlone_396 : decode cX5_executeAlone 396 = .ok (.goto 7, 3) := by decide +kernel
theorem dX5_executeAlone_399 : decode cX5_executeAlone 399 = .ok (.aload_n 0, 1) := by decide +kernel
theorem dX5_executeAlone_400 : decode cX5_executeAlone 400 = .ok (.invokevirtual 253, 3) := by decide +kernel
theorem dX5_executeAlone_403 : decode cX5_executeAlone 403 = .ok (.return_, 1) := by decide +kernel
def fX5_executeAlone (p1 : Int32) (s0 : zS) : Option (zS) := if p1 ∈ ([(195 : Int32)] : List Int32) then (bd2 (fX3_nextPair  s0) fun r3 s4 => bd (fX5_jumpTo r3 (1 : Int32) s4) fun s6 => some s6) else if p1 ∈ ([(201 : Int32)] : List Int32) then (bd2 (fX3_pop  s0) fun r9 s10 => bd (fX5_jumpTo r9 (1 : Int32) s10) fun s12 => some s12) else if p1 ∈ ([(203 : Int32)] : List Int32) then (bd2 (fX3_fetchNext  s0) fun r15 s16 => bd (fX5_executeBits r15 s16) fun s18 => some s18) else if p1 ∈ ([(205 : Int32)] : List Int32) then (bd2 (fX3_nextPair  s0) fun r21 s22 => bd (fX5_callTo r21 (1 : Int32) s22) fun s24 => some s24) else if p1 ∈ ([(211 : Int32)] : List Int32) then (bd2 (fX3_next  s0) fun r27 s28 => bd2 (fX6_single (7 : Int32) s28) fun r30 s31 => bd (fX4_output r27 r30 s31) fun s33 => some s33) else if p1 ∈ ([(217 : Int32)] : List Int32) then (bd (fX5_exchangeWithOthers  s0) fun s36 => some s36) else if p1 ∈ ([(219 : Int32)] : List Int32) then (bd (fX5_inputToA  s0) fun s39 => some s39) else if p1 ∈ ([(227 : Int32)] : List Int32) then (bd (fX5_exchangeHlWithStack  s0) fun s42 => some s42) else if p1 ∈ ([(233 : Int32)] : List Int32) then (bd2 (fX6_pair (3 : Int32) s0) fun r45 s46 => bd (fX5_jumpTo r45 (1 : Int32) s46) fun s48 => some s48) else if p1 ∈ ([(235 : Int32)] : List Int32) then (bd (fX6_exchange (2 : Int32) (3 : Int32) s0) fun s51 => some s51) else if p1 ∈ ([(237 : Int32)] : List Int32) then (bd2 (fX3_fetchNext  s0) fun r54 s55 => bd (fX5_executeMore r54 s55) fun s57 => some s57) else if p1 ∈ ([(243 : Int32)] : List Int32) then (some (st1 s0 5 (0 : Int32))) else if p1 ∈ ([(249 : Int32)] : List Int32) then (bd (fX5_loadStackFromHl  s0) fun s61 => some s61) else (bd (fX5_turnInterruptsOn  s0) fun s63 => some s63)
set_option maxHeartbeats 4000000 in
set_option maxRecDepth 100000 in
theorem cX5_executeAlone_m {l : Launch} {dC : Nat → ClassId} {dI : Nat → Nat → Nat} {ad : Nat → Nat} {cI : ClassId} {p1 : Int32} {s0 : zS} {zs : zS} (h : fX5_executeAlone p1 s0 = some zs) : sw_Mv l yX5_executeAlone (sw_ws yX5_executeAlone cX5_executeAlone 2 none) (sw_rm 4 91) (dC, dI) vwCl [(cI, .int)] cF [.ref (ad 5), .int p1] (cW ad cI s0) (cW ad cI zs) := by
  intro sz
  refine sw_of (cc := cX5_executeAlone) (maxL := 2) (ret := none) (by decide) rfl (Nat.le_of_ble_eq_true rfl) ?_
  intro p e s m args below meth c A ls hAe hsz X _ hP hD hS hl
  rw [hAe]
  have hx := X.1.1
  have hb := X.1.2.1
  have hown := X.1.2.2.2.1
  have hts := X.1.2.2.2.2
  replace hl : lv_has ls 2 [(0, .ref (ad 5)), (1, .int p1)] := hl
  unfold fX5_executeAlone at h
  refine lv_iload_n hx hb dX5_executeAlone_0 rfl (lv_at hl 1 rfl) ?_
  by_cases c1 : p1 ∈ ([(195 : Int32)] : List Int32)
  · replace h := if_yes h c1
    refine sw_tabK (tgt := 236) (off := 235) hx hb dX5_executeAlone_1 _ c1 (by decide +kernel) (by decide) ?_
    refine lv_aload_n hx hb dX5_executeAlone_236 rfl (lv_at hl 0 rfl) ?_
    refine lv_aload_n hx hb dX5_executeAlone_237 rfl (lv_at hl 0 rfl) ?_
    refine cg_5_5 X hP k_144 dX5_executeAlone_238 ?_
    have hq := bd2_some h; clear h; obtain ⟨r3, s4, h2, h⟩ := hq
    refine sw_vi (rest := [.ref (ad 5)]) c_good X (cX3_nextPair_m h2) calX3_nextPair k_491 hP hD hS 7 3 rfl rfl rfl ⟨rfl, rfl⟩ rfl hl.1 rfl (Nat.le_of_ble_eq_true rfl) dX5_executeAlone_241 (fun H locs hP hD hS => ?_)
    refine lv_iconst (v := (1 : Int32)) hx hb dX5_executeAlone_244 (by decide) ?_
    have hq := bd_some h; clear h; obtain ⟨s6, h5, h⟩ := hq
    refine sw_vv (rest := []) c_good X (cX5_jumpTo_m h5) calX5_jumpTo k_629 hP hD hS 5 5 rfl rfl rfl ⟨rfl, rfl⟩ rfl hl.1 rfl (Nat.le_of_ble_eq_true rfl) dX5_executeAlone_245 (fun H locs hP hD hS => ?_)
    refine lv_goto (tgt := 403) hx hb dX5_executeAlone_248 (by decide) ?_
    obtain rfl := Option.some.inj h
    exact sw_vret X hP hD hS dX5_executeAlone_403
  · replace h := if_no h c1
    by_cases c7 : p1 ∈ ([(201 : Int32)] : List Int32)
    · replace h := if_yes h c7
      refine sw_tabK (tgt := 251) (off := 250) hx hb dX5_executeAlone_1 _ c7 (by decide +kernel) (by decide) ?_
      refine lv_aload_n hx hb dX5_executeAlone_251 rfl (lv_at hl 0 rfl) ?_
      refine lv_aload_n hx hb dX5_executeAlone_252 rfl (lv_at hl 0 rfl) ?_
      refine cg_5_5 X hP k_144 dX5_executeAlone_253 ?_
      have hq := bd2_some h; clear h; obtain ⟨r9, s10, h8, h⟩ := hq
      refine sw_vi (rest := [.ref (ad 5)]) c_good X (cX3_pop_m h8) calX3_pop k_633 hP hD hS 7 3 rfl rfl rfl ⟨rfl, rfl⟩ rfl hl.1 rfl (Nat.le_of_ble_eq_true rfl) dX5_executeAlone_256 (fun H locs hP hD hS => ?_)
      refine lv_iconst (v := (1 : Int32)) hx hb dX5_executeAlone_259 (by decide) ?_
      have hq := bd_some h; clear h; obtain ⟨s12, h11, h⟩ := hq
      refine sw_vv (rest := []) c_good X (cX5_jumpTo_m h11) calX5_jumpTo k_629 hP hD hS 5 5 rfl rfl rfl ⟨rfl, rfl⟩ rfl hl.1 rfl (Nat.le_of_ble_eq_true rfl) dX5_executeAlone_260 (fun H locs hP hD hS => ?_)
      refine lv_goto (tgt := 403) hx hb dX5_executeAlone_263 (by decide) ?_
      obtain rfl := Option.some.inj h
      exact sw_vret X hP hD hS dX5_executeAlone_403
    · replace h := if_no h c7
      by_cases c13 : p1 ∈ ([(203 : Int32)] : List Int32)
      · replace h := if_yes h c13
        refine sw_tabK (tgt := 266) (off := 265) hx hb dX5_executeAlone_1 _ c13 (by decide +kernel) (by decide) ?_
        refine lv_aload_n hx hb dX5_executeAlone_266 rfl (lv_at hl 0 rfl) ?_
        refine lv_aload_n hx hb dX5_executeAlone_267 rfl (lv_at hl 0 rfl) ?_
        refine cg_5_5 X hP k_144 dX5_executeAlone_268 ?_
        have hq := bd2_some h; clear h; obtain ⟨r15, s16, h14, h⟩ := hq
        refine sw_vi (rest := [.ref (ad 5)]) c_good X (cX3_fetchNext_m h14) calX3_fetchNext k_421 hP hD hS 7 3 rfl rfl rfl ⟨rfl, rfl⟩ rfl hl.1 rfl (Nat.le_of_ble_eq_true rfl) dX5_executeAlone_271 (fun H locs hP hD hS => ?_)
        have hq := bd_some h; clear h; obtain ⟨s18, h17, h⟩ := hq
        refine sw_vv (rest := []) c_good X (cX5_executeBits_m h17) calX5_executeBits k_637 hP hD hS 5 5 rfl rfl rfl ⟨rfl, rfl⟩ rfl hl.1 rfl (Nat.le_of_ble_eq_true rfl) dX5_executeAlone_274 (fun H locs hP hD hS => ?_)
        refine lv_goto (tgt := 403) hx hb dX5_executeAlone_277 (by decide) ?_
        obtain rfl := Option.some.inj h
        exact sw_vret X hP hD hS dX5_executeAlone_403
      · replace h := if_no h c13
        by_cases c19 : p1 ∈ ([(205 : Int32)] : List Int32)
        · replace h := if_yes h c19
          refine sw_tabK (tgt := 280) (off := 279) hx hb dX5_executeAlone_1 _ c19 (by decide +kernel) (by decide) ?_
          refine lv_aload_n hx hb dX5_executeAlone_280 rfl (lv_at hl 0 rfl) ?_
          refine lv_aload_n hx hb dX5_executeAlone_281 rfl (lv_at hl 0 rfl) ?_
          refine cg_5_5 X hP k_144 dX5_executeAlone_282 ?_
          have hq := bd2_some h; clear h; obtain ⟨r21, s22, h20, h⟩ := hq
          refine sw_vi (rest := [.ref (ad 5)]) c_good X (cX3_nextPair_m h20) calX3_nextPair k_491 hP hD hS 7 3 rfl rfl rfl ⟨rfl, rfl⟩ rfl hl.1 rfl (Nat.le_of_ble_eq_true rfl) dX5_executeAlone_285 (fun H locs hP hD hS => ?_)
          refine lv_iconst (v := (1 : Int32)) hx hb dX5_executeAlone_288 (by decide) ?_
          have hq := bd_some h; clear h; obtain ⟨s24, h23, h⟩ := hq
          refine sw_vv (rest := []) c_good X (cX5_callTo_m h23) calX5_callTo k_649 hP hD hS 5 5 rfl rfl rfl ⟨rfl, rfl⟩ rfl hl.1 rfl (Nat.le_of_ble_eq_true rfl) dX5_executeAlone_289 (fun H locs hP hD hS => ?_)
          refine lv_goto (tgt := 403) hx hb dX5_executeAlone_292 (by decide) ?_
          obtain rfl := Option.some.inj h
          exact sw_vret X hP hD hS dX5_executeAlone_403
        · replace h := if_no h c19
          by_cases c25 : p1 ∈ ([(211 : Int32)] : List Int32)
          · replace h := if_yes h c25
            refine sw_tabK (tgt := 295) (off := 294) hx hb dX5_executeAlone_1 _ c25 (by decide +kernel) (by decide) ?_
            refine lv_aload_n hx hb dX5_executeAlone_295 rfl (lv_at hl 0 rfl) ?_
            refine cg_5_2 X hP k_141 dX5_executeAlone_296 ?_
            refine lv_aload_n hx hb dX5_executeAlone_299 rfl (lv_at hl 0 rfl) ?_
            refine cg_5_5 X hP k_144 dX5_executeAlone_300 ?_
            have hq := bd2_some h; clear h; obtain ⟨r27, s28, h26, h⟩ := hq
            refine sw_vi (rest := [.ref (ad 3)]) c_good X (cX3_next_m h26) calX3_next k_442 hP hD hS 7 3 rfl rfl rfl ⟨rfl, rfl⟩ rfl hl.1 rfl (Nat.le_of_ble_eq_true rfl) dX5_executeAlone_303 (fun H locs hP hD hS => ?_)
            refine lv_aload_n hx hb dX5_executeAlone_306 rfl (lv_at hl 0 rfl) ?_
            refine cg_5_3 X hP k_142 dX5_executeAlone_307 ?_
            refine lv_bipush (v := (7 : Int32)) hx hb dX5_executeAlone_310 (by decide) ?_
            have hq := bd2_some h; clear h; obtain ⟨r30, s31, h29, h⟩ := hq
            refine sw_vi (rest := [.int r27, .ref (ad 3)]) c_good X (cX6_single_m h29) calX6_single k_454 hP hD hS 4 6 rfl rfl rfl ⟨rfl, rfl⟩ rfl hl.1 rfl (Nat.le_of_ble_eq_true rfl) dX5_executeAlone_312 (fun H locs hP hD hS => ?_)
            have hq := bd_some h; clear h; obtain ⟨s33, h32, h⟩ := hq
            refine sw_vv (rest := []) c_good X (cX4_output_m h32) calX4_output k_653 hP hD hS 3 4 rfl rfl rfl ⟨rfl, rfl⟩ rfl hl.1 rfl (Nat.le_of_ble_eq_true rfl) dX5_executeAlone_315 (fun H locs hP hD hS => ?_)
            refine lv_goto (tgt := 403) hx hb dX5_executeAlone_318 (by decide) ?_
            obtain rfl := Option.some.inj h
            exact sw_vret X hP hD hS dX5_executeAlone_403
          · replace h := if_no h c25
            by_cases c34 : p1 ∈ ([(217 : Int32)] : List Int32)
            · replace h := if_yes h c34
              refine sw_tabK (tgt := 321) (off := 320) hx hb dX5_executeAlone_1 _ c34 (by decide +kernel) (by decide) ?_
              refine lv_aload_n hx hb dX5_executeAlone_321 rfl (lv_at hl 0 rfl) ?_
              have hq := bd_some h; clear h; obtain ⟨s36, h35, h⟩ := hq
              refine sw_vv (rest := []) c_good X (cX5_exchangeWithOthers_m h35) calX5_exchangeWithOthers k_666 hP hD hS 5 5 rfl rfl rfl ⟨rfl, rfl⟩ rfl hl.1 rfl (Nat.le_of_ble_eq_true rfl) dX5_executeAlone_322 (fun H locs hP hD hS => ?_)
              refine lv_goto (tgt := 403) hx hb dX5_executeAlone_325 (by decide) ?_
              obtain rfl := Option.some.inj h
              exact sw_vret X hP hD hS dX5_executeAlone_403
            · replace h := if_no h c34
              by_cases c37 : p1 ∈ ([(219 : Int32)] : List Int32)
              · replace h := if_yes h c37
                refine sw_tabK (tgt := 328) (off := 327) hx hb dX5_executeAlone_1 _ c37 (by decide +kernel) (by decide) ?_
                refine lv_aload_n hx hb dX5_executeAlone_328 rfl (lv_at hl 0 rfl) ?_
                have hq := bd_some h; clear h; obtain ⟨s39, h38, h⟩ := hq
                refine sw_vv (rest := []) c_good X (cX5_inputToA_m h38) calX5_inputToA k_670 hP hD hS 5 5 rfl rfl rfl ⟨rfl, rfl⟩ rfl hl.1 rfl (Nat.le_of_ble_eq_true rfl) dX5_executeAlone_329 (fun H locs hP hD hS => ?_)
                refine lv_goto (tgt := 403) hx hb dX5_executeAlone_332 (by decide) ?_
                obtain rfl := Option.some.inj h
                exact sw_vret X hP hD hS dX5_executeAlone_403
              · replace h := if_no h c37
                by_cases c40 : p1 ∈ ([(227 : Int32)] : List Int32)
                · replace h := if_yes h c40
                  refine sw_tabK (tgt := 335) (off := 334) hx hb dX5_executeAlone_1 _ c40 (by decide +kernel) (by decide) ?_
                  refine lv_aload_n hx hb dX5_executeAlone_335 rfl (lv_at hl 0 rfl) ?_
                  have hq := bd_some h; clear h; obtain ⟨s42, h41, h⟩ := hq
                  refine sw_vv (rest := []) c_good X (cX5_exchangeHlWithStack_m h41) calX5_exchangeHlWithStack k_686 hP hD hS 5 5 rfl rfl rfl ⟨rfl, rfl⟩ rfl hl.1 rfl (Nat.le_of_ble_eq_true rfl) dX5_executeAlone_336 (fun H locs hP hD hS => ?_)
                  refine lv_goto (tgt := 403) hx hb dX5_executeAlone_339 (by decide) ?_
                  obtain rfl := Option.some.inj h
                  exact sw_vret X hP hD hS dX5_executeAlone_403
                · replace h := if_no h c40
                  by_cases c43 : p1 ∈ ([(233 : Int32)] : List Int32)
                  · replace h := if_yes h c43
                    refine sw_tabK (tgt := 342) (off := 341) hx hb dX5_executeAlone_1 _ c43 (by decide +kernel) (by decide) ?_
                    refine lv_aload_n hx hb dX5_executeAlone_342 rfl (lv_at hl 0 rfl) ?_
                    refine lv_aload_n hx hb dX5_executeAlone_343 rfl (lv_at hl 0 rfl) ?_
                    refine cg_5_3 X hP k_142 dX5_executeAlone_344 ?_
                    refine lv_iconst (v := (3 : Int32)) hx hb dX5_executeAlone_347 (by decide) ?_
                    have hq := bd2_some h; clear h; obtain ⟨r45, s46, h44, h⟩ := hq
                    refine sw_vi (rest := [.ref (ad 5)]) c_good X (cX6_pair_m h44) calX6_pair k_385 hP hD hS 4 6 rfl rfl rfl ⟨rfl, rfl⟩ rfl hl.1 rfl (Nat.le_of_ble_eq_true rfl) dX5_executeAlone_348 (fun H locs hP hD hS => ?_)
                    refine lv_iconst (v := (1 : Int32)) hx hb dX5_executeAlone_351 (by decide) ?_
                    have hq := bd_some h; clear h; obtain ⟨s48, h47, h⟩ := hq
                    refine sw_vv (rest := []) c_good X (cX5_jumpTo_m h47) calX5_jumpTo k_629 hP hD hS 5 5 rfl rfl rfl ⟨rfl, rfl⟩ rfl hl.1 rfl (Nat.le_of_ble_eq_true rfl) dX5_executeAlone_352 (fun H locs hP hD hS => ?_)
                    refine lv_goto (tgt := 403) hx hb dX5_executeAlone_355 (by decide) ?_
                    obtain rfl := Option.some.inj h
                    exact sw_vret X hP hD hS dX5_executeAlone_403
                  · replace h := if_no h c43
                    by_cases c49 : p1 ∈ ([(235 : Int32)] : List Int32)
                    · replace h := if_yes h c49
                      refine sw_tabK (tgt := 358) (off := 357) hx hb dX5_executeAlone_1 _ c49 (by decide +kernel) (by decide) ?_
                      refine lv_aload_n hx hb dX5_executeAlone_358 rfl (lv_at hl 0 rfl) ?_
                      refine cg_5_3 X hP k_142 dX5_executeAlone_359 ?_
                      refine lv_iconst (v := (2 : Int32)) hx hb dX5_executeAlone_362 (by decide) ?_
                      refine lv_iconst (v := (3 : Int32)) hx hb dX5_executeAlone_363 (by decide) ?_
                      have hq := bd_some h; clear h; obtain ⟨s51, h50, h⟩ := hq
                      refine sw_vv (rest := []) c_good X (cX6_exchange_m h50) calX6_exchange k_438 hP hD hS 4 6 rfl rfl rfl ⟨rfl, rfl⟩ rfl hl.1 rfl (Nat.le_of_ble_eq_true rfl) dX5_executeAlone_364 (fun H locs hP hD hS => ?_)
                      refine lv_goto (tgt := 403) hx hb dX5_executeAlone_367 (by decide) ?_
                      obtain rfl := Option.some.inj h
                      exact sw_vret X hP hD hS dX5_executeAlone_403
                    · replace h := if_no h c49
                      by_cases c52 : p1 ∈ ([(237 : Int32)] : List Int32)
                      · replace h := if_yes h c52
                        refine sw_tabK (tgt := 370) (off := 369) hx hb dX5_executeAlone_1 _ c52 (by decide +kernel) (by decide) ?_
                        refine lv_aload_n hx hb dX5_executeAlone_370 rfl (lv_at hl 0 rfl) ?_
                        refine lv_aload_n hx hb dX5_executeAlone_371 rfl (lv_at hl 0 rfl) ?_
                        refine cg_5_5 X hP k_144 dX5_executeAlone_372 ?_
                        have hq := bd2_some h; clear h; obtain ⟨r54, s55, h53, h⟩ := hq
                        refine sw_vi (rest := [.ref (ad 5)]) c_good X (cX3_fetchNext_m h53) calX3_fetchNext k_421 hP hD hS 7 3 rfl rfl rfl ⟨rfl, rfl⟩ rfl hl.1 rfl (Nat.le_of_ble_eq_true rfl) dX5_executeAlone_375 (fun H locs hP hD hS => ?_)
                        have hq := bd_some h; clear h; obtain ⟨s57, h56, h⟩ := hq
                        refine sw_vv (rest := []) c_good X (cX5_executeMore_m h56) calX5_executeMore k_690 hP hD hS 5 5 rfl rfl rfl ⟨rfl, rfl⟩ rfl hl.1 rfl (Nat.le_of_ble_eq_true rfl) dX5_executeAlone_378 (fun H locs hP hD hS => ?_)
                        refine lv_goto (tgt := 403) hx hb dX5_executeAlone_381 (by decide) ?_
                        obtain rfl := Option.some.inj h
                        exact sw_vret X hP hD hS dX5_executeAlone_403
                      · replace h := if_no h c52
                        by_cases c58 : p1 ∈ ([(243 : Int32)] : List Int32)
                        · replace h := if_yes h c58
                          refine sw_tabK (tgt := 384) (off := 383) hx hb dX5_executeAlone_1 _ c58 (by decide +kernel) (by decide) ?_
                          refine lv_aload_n hx hb dX5_executeAlone_384 rfl (lv_at hl 0 rfl) ?_
                          refine lv_iconst (v := (0 : Int32)) hx hb dX5_executeAlone_385 (by decide) ?_
                          refine cp_5_7 X hP hD hS k_147 (by decide) dX5_executeAlone_386 (fun H locs hP hD hS => ?_)
                          refine lv_goto (tgt := 403) hx hb dX5_executeAlone_389 (by decide) ?_
                          obtain rfl := Option.some.inj h
                          exact sw_vret X hP hD hS dX5_executeAlone_403
                        · replace h := if_no h c58
                          by_cases c59 : p1 ∈ ([(249 : Int32)] : List Int32)
                          · replace h := if_yes h c59
                            refine sw_tabK (tgt := 392) (off := 391) hx hb dX5_executeAlone_1 _ c59 (by decide +kernel) (by decide) ?_
                            refine lv_aload_n hx hb dX5_executeAlone_392 rfl (lv_at hl 0 rfl) ?_
                            have hq := bd_some h; clear h; obtain ⟨s61, h60, h⟩ := hq
                            refine sw_vv (rest := []) c_good X (cX5_loadStackFromHl_m h60) calX5_loadStackFromHl k_721 hP hD hS 5 5 rfl rfl rfl ⟨rfl, rfl⟩ rfl hl.1 rfl (Nat.le_of_ble_eq_true rfl) dX5_executeAlone_393 (fun H locs hP hD hS => ?_)
                            refine lv_goto (tgt := 403) hx hb dX5_executeAlone_396 (by decide) ?_
                            obtain rfl := Option.some.inj h
                            exact sw_vret X hP hD hS dX5_executeAlone_403
                          · replace h := if_no h c59
                            refine sw_tabD (tgt := 399) hx hb dX5_executeAlone_1 (([(195 : Int32)] : List Int32) ++ (([(201 : Int32)] : List Int32) ++ (([(203 : Int32)] : List Int32) ++ (([(205 : Int32)] : List Int32) ++ (([(211 : Int32)] : List Int32) ++ (([(217 : Int32)] : List Int32) ++ (([(219 : Int32)] : List Int32) ++ (([(227 : Int32)] : List Int32) ++ (([(233 : Int32)] : List Int32) ++ (([(235 : Int32)] : List Int32) ++ (([(237 : Int32)] : List Int32) ++ (([(243 : Int32)] : List Int32) ++ ([(249 : Int32)] : List Int32))))))))))))) (fun hm => (List.mem_append.mp hm).elim c1 (fun hm => (List.mem_append.mp hm).elim c7 (fun hm => (List.mem_append.mp hm).elim c13 (fun hm => (List.mem_append.mp hm).elim c19 (fun hm => (List.mem_append.mp hm).elim c25 (fun hm => (List.mem_append.mp hm).elim c34 (fun hm => (List.mem_append.mp hm).elim c37 (fun hm => (List.mem_append.mp hm).elim c40 (fun hm => (List.mem_append.mp hm).elim c43 (fun hm => (List.mem_append.mp hm).elim c49 (fun hm => (List.mem_append.mp hm).elim c52 (fun hm => (List.mem_append.mp hm).elim c58 c59)))))))))))) (by decide +kernel) (by decide) ?_
                            refine lv_aload_n hx hb dX5_executeAlone_399 rfl (lv_at hl 0 rfl) ?_
                            have hq := bd_some h; clear h; obtain ⟨s63, h62, h⟩ := hq
                            refine sw_vv (rest := []) c_good X (cX5_turnInterruptsOn_m h62) calX5_turnInterruptsOn k_725 hP hD hS 5 5 rfl rfl rfl ⟨rfl, rfl⟩ rfl hl.1 rfl (Nat.le_of_ble_eq_true rfl) dX5_executeAlone_400 (fun H locs hP hD hS => ?_)
                            obtain rfl := Option.some.inj h
                            exact sw_vret X hP hD hS dX5_executeAlone_403
theorem dX5_returnIf_0 : decode cX5_returnIf 0 = .ok (.aload_n 0, 1) := by decide +kernel
theorem dX5_returnIf_1 : decode cX5_returnIf 1 = .ok (.getfield 7, 3) := by decide +kernel
theorem dX5_returnIf_4 : decode cX5_returnIf 4 = .ok (.iconst 1, 1) := by decide +kernel
theorem dX5_returnIf_5 : decode cX5_returnIf 5 = .ok (.invokevirtual 69, 3) := by decide +kernel
theorem dX5_returnIf_8 : decode cX5_returnIf 8 = .ok (.iload_n 1, 1) := by decide +kernel
theorem dX5_returnIf_9 : decode cX5_returnIf 9 = .ok (.ifCond .eq 19, 3) := by decide +kernel
theorem dX5_returnIf_12 : decode cX5_returnIf 12 = .ok (.aload_n 0, 1) := by decide +kernel
theorem dX5_returnIf_13 : decode cX5_returnIf 13 = .ok (.getfield 21, 3) := by decide +kernel
theorem dX5_returnIf_16 : decode cX5_returnIf 16 = .ok (.bipush 9, 2) := by decide +kernel
theorem dX5_returnIf_18 : decode cX5_returnIf 18 = .ok (.aload_n 0, 1) := by decide +kernel
theorem dX5_returnIf_19 : decode cX5_returnIf 19 = .ok (.getfield 39, 3) := by decide +kernel
theorem dX5_returnIf_22 : decode cX5_returnIf 22 = .ok (.invokevirtual 224, 3) := by decide +kernel
theorem dX5_returnIf_25 : decode cX5_returnIf 25 = .ok (.invokevirtual 112, 3) := by decide +kernel
theorem dX5_returnIf_28 : decode cX5_returnIf 28 = .ok (.return_, 1) := by decide +kernel
def fX5_returnIf (p1 : Int32) (s0 : zS) : Option (zS) := bd (fX1_pass (1 : Int32) s0) fun s2 => if p1 = (0 : Int32) then (some s2) else (bd2 (fX3_pop  s2) fun r5 s6 => bd (fX6_load (9 : Int32) r5 s6) fun s8 => some s8)
set_option maxHeartbeats 4000000 in
set_option maxRecDepth 100000 in
theorem cX5_returnIf_m {l : Launch} {dC : Nat → ClassId} {dI : Nat → Nat → Nat} {ad : Nat → Nat} {cI : ClassId} {p1 : Int32} {s0 : zS} {zs : zS} (h : fX5_returnIf p1 s0 = some zs) : sw_Mv l yX5_returnIf (sw_ws yX5_returnIf cX5_returnIf 2 none) (sw_rm 3 67) (dC, dI) vwCl [(cI, .int)] cF [.ref (ad 5), .int p1] (cW ad cI s0) (cW ad cI zs) := by
  intro sz
  refine sw_of (cc := cX5_returnIf) (maxL := 2) (ret := none) (by decide) rfl (Nat.le_of_ble_eq_true rfl) ?_
  intro p e s m args below meth c A ls hAe hsz X _ hP hD hS hl
  rw [hAe]
  have hx := X.1.1
  have hb := X.1.2.1
  have hown := X.1.2.2.2.1
  have hts := X.1.2.2.2.2
  replace hl : lv_has ls 2 [(0, .ref (ad 5)), (1, .int p1)] := hl
  unfold fX5_returnIf at h
  refine lv_aload_n hx hb dX5_returnIf_0 rfl (lv_at hl 0 rfl) ?_
  refine cg_5_0 X hP k_139 dX5_returnIf_1 ?_
  refine lv_iconst (v := (1 : Int32)) hx hb dX5_returnIf_4 (by decide) ?_
  have hq := bd_some h; clear h; obtain ⟨s2, h1, h⟩ := hq
  refine sw_vv (rest := []) c_good X (cX1_pass_m h1) calX1_pass k_381 hP hD hS 1 1 rfl rfl rfl ⟨rfl, rfl⟩ rfl hl.1 rfl (Nat.le_of_ble_eq_true rfl) dX5_returnIf_5 (fun H locs hP hD hS => ?_)
  refine lv_iload_n hx hb dX5_returnIf_8 rfl (lv_at hl 1 rfl) ?_
  refine lv_if_eq (tgt := 28) hx hb dX5_returnIf_9 (by decide) (fun c3 => ?_) (fun c3 => ?_)
  · replace h := if_yes h c3
    obtain rfl := Option.some.inj h
    exact sw_vret X hP hD hS dX5_returnIf_28
  · replace h := if_no h c3
    refine lv_aload_n hx hb dX5_returnIf_12 rfl (lv_at hl 0 rfl) ?_
    refine cg_5_3 X hP k_142 dX5_returnIf_13 ?_
    refine lv_bipush (v := (9 : Int32)) hx hb dX5_returnIf_16 (by decide) ?_
    refine lv_aload_n hx hb dX5_returnIf_18 rfl (lv_at hl 0 rfl) ?_
    refine cg_5_5 X hP k_144 dX5_returnIf_19 ?_
    have hq := bd2_some h; clear h; obtain ⟨r5, s6, h4, h⟩ := hq
    refine sw_vi (rest := [.int (9 : Int32), .ref (ad 4)]) c_good X (cX3_pop_m h4) calX3_pop k_633 hP hD hS 7 3 rfl rfl rfl ⟨rfl, rfl⟩ rfl hl.1 rfl (Nat.le_of_ble_eq_true rfl) dX5_returnIf_22 (fun H locs hP hD hS => ?_)
    have hq := bd_some h; clear h; obtain ⟨s8, h7, h⟩ := hq
    refine sw_vv (rest := []) c_good X (cX6_load_m h7) calX6_load k_412 hP hD hS 4 6 rfl rfl rfl ⟨rfl, rfl⟩ rfl hl.1 rfl (Nat.le_of_ble_eq_true rfl) dX5_returnIf_25 (fun H locs hP hD hS => ?_)
    obtain rfl := Option.some.inj h
    exact sw_vret X hP hD hS dX5_returnIf_28
theorem dX5_pushPair_0 : decode cX5_pushPair 0 = .ok (.aload_n 0, 1) := by decide +kernel
theorem dX5_pushPair_1 : decode cX5_pushPair 1 = .ok (.getfield 7, 3) := by decide +kernel
theorem dX5_pushPair_4 : decode cX5_pushPair 4 = .ok (.iconst 1, 1) := by decide +kernel
theorem dX5_pushPair_5 : decode cX5_pushPair 5 = .ok (.invokevirtual 69, 3) := by decide +kernel
theorem dX5_pushPair_8 : decode cX5_pushPair 8 = .ok (.aload_n 0, 1) := by decide +kernel
theorem dX5_pushPair_9 : decode cX5_pushPair 9 = .ok (.getfield 39, 3) := by decide +kernel
theorem dX5_pushPair_12 : decode cX5_pushPair 12 = .ok (.aload_n 0, 1) := by decide +kernel
theorem dX5_pushPair_13 : decode cX5_pushPair 13 = .ok (.getfield 21, 3) := by decide +kernel
theorem dX5_pushPair_16 : decode cX5_pushPair 16 = .ok (.iload_n 1, 1) := by decide +kernel
theorem dX5_pushPair_17 : decode cX5_pushPair 17 = .ok (.invokestatic 260, 3) := by decide +kernel
theorem dX5_pushPair_20 : decode cX5_pushPair 20 = .ok (.invokevirtual 106, 3) := by decide +kernel
theorem dX5_pushPair_23 : decode cX5_pushPair 23 = .ok (.invokevirtual 109, 3) := by decide +kernel
theorem dX5_pushPair_26 : decode cX5_pushPair 26 = .ok (.return_, 1) := by decide +kernel
def fX5_pushPair (p1 : Int32) (s0 : zS) : Option (zS) := bd (fX1_pass (1 : Int32) s0) fun s2 => bd (fX3_stackPairOf p1) fun r4 => bd2 (fX6_pair r4 s2) fun r6 s7 => bd (fX3_push r6 s7) fun s9 => some s9
set_option maxHeartbeats 4000000 in
set_option maxRecDepth 100000 in
theorem cX5_pushPair_m {l : Launch} {dC : Nat → ClassId} {dI : Nat → Nat → Nat} {ad : Nat → Nat} {cI : ClassId} {p1 : Int32} {s0 : zS} {zs : zS} (h : fX5_pushPair p1 s0 = some zs) : sw_Mv l yX5_pushPair (sw_ws yX5_pushPair cX5_pushPair 2 none) (sw_rm 3 67) (dC, dI) vwCl [(cI, .int)] cF [.ref (ad 5), .int p1] (cW ad cI s0) (cW ad cI zs) := by
  intro sz
  refine sw_of (cc := cX5_pushPair) (maxL := 2) (ret := none) (by decide) rfl (Nat.le_of_ble_eq_true rfl) ?_
  intro p e s m args below meth c A ls hAe hsz X _ hP hD hS hl
  rw [hAe]
  have hx := X.1.1
  have hb := X.1.2.1
  have hown := X.1.2.2.2.1
  have hts := X.1.2.2.2.2
  replace hl : lv_has ls 2 [(0, .ref (ad 5)), (1, .int p1)] := hl
  unfold fX5_pushPair at h
  refine lv_aload_n hx hb dX5_pushPair_0 rfl (lv_at hl 0 rfl) ?_
  refine cg_5_0 X hP k_139 dX5_pushPair_1 ?_
  refine lv_iconst (v := (1 : Int32)) hx hb dX5_pushPair_4 (by decide) ?_
  have hq := bd_some h; clear h; obtain ⟨s2, h1, h⟩ := hq
  refine sw_vv (rest := []) c_good X (cX1_pass_m h1) calX1_pass k_381 hP hD hS 1 1 rfl rfl rfl ⟨rfl, rfl⟩ rfl hl.1 rfl (Nat.le_of_ble_eq_true rfl) dX5_pushPair_5 (fun H locs hP hD hS => ?_)
  refine lv_aload_n hx hb dX5_pushPair_8 rfl (lv_at hl 0 rfl) ?_
  refine cg_5_5 X hP k_144 dX5_pushPair_9 ?_
  refine lv_aload_n hx hb dX5_pushPair_12 rfl (lv_at hl 0 rfl) ?_
  refine cg_5_3 X hP k_142 dX5_pushPair_13 ?_
  refine lv_iload_n hx hb dX5_pushPair_16 rfl (lv_at hl 1 rfl) ?_
  have hq := bd_some h; clear h; obtain ⟨r4, h3, h⟩ := hq
  refine sw_si (rest := [.ref (ad 4), .ref (ad 7)]) c_good X (cX3_stackPairOf_m h3) calX3_stackPairOf k_737 hP hD hS ⟨rfl, rfl⟩ rfl hl.1 rfl (Nat.le_of_ble_eq_true rfl) dX5_pushPair_17 (fun H locs hP hD hS => ?_)
  have hq := bd2_some h; clear h; obtain ⟨r6, s7, h5, h⟩ := hq
  refine sw_vi (rest := [.ref (ad 7)]) c_good X (cX6_pair_m h5) calX6_pair k_385 hP hD hS 4 6 rfl rfl rfl ⟨rfl, rfl⟩ rfl hl.1 rfl (Nat.le_of_ble_eq_true rfl) dX5_pushPair_20 (fun H locs hP hD hS => ?_)
  have hq := bd_some h; clear h; obtain ⟨s9, h8, h⟩ := hq
  refine sw_vv (rest := []) c_good X (cX3_push_m h8) calX3_push k_386 hP hD hS 7 3 rfl rfl rfl ⟨rfl, rfl⟩ rfl hl.1 rfl (Nat.le_of_ble_eq_true rfl) dX5_pushPair_23 (fun H locs hP hD hS => ?_)
  obtain rfl := Option.some.inj h
  exact sw_vret X hP hD hS dX5_pushPair_26
theorem dX5_executeLastQuarter_0 : decode cX5_executeLastQuarter 0 = .ok (.iload_n 2, 1) := by decide +kernel
theorem dX5_executeLastQuarter_1 : decode cX5_executeLastQuarter 1 = .ok (.tableswitch 153 0 6 #[43, 58, 81, 153, 103, 125, 135], 43) := by decide +kernel
theorem dX5_executeLastQuarter_44 : decode cX5_executeLastQuarter 44 = .ok (.aload_n 0, 1) := by decide +kernel
theorem dX5_executeLastQuarter_45 : decode cX5_executeLastQuarter 45 = .ok (.aload_n 0, 1) := by decide +kernel
theorem dX5_executeLastQuarter_46 : decode cX5_executeLastQuarter 46 = .ok (.getfield 39, 3) := by decide +kernel
theorem dX5_executeLastQuarter_49 : decode cX5_executeLastQuarter 49 = .ok (.iload_n 1, 1) := by decide +kernel
theorem dX5_executeLastQuarter_50 : decode cX5_executeLastQuarter 50 = .ok (.invokevirtual 161, 3) := by decide +kernel
theorem dX5_executeLastQuarter_53 : decode cX5_executeLastQuarter 53 = .ok (.invokevirtual 256, 3) := by decide +kernel
theorem dX5_executeLastQuarter_56 : decode cX5_executeLastQuarter 56 = .ok (.goto 107, 3) := by decide +kernel
theorem dX5_executeLastQuarter_59 : decode cX5_executeLastQuarter 59 = .ok (.aload_n 0, 1) := by decide +kernel
theorem dX5_executeLastQuarter_60 : decode cX5_executeLastQuarter 60 = .ok (.getfield 21, 3) := by decide +kernel
theorem dX5_executeLastQuarter_63 : decode cX5_executeLastQuarter 63 = .ok (.iload_n 1, 1) := by decide +kernel
theorem dX5_executeLastQuarter_64 : decode cX5_executeLastQuarter 64 = .ok (.iconst 1, 1) := by decide +kernel
theorem dX5_executeLastQuarter_65 : decode cX5_executeLastQuarter 65 = .ok (.ishr, 1) := by decide +kernel
theorem dX5_executeLastQuarter_66 : decode cX5_executeLastQuarter 66 = .ok (.invokestatic 260, 3) := by decide +kernel
theorem dX5_executeLastQuarter_69 : decode cX5_executeLastQuarter 69 = .ok (.aload_n 0, 1) := by decide +kernel
theorem dX5_executeLastQuarter_70 : decode cX5_executeLastQuarter 70 = .ok (.getfield 39, 3) := by decide +kernel
theorem dX5_executeLastQuarter_73 : decode cX5_executeLastQuarter 73 = .ok (.invokevirtual 224, 3) := by decide +kernel
theorem dX5_executeLastQuarter_76 : decode cX5_executeLastQuarter 76 = .ok (.invokevirtual 112, 3) := by decide +kernel
theorem dX5_executeLastQuarter_79 : decode cX5_executeLastQuarter 79 = .ok (.goto 84, 3) := by decide +kernel
theorem dX5_executeLastQuarter_82 : decode cX5_executeLastQuarter 82 = .ok (.aload_n 0, 1) := by decide +kernel
theorem dX5_executeLastQuarter_83 : decode cX5_executeLastQuarter 83 = .ok (.aload_n 0, 1) := by decide +kernel
theorem dX5_executeLastQuarter_84 : decode cX5_executeLastQuarter 84 = .ok (.getfield 39, 3) := by decide +kernel
theorem dX5_executeLastQuarter_87 : decode cX5_executeLastQuarter 87 = .ok (.invokevirtual 176, 3) := by decide +kernel
theorem dX5_executeLastQuarter_90 : decode cX5_executeLastQuarter 90 = .ok (.aload_n 0, 1) := by decide +kernel
theorem dX5_executeLastQuarter_91 : decode cX5_executeLastQuarter 91 = .ok (.getfield 39, 3) := by decide +kernel
theorem dX5_executeLastQuarter_94 : decode cX5_executeLastQuarter 94 = .ok (.iload_n 1, 1) := by decide +kernel
theorem dX5_executeLastQuarter_95 : decode cX5_executeLastQuarter 95 = .ok (.invokevirtual 161, 3) := by decide +kernel
theorem dX5_executeLastQuarter_98 : decode cX5_executeLastQuarter 98 = .ok (.invokevirtual 221, 3) := by decide +kernel
theorem dX5_executeLastQuarter_101 : decode cX5_executeLastQuarter 101 = .ok (.goto 62, 3) := by decide +kernel
theorem dX5_executeLastQuarter_104 : decode cX5_executeLastQuarter 104 = .ok (.aload_n 0, 1) := by decide +kernel
theorem dX5_executeLastQuarter_105 : decode cX5_executeLastQuarter 105 = .ok (.aload_n 0, 1) := by decide +kernel
theorem dX5_executeLastQuarter_106 : decode cX5_executeLastQuarter 106 = .ok (.getfield 39, 3) := by decide +kernel
theorem dX5_executeLastQuarter_109 : decode cX5_executeLastQuarter 109 = .ok (.invokevirtual 176, 3) := by decide +kernel
theorem dX5_executeLastQuarter_112 : decode cX5_executeLastQuarter 112 = .ok (.aload_n 0, 1) := by decide +kernel
theorem dX5_executeLastQuarter_113 : decode cX5_executeLastQuarter 113 = .ok (.getfield 39, 3) := by decide +kernel
theorem dX5_executeLastQuarter_116 : decode cX5_executeLastQuarter 116 = .ok (.iload_n 1, 1) := by decide +kernel
theorem dX5_executeLastQuarter_117 : decode cX5_executeLastQuarter 117 = .ok (.invokevirtual 161, 3) := by decide +kernel
theorem dX5_executeLastQuarter_120 : decode cX5_executeLastQuarter 120 = .ok (.invokevirtual 230, 3) := by decide +kernel
theorem dX5_executeLastQuarter_123 : decode cX5_executeLastQuarter 123 = .ok (.goto 40, 3) := by decide +kernel
theorem dX5_executeLastQuarter_126 : decode cX5_executeLastQuarter 126 = .ok (.aload_n 0, 1) := by decide +kernel
theorem dX5_executeLastQuarter_127 : decode cX5_executeLastQuarter 127 = .ok (.iload_n 1, 1) := by decide +kernel
theorem dX5_executeLastQuarter_128 : decode cX5_executeLastQuarter 128 = .ok (.iconst 1, 1) := by decide +kernel
theorem dX5_executeLastQuarter_129 : decode cX5_executeLastQuarter 129 = .ok (.ishr, 1) := by decide +kernel
theorem dX5_executeLastQuarter_130 : decode cX5_executeLastQuarter 130 = .ok (.invokevirtual 263, 3) := by decide +kernel
theorem dX5_executeLastQuarter_133 : decode cX5_executeLastQuarter 133 = .ok (.goto 30, 3) := by decide +kernel
theorem dX5_executeLastQuarter_136 : decode cX5_executeLastQuarter 136 = .ok (.aload_n 0, 1) := by decide +kernel
theorem dX5_executeLastQuarter_137 : decode cX5_executeLastQuarter 137 = .ok (.getfield 30, 3) := by decide +kernel
theorem dX5_executeLastQuarter_140 : decode cX5_executeLastQuarter 140 = .ok (.iload_n 1, 1) := by decide +kernel
theorem dX5_executeLastQuarter_141 : decode cX5_executeLastQuarter 141 = .ok (.aload_n 0, 1) := by decide +kernel
theorem dX5_executeLastQuarter_142 : decode cX5_executeLastQuarter 142 = .ok (.getfield 39, 3) := by decide +kernel
theorem dX5_executeLastQuarter_145 : decode cX5_executeLastQuarter 145 = .ok (.invokevirtual 146, 3) := by decide +kernel
theorem dX5_executeLastQuarter_148 : decode cX5_executeLastQuarter 148 = .ok (.invokevirtual 88, 3) := by decide +kernel
theorem dX5_executeLastQuarter_151 : decode cX5_executeLastQuarter 151 = .ok (.goto 12, 3) := by decide +kernel
theorem dX5_executeLastQuarter_154 : decode cX5_executeLastQuarter 154 = .ok (.aload_n 0, 1) := by decide +kernel
theorem dX5_executeLastQuarter_155 : decode cX5_executeLastQuarter 155 = .ok (.bipush 8, 2) := by decide +kernel
theorem dX5_executeLastQuarter_157 : decode cX5_executeLastQuarter 157 = .ok (.iload_n 1, 1) := by decide +kernel
theorem dX5_executeLastQuarter_158 : decode cX5_executeLastQuarter 158 = .ok (.imul, 1) := by decide +kernel
theorem dX5_executeLastQuarter_159 : decode cX5_executeLastQuarter 159 = .ok (.iconst 1, 1) := by decide +kernel
theorem dX5_executeLastQuarter_160 : decode cX5_executeLastQuarter 160 = .ok (.invokevirtual 230, 3) := by decide +kernel
theorem dX5_executeLastQuarter_163 : decode cX5_executeLastQuarter 163 = .ok (.return_, 1) := by decide +kernel
def fX5_executeLastQuarter (p1 p2 : Int32) (s0 : zS) : Option (zS) := if p2 ∈ ([(0 : Int32)] : List Int32) then (bd2 (fX3_holds p1 s0) fun r3 s4 => bd (fX5_returnIf r3 s4) fun s6 => some s6) else if p2 ∈ ([(1 : Int32)] : List Int32) then (bd (fX3_stackPairOf (p1 >>> ((1 : Int32) &&& 31))) fun r9 => bd2 (fX3_pop  s0) fun r11 s12 => bd (fX6_load r9 r11 s12) fun s14 => some s14) else if p2 ∈ ([(2 : Int32)] : List Int32) then (bd2 (fX3_nextPair  s0) fun r17 s18 => bd2 (fX3_holds p1 s18) fun r20 s21 => bd (fX5_jumpTo r17 r20 s21) fun s23 => some s23) else if p2 ∈ ([(4 : Int32)] : List Int32) then (bd2 (fX3_nextPair  s0) fun r26 s27 => bd2 (fX3_holds p1 s27) fun r29 s30 => bd (fX5_callTo r26 r29 s30) fun s32 => some s32) else if p2 ∈ ([(5 : Int32)] : List Int32) then (bd (fX5_pushPair (p1 >>> ((1 : Int32) &&& 31)) s0) fun s35 => some s35) else if p2 ∈ ([(6 : Int32)] : List Int32) then (bd2 (fX3_next  s0) fun r38 s39 => bd (fX0_withA p1 r38 s39) fun s41 => some s41) else (bd (fX5_callTo ((8 : Int32) * p1) (1 : Int32) s0) fun s43 => some s43)
set_option maxHeartbeats 4000000 in
set_option maxRecDepth 100000 in
theorem cX5_executeLastQuarter_m {l : Launch} {dC : Nat → ClassId} {dI : Nat → Nat → Nat} {ad : Nat → Nat} {cI : ClassId} {p1 p2 : Int32} {s0 : zS} {zs : zS} (h : fX5_executeLastQuarter p1 p2 s0 = some zs) : sw_Mv l yX5_executeLastQuarter (sw_ws yX5_executeLastQuarter cX5_executeLastQuarter 3 none) (sw_rm 4 90) (dC, dI) vwCl [(cI, .int)] cF [.ref (ad 5), .int p1, .int p2] (cW ad cI s0) (cW ad cI zs) := by
  intro sz
  refine sw_of (cc := cX5_executeLastQuarter) (maxL := 3) (ret := none) (by decide) rfl (Nat.le_of_ble_eq_true rfl) ?_
  intro p e s m args below meth c A ls hAe hsz X _ hP hD hS hl
  rw [hAe]
  have hx := X.1.1
  have hb := X.1.2.1
  have hown := X.1.2.2.2.1
  have hts := X.1.2.2.2.2
  replace hl : lv_has ls 3 [(0, .ref (ad 5)), (1, .int p1), (2, .int p2)] := hl
  unfold fX5_executeLastQuarter at h
  refine lv_iload_n hx hb dX5_executeLastQuarter_0 rfl (lv_at hl 2 rfl) ?_
  by_cases c1 : p2 ∈ ([(0 : Int32)] : List Int32)
  · replace h := if_yes h c1
    refine sw_tabK (tgt := 44) (off := 43) hx hb dX5_executeLastQuarter_1 _ c1 (by decide +kernel) (by decide) ?_
    refine lv_aload_n hx hb dX5_executeLastQuarter_44 rfl (lv_at hl 0 rfl) ?_
    refine lv_aload_n hx hb dX5_executeLastQuarter_45 rfl (lv_at hl 0 rfl) ?_
    refine cg_5_5 X hP k_144 dX5_executeLastQuarter_46 ?_
    refine lv_iload_n hx hb dX5_executeLastQuarter_49 rfl (lv_at hl 1 rfl) ?_
    have hq := bd2_some h; clear h; obtain ⟨r3, s4, h2, h⟩ := hq
    refine sw_vi (rest := [.ref (ad 5)]) c_good X (cX3_holds_m h2) calX3_holds k_474 hP hD hS 7 3 rfl rfl rfl ⟨rfl, rfl⟩ rfl hl.1 rfl (Nat.le_of_ble_eq_true rfl) dX5_executeLastQuarter_50 (fun H locs hP hD hS => ?_)
    have hq := bd_some h; clear h; obtain ⟨s6, h5, h⟩ := hq
    refine sw_vv (rest := []) c_good X (cX5_returnIf_m h5) calX5_returnIf k_733 hP hD hS 5 5 rfl rfl rfl ⟨rfl, rfl⟩ rfl hl.1 rfl (Nat.le_of_ble_eq_true rfl) dX5_executeLastQuarter_53 (fun H locs hP hD hS => ?_)
    refine lv_goto (tgt := 163) hx hb dX5_executeLastQuarter_56 (by decide) ?_
    obtain rfl := Option.some.inj h
    exact sw_vret X hP hD hS dX5_executeLastQuarter_163
  · replace h := if_no h c1
    by_cases c7 : p2 ∈ ([(1 : Int32)] : List Int32)
    · replace h := if_yes h c7
      refine sw_tabK (tgt := 59) (off := 58) hx hb dX5_executeLastQuarter_1 _ c7 (by decide +kernel) (by decide) ?_
      refine lv_aload_n hx hb dX5_executeLastQuarter_59 rfl (lv_at hl 0 rfl) ?_
      refine cg_5_3 X hP k_142 dX5_executeLastQuarter_60 ?_
      refine lv_iload_n hx hb dX5_executeLastQuarter_63 rfl (lv_at hl 1 rfl) ?_
      refine lv_iconst (v := (1 : Int32)) hx hb dX5_executeLastQuarter_64 (by decide) ?_
      refine lv_ishr hx hb dX5_executeLastQuarter_65 ?_
      have hq := bd_some h; clear h; obtain ⟨r9, h8, h⟩ := hq
      refine sw_si (rest := [.ref (ad 4)]) c_good X (cX3_stackPairOf_m h8) calX3_stackPairOf k_737 hP hD hS ⟨rfl, rfl⟩ rfl hl.1 rfl (Nat.le_of_ble_eq_true rfl) dX5_executeLastQuarter_66 (fun H locs hP hD hS => ?_)
      refine lv_aload_n hx hb dX5_executeLastQuarter_69 rfl (lv_at hl 0 rfl) ?_
      refine cg_5_5 X hP k_144 dX5_executeLastQuarter_70 ?_
      have hq := bd2_some h; clear h; obtain ⟨r11, s12, h10, h⟩ := hq
      refine sw_vi (rest := [.int r9, .ref (ad 4)]) c_good X (cX3_pop_m h10) calX3_pop k_633 hP hD hS 7 3 rfl rfl rfl ⟨rfl, rfl⟩ rfl hl.1 rfl (Nat.le_of_ble_eq_true rfl) dX5_executeLastQuarter_73 (fun H locs hP hD hS => ?_)
      have hq := bd_some h; clear h; obtain ⟨s14, h13, h⟩ := hq
      refine sw_vv (rest := []) c_good X (cX6_load_m h13) calX6_load k_412 hP hD hS 4 6 rfl rfl rfl ⟨rfl, rfl⟩ rfl hl.1 rfl (Nat.le_of_ble_eq_true rfl) dX5_executeLastQuarter_76 (fun H locs hP hD hS => ?_)
      refine lv_goto (tgt := 163) hx hb dX5_executeLastQuarter_79 (by decide) ?_
      obtain rfl := Option.some.inj h
      exact sw_vret X hP hD hS dX5_executeLastQuarter_163
    · replace h := if_no h c7
      by_cases c15 : p2 ∈ ([(2 : Int32)] : List Int32)
      · replace h := if_yes h c15
        refine sw_tabK (tgt := 82) (off := 81) hx hb dX5_executeLastQuarter_1 _ c15 (by decide +kernel) (by decide) ?_
        refine lv_aload_n hx hb dX5_executeLastQuarter_82 rfl (lv_at hl 0 rfl) ?_
        refine lv_aload_n hx hb dX5_executeLastQuarter_83 rfl (lv_at hl 0 rfl) ?_
        refine cg_5_5 X hP k_144 dX5_executeLastQuarter_84 ?_
        have hq := bd2_some h; clear h; obtain ⟨r17, s18, h16, h⟩ := hq
        refine sw_vi (rest := [.ref (ad 5)]) c_good X (cX3_nextPair_m h16) calX3_nextPair k_491 hP hD hS 7 3 rfl rfl rfl ⟨rfl, rfl⟩ rfl hl.1 rfl (Nat.le_of_ble_eq_true rfl) dX5_executeLastQuarter_87 (fun H locs hP hD hS => ?_)
        refine lv_aload_n hx hb dX5_executeLastQuarter_90 rfl (lv_at hl 0 rfl) ?_
        refine cg_5_5 X hP k_144 dX5_executeLastQuarter_91 ?_
        refine lv_iload_n hx hb dX5_executeLastQuarter_94 rfl (lv_at hl 1 rfl) ?_
        have hq := bd2_some h; clear h; obtain ⟨r20, s21, h19, h⟩ := hq
        refine sw_vi (rest := [.int r17, .ref (ad 5)]) c_good X (cX3_holds_m h19) calX3_holds k_474 hP hD hS 7 3 rfl rfl rfl ⟨rfl, rfl⟩ rfl hl.1 rfl (Nat.le_of_ble_eq_true rfl) dX5_executeLastQuarter_95 (fun H locs hP hD hS => ?_)
        have hq := bd_some h; clear h; obtain ⟨s23, h22, h⟩ := hq
        refine sw_vv (rest := []) c_good X (cX5_jumpTo_m h22) calX5_jumpTo k_629 hP hD hS 5 5 rfl rfl rfl ⟨rfl, rfl⟩ rfl hl.1 rfl (Nat.le_of_ble_eq_true rfl) dX5_executeLastQuarter_98 (fun H locs hP hD hS => ?_)
        refine lv_goto (tgt := 163) hx hb dX5_executeLastQuarter_101 (by decide) ?_
        obtain rfl := Option.some.inj h
        exact sw_vret X hP hD hS dX5_executeLastQuarter_163
      · replace h := if_no h c15
        by_cases c24 : p2 ∈ ([(4 : Int32)] : List Int32)
        · replace h := if_yes h c24
          refine sw_tabK (tgt := 104) (off := 103) hx hb dX5_executeLastQuarter_1 _ c24 (by decide +kernel) (by decide) ?_
          refine lv_aload_n hx hb dX5_executeLastQuarter_104 rfl (lv_at hl 0 rfl) ?_
          refine lv_aload_n hx hb dX5_executeLastQuarter_105 rfl (lv_at hl 0 rfl) ?_
          refine cg_5_5 X hP k_144 dX5_executeLastQuarter_106 ?_
          have hq := bd2_some h; clear h; obtain ⟨r26, s27, h25, h⟩ := hq
          refine sw_vi (rest := [.ref (ad 5)]) c_good X (cX3_nextPair_m h25) calX3_nextPair k_491 hP hD hS 7 3 rfl rfl rfl ⟨rfl, rfl⟩ rfl hl.1 rfl (Nat.le_of_ble_eq_true rfl) dX5_executeLastQuarter_109 (fun H locs hP hD hS => ?_)
          refine lv_aload_n hx hb dX5_executeLastQuarter_112 rfl (lv_at hl 0 rfl) ?_
          refine cg_5_5 X hP k_144 dX5_executeLastQuarter_113 ?_
          refine lv_iload_n hx hb dX5_executeLastQuarter_116 rfl (lv_at hl 1 rfl) ?_
          have hq := bd2_some h; clear h; obtain ⟨r29, s30, h28, h⟩ := hq
          refine sw_vi (rest := [.int r26, .ref (ad 5)]) c_good X (cX3_holds_m h28) calX3_holds k_474 hP hD hS 7 3 rfl rfl rfl ⟨rfl, rfl⟩ rfl hl.1 rfl (Nat.le_of_ble_eq_true rfl) dX5_executeLastQuarter_117 (fun H locs hP hD hS => ?_)
          have hq := bd_some h; clear h; obtain ⟨s32, h31, h⟩ := hq
          refine sw_vv (rest := []) c_good X (cX5_callTo_m h31) calX5_callTo k_649 hP hD hS 5 5 rfl rfl rfl ⟨rfl, rfl⟩ rfl hl.1 rfl (Nat.le_of_ble_eq_true rfl) dX5_executeLastQuarter_120 (fun H locs hP hD hS => ?_)
          refine lv_goto (tgt := 163) hx hb dX5_executeLastQuarter_123 (by decide) ?_
          obtain rfl := Option.some.inj h
          exact sw_vret X hP hD hS dX5_executeLastQuarter_163
        · replace h := if_no h c24
          by_cases c33 : p2 ∈ ([(5 : Int32)] : List Int32)
          · replace h := if_yes h c33
            refine sw_tabK (tgt := 126) (off := 125) hx hb dX5_executeLastQuarter_1 _ c33 (by decide +kernel) (by decide) ?_
            refine lv_aload_n hx hb dX5_executeLastQuarter_126 rfl (lv_at hl 0 rfl) ?_
            refine lv_iload_n hx hb dX5_executeLastQuarter_127 rfl (lv_at hl 1 rfl) ?_
            refine lv_iconst (v := (1 : Int32)) hx hb dX5_executeLastQuarter_128 (by decide) ?_
            refine lv_ishr hx hb dX5_executeLastQuarter_129 ?_
            have hq := bd_some h; clear h; obtain ⟨s35, h34, h⟩ := hq
            refine sw_vv (rest := []) c_good X (cX5_pushPair_m h34) calX5_pushPair k_740 hP hD hS 5 5 rfl rfl rfl ⟨rfl, rfl⟩ rfl hl.1 rfl (Nat.le_of_ble_eq_true rfl) dX5_executeLastQuarter_130 (fun H locs hP hD hS => ?_)
            refine lv_goto (tgt := 163) hx hb dX5_executeLastQuarter_133 (by decide) ?_
            obtain rfl := Option.some.inj h
            exact sw_vret X hP hD hS dX5_executeLastQuarter_163
          · replace h := if_no h c33
            by_cases c36 : p2 ∈ ([(6 : Int32)] : List Int32)
            · replace h := if_yes h c36
              refine sw_tabK (tgt := 136) (off := 135) hx hb dX5_executeLastQuarter_1 _ c36 (by decide +kernel) (by decide) ?_
              refine lv_aload_n hx hb dX5_executeLastQuarter_136 rfl (lv_at hl 0 rfl) ?_
              refine cg_5_4 X hP k_143 dX5_executeLastQuarter_137 ?_
              refine lv_iload_n hx hb dX5_executeLastQuarter_140 rfl (lv_at hl 1 rfl) ?_
              refine lv_aload_n hx hb dX5_executeLastQuarter_141 rfl (lv_at hl 0 rfl) ?_
              refine cg_5_5 X hP k_144 dX5_executeLastQuarter_142 ?_
              have hq := bd2_some h; clear h; obtain ⟨r38, s39, h37, h⟩ := hq
              refine sw_vi (rest := [.int p1, .ref (ad 6)]) c_good X (cX3_next_m h37) calX3_next k_442 hP hD hS 7 3 rfl rfl rfl ⟨rfl, rfl⟩ rfl hl.1 rfl (Nat.le_of_ble_eq_true rfl) dX5_executeLastQuarter_145 (fun H locs hP hD hS => ?_)
              have hq := bd_some h; clear h; obtain ⟨s41, h40, h⟩ := hq
              refine sw_vv (rest := []) c_good X (cX0_withA_m h40) calX0_withA k_606 hP hD hS 6 0 rfl rfl rfl ⟨rfl, rfl⟩ rfl hl.1 rfl (Nat.le_of_ble_eq_true rfl) dX5_executeLastQuarter_148 (fun H locs hP hD hS => ?_)
              refine lv_goto (tgt := 163) hx hb dX5_executeLastQuarter_151 (by decide) ?_
              obtain rfl := Option.some.inj h
              exact sw_vret X hP hD hS dX5_executeLastQuarter_163
            · replace h := if_no h c36
              refine sw_tabD (tgt := 154) hx hb dX5_executeLastQuarter_1 (([(0 : Int32)] : List Int32) ++ (([(1 : Int32)] : List Int32) ++ (([(2 : Int32)] : List Int32) ++ (([(4 : Int32)] : List Int32) ++ (([(5 : Int32)] : List Int32) ++ ([(6 : Int32)] : List Int32)))))) (fun hm => (List.mem_append.mp hm).elim c1 (fun hm => (List.mem_append.mp hm).elim c7 (fun hm => (List.mem_append.mp hm).elim c15 (fun hm => (List.mem_append.mp hm).elim c24 (fun hm => (List.mem_append.mp hm).elim c33 c36))))) (by decide +kernel) (by decide) ?_
              refine lv_aload_n hx hb dX5_executeLastQuarter_154 rfl (lv_at hl 0 rfl) ?_
              refine lv_bipush (v := (8 : Int32)) hx hb dX5_executeLastQuarter_155 (by decide) ?_
              refine lv_iload_n hx hb dX5_executeLastQuarter_157 rfl (lv_at hl 1 rfl) ?_
              refine lv_imul hx hb dX5_executeLastQuarter_158 ?_
              refine lv_iconst (v := (1 : Int32)) hx hb dX5_executeLastQuarter_159 (by decide) ?_
              have hq := bd_some h; clear h; obtain ⟨s43, h42, h⟩ := hq
              refine sw_vv (rest := []) c_good X (cX5_callTo_m h42) calX5_callTo k_649 hP hD hS 5 5 rfl rfl rfl ⟨rfl, rfl⟩ rfl hl.1 rfl (Nat.le_of_ble_eq_true rfl) dX5_executeLastQuarter_160 (fun H locs hP hD hS => ?_)
              obtain rfl := Option.some.inj h
              exact sw_vret X hP hD hS dX5_executeLastQuarter_163
