/-! the ways of the public methods that end in a throw -/
theorem isFull_s {s s2 : zS} {r : Int32} (h : fX7_isFull s = some (r, s2)) : s2 = s := by
  unfold fX7_isFull at h
  split at h <;> exact (Prod.mk.inj (Option.some.inj h)).2.symm
set_option maxHeartbeats 4000000 in
set_option maxRecDepth 100000 in
theorem cX8_poke_t {l : Launch} (hst : l.stackTraces = false) {dC : Nat → ClassId} {dI : Nat → Nat → Nat} {ad : Nat → Nat} {cI : ClassId} {p1 p2 p3 : Int32} {s0 : zS} {zq : Int32} (h : tX8_poke p1 p3 = some zq) : sx_M l yX8_poke (sw_ws yX8_poke cX8_poke 5 (some .int)) { frames := 6, cells := 1, slots := 6, locals := 100 } (dC, dI) vwCl [(cI, .int)] tF [.ref (ad 0), .int p1, .int p2, .int p3] (cW ad cI s0) (if zq = 1 then eA else eS) := by
  intro sz
  refine sx_of (cc := cX8_poke) (maxL := 5) (ret := (some .int)) (by decide) rfl (Nat.le_of_ble_eq_true rfl) ?_
  intro p e s m args below meth c A ls hAe X ht hP hD hS hl
  have hx := X.1.1
  have hb := X.1.2.1
  have hown := X.1.2.2.2.1
  have hts := X.1.2.2.2.2
  have S : CallFix p m c cX8_poke 5 s args sw_tb RX8 := ⟨hx, hb, X.1.2.2.1, hown, fun w h => hts w (List.mem_cons_of_mem _ h)⟩
  have Xc : sw_X p s m args meth c cX8_poke 5 RX8 (some .int) (sw_ws yX8_poke cX8_poke 5 (some .int)) (dC, dI) vwCl [(cI, .int)] cF A := ⟨X.1, X.2.1, X.2.2.1, X.2.2.2.1, X.2.2.2.2.1, X.2.2.2.2.2.1⟩
  replace hl : lv_has ls 5 [(0, .ref (ad 0)), (1, .int p1), (2, .int p2), (3, .int p3)] := hl
  unfold tX8_poke at h
  refine lv_iload_n hx hb dX8_poke_0 rfl (lv_at hl 1 rfl) ?_
  have hq := bd_some h; clear h; obtain ⟨r2, h1, h⟩ := hq
  refine sg_si (wr := []) (rest := []) S c_good X.2.2.2.1 X.2.2.2.2.1 X.2.2.2.2.2.1 (cX2_has_m h1) calX2_has k_212 (sg_2.one hP hD) hS ⟨by decide, by decide⟩ ⟨by decide, by decide⟩ rfl hl.1 rfl (Nat.le_of_ble_eq_true rfl) dX8_poke_1 (fun H locs h2 hS => ?_)
  have hP := h2.1
  have hD := h2.2.2.1
  refine lv_if_eq (tgt := 17) hx hb dX8_poke_4 (by decide) (fun c3 => ?_) (fun c3 => ?_)
  · replace h := if_yes h c3
    obtain rfl := Option.some.inj h
    exact sx_thr (E := eA) hst X (fun w h => List.mem_cons_of_mem _ h) ht (by decide) k_clA k_inA k_atA k_nbA k_otA hP hD hS hl.1 ⟨by decide, by decide⟩ ⟨by decide, by decide⟩ dX8_poke_17 dX8_poke_20 dX8_poke_21 dX8_poke_24
  · replace h := if_no h c3
    refine lv_iload_n hx hb dX8_poke_7 rfl (lv_at hl 3 rfl) ?_
    refine lv_iconst (v := (1 : Int32)) hx hb dX8_poke_8 (by decide) ?_
    refine lv_icmp_lt (tgt := 17) hx hb dX8_poke_9 (by decide) (fun c4 => ?_) (fun c4 => ?_)
    · replace h := if_yes h c4
      obtain rfl := Option.some.inj h
      exact sx_thr (E := eA) hst X (fun w h => List.mem_cons_of_mem _ h) ht (by decide) k_clA k_inA k_atA k_nbA k_otA hP hD hS hl.1 ⟨by decide, by decide⟩ ⟨by decide, by decide⟩ dX8_poke_17 dX8_poke_20 dX8_poke_21 dX8_poke_24
    · replace h := if_no h c4
      refine lv_iload_n hx hb dX8_poke_12 rfl (lv_at hl 3 rfl) ?_
      refine lv_iconst (v := (4 : Int32)) hx hb dX8_poke_13 (by decide) ?_
      refine lv_icmp_le (tgt := 25) hx hb dX8_poke_14 (by decide) (fun c5 => ?_) (fun c5 => ?_)
      · replace h := if_yes h c5
        exact absurd h (fun h9 => by cases h9)
      · replace h := if_no h c5
        obtain rfl := Option.some.inj h
        exact sx_thr (E := eA) hst X (fun w h => List.mem_cons_of_mem _ h) ht (by decide) k_clA k_inA k_atA k_nbA k_otA hP hD hS hl.1 ⟨by decide, by decide⟩ ⟨by decide, by decide⟩ dX8_poke_17 dX8_poke_20 dX8_poke_21 dX8_poke_24
set_option maxHeartbeats 4000000 in
set_option maxRecDepth 100000 in
theorem cX8_peek_t {l : Launch} (hst : l.stackTraces = false) {dC : Nat → ClassId} {dI : Nat → Nat → Nat} {ad : Nat → Nat} {cI : ClassId} {p1 : Int32} {s0 : zS} {zq : Int32} (h : tX8_peek p1 = some zq) : sx_M l yX8_peek (sw_ws yX8_peek cX8_peek 2 (some .int)) { frames := 6, cells := 1, slots := 6, locals := 100 } (dC, dI) vwCl [(cI, .int)] tF [.ref (ad 0), .int p1] (cW ad cI s0) (if zq = 1 then eA else eS) := by
  intro sz
  refine sx_of (cc := cX8_peek) (maxL := 2) (ret := (some .int)) (by decide) rfl (Nat.le_of_ble_eq_true rfl) ?_
  intro p e s m args below meth c A ls hAe X ht hP hD hS hl
  have hx := X.1.1
  have hb := X.1.2.1
  have hown := X.1.2.2.2.1
  have hts := X.1.2.2.2.2
  have S : CallFix p m c cX8_peek 2 s args sw_tb RX8 := ⟨hx, hb, X.1.2.2.1, hown, fun w h => hts w (List.mem_cons_of_mem _ h)⟩
  have Xc : sw_X p s m args meth c cX8_peek 2 RX8 (some .int) (sw_ws yX8_peek cX8_peek 2 (some .int)) (dC, dI) vwCl [(cI, .int)] cF A := ⟨X.1, X.2.1, X.2.2.1, X.2.2.2.1, X.2.2.2.2.1, X.2.2.2.2.2.1⟩
  replace hl : lv_has ls 2 [(0, .ref (ad 0)), (1, .int p1)] := hl
  unfold tX8_peek at h
  refine lv_iload_n hx hb dX8_peek_0 rfl (lv_at hl 1 rfl) ?_
  have hq := bd_some h; clear h; obtain ⟨r2, h1, h⟩ := hq
  refine sg_si (wr := []) (rest := []) S c_good X.2.2.2.1 X.2.2.2.2.1 X.2.2.2.2.2.1 (cX2_has_m h1) calX2_has k_212 (sg_2.one hP hD) hS ⟨by decide, by decide⟩ ⟨by decide, by decide⟩ rfl hl.1 rfl (Nat.le_of_ble_eq_true rfl) dX8_peek_1 (fun H locs h2 hS => ?_)
  have hP := h2.1
  have hD := h2.2.2.1
  refine lv_if_ne (tgt := 15) hx hb dX8_peek_4 (by decide) (fun c3 => ?_) (fun c3 => ?_)
  · replace h := if_no h c3
    exact absurd h (fun h9 => by cases h9)
  · replace h := if_yes h c3
    obtain rfl := Option.some.inj h
    exact sx_thr (E := eA) hst X (fun w h => List.mem_cons_of_mem _ h) ht (by decide) k_clA k_inA k_atA k_nbA k_otA hP hD hS hl.1 ⟨by decide, by decide⟩ ⟨by decide, by decide⟩ dX8_peek_7 dX8_peek_10 dX8_peek_11 dX8_peek_14
set_option maxHeartbeats 4000000 in
set_option maxRecDepth 100000 in
theorem cX8_set_t {l : Launch} (hst : l.stackTraces = false) {dC : Nat → ClassId} {dI : Nat → Nat → Nat} {ad : Nat → Nat} {cI : ClassId} {p1 p2 : Int32} {s0 : zS} {zq : Int32} (h : tX8_set p1 p2 = some zq) : sx_M l yX8_set (sw_ws yX8_set cX8_set 3 none) { frames := 6, cells := 1, slots := 6, locals := 100 } (dC, dI) vwCl [(cI, .int)] tF [.ref (ad 0), .int p1, .int p2] (cW ad cI s0) (if zq = 1 then eA else eS) := by
  intro sz
  refine sx_of (cc := cX8_set) (maxL := 3) (ret := none) (by decide) rfl (Nat.le_of_ble_eq_true rfl) ?_
  intro p e s m args below meth c A ls hAe X ht hP hD hS hl
  have hx := X.1.1
  have hb := X.1.2.1
  have hown := X.1.2.2.2.1
  have hts := X.1.2.2.2.2
  have S : CallFix p m c cX8_set 3 s args sw_tb RX8 := ⟨hx, hb, X.1.2.2.1, hown, fun w h => hts w (List.mem_cons_of_mem _ h)⟩
  have Xc : sw_X p s m args meth c cX8_set 3 RX8 none (sw_ws yX8_set cX8_set 3 none) (dC, dI) vwCl [(cI, .int)] cF A := ⟨X.1, X.2.1, X.2.2.1, X.2.2.2.1, X.2.2.2.2.1, X.2.2.2.2.2.1⟩
  replace hl : lv_has ls 3 [(0, .ref (ad 0)), (1, .int p1), (2, .int p2)] := hl
  unfold tX8_set at h
  refine lv_iload_n hx hb dX8_set_0 rfl (lv_at hl 1 rfl) ?_
  have hq := bd_some h; clear h; obtain ⟨r2, h1, h⟩ := hq
  refine sg_si (wr := []) (rest := []) S c_good X.2.2.2.1 X.2.2.2.2.1 X.2.2.2.2.2.1 (cX6_has_m h1) calX6_has k_302 (sg_2.one hP hD) hS ⟨by decide, by decide⟩ ⟨by decide, by decide⟩ rfl hl.1 rfl (Nat.le_of_ble_eq_true rfl) dX8_set_1 (fun H locs h2 hS => ?_)
  have hP := h2.1
  have hD := h2.2.2.1
  refine lv_if_eq (tgt := 17) hx hb dX8_set_4 (by decide) (fun c3 => ?_) (fun c3 => ?_)
  · replace h := if_yes h c3
    obtain rfl := Option.some.inj h
    exact sx_thr (E := eA) hst X (fun w h => List.mem_cons_of_mem _ h) ht (by decide) k_clA k_inA k_atA k_nbA k_otA hP hD hS hl.1 ⟨by decide, by decide⟩ ⟨by decide, by decide⟩ dX8_set_17 dX8_set_20 dX8_set_21 dX8_set_24
  · replace h := if_no h c3
    refine lv_iload_n hx hb dX8_set_7 rfl (lv_at hl 2 rfl) ?_
    refine lv_if_lt (tgt := 17) hx hb dX8_set_8 (by decide) (fun c4 => ?_) (fun c4 => ?_)
    · replace h := if_yes h c4
      obtain rfl := Option.some.inj h
      exact sx_thr (E := eA) hst X (fun w h => List.mem_cons_of_mem _ h) ht (by decide) k_clA k_inA k_atA k_nbA k_otA hP hD hS hl.1 ⟨by decide, by decide⟩ ⟨by decide, by decide⟩ dX8_set_17 dX8_set_20 dX8_set_21 dX8_set_24
    · replace h := if_no h c4
      refine lv_iload_n hx hb dX8_set_11 rfl (lv_at hl 2 rfl) ?_
      refine lv_ldc (v := 65535) hx hb hown (hts _ (List.mem_cons_of_mem _ k_305)) dX8_set_12 ?_
      refine lv_icmp_le (tgt := 25) hx hb dX8_set_14 (by decide) (fun c5 => ?_) (fun c5 => ?_)
      · replace h := if_yes h c5
        exact absurd h (fun h9 => by cases h9)
      · replace h := if_no h c5
        obtain rfl := Option.some.inj h
        exact sx_thr (E := eA) hst X (fun w h => List.mem_cons_of_mem _ h) ht (by decide) k_clA k_inA k_atA k_nbA k_otA hP hD hS hl.1 ⟨by decide, by decide⟩ ⟨by decide, by decide⟩ dX8_set_17 dX8_set_20 dX8_set_21 dX8_set_24
set_option maxHeartbeats 4000000 in
set_option maxRecDepth 100000 in
theorem cX8_get_t {l : Launch} (hst : l.stackTraces = false) {dC : Nat → ClassId} {dI : Nat → Nat → Nat} {ad : Nat → Nat} {cI : ClassId} {p1 : Int32} {s0 : zS} {zq : Int32} (h : tX8_get p1 = some zq) : sx_M l yX8_get (sw_ws yX8_get cX8_get 2 (some .int)) { frames := 6, cells := 1, slots := 6, locals := 100 } (dC, dI) vwCl [(cI, .int)] tF [.ref (ad 0), .int p1] (cW ad cI s0) (if zq = 1 then eA else eS) := by
  intro sz
  refine sx_of (cc := cX8_get) (maxL := 2) (ret := (some .int)) (by decide) rfl (Nat.le_of_ble_eq_true rfl) ?_
  intro p e s m args below meth c A ls hAe X ht hP hD hS hl
  have hx := X.1.1
  have hb := X.1.2.1
  have hown := X.1.2.2.2.1
  have hts := X.1.2.2.2.2
  have S : CallFix p m c cX8_get 2 s args sw_tb RX8 := ⟨hx, hb, X.1.2.2.1, hown, fun w h => hts w (List.mem_cons_of_mem _ h)⟩
  have Xc : sw_X p s m args meth c cX8_get 2 RX8 (some .int) (sw_ws yX8_get cX8_get 2 (some .int)) (dC, dI) vwCl [(cI, .int)] cF A := ⟨X.1, X.2.1, X.2.2.1, X.2.2.2.1, X.2.2.2.2.1, X.2.2.2.2.2.1⟩
  replace hl : lv_has ls 2 [(0, .ref (ad 0)), (1, .int p1)] := hl
  unfold tX8_get at h
  refine lv_iload_n hx hb dX8_get_0 rfl (lv_at hl 1 rfl) ?_
  have hq := bd_some h; clear h; obtain ⟨r2, h1, h⟩ := hq
  refine sg_si (wr := []) (rest := []) S c_good X.2.2.2.1 X.2.2.2.2.1 X.2.2.2.2.2.1 (cX6_has_m h1) calX6_has k_302 (sg_2.one hP hD) hS ⟨by decide, by decide⟩ ⟨by decide, by decide⟩ rfl hl.1 rfl (Nat.le_of_ble_eq_true rfl) dX8_get_1 (fun H locs h2 hS => ?_)
  have hP := h2.1
  have hD := h2.2.2.1
  refine lv_if_ne (tgt := 15) hx hb dX8_get_4 (by decide) (fun c3 => ?_) (fun c3 => ?_)
  · replace h := if_no h c3
    exact absurd h (fun h9 => by cases h9)
  · replace h := if_yes h c3
    obtain rfl := Option.some.inj h
    exact sx_thr (E := eA) hst X (fun w h => List.mem_cons_of_mem _ h) ht (by decide) k_clA k_inA k_atA k_nbA k_otA hP hD hS hl.1 ⟨by decide, by decide⟩ ⟨by decide, by decide⟩ dX8_get_7 dX8_get_10 dX8_get_11 dX8_get_14
set_option maxHeartbeats 4000000 in
set_option maxRecDepth 100000 in
theorem cX8_key_t {l : Launch} (hst : l.stackTraces = false) {dC : Nat → ClassId} {dI : Nat → Nat → Nat} {ad : Nat → Nat} {cI : ClassId} {p1 p2 : Int32} {s0 : zS} {zq : Int32} (h : tX8_key p1 p2 = some zq) : sx_M l yX8_key (sw_ws yX8_key cX8_key 3 none) { frames := 6, cells := 1, slots := 6, locals := 100 } (dC, dI) vwCl [(cI, .int)] tF [.ref (ad 0), .int p1, .int p2] (cW ad cI s0) (if zq = 1 then eA else eS) := by
  intro sz
  refine sx_of (cc := cX8_key) (maxL := 3) (ret := none) (by decide) rfl (Nat.le_of_ble_eq_true rfl) ?_
  intro p e s m args below meth c A ls hAe X ht hP hD hS hl
  have hx := X.1.1
  have hb := X.1.2.1
  have hown := X.1.2.2.2.1
  have hts := X.1.2.2.2.2
  have S : CallFix p m c cX8_key 3 s args sw_tb RX8 := ⟨hx, hb, X.1.2.2.1, hown, fun w h => hts w (List.mem_cons_of_mem _ h)⟩
  have Xc : sw_X p s m args meth c cX8_key 3 RX8 none (sw_ws yX8_key cX8_key 3 none) (dC, dI) vwCl [(cI, .int)] cF A := ⟨X.1, X.2.1, X.2.2.1, X.2.2.2.1, X.2.2.2.2.1, X.2.2.2.2.2.1⟩
  replace hl : lv_has ls 3 [(0, .ref (ad 0)), (1, .int p1), (2, .int p2)] := hl
  unfold tX8_key at h
  refine lv_iload_n hx hb dX8_key_0 rfl (lv_at hl 1 rfl) ?_
  refine lv_if_lt (tgt := 20) hx hb dX8_key_1 (by decide) (fun c1 => ?_) (fun c1 => ?_)
  · replace h := if_yes h c1
    obtain rfl := Option.some.inj h
    exact sx_thr (E := eA) hst X (fun w h => List.mem_cons_of_mem _ h) ht (by decide) k_clA k_inA k_atA k_nbA k_otA hP hD hS hl.1 ⟨by decide, by decide⟩ ⟨by decide, by decide⟩ dX8_key_20 dX8_key_23 dX8_key_24 dX8_key_27
  · replace h := if_no h c1
    refine lv_iload_n hx hb dX8_key_4 rfl (lv_at hl 1 rfl) ?_
    refine lv_bipush (v := (8 : Int32)) hx hb dX8_key_5 (by decide) ?_
    refine lv_icmp_ge (tgt := 20) hx hb dX8_key_7 (by decide) (fun c2 => ?_) (fun c2 => ?_)
    · replace h := if_yes h c2
      obtain rfl := Option.some.inj h
      exact sx_thr (E := eA) hst X (fun w h => List.mem_cons_of_mem _ h) ht (by decide) k_clA k_inA k_atA k_nbA k_otA hP hD hS hl.1 ⟨by decide, by decide⟩ ⟨by decide, by decide⟩ dX8_key_20 dX8_key_23 dX8_key_24 dX8_key_27
    · replace h := if_no h c2
      refine lv_iload_n hx hb dX8_key_10 rfl (lv_at hl 2 rfl) ?_
      refine lv_if_lt (tgt := 20) hx hb dX8_key_11 (by decide) (fun c3 => ?_) (fun c3 => ?_)
      · replace h := if_yes h c3
        obtain rfl := Option.some.inj h
        exact sx_thr (E := eA) hst X (fun w h => List.mem_cons_of_mem _ h) ht (by decide) k_clA k_inA k_atA k_nbA k_otA hP hD hS hl.1 ⟨by decide, by decide⟩ ⟨by decide, by decide⟩ dX8_key_20 dX8_key_23 dX8_key_24 dX8_key_27
      · replace h := if_no h c3
        refine lv_iload_n hx hb dX8_key_14 rfl (lv_at hl 2 rfl) ?_
        refine lv_bipush (v := (31 : Int32)) hx hb dX8_key_15 (by decide) ?_
        refine lv_icmp_le (tgt := 28) hx hb dX8_key_17 (by decide) (fun c4 => ?_) (fun c4 => ?_)
        · replace h := if_yes h c4
          exact absurd h (fun h9 => by cases h9)
        · replace h := if_no h c4
          obtain rfl := Option.some.inj h
          exact sx_thr (E := eA) hst X (fun w h => List.mem_cons_of_mem _ h) ht (by decide) k_clA k_inA k_atA k_nbA k_otA hP hD hS hl.1 ⟨by decide, by decide⟩ ⟨by decide, by decide⟩ dX8_key_20 dX8_key_23 dX8_key_24 dX8_key_27
set_option maxHeartbeats 4000000 in
set_option maxRecDepth 100000 in
theorem cX8_edge_t {l : Launch} (hst : l.stackTraces = false) {dC : Nat → ClassId} {dI : Nat → Nat → Nat} {ad : Nat → Nat} {cI : ClassId} {p1 : Int32} {s0 : zS} {zq : Int32} (h : tX8_edge p1 s0 = some zq) : sx_M l yX8_edge (sw_ws yX8_edge cX8_edge 2 (some .int)) { frames := 6, cells := 1, slots := 6, locals := 100 } (dC, dI) vwCl [(cI, .int)] tF [.ref (ad 0), .int p1] (cW ad cI s0) (if zq = 1 then eA else eS) := by
  intro sz
  refine sx_of (cc := cX8_edge) (maxL := 2) (ret := (some .int)) (by decide) rfl (Nat.le_of_ble_eq_true rfl) ?_
  intro p e s m args below meth c A ls hAe X ht hP hD hS hl
  have hx := X.1.1
  have hb := X.1.2.1
  have hown := X.1.2.2.2.1
  have hts := X.1.2.2.2.2
  have S : CallFix p m c cX8_edge 2 s args sw_tb RX8 := ⟨hx, hb, X.1.2.2.1, hown, fun w h => hts w (List.mem_cons_of_mem _ h)⟩
  have Xc : sw_X p s m args meth c cX8_edge 2 RX8 (some .int) (sw_ws yX8_edge cX8_edge 2 (some .int)) (dC, dI) vwCl [(cI, .int)] cF A := ⟨X.1, X.2.1, X.2.2.1, X.2.2.2.1, X.2.2.2.2.1, X.2.2.2.2.2.1⟩
  replace hl : lv_has ls 2 [(0, .ref (ad 0)), (1, .int p1)] := hl
  unfold tX8_edge at h
  refine lv_iload_n hx hb dX8_edge_0 rfl (lv_at hl 1 rfl) ?_
  refine lv_iconst (v := (1 : Int32)) hx hb dX8_edge_1 (by decide) ?_
  refine lv_icmp_lt (tgt := 11) hx hb dX8_edge_2 (by decide) (fun c1 => ?_) (fun c1 => ?_)
  · replace h := if_yes h c1
    obtain rfl := Option.some.inj h
    exact sx_thr (E := eA) hst X (fun w h => List.mem_cons_of_mem _ h) ht (by decide) k_clA k_inA k_atA k_nbA k_otA hP hD hS hl.1 ⟨by decide, by decide⟩ ⟨by decide, by decide⟩ dX8_edge_11 dX8_edge_14 dX8_edge_15 dX8_edge_18
  · replace h := if_no h c1
    refine lv_iload_n hx hb dX8_edge_5 rfl (lv_at hl 1 rfl) ?_
    refine lv_ldc (v := 100000) hx hb hown (hts _ (List.mem_cons_of_mem _ k_338)) dX8_edge_6 ?_
    refine lv_icmp_le (tgt := 19) hx hb dX8_edge_8 (by decide) (fun c2 => ?_) (fun c2 => ?_)
    · replace h := if_yes h c2
      refine lv_aload_n hx hb dX8_edge_19 rfl (lv_at hl 0 rfl) ?_
      refine cg_0_2 Xc hP k_179 dX8_edge_20 ?_
      refine cg_3_1 Xc hP k_75 dX8_edge_23 ?_
      have hq := bd2_some h; clear h; obtain ⟨r4, s5, h3, h⟩ := hq
      refine sg_vi (wr := []) (rest := []) S c_good X.2.2.2.1 X.2.2.2.2.1 X.2.2.2.2.2.1 (cX7_isFull_m h3) calX7_isFull k_339 (sg_2.one hP hD) hS 8 7 rfl rfl rfl ⟨by decide, by decide⟩ ⟨by decide, by decide⟩ rfl hl.1 rfl (Nat.le_of_ble_eq_true rfl) dX8_edge_26 (fun H locs h2 hS => ?_)
      have hP := h2.1
      have hD := h2.2.2.1
      rw [isFull_s h3] at hP hD
      refine lv_if_eq (tgt := 40) hx hb dX8_edge_29 (by decide) (fun c6 => ?_) (fun c6 => ?_)
      · replace h := if_yes h c6
        exact absurd h (fun h9 => by cases h9)
      · replace h := if_no h c6
        obtain rfl := Option.some.inj h
        exact sx_thr (E := eS) hst X (fun w h => List.mem_cons_of_mem _ h) ht (by decide) k_clS k_inS k_atS k_nbS k_otS hP hD hS hl.1 ⟨by decide, by decide⟩ ⟨by decide, by decide⟩ dX8_edge_32 dX8_edge_35 dX8_edge_36 dX8_edge_39
    · replace h := if_no h c2
      obtain rfl := Option.some.inj h
      exact sx_thr (E := eA) hst X (fun w h => List.mem_cons_of_mem _ h) ht (by decide) k_clA k_inA k_atA k_nbA k_otA hP hD hS hl.1 ⟨by decide, by decide⟩ ⟨by decide, by decide⟩ dX8_edge_11 dX8_edge_14 dX8_edge_15 dX8_edge_18
set_option maxHeartbeats 4000000 in
set_option maxRecDepth 100000 in
theorem cX8_run_t {l : Launch} (hst : l.stackTraces = false) {dC : Nat → ClassId} {dI : Nat → Nat → Nat} {ad : Nat → Nat} {cI : ClassId} {p1 : Int32} {s0 : zS} {zq : Int32} (h : tX8_run p1 = some zq) : sx_M l yX8_run (sw_ws yX8_run cX8_run 4 (some .boolean)) { frames := 6, cells := 1, slots := 6, locals := 100 } (dC, dI) vwCl [(cI, .int)] tF [.ref (ad 0), .int p1] (cW ad cI s0) (if zq = 1 then eA else eS) := by
  intro sz
  refine sx_of (cc := cX8_run) (maxL := 4) (ret := (some .boolean)) (by decide) rfl (Nat.le_of_ble_eq_true rfl) ?_
  intro p e s m args below meth c A ls hAe X ht hP hD hS hl
  have hx := X.1.1
  have hb := X.1.2.1
  have hown := X.1.2.2.2.1
  have hts := X.1.2.2.2.2
  have S : CallFix p m c cX8_run 4 s args sw_tb RX8 := ⟨hx, hb, X.1.2.2.1, hown, fun w h => hts w (List.mem_cons_of_mem _ h)⟩
  have Xc : sw_X p s m args meth c cX8_run 4 RX8 (some .boolean) (sw_ws yX8_run cX8_run 4 (some .boolean)) (dC, dI) vwCl [(cI, .int)] cF A := ⟨X.1, X.2.1, X.2.2.1, X.2.2.2.1, X.2.2.2.2.1, X.2.2.2.2.2.1⟩
  replace hl : lv_has ls 4 [(0, .ref (ad 0)), (1, .int p1)] := hl
  unfold tX8_run at h
  refine lv_iload_n hx hb dX8_run_0 rfl (lv_at hl 1 rfl) ?_
  refine lv_iconst (v := (1 : Int32)) hx hb dX8_run_1 (by decide) ?_
  refine lv_icmp_lt (tgt := 12) hx hb dX8_run_2 (by decide) (fun c1 => ?_) (fun c1 => ?_)
  · replace h := if_yes h c1
    obtain rfl := Option.some.inj h
    exact sx_thr (E := eA) hst X (fun w h => List.mem_cons_of_mem _ h) ht (by decide) k_clA k_inA k_atA k_nbA k_otA hP hD hS hl.1 ⟨by decide, by decide⟩ ⟨by decide, by decide⟩ dX8_run_12 dX8_run_15 dX8_run_16 dX8_run_19
  · replace h := if_no h c1
    refine lv_iload_n hx hb dX8_run_5 rfl (lv_at hl 1 rfl) ?_
    refine lv_sipush (v := (20000 : Int32)) hx hb dX8_run_6 (by decide) ?_
    refine lv_icmp_le (tgt := 20) hx hb dX8_run_9 (by decide) (fun c2 => ?_) (fun c2 => ?_)
    · replace h := if_yes h c2
      exact absurd h (fun h9 => by cases h9)
    · replace h := if_no h c2
      obtain rfl := Option.some.inj h
      exact sx_thr (E := eA) hst X (fun w h => List.mem_cons_of_mem _ h) ht (by decide) k_clA k_inA k_atA k_nbA k_otA hP hD hS hl.1 ⟨by decide, by decide⟩ ⟨by decide, by decide⟩ dX8_run_12 dX8_run_15 dX8_run_16 dX8_run_19
set_option maxHeartbeats 4000000 in
set_option maxRecDepth 100000 in
theorem cX8_count_t {l : Launch} (hst : l.stackTraces = false) {dC : Nat → ClassId} {dI : Nat → Nat → Nat} {ad : Nat → Nat} {cI : ClassId} {p1 : Int32} {s0 : zS} {zq : Int32} (h : tX8_count p1 = some zq) : sx_M l yX8_count (sw_ws yX8_count cX8_count 2 (some .int)) { frames := 6, cells := 1, slots := 6, locals := 100 } (dC, dI) vwCl [(cI, .int)] tF [.ref (ad 0), .int p1] (cW ad cI s0) (if zq = 1 then eA else eS) := by
  intro sz
  refine sx_of (cc := cX8_count) (maxL := 2) (ret := (some .int)) (by decide) rfl (Nat.le_of_ble_eq_true rfl) ?_
  intro p e s m args below meth c A ls hAe X ht hP hD hS hl
  have hx := X.1.1
  have hb := X.1.2.1
  have hown := X.1.2.2.2.1
  have hts := X.1.2.2.2.2
  have S : CallFix p m c cX8_count 2 s args sw_tb RX8 := ⟨hx, hb, X.1.2.2.1, hown, fun w h => hts w (List.mem_cons_of_mem _ h)⟩
  have Xc : sw_X p s m args meth c cX8_count 2 RX8 (some .int) (sw_ws yX8_count cX8_count 2 (some .int)) (dC, dI) vwCl [(cI, .int)] cF A := ⟨X.1, X.2.1, X.2.2.1, X.2.2.2.1, X.2.2.2.2.1, X.2.2.2.2.2.1⟩
  replace hl : lv_has ls 2 [(0, .ref (ad 0)), (1, .int p1)] := hl
  unfold tX8_count at h
  refine lv_iload_n hx hb dX8_count_0 rfl (lv_at hl 1 rfl) ?_
  by_cases c1 : p1 ∈ ([(0 : Int32)] : List Int32)
  · replace h := if_yes h c1
    refine sw_tabK (tgt := 48) (off := 47) hx hb dX8_count_1 _ c1 (by decide +kernel) (by decide) ?_
    exact absurd h (fun h9 => by cases h9)
  · replace h := if_no h c1
    by_cases c2 : p1 ∈ ([(1 : Int32)] : List Int32)
    · replace h := if_yes h c2
      refine sw_tabK (tgt := 56) (off := 55) hx hb dX8_count_1 _ c2 (by decide +kernel) (by decide) ?_
      exact absurd h (fun h9 => by cases h9)
    · replace h := if_no h c2
      by_cases c3 : p1 ∈ ([(2 : Int32)] : List Int32)
      · replace h := if_yes h c3
        refine sw_tabK (tgt := 64) (off := 63) hx hb dX8_count_1 _ c3 (by decide +kernel) (by decide) ?_
        exact absurd h (fun h9 => by cases h9)
      · replace h := if_no h c3
        by_cases c4 : p1 ∈ ([(3 : Int32)] : List Int32)
        · replace h := if_yes h c4
          refine sw_tabK (tgt := 72) (off := 71) hx hb dX8_count_1 _ c4 (by decide +kernel) (by decide) ?_
          exact absurd h (fun h9 => by cases h9)
        · replace h := if_no h c4
          by_cases c5 : p1 ∈ ([(4 : Int32)] : List Int32)
          · replace h := if_yes h c5
            refine sw_tabK (tgt := 80) (off := 79) hx hb dX8_count_1 _ c5 (by decide +kernel) (by decide) ?_
            exact absurd h (fun h9 => by cases h9)
          · replace h := if_no h c5
            by_cases c6 : p1 ∈ ([(5 : Int32)] : List Int32)
            · replace h := if_yes h c6
              refine sw_tabK (tgt := 96) (off := 95) hx hb dX8_count_1 _ c6 (by decide +kernel) (by decide) ?_
              exact absurd h (fun h9 => by cases h9)
            · replace h := if_no h c6
              by_cases c7 : p1 ∈ ([(6 : Int32)] : List Int32)
              · replace h := if_yes h c7
                refine sw_tabK (tgt := 112) (off := 111) hx hb dX8_count_1 _ c7 (by decide +kernel) (by decide) ?_
                exact absurd h (fun h9 => by cases h9)
              · replace h := if_no h c7
                by_cases c8 : p1 ∈ ([(7 : Int32)] : List Int32)
                · replace h := if_yes h c8
                  refine sw_tabK (tgt := 120) (off := 119) hx hb dX8_count_1 _ c8 (by decide +kernel) (by decide) ?_
                  exact absurd h (fun h9 => by cases h9)
                · replace h := if_no h c8
                  refine sw_tabD (tgt := 128) hx hb dX8_count_1 (([(0 : Int32)] : List Int32) ++ (([(1 : Int32)] : List Int32) ++ (([(2 : Int32)] : List Int32) ++ (([(3 : Int32)] : List Int32) ++ (([(4 : Int32)] : List Int32) ++ (([(5 : Int32)] : List Int32) ++ (([(6 : Int32)] : List Int32) ++ ([(7 : Int32)] : List Int32)))))))) (fun hm => (List.mem_append.mp hm).elim c1 (fun hm => (List.mem_append.mp hm).elim c2 (fun hm => (List.mem_append.mp hm).elim c3 (fun hm => (List.mem_append.mp hm).elim c4 (fun hm => (List.mem_append.mp hm).elim c5 (fun hm => (List.mem_append.mp hm).elim c6 (fun hm => (List.mem_append.mp hm).elim c7 c8))))))) (by decide +kernel) (by decide) ?_
                  obtain rfl := Option.some.inj h
                  exact sx_thr (E := eA) hst X (fun w h => List.mem_cons_of_mem _ h) ht (by decide) k_clA k_inA k_atA k_nbA k_otA hP hD hS hl.1 ⟨by decide, by decide⟩ ⟨by decide, by decide⟩ dX8_count_128 dX8_count_131 dX8_count_132 dX8_count_135
