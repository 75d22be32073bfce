/-! the loop of the law; its start -/
theorem k_long : Cond.arrayClass .long ∈ sw_tb := sw_in 1049 (by decide +kernel) rfl
theorem ki_X0 : Cond.instantiable RX0 1 ∈ sw_tb := sw_in 117 (by decide +kernel) rfl
theorem ki_X1 : Cond.instantiable RX1 1 ∈ sw_tb := sw_in 26 (by decide +kernel) rfl
theorem ki_X2 : Cond.instantiable RX2 2 ∈ sw_tb := sw_in 38 (by decide +kernel) rfl
theorem ki_X3 : Cond.instantiable RX3 2 ∈ sw_tb := sw_in 127 (by decide +kernel) rfl
theorem ki_X4 : Cond.instantiable RX4 7 ∈ sw_tb := sw_in 52 (by decide +kernel) rfl
theorem ki_X5 : Cond.instantiable RX5 11 ∈ sw_tb := sw_in 111 (by decide +kernel) rfl
theorem ki_X6 : Cond.instantiable RX6 1 ∈ sw_tb := sw_in 101 (by decide +kernel) rfl
theorem ki_X7 : Cond.instantiable RX7 3 ∈ sw_tb := sw_in 58 (by decide +kernel) rfl
theorem ki_X8 : Cond.instantiable RX8 5 ∈ sw_tb := sw_in 18 (by decide +kernel) rfl
theorem ki_X9 : Cond.instantiable RX9 20 ∈ sw_tb := sw_in 752 (by decide +kernel) rfl
theorem kl_8 : Cond.classLink RL 8 RX8 ∈ sw_tb := sw_in 17 (by decide +kernel) rfl
theorem kl_42 : Cond.classLink RL 42 RX9 ∈ sw_tb := sw_in 751 (by decide +kernel) rfl
theorem kl_41 : Cond.methodLink RL 41 yX8_init ∈ sw_tb := sw_in 19 (by decide +kernel) rfl
theorem kl_44 : Cond.methodLink RL 44 yX9_init ∈ sw_tb := sw_in 753 (by decide +kernel) rfl
theorem kn_8 : Cond.initialized RX8 ∈ sw_tb := sw_in 1 (by decide +kernel) rfl
theorem kn_9 : Cond.initialized RX9 ∈ sw_tb := sw_in 10 (by decide +kernel) rfl
theorem kn_1 : Cond.initialized RX1 ∈ sw_tb := sw_in 2 (by decide +kernel) rfl
theorem kn_3 : Cond.initialized RX3 ∈ sw_tb := sw_in 9 (by decide +kernel) rfl
theorem kn_t : Cond.initialized Bundle.tN ∈ sw_tb := sw_in 11 (by decide +kernel) rfl
theorem Iv0 : Iv 0 z0 := ⟨rfl, fun _ _ => ⟨0, by omega, rfl⟩, fun _ => ⟨0, by omega, rfl⟩, ⟨Or.inl rfl, Or.inl rfl, Or.inl rfl, Or.inl rfl⟩, ⟨0, Nat.le_refl _, rfl⟩, ⟨0, fun _ => 0, by omega, rfl, fun i h => by omega, fun i j h1 h2 => by omega, rfl⟩⟩
theorem al_z : al z0 (rF 0) 0 = z1 := by
  refine z_ext (fun j => ?_) (fun k j => ?_)
  · match j with
    | 0 | 1 | 2 | 3 | 4 | 5 | 6 | 7 | 8 | 9 | 10 | 11 | 12 | 13 => rfl
    | j + 14 => rfl
  · match k with
    | 0 => rfl
    | 1 => match j with
      | 0 | 1 | 2 | 3 | 4 | 5 | 6 | 7 => rfl
      | j + 8 => rfl
    | 2 => match j with
      | 0 | 1 | 2 | 3 | 4 | 5 | 6 | 7 => rfl
      | j + 8 => rfl
    | 3 => rfl
    | 4 => rfl
    | 5 => rfl
    | k + 6 => show (0 : Int32) = (if k + 6 = 3 then r31 else fun _ => 0) j; rw [if_neg (by omega)]
theorem lw_more {L j : Nat} (hL : L ≤ 2048) (hj : j ≤ 512) (h : ¬ (Int32.ofNat L - 4 < nI (4 * j))) : 4 * j + 4 ≤ L := by
  by_cases z : L < 4
  · exfalso
    apply h
    have h0 : ∀ L, L < 4 → (Int32.ofNat L - 4).toInt < 0 := by decide
    rw [lt32_iff, nI_toInt (by omega)]
    have := h0 L z
    omega
  · have e : Int32.ofNat L - 4 = nI (L - 4) := pk_sub (a := L) (b := 4) (by omega)
    rw [e, lt32_iff, nI_toInt (by omega), nI_toInt (by omega)] at h
    omega
set_option maxHeartbeats 4000000 in
set_option maxRecDepth 100000 in
theorem law_loop {p : Program} {l : Launch} {e : Env} {s : State} {m : MethodId} {below : List Frame} {meth : Method} {c : Code} {b L : Nat} {xs : Nat → Int32} {dC : Nat → ClassId} {dI : Nat → Nat → Nat} {cI cL : ClassId} {aC aM : Nat → Nat} {o : Nat} (hst : l.stackTraces = false) (X : lwX p s m meth c b L xs dC dI cI cL) (hL : L ≤ 2048) : ∀ (n j t : Nat) (c0 : zS) (r tr : Int32) (g : Nat → Int64) (H : Heap) (locs : List Loc) (ls : Array Slot), j ≤ 512 → 513 ≤ n + j → Iv t c0 → t ≤ 20060 * j → lwI s dC dI cI cL aC aM o c0 r tr g H → va_S (lwA s) s.heap H locs → lwL ls j b aC aM o → W p l e room_1 s m #[Value.ref b] below meth c H locs (22 + j) (8616 + 6 * j) (lw_Z below #[Value.ref b] s) (F0 m 23 ls []) := by
  obtain ⟨hx, hb, hr, hml, hown, hts, hX, hbl, hlocks, hgv⟩ := id X.1
  have hbA : ¬ lwA s b := Nat.not_le.mpr hbl
  intro n
  induction n with
  | zero =>
    intro j t c0 r tr g H locs ls h1 h2
    omega
  | succ n ih =>
    intro j t c0 r tr g H locs ls hj hn hI ht h2 hS hl
    refine lv_iload hx hb dL_law_23 (lv_at hl 4 rfl) ?_
    refine lv_aload_n hx hb dL_law_25 rfl (lv_at hl 0 rfl) ?_
    refine va_slen hx hb hX hbl hbA hS dL_law_26 ?_
    refine lv_iconst (v := 4) hx hb dL_law_27 (by decide) ?_
    refine lv_isub hx hb dL_law_28 ?_
    refine lv_icmp_gt (tgt := 582) hx hb dL_law_29 (by decide) (fun _ => ?_) (fun hc => ?_)
    · refine lv_iconst (v := 1) hx hb dL_law_582 (by decide) ?_
      refine va_forget (fun q hq => hS.2.2 q hq) ?_
      refine W.widen (k := 1055) (n := 16862) (by omega) (by omega) ?_
      exact lw_ret hx hb hr hlocks dL_law_583
    · have hj4 := lw_more hL hj hc
      refine lv_aload_n hx hb dL_law_32 rfl (lv_at hl 0 rfl) ?_
      refine lv_iload hx hb dL_law_33 (lv_at hl 4 rfl) ?_
      refine va_sld hx hb hX hbl hbA hS (vp_in_nI (by omega) (by omega)) dL_law_35 ?_
      refine lv_bipush (v := 15) hx hb dL_law_36 (by decide) ?_
      refine lv_iand hx hb dL_law_38 ?_
      have kk : ∀ (t' : Nat) (c' : zS) (r' tr' : Int32) (g' : Nat → Int64) (H : Heap) (locs : List Loc) (ls : Array Slot), Iv t' c' → t' ≤ t + 20060 → lwI s dC dI cI cL aC aM o c' r' tr' g' H → va_S (lwA s) s.heap H locs → lwL ls j b aC aM o → W p l e room_1 s m #[Value.ref b] below meth c H locs (22 + (j + 1)) (8616 + 6 * (j + 1)) (lw_Z below #[Value.ref b] s) (F0 m 576 ls []) := by
        intro t' c' r' tr' g' H locs ls hI' ht' h2 hS hl
        refine lv_iinc (v := nI (4 * (j + 1))) (lv' := [(4, .int (nI (4 * (j + 1)))), (0, .ref b), (1, .ref (aC 0)), (2, .ref (aM 0)), (3, .ref o)]) hx hb dL_law_576 hl (k := 4) rfl (by rw [show nI (4 * (j + 1)) = nI (4 * j) + 4 from (nI_add (4 * j) 4).symm]; rfl) (by decide) rfl (fun ls hl => ?_)
        refine lv_goto (tgt := 23) hx hb dL_law_579 (by decide) ?_
        exact ih (j + 1) t' c' r' tr' g' H locs ls (by omega) (by omega) hI' (by omega) h2 hS (lv_sub hl [1, 2, 3, 4, 0] rfl)
      by_cases hk0 : (xs (nI (4 * j)).toNatClampNeg &&& 15) ∈ ([(0 : Int32)] : List Int32)
      · refine sw_tabK (tgt := 88) (off := 49) hx hb dL_law_39 _ hk0 (by decide +kernel) (by decide) ?_
        exact law_poke hst X hj4 hL hI ht h2 hS hl kk
      · by_cases hk1 : (xs (nI (4 * j)).toNatClampNeg &&& 15) ∈ ([(1 : Int32)] : List Int32)
        · refine sw_tabK (tgt := 168) (off := 129) hx hb dL_law_39 _ hk1 (by decide +kernel) (by decide) ?_
          exact law_peek hst X hj4 hL hI ht h2 hS hl kk
        · by_cases hk2 : (xs (nI (4 * j)).toNatClampNeg &&& 15) ∈ ([(2 : Int32)] : List Int32)
          · refine sw_tabK (tgt := 224) (off := 185) hx hb dL_law_39 _ hk2 (by decide +kernel) (by decide) ?_
            exact law_set hst X hj4 hL hI ht h2 hS hl kk
          · by_cases hk3 : (xs (nI (4 * j)).toNatClampNeg &&& 15) ∈ ([(3 : Int32)] : List Int32)
            · refine sw_tabK (tgt := 272) (off := 233) hx hb dL_law_39 _ hk3 (by decide +kernel) (by decide) ?_
              exact law_get hst X hj4 hL hI ht h2 hS hl kk
            · by_cases hk4 : (xs (nI (4 * j)).toNatClampNeg &&& 15) ∈ ([(4 : Int32)] : List Int32)
              · refine sw_tabK (tgt := 328) (off := 289) hx hb dL_law_39 _ hk4 (by decide +kernel) (by decide) ?_
                exact law_key hst X hj4 hL hI ht h2 hS hl kk
              · by_cases hk5 : (xs (nI (4 * j)).toNatClampNeg &&& 15) ∈ ([(5 : Int32)] : List Int32)
                · refine sw_tabK (tgt := 376) (off := 337) hx hb dL_law_39 _ hk5 (by decide +kernel) (by decide) ?_
                  exact law_edge hst X hj4 hL hI ht h2 hS hl kk
                · by_cases hk6 : (xs (nI (4 * j)).toNatClampNeg &&& 15) ∈ ([(6 : Int32)] : List Int32)
                  · refine sw_tabK (tgt := 432) (off := 393) hx hb dL_law_39 _ hk6 (by decide +kernel) (by decide) ?_
                    exact law_run hst X hj4 hL hI ht h2 hS hl kk
                  · by_cases hk7 : (xs (nI (4 * j)).toNatClampNeg &&& 15) ∈ ([(7 : Int32)] : List Int32)
                    · refine sw_tabK (tgt := 495) (off := 456) hx hb dL_law_39 _ hk7 (by decide +kernel) (by decide) ?_
                      exact law_count hst X hj4 hL hI ht h2 hS hl kk
                    · by_cases hk8 : (xs (nI (4 * j)).toNatClampNeg &&& 15) ∈ ([(8 : Int32)] : List Int32)
                      · refine sw_tabK (tgt := 551) (off := 512) hx hb dL_law_39 _ hk8 (by decide +kernel) (by decide) ?_
                        exact law_change hst X hj4 hL hI ht h2 hS hl kk
                      · refine sw_tabD (tgt := 576) hx hb dL_law_39 (([(0 : Int32)] : List Int32) ++ (([(1 : Int32)] : List Int32) ++ (([(2 : Int32)] : List Int32) ++ (([(3 : Int32)] : List Int32) ++ (([(4 : Int32)] : List Int32) ++ (([(5 : Int32)] : List Int32) ++ (([(6 : Int32)] : List Int32) ++ (([(7 : Int32)] : List Int32) ++ ([(8 : Int32)] : List Int32))))))))) (fun hm => (List.mem_append.mp hm).elim hk0 (fun hm => (List.mem_append.mp hm).elim hk1 (fun hm => (List.mem_append.mp hm).elim hk2 (fun hm => (List.mem_append.mp hm).elim hk3 (fun hm => (List.mem_append.mp hm).elim hk4 (fun hm => (List.mem_append.mp hm).elim hk5 (fun hm => (List.mem_append.mp hm).elim hk6 (fun hm => (List.mem_append.mp hm).elim hk7 hk8)))))))) (by decide +kernel) (by decide) ?_
                        refine W.widen (k := 22 + (j + 1)) (n := 8616 + 6 * (j + 1)) (by omega) (by omega) ?_
                        exact kk t c0 r tr g H locs ls hI (by omega) h2 hS hl
set_option maxHeartbeats 4000000 in
set_option maxRecDepth 100000 in
theorem st_F {p : Program} {s : State} {m : MethodId} {meth : Method} {c : Code} {b L : Nat} {xs : Nat → Int32} (C0 : lw_At p s m meth c b L xs) : tF (lwA s) s s.heap ∧ nN s := by
  obtain ⟨hx, hb, hr, hml, hown, hts, hX, hbl, hlocks, hgv⟩ := id C0
  have hA : ∀ a : Nat, a < s.heap.size → ¬ lwA s a := fun a h => Nat.not_le.mpr h
  have hs := flat_of_before _ hgv
  have ht1 : ∀ w ∈ sw_tb, w.before #[Value.ref b] s = true := fun w h => hts w (List.mem_filter.mp h).1
  refine ⟨⟨⟨?_, ?_⟩, ?_, ?_, ?_, ?_⟩, ?_, ?_, ?_⟩
  · obtain ⟨t, ht, hT⟩ := va_Tof (tm := (.static "SpectrumBoard$Clock" "WAITS" "[I")) (ty := .int) (N := 8) (f := fun j => .int (ct0 j)) (A := lwA s) (by decide) (hs _ (by decide +kernel)) (va_eqt (z := 8) (hs _ (by decide +kernel))) (fun j hj => by
      rcases (show j = 0 ∨ j = 1 ∨ j = 2 ∨ j = 3 ∨ j = 4 ∨ j = 5 ∨ j = 6 ∨ j = 7 by omega) with rfl | rfl | rfl | rfl | rfl | rfl | rfl | rfl
      · exact va_eqt (t := .elem (.static "SpectrumBoard$Clock" "WAITS" "[I") (.int 0)) (z := 6) (hs _ (by decide +kernel))
      · exact va_eqt (t := .elem (.static "SpectrumBoard$Clock" "WAITS" "[I") (.int 1)) (z := 5) (hs _ (by decide +kernel))
      · exact va_eqt (t := .elem (.static "SpectrumBoard$Clock" "WAITS" "[I") (.int 2)) (z := 4) (hs _ (by decide +kernel))
      · exact va_eqt (t := .elem (.static "SpectrumBoard$Clock" "WAITS" "[I") (.int 3)) (z := 3) (hs _ (by decide +kernel))
      · exact va_eqt (t := .elem (.static "SpectrumBoard$Clock" "WAITS" "[I") (.int 4)) (z := 2) (hs _ (by decide +kernel))
      · exact va_eqt (t := .elem (.static "SpectrumBoard$Clock" "WAITS" "[I") (.int 5)) (z := 1) (hs _ (by decide +kernel))
      · exact va_eqt (t := .elem (.static "SpectrumBoard$Clock" "WAITS" "[I") (.int 6)) (z := 0) (hs _ (by decide +kernel))
      · exact va_eqt (t := .elem (.static "SpectrumBoard$Clock" "WAITS" "[I") (.int 7)) (z := 0) (hs _ (by decide +kernel))
      ) hA
    exact ⟨t, va_Zref (hts _ (List.mem_append_right _ (List.mem_of_getElem? (i := 403) (by decide +kernel)))) (ht1 _ kn_1) ht hA, hT⟩
  · obtain ⟨t, ht, hT⟩ := va_Tof (tm := (.static "SpectrumBoard$Operands" "FLAG_OF_CONDITION" "[I")) (ty := .int) (N := 4) (f := fun j => .int (ct1 j)) (A := lwA s) (by decide) (hs _ (by decide +kernel)) (va_eqt (z := 4) (hs _ (by decide +kernel))) (fun j hj => by
      rcases (show j = 0 ∨ j = 1 ∨ j = 2 ∨ j = 3 by omega) with rfl | rfl | rfl | rfl
      · exact va_eqt (t := .elem (.static "SpectrumBoard$Operands" "FLAG_OF_CONDITION" "[I") (.int 0)) (z := 64) (hs _ (by decide +kernel))
      · exact va_eqt (t := .elem (.static "SpectrumBoard$Operands" "FLAG_OF_CONDITION" "[I") (.int 1)) (z := 1) (hs _ (by decide +kernel))
      · exact va_eqt (t := .elem (.static "SpectrumBoard$Operands" "FLAG_OF_CONDITION" "[I") (.int 2)) (z := 4) (hs _ (by decide +kernel))
      · exact va_eqt (t := .elem (.static "SpectrumBoard$Operands" "FLAG_OF_CONDITION" "[I") (.int 3)) (z := 128) (hs _ (by decide +kernel))
      ) hA
    exact ⟨t, va_Zref (hts _ (List.mem_append_right _ (List.mem_of_getElem? (i := 479) (by decide +kernel)))) (ht1 _ kn_3) ht hA, hT⟩
  · exact vx_Zqof (hts _ (List.mem_append_right _ (List.mem_of_getElem? (i := 242) (by decide +kernel)))) (ht1 _ kn_t) (hs _ (by decide +kernel)) hA
  · exact vx_Zqof (hts _ (List.mem_append_right _ (List.mem_of_getElem? (i := 244) (by decide +kernel)))) (ht1 _ kn_t) (hs _ (by decide +kernel)) hA
  · intro w hw
    simp only [xBs, List.mem_cons, List.not_mem_nil, or_false] at hw
    rcases hw with rfl | rfl | rfl | rfl | rfl
    · exact va_Nw.of rfl (hts _ (List.mem_append_right _ (List.mem_of_getElem? (i := 218) (by decide +kernel))))
    · exact va_Nw.of rfl (hts _ (List.mem_append_right _ (List.mem_of_getElem? (i := 220) (by decide +kernel))))
    · exact va_Nw.of rfl (hts _ (List.mem_append_right _ (List.mem_of_getElem? (i := 222) (by decide +kernel))))
    · exact va_Nw.of rfl (hts _ (List.mem_append_right _ (List.mem_of_getElem? (i := 217) (by decide +kernel))))
    · exact va_Nw.of rfl (hts _ (List.mem_append_right _ (List.mem_of_getElem? (i := 345) (by decide +kernel))))
  · exact va_Nc.of (hs _ (by decide +kernel))
  · exact va_Nw.of rfl (hts _ (List.mem_append_right _ (List.mem_of_getElem? (i := 27) (by decide +kernel))))
  · exact va_Nw.of rfl (hts _ (List.mem_append_right _ (List.mem_of_getElem? (i := 102) (by decide +kernel))))
  · exact va_Nw.of rfl (hts _ (List.mem_append_right _ (List.mem_of_getElem? (i := 59) (by decide +kernel))))
theorem st_A {s : State} {args : Array Value} {ty : FieldType} (h : (Cond.arrayClass ty).before args s = true) : ∃ cA : ClassId, ArrOfT s cA ty ∧ s.vm.findClass ("[" ++ ty.toString) = some cA := by
  obtain ⟨c, k, comp, h1, h2, h3⟩ := Cond.arrayClass_spec h
  exact ⟨c, fun n z => ⟨fun k h => (by cases h), k, h2, comp, h3⟩, h1⟩
theorem st_K {s : State} {args : Array Value} (ht : ∀ w ∈ sw_tb, w.before args s = true) : ∃ (dC : Nat → ClassId) (dI : Nat → Nat → Nat) (cI cL : ClassId), va_K (dC, dI) vwCl [(cI, .int), (cL, .long)] s := by
  obtain ⟨c0, i0, h0⟩ := u_known (C := RX0) (T := TX0) (N := 1) (n := 1) ht tbX0 (ht _ ki_X0)
  obtain ⟨c1, i1, h1⟩ := u_known (C := RX1) (T := TX1) (N := 1) (n := 1) ht tbX1 (ht _ ki_X1)
  obtain ⟨c2, i2, h2⟩ := u_known (C := RX2) (T := TX2) (N := 2) (n := 2) ht tbX2 (ht _ ki_X2)
  obtain ⟨c3, i3, h3⟩ := u_known (C := RX3) (T := TX3) (N := 2) (n := 2) ht tbX3 (ht _ ki_X3)
  obtain ⟨c4, i4, h4⟩ := u_known (C := RX4) (T := TX4) (N := 7) (n := 7) ht tbX4 (ht _ ki_X4)
  obtain ⟨c5, i5, h5⟩ := u_known (C := RX5) (T := TX5) (N := 11) (n := 11) ht tbX5 (ht _ ki_X5)
  obtain ⟨c6, i6, h6⟩ := u_known (C := RX6) (T := TX6) (N := 1) (n := 1) ht tbX6 (ht _ ki_X6)
  obtain ⟨c7, i7, h7⟩ := u_known (C := RX7) (T := TX7) (N := 3) (n := 3) ht tbX7 (ht _ ki_X7)
  obtain ⟨c8, i8, h8⟩ := u_known (C := RX8) (T := TX8) (N := 5) (n := 5) ht tbX8 (ht _ ki_X8)
  obtain ⟨c9, i9, h9⟩ := u_known (C := RX9) (T := TX9) (N := 20) (n := 20) ht tbX9 (ht _ ki_X9)
  obtain ⟨cI, a1, a2⟩ := st_A (ht _ k_arr)
  obtain ⟨cL, b1, b2⟩ := st_A (ht _ k_long)
  refine ⟨fun k => ([c0, c1, c2, c3, c4, c5, c6, c7, c8, c9] : List ClassId).getD k c0, fun k => ([i0, i1, i2, i3, i4, i5, i6, i7, i8, i9] : List (Nat → Nat)).getD k i0, cI, cL, fun k q hq => ?_, fun k q hq => ?_⟩
  · match k, hq with
    | 0, hq => cases hq; exact h0
    | 1, hq => cases hq; exact h1
    | 2, hq => cases hq; exact h2
    | 3, hq => cases hq; exact h3
    | 4, hq => cases hq; exact h4
    | 5, hq => cases hq; exact h5
    | 6, hq => cases hq; exact h6
    | 7, hq => cases hq; exact h7
    | 8, hq => cases hq; exact h8
    | 9, hq => cases hq; exact h9
    | k + 10, hq => simp [vwCl] at hq
  · match k, hq with
    | 0, hq => cases hq; exact ⟨a1, a2⟩
    | 1, hq => cases hq; exact ⟨b1, b2⟩
    | k + 2, hq => simp at hq
set_option maxHeartbeats 4000000 in
set_option maxRecDepth 100000 in
theorem whole_start {p : Program} {e : Env} {s : State} {m : MethodId} {below : List Frame} {meth : Method} {c : Code} (l : Launch) (hst : l.stackTraces = false) {b L : Nat} {xs : Nat → Int32} (hL : L ≤ 2048) (C0 : lw_At p s m meth c b L xs) : W p l e room_1 s m #[Value.ref b] below meth c s.heap [] 0 0 (lw_Z below #[Value.ref b] s) (entryFrame m ([Value.ref b] : List Value).toArray 7) := by
  obtain ⟨hx, hb, hr, hml, hown, hts, hX, hbl, hlocks, hgv⟩ := id C0
  have ht1 : ∀ w ∈ sw_tb, w.before #[Value.ref b] s = true := fun w h => hts w (List.mem_filter.mp h).1
  obtain ⟨hF, hN⟩ := st_F C0
  obtain ⟨dC, dI, cI, cL, hK⟩ := st_K ht1
  have hA : ∀ q : Nat, s.heap.size ≤ q → lwA s q := fun _ h => h
  have hKc : va_K (dC, dI) vwCl [(cI, .int)] s := hK.sub [0] rfl
  have S : CallFix p m c cL_law 7 s #[Value.ref b] sw_tb RL := ⟨hx, hb, hml, hown, ht1⟩
  have hS : va_S (lwA s) s.heap s.heap [] := va_S.rf
  have hP : va_P (dC, dI) vwCl [] s.heap := fun k q h => by simp at h
  have hD : va_D (lwA s) [] := ⟨fun i j p q h => by simp at h, fun k q h => by simp at h⟩
  have hl := lv_entry ([.ref b]) (n := 7) (Nat.le_of_ble_eq_true rfl)
  rw [lg_entry_eq]
  generalize (lg_sl ([.ref b]) ++ List.replicate (7 - (lg_sl ([.ref b])).length) Slot.unset).toArray = ls at hl ⊢
  have hl : lv_has ls 7 [(0, .ref b)] := hl
  refine va_new (ci := 8) (fs := [.null, .null, .null, .null, .null]) (C := RX8) (T := TX8) (N := 5) hx hb ht1 tbX8 tyX8 tyX8_ok hown (ht1 _ kl_8) (ht1 _ ki_X8) (ht1 _ kn_8) hK hP hD hS hA rfl (fun j hj => by rcases (show j = 0 ∨ j = 1 ∨ j = 2 ∨ j = 3 ∨ j = 4 by omega) with rfl | rfl | rfl | rfl | rfl <;> rfl) (by decide) (by decide) dL_law_0 (fun q0 H hP hD hS => ?_)
  replace hP : va_P (dC, dI) vwCl [(q0, .inr (8, [.null, .null, .null, .null, .null]))] H := hP
  replace hD : va_D (lwA s) [(q0, .inr (8, [.null, .null, .null, .null, .null]))] := hD
  refine W.widen (k := 1) (n := 5) (by decide) (by decide) ?_
  refine lv_dup hx hb dL_law_3 rfl ?_
  refine sc_init (rest := [.ref q0]) S hKc hA hN (ctX8 (h := q0)) calcX8 kl_41 rfl rfl (sg_2.one hP hD) hS ⟨by decide, by decide⟩ ⟨by decide, by decide⟩ rfl hl.1 rfl (Nat.le_of_ble_eq_true rfl) dL_law_4 (fun aC H locs hu h2 hS => ?_)
  refine W.widen (k := 14) (n := 4311) (by decide) (by decide) ?_
  subst hu
  refine lv_astore_n (lv' := [(1, .ref (aC 0)), (0, .ref b)]) hx hb dL_law_7 rfl hl (by decide) rfl (fun ls hl => ?_)
  refine va_new (ci := 9) (fs := [.int 0, .null, .null, .null, .int 0, .int 0, .int 0, .int 0, .int 0, .int 0, .int 0, .int 0, .int 0, .null, .int 0, .null, .int 0, .int 0, .int 0, .null]) (C := RX9) (T := TX9) (N := 20) hx hb ht1 tbX9 tyX9 tyX9_ok hown (ht1 _ kl_42) (ht1 _ ki_X9) (ht1 _ kn_9) hK h2.1 h2.2.2.1 hS hA rfl (fun j hj => by rcases (show j = 0 ∨ j = 1 ∨ j = 2 ∨ j = 3 ∨ j = 4 ∨ j = 5 ∨ j = 6 ∨ j = 7 ∨ j = 8 ∨ j = 9 ∨ j = 10 ∨ j = 11 ∨ j = 12 ∨ j = 13 ∨ j = 14 ∨ j = 15 ∨ j = 16 ∨ j = 17 ∨ j = 18 ∨ j = 19 by omega) with rfl | rfl | rfl | rfl | rfl | rfl | rfl | rfl | rfl | rfl | rfl | rfl | rfl | rfl | rfl | rfl | rfl | rfl | rfl | rfl <;> rfl) (by decide) (by decide) dL_law_8 (fun q1 H hP hD hS => ?_)
  refine W.widen (k := 15) (n := 4331) (by decide) (by decide) ?_
  refine lv_dup hx hb dL_law_11 rfl ?_
  refine sc_init (rest := [.ref q1]) S hKc hA hN (ctX9 (h := q1)) calcX9 kl_44 rfl rfl (sg_2.spl hP hD).symm hS ⟨by decide, by decide⟩ ⟨by decide, by decide⟩ rfl hl.1 rfl (Nat.le_of_ble_eq_true rfl) dL_law_12 (fun aM H locs hu h2 hS => ?_)
  refine W.widen (k := 21) (n := 8615) (by decide) (by decide) ?_
  subst hu
  refine lv_astore_n (lv' := [(2, .ref (aM 0)), (1, .ref (aC 0)), (0, .ref b)]) hx hb dL_law_15 rfl hl (by decide) rfl (fun ls hl => ?_)
  refine lv_iconst (v := 1) hx hb dL_law_16 (by decide) ?_
  obtain ⟨hP, hD⟩ := h2.symm.app
  refine va_newa (ty := .long) (a0 := (1, .inr (.inl (fun _ => 0)))) hx hb (atype := .long) (ht1 _ k_long) rfl hK hP hD hS hA (fun _ => rfl) (by decide) (by decide) (by decide) (by decide) (by decide) dL_law_17 (fun o cA H hK1 hP hD hS => ?_)
  have e3 : cA = cL := Option.some.inj ((hK1.2 2 (cA, .long) rfl).2.symm.trans (hK.2 1 (cL, .long) rfl).2)
  subst e3
  have hP2 := hP.sub (ws' := (cW aC cI z0 ++ oW o cA (fun _ => 0)) ++ mW aM cI z1) [0, 1, 2, 3, 4, 5, 6, 7, 8, 9, 10, 11, 12, 13, 21, 14, 15, 16, 17, 18, 19, 20] rfl
  have hD2 := hD.sub (ws' := (cW aC cI z0 ++ oW o cA (fun _ => 0)) ++ mW aM cI z1) [0, 1, 2, 3, 4, 5, 6, 7, 8, 9, 10, 11, 12, 13, 21, 14, 15, 16, 17, 18, 19, 20] (by decide) rfl
  have h3 := sg_2.spl hP2 hD2
  rw [← al_z] at h3
  refine lv_astore_n (lv' := [(3, .ref o), (2, .ref (aM 0)), (1, .ref (aC 0)), (0, .ref b)]) hx hb dL_law_19 rfl hl (by decide) rfl (fun ls hl => ?_)
  refine lv_iconst (v := 0) hx hb dL_law_20 (by decide) ?_
  refine lv_istore (lv' := [(4, .int 0), (3, .ref o), (2, .ref (aM 0)), (1, .ref (aC 0)), (0, .ref b)]) hx hb dL_law_21 hl (by decide) rfl (fun ls hl => ?_)
  refine W.widen (k := 22 + 0) (n := 8616 + 6 * 0) (by decide) (by decide) ?_
  exact law_loop hst ⟨C0, hK, hF⟩ hL 513 0 0 z0 0 0 (fun _ => 0) H locs ls (by omega) (by omega) Iv0 (by omega) h3 hS (lv_sub hl [4, 3, 2, 1, 0] rfl)
