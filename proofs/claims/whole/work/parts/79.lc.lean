/-! the calls of the law, one of each kind -/
abbrev lwA (s : State) : Nat → Prop := fun q => s.heap.size ≤ q
def lwX (p : Program) (s : State) (m : MethodId) (meth : Method) (c : Code) (b L : Nat) (xs : Nat → Int32) (dC : Nat → ClassId) (dI : Nat → Nat → Nat) (cI cL : ClassId) : Prop := lw_At p s m meth c b L xs ∧ va_K (dC, dI) vwCl [(cI, .int), (cL, .long)] s ∧ tF (lwA s) s s.heap
abbrev lwI (s : State) (dC : Nat → ClassId) (dI : Nat → Nat → Nat) (cI cL : ClassId) (aC aM : Nat → Nat) (o : Nat) (c0 : zS) (r tr : Int32) (g : Nat → Int64) (H : Heap) : Prop := sg_2 (dC, dI) vwCl (lwA s) (cW aC cI c0 ++ oW o cL g) (mW aM cI (al c0 (rF r) tr)) H
abbrev lwL (ls : Array Slot) (j b : Nat) (aC aM : Nat → Nat) (o : Nat) : Prop := lv_has ls 7 [(0, .ref b), (1, .ref (aC 0)), (2, .ref (aM 0)), (3, .ref o), (4, .int (nI (4 * j)))]
theorem upd0 {g : Nat → Int64} {v : Int64} : vp_updL g 0 v (0 : Int32).toNatClampNeg = v := rfl
theorem lw_in {j k L : Nat} (hj : 4 * j + 4 ≤ L) (hL : L ≤ 2048) (hk : k < 4) : vp_in (nI (4 * j) + nI k) L := by
  rw [nI_add]; exact vp_in_nI (by omega) (by omega)
theorem no2_poke {p1 p3 : Int32} : ¬ tX8_poke p1 p3 = some 2 := by
  unfold tX8_poke
  rw [has_i, isIn_n, bd_s]
  intro h
  repeat' (split at h)
  all_goals first | cases h | exact absurd (Option.some.inj h) (by decide)
theorem no2_peek {p1 : Int32} : ¬ tX8_peek p1 = some 2 := by
  unfold tX8_peek
  rw [has_i, isIn_n, bd_s]
  intro h
  repeat' (split at h)
  all_goals first | cases h | exact absurd (Option.some.inj h) (by decide)
theorem no2_set {p1 p2 : Int32} : ¬ tX8_set p1 p2 = some 2 := by
  unfold tX8_set
  rw [has_r, isIn_n, bd_s]
  intro h
  repeat' (split at h)
  all_goals first | cases h | exact absurd (Option.some.inj h) (by decide)
theorem no2_get {p1 : Int32} : ¬ tX8_get p1 = some 2 := by
  unfold tX8_get
  rw [has_r, isIn_n, bd_s]
  intro h
  repeat' (split at h)
  all_goals first | cases h | exact absurd (Option.some.inj h) (by decide)
theorem no2_key {p1 p2 : Int32} : ¬ tX8_key p1 p2 = some 2 := by
  unfold tX8_key
  intro h
  repeat' (split at h)
  all_goals first | cases h | exact absurd (Option.some.inj h) (by decide)
theorem no2_run {p1 : Int32} : ¬ tX8_run p1 = some 2 := by
  unfold tX8_run
  intro h
  repeat' (split at h)
  all_goals first | cases h | exact absurd (Option.some.inj h) (by decide)
theorem no2_count {p1 : Int32} : ¬ tX8_count p1 = some 2 := by
  unfold tX8_count
  intro h
  repeat' (split at h)
  all_goals first | cases h | exact absurd (Option.some.inj h) (by decide)
set_option maxHeartbeats 4000000 in
set_option maxRecDepth 100000 in
theorem law_poke {p : Program} {l : Launch} {e : Env} {s : State} {m : MethodId} {below : List Frame} {meth : Method} {c : Code} {b L j t : Nat} {xs : Nat → Int32} {dC : Nat → ClassId} {dI : Nat → Nat → Nat} {cI cL : ClassId} {aC aM : Nat → Nat} {o : Nat} {c0 : zS} {r tr : Int32} {g : Nat → Int64} {H : Heap} {locs : List Loc} {ls : Array Slot} (hst : l.stackTraces = false) (X : lwX p s m meth c b L xs dC dI cI cL) (hj : 4 * j + 4 ≤ L) (hL : L ≤ 2048) (hI : Iv t c0) (ht : t ≤ 20060 * j) (h2 : lwI s dC dI cI cL aC aM o c0 r tr g H) (hS : va_S (lwA s) s.heap H locs) (hl : lwL ls j b aC aM o) (kk : ∀ (t' : Nat) (c' : zS) (r' tr' : Int32) (g' : Nat → Int64) (H : Heap) (locs : List Loc) (ls : Array Slot), Iv t' c' → t' ≤ t + 20060 → lwI s dC dI cI cL aC aM o c' r' tr' g' H → va_S (lwA s) s.heap H locs → lwL ls j b aC aM o → W p l e room_1 s m #[Value.ref b] below meth c H locs (22 + (j + 1)) (8616 + 6 * (j + 1)) (lw_Z below #[Value.ref b] s) (F0 m 576 ls [])) : W p l e room_1 s m #[Value.ref b] below meth c H locs (22 + j) (8616 + 6 * j) (lw_Z below #[Value.ref b] s) (F0 m 88 ls []) := by
  obtain ⟨C0, hK, hF⟩ := X
  obtain ⟨hx, hb, hr, hml, hown, hts, hX, hbl, hlocks, hgv⟩ := id C0
  have hbA : ¬ lwA s b := Nat.not_le.mpr hbl
  have hA : ∀ q : Nat, s.heap.size ≤ q → lwA s q := fun _ h => h
  have S : CallFix p m c cL_law 7 s #[Value.ref b] sw_tb RL := ⟨hx, hb, hml, hown, fun w h => hts w (List.mem_filter.mp h).1⟩
  have hKc : va_K (dC, dI) vwCl [(cI, .int)] s := hK.sub [0] rfl
  have hc1 : 22 + j + 1 ≤ room_1.cells := by show _ ≤ 1055; omega
  have hs1 : 8616 + 6 * j + 6 ≤ room_1.slots := by show _ ≤ 16862; omega
  have hc0 : 22 + j ≤ room_1.cells := by omega
  have hs0 : 8616 + 6 * j ≤ room_1.slots := by omega
  have hcall := p_poke (r := r) (tr := tr) hI (xs (nI (4 * j) + 1).toNatClampNeg) (xs (nI (4 * j) + 2).toNatClampNeg) (xs (nI (4 * j) + 3).toNatClampNeg)
  rcases hcall with ⟨q, v, tr2, hx1, hq, hg⟩ | ⟨-, v, tr2, t', c', hf, hg, hI', ht'⟩
  · rcases hq with rfl | rfl
    · refine lv_aload_n hx hb dL_law_88 rfl (lv_at hl 1 rfl) ?_
      refine lv_aload_n hx hb dL_law_89 rfl (lv_at hl 0 rfl) ?_
      refine lv_iload hx hb dL_law_90 (lv_at hl 4 rfl) ?_
      refine lv_iconst (v := 1) hx hb dL_law_92 (by decide) ?_
      refine lv_iadd hx hb dL_law_93 ?_
      refine va_sld hx hb hX hbl hbA hS (lw_in (k := 1) hj hL (by decide)) dL_law_94 ?_
      refine lv_aload_n hx hb dL_law_95 rfl (lv_at hl 0 rfl) ?_
      refine lv_iload hx hb dL_law_96 (lv_at hl 4 rfl) ?_
      refine lv_iconst (v := 2) hx hb dL_law_98 (by decide) ?_
      refine lv_iadd hx hb dL_law_99 ?_
      refine va_sld hx hb hX hbl hbA hS (lw_in (k := 2) hj hL (by decide)) dL_law_100 ?_
      refine lv_aload_n hx hb dL_law_101 rfl (lv_at hl 0 rfl) ?_
      refine lv_iload hx hb dL_law_102 (lv_at hl 4 rfl) ?_
      refine lv_iconst (v := 3) hx hb dL_law_104 (by decide) ?_
      refine lv_iadd hx hb dL_law_105 ?_
      refine va_sld hx hb hX hbl hbA hS (lw_in (k := 3) hj hL (by decide)) dL_law_106 ?_
      refine lv_aload_n hx hb dL_law_107 rfl (lv_at hl 3 rfl) ?_
      refine sg_hi (rest := []) S t_good hK hA hF (hL_poke_1 hst hx1) calL_poke h2 hS ⟨by decide, by decide⟩ ⟨hc1, hs1⟩ rfl hl.1 rfl (Nat.le_of_ble_eq_true rfl) dL_law_108 (fun H locs h2 hS => ?_)
      refine lv_istore (lv' := [(5, .int 1), (0, .ref b), (1, .ref (aC 0)), (2, .ref (aM 0)), (3, .ref o), (4, .int (nI (4 * j)))]) hx hb dL_law_111 hl (by decide) rfl (fun ls hl => ?_)
      refine lv_aload_n hx hb dL_law_113 rfl (lv_at hl 3 rfl) ?_
      refine lv_aload_n hx hb dL_law_114 rfl (lv_at hl 1 rfl) ?_
      refine lv_iload hx hb dL_law_115 (lv_at hl 5 rfl) ?_
      refine lv_iconst (v := 1) hx hb dL_law_117 (by decide) ?_
      refine lv_iadd hx hb dL_law_118 ?_
      refine va_sld hx hb hX hbl hbA hS (lw_in (k := 1) hj hL (by decide)) dL_law_119 ?_
      refine lv_aload_n hx hb dL_law_120 rfl (lv_at hl 1 rfl) ?_
      refine lv_iload hx hb dL_law_121 (lv_at hl 5 rfl) ?_
      refine lv_iconst (v := 2) hx hb dL_law_123 (by decide) ?_
      refine lv_iadd hx hb dL_law_124 ?_
      refine va_sld hx hb hX hbl hbA hS (lw_in (k := 2) hj hL (by decide)) dL_law_125 ?_
      refine lv_aload_n hx hb dL_law_126 rfl (lv_at hl 1 rfl) ?_
      refine lv_iload hx hb dL_law_127 (lv_at hl 5 rfl) ?_
      refine lv_iconst (v := 3) hx hb dL_law_129 (by decide) ?_
      refine lv_iadd hx hb dL_law_130 ?_
      refine va_sld hx hb hX hbl hbA hS (lw_in (k := 3) hj hL (by decide)) dL_law_131 ?_
      refine sg_vi (rest := []) S m_good hKc hA trivial (cX9_poke_m hg) calX9_poke lk_X9_poke h2.symm hS 0 9 rfl rfl rfl ⟨by decide, by decide⟩ ⟨hc1, hs1⟩ rfl hl.1 rfl (Nat.le_of_ble_eq_true rfl) dL_law_132 (fun H locs h2 hS => ?_)
      refine lv_istore (lv' := [(6, .int v), (5, .int 1), (0, .ref b), (1, .ref (aC 0)), (2, .ref (aM 0)), (3, .ref o), (4, .int (nI (4 * j)))]) hx hb dL_law_135 hl (by decide) rfl (fun ls hl => ?_)
      refine lv_aload_n hx hb dL_law_137 rfl (lv_at hl 4 rfl) ?_
      refine sg_vi (rest := []) S m_good hKc hA trivial (cX9_thrown_m rfl) calX9_thrown lk_X9_thrown h2 hS 0 9 rfl rfl rfl ⟨by decide, by decide⟩ ⟨hc1, hs1⟩ rfl hl.1 rfl (Nat.le_of_ble_eq_true rfl) dL_law_138 (fun H locs h2 hS => ?_)
      refine lv_iload hx hb dL_law_141 (lv_at hl 1 rfl) ?_
      refine lv_icmp_eq (tgt := 148) hx hb dL_law_143 (by decide) (fun _ => ?_) (fun c => absurd rfl c)
      refine lv_iload hx hb dL_law_148 (lv_at hl 1 rfl) ?_
      refine lv_if_ne (tgt := 165) hx hb dL_law_150 (by decide) (fun _ => ?_) (fun c => absurd c (by decide))
      refine lv_goto (tgt := 576) hx hb dL_law_165 (by decide) ?_
      refine W.widen (k := 22 + (j + 1)) (n := 8616 + 6 * (j + 1)) (by omega) (by omega) ?_
      exact kk t c0 1 _ g H locs ls hI (by omega) h2.symm hS (lv_sub hl [2, 3, 4, 5, 6] rfl)
    · exact absurd hx1 no2_poke
  · refine lv_aload_n hx hb dL_law_88 rfl (lv_at hl 1 rfl) ?_
    refine lv_aload_n hx hb dL_law_89 rfl (lv_at hl 0 rfl) ?_
    refine lv_iload hx hb dL_law_90 (lv_at hl 4 rfl) ?_
    refine lv_iconst (v := 1) hx hb dL_law_92 (by decide) ?_
    refine lv_iadd hx hb dL_law_93 ?_
    refine va_sld hx hb hX hbl hbA hS (lw_in (k := 1) hj hL (by decide)) dL_law_94 ?_
    refine lv_aload_n hx hb dL_law_95 rfl (lv_at hl 0 rfl) ?_
    refine lv_iload hx hb dL_law_96 (lv_at hl 4 rfl) ?_
    refine lv_iconst (v := 2) hx hb dL_law_98 (by decide) ?_
    refine lv_iadd hx hb dL_law_99 ?_
    refine va_sld hx hb hX hbl hbA hS (lw_in (k := 2) hj hL (by decide)) dL_law_100 ?_
    refine lv_aload_n hx hb dL_law_101 rfl (lv_at hl 0 rfl) ?_
    refine lv_iload hx hb dL_law_102 (lv_at hl 4 rfl) ?_
    refine lv_iconst (v := 3) hx hb dL_law_104 (by decide) ?_
    refine lv_iadd hx hb dL_law_105 ?_
    refine va_sld hx hb hX hbl hbA hS (lw_in (k := 3) hj hL (by decide)) dL_law_106 ?_
    refine lv_aload_n hx hb dL_law_107 rfl (lv_at hl 3 rfl) ?_
    refine sg_hi (rest := []) S t_good hK hA hF (hL_poke hf) calL_poke h2 hS ⟨by decide, by decide⟩ ⟨hc1, hs1⟩ rfl hl.1 rfl (Nat.le_of_ble_eq_true rfl) dL_law_108 (fun H locs h2 hS => ?_)
    refine lv_istore (lv' := [(5, .int 0), (0, .ref b), (1, .ref (aC 0)), (2, .ref (aM 0)), (3, .ref o), (4, .int (nI (4 * j)))]) hx hb dL_law_111 hl (by decide) rfl (fun ls hl => ?_)
    refine lv_aload_n hx hb dL_law_113 rfl (lv_at hl 3 rfl) ?_
    refine lv_aload_n hx hb dL_law_114 rfl (lv_at hl 1 rfl) ?_
    refine lv_iload hx hb dL_law_115 (lv_at hl 5 rfl) ?_
    refine lv_iconst (v := 1) hx hb dL_law_117 (by decide) ?_
    refine lv_iadd hx hb dL_law_118 ?_
    refine va_sld hx hb hX hbl hbA hS (lw_in (k := 1) hj hL (by decide)) dL_law_119 ?_
    refine lv_aload_n hx hb dL_law_120 rfl (lv_at hl 1 rfl) ?_
    refine lv_iload hx hb dL_law_121 (lv_at hl 5 rfl) ?_
    refine lv_iconst (v := 2) hx hb dL_law_123 (by decide) ?_
    refine lv_iadd hx hb dL_law_124 ?_
    refine va_sld hx hb hX hbl hbA hS (lw_in (k := 2) hj hL (by decide)) dL_law_125 ?_
    refine lv_aload_n hx hb dL_law_126 rfl (lv_at hl 1 rfl) ?_
    refine lv_iload hx hb dL_law_127 (lv_at hl 5 rfl) ?_
    refine lv_iconst (v := 3) hx hb dL_law_129 (by decide) ?_
    refine lv_iadd hx hb dL_law_130 ?_
    refine va_sld hx hb hX hbl hbA hS (lw_in (k := 3) hj hL (by decide)) dL_law_131 ?_
    refine sg_vi (rest := []) S m_good hKc hA trivial (cX9_poke_m hg) calX9_poke lk_X9_poke h2.symm hS 0 9 rfl rfl rfl ⟨by decide, by decide⟩ ⟨hc1, hs1⟩ rfl hl.1 rfl (Nat.le_of_ble_eq_true rfl) dL_law_132 (fun H locs h2 hS => ?_)
    refine lv_istore (lv' := [(6, .int v), (5, .int 0), (0, .ref b), (1, .ref (aC 0)), (2, .ref (aM 0)), (3, .ref o), (4, .int (nI (4 * j)))]) hx hb dL_law_135 hl (by decide) rfl (fun ls hl => ?_)
    refine lv_aload_n hx hb dL_law_137 rfl (lv_at hl 4 rfl) ?_
    refine sg_vi (rest := []) S m_good hKc hA trivial (cX9_thrown_m rfl) calX9_thrown lk_X9_thrown h2 hS 0 9 rfl rfl rfl ⟨by decide, by decide⟩ ⟨hc1, hs1⟩ rfl hl.1 rfl (Nat.le_of_ble_eq_true rfl) dL_law_138 (fun H locs h2 hS => ?_)
    refine lv_iload hx hb dL_law_141 (lv_at hl 1 rfl) ?_
    refine lv_icmp_eq (tgt := 148) hx hb dL_law_143 (by decide) (fun _ => ?_) (fun c => absurd rfl c)
    refine lv_iload hx hb dL_law_148 (lv_at hl 1 rfl) ?_
    refine lv_if_ne (tgt := 165) hx hb dL_law_150 (by decide) (fun c => absurd rfl c) (fun _ => ?_)
    refine lv_aload_n hx hb dL_law_153 rfl (lv_at hl 5 rfl) ?_
    refine lv_iconst (v := 0) hx hb dL_law_154 (by decide) ?_
    refine va_lald hx hb hK h2.2.1 14 1 rfl rfl (by unfold vp_in; decide) dL_law_155 ?_
    refine lv_iload hx hb dL_law_156 (lv_at hl 0 rfl) ?_
    refine lv_i2l hx hb dL_law_158 rfl ?_
    rw [upd0]
    refine xl_lcmpE hx hb dL_law_159 ?_
    refine lv_if_eq (tgt := 165) hx hb dL_law_160 (by decide) (fun _ => ?_) (fun c => absurd rfl c)
    refine lv_goto (tgt := 576) hx hb dL_law_165 (by decide) ?_
    refine W.widen (k := 22 + (j + 1)) (n := 8616 + 6 * (j + 1)) (by omega) (by omega) ?_
    exact kk t' c' 0 _ (vp_updL g 0 v.toInt64) H locs ls hI' (by omega) h2.symm hS (lv_sub hl [2, 3, 4, 5, 6] rfl)
set_option maxHeartbeats 4000000 in
set_option maxRecDepth 100000 in
theorem law_peek {p : Program} {l : Launch} {e : Env} {s : State} {m : MethodId} {below : List Frame} {meth : Method} {c : Code} {b L j t : Nat} {xs : Nat → Int32} {dC : Nat → ClassId} {dI : Nat → Nat → Nat} {cI cL : ClassId} {aC aM : Nat → Nat} {o : Nat} {c0 : zS} {r tr : Int32} {g : Nat → Int64} {H : Heap} {locs : List Loc} {ls : Array Slot} (hst : l.stackTraces = false) (X : lwX p s m meth c b L xs dC dI cI cL) (hj : 4 * j + 4 ≤ L) (hL : L ≤ 2048) (hI : Iv t c0) (ht : t ≤ 20060 * j) (h2 : lwI s dC dI cI cL aC aM o c0 r tr g H) (hS : va_S (lwA s) s.heap H locs) (hl : lwL ls j b aC aM o) (kk : ∀ (t' : Nat) (c' : zS) (r' tr' : Int32) (g' : Nat → Int64) (H : Heap) (locs : List Loc) (ls : Array Slot), Iv t' c' → t' ≤ t + 20060 → lwI s dC dI cI cL aC aM o c' r' tr' g' H → va_S (lwA s) s.heap H locs → lwL ls j b aC aM o → W p l e room_1 s m #[Value.ref b] below meth c H locs (22 + (j + 1)) (8616 + 6 * (j + 1)) (lw_Z below #[Value.ref b] s) (F0 m 576 ls [])) : W p l e room_1 s m #[Value.ref b] below meth c H locs (22 + j) (8616 + 6 * j) (lw_Z below #[Value.ref b] s) (F0 m 168 ls []) := by
  obtain ⟨C0, hK, hF⟩ := X
  obtain ⟨hx, hb, hr, hml, hown, hts, hX, hbl, hlocks, hgv⟩ := id C0
  have hbA : ¬ lwA s b := Nat.not_le.mpr hbl
  have hA : ∀ q : Nat, s.heap.size ≤ q → lwA s q := fun _ h => h
  have S : CallFix p m c cL_law 7 s #[Value.ref b] sw_tb RL := ⟨hx, hb, hml, hown, fun w h => hts w (List.mem_filter.mp h).1⟩
  have hKc : va_K (dC, dI) vwCl [(cI, .int)] s := hK.sub [0] rfl
  have hc1 : 22 + j + 1 ≤ room_1.cells := by show _ ≤ 1055; omega
  have hs1 : 8616 + 6 * j + 6 ≤ room_1.slots := by show _ ≤ 16862; omega
  have hc0 : 22 + j ≤ room_1.cells := by omega
  have hs0 : 8616 + 6 * j ≤ room_1.slots := by omega
  have hcall := p_peek (r := r) (tr := tr) hI (xs (nI (4 * j) + 1).toNatClampNeg)
  rcases hcall with ⟨q, v, tr2, hx1, hq, hg⟩ | ⟨-, v, tr2, t', c', hf, hg, hI', ht'⟩
  · rcases hq with rfl | rfl
    · refine lv_aload_n hx hb dL_law_168 rfl (lv_at hl 1 rfl) ?_
      refine lv_aload_n hx hb dL_law_169 rfl (lv_at hl 0 rfl) ?_
      refine lv_iload hx hb dL_law_170 (lv_at hl 4 rfl) ?_
      refine lv_iconst (v := 1) hx hb dL_law_172 (by decide) ?_
      refine lv_iadd hx hb dL_law_173 ?_
      refine va_sld hx hb hX hbl hbA hS (lw_in (k := 1) hj hL (by decide)) dL_law_174 ?_
      refine lv_aload_n hx hb dL_law_175 rfl (lv_at hl 3 rfl) ?_
      refine sg_hi (rest := []) S t_good hK hA hF (hL_peek_1 hst hx1) calL_peek h2 hS ⟨by decide, by decide⟩ ⟨hc1, hs1⟩ rfl hl.1 rfl (Nat.le_of_ble_eq_true rfl) dL_law_176 (fun H locs h2 hS => ?_)
      refine lv_istore (lv' := [(5, .int 1), (0, .ref b), (1, .ref (aC 0)), (2, .ref (aM 0)), (3, .ref o), (4, .int (nI (4 * j)))]) hx hb dL_law_179 hl (by decide) rfl (fun ls hl => ?_)
      refine lv_aload_n hx hb dL_law_181 rfl (lv_at hl 3 rfl) ?_
      refine lv_aload_n hx hb dL_law_182 rfl (lv_at hl 1 rfl) ?_
      refine lv_iload hx hb dL_law_183 (lv_at hl 5 rfl) ?_
      refine lv_iconst (v := 1) hx hb dL_law_185 (by decide) ?_
      refine lv_iadd hx hb dL_law_186 ?_
      refine va_sld hx hb hX hbl hbA hS (lw_in (k := 1) hj hL (by decide)) dL_law_187 ?_
      refine sg_vi (rest := []) S m_good hKc hA trivial (cX9_peek_m hg) calX9_peek lk_X9_peek h2.symm hS 0 9 rfl rfl rfl ⟨by decide, by decide⟩ ⟨hc1, hs1⟩ rfl hl.1 rfl (Nat.le_of_ble_eq_true rfl) dL_law_188 (fun H locs h2 hS => ?_)
      refine lv_istore (lv' := [(6, .int v), (5, .int 1), (0, .ref b), (1, .ref (aC 0)), (2, .ref (aM 0)), (3, .ref o), (4, .int (nI (4 * j)))]) hx hb dL_law_191 hl (by decide) rfl (fun ls hl => ?_)
      refine lv_aload_n hx hb dL_law_193 rfl (lv_at hl 4 rfl) ?_
      refine sg_vi (rest := []) S m_good hKc hA trivial (cX9_thrown_m rfl) calX9_thrown lk_X9_thrown h2 hS 0 9 rfl rfl rfl ⟨by decide, by decide⟩ ⟨hc1, hs1⟩ rfl hl.1 rfl (Nat.le_of_ble_eq_true rfl) dL_law_194 (fun H locs h2 hS => ?_)
      refine lv_iload hx hb dL_law_197 (lv_at hl 1 rfl) ?_
      refine lv_icmp_eq (tgt := 204) hx hb dL_law_199 (by decide) (fun _ => ?_) (fun c => absurd rfl c)
      refine lv_iload hx hb dL_law_204 (lv_at hl 1 rfl) ?_
      refine lv_if_ne (tgt := 221) hx hb dL_law_206 (by decide) (fun _ => ?_) (fun c => absurd c (by decide))
      refine lv_goto (tgt := 576) hx hb dL_law_221 (by decide) ?_
      refine W.widen (k := 22 + (j + 1)) (n := 8616 + 6 * (j + 1)) (by omega) (by omega) ?_
      exact kk t c0 1 _ g H locs ls hI (by omega) h2.symm hS (lv_sub hl [2, 3, 4, 5, 6] rfl)
    · exact absurd hx1 no2_peek
  · refine lv_aload_n hx hb dL_law_168 rfl (lv_at hl 1 rfl) ?_
    refine lv_aload_n hx hb dL_law_169 rfl (lv_at hl 0 rfl) ?_
    refine lv_iload hx hb dL_law_170 (lv_at hl 4 rfl) ?_
    refine lv_iconst (v := 1) hx hb dL_law_172 (by decide) ?_
    refine lv_iadd hx hb dL_law_173 ?_
    refine va_sld hx hb hX hbl hbA hS (lw_in (k := 1) hj hL (by decide)) dL_law_174 ?_
    refine lv_aload_n hx hb dL_law_175 rfl (lv_at hl 3 rfl) ?_
    refine sg_hi (rest := []) S t_good hK hA hF (hL_peek hf) calL_peek h2 hS ⟨by decide, by decide⟩ ⟨hc1, hs1⟩ rfl hl.1 rfl (Nat.le_of_ble_eq_true rfl) dL_law_176 (fun H locs h2 hS => ?_)
    refine lv_istore (lv' := [(5, .int 0), (0, .ref b), (1, .ref (aC 0)), (2, .ref (aM 0)), (3, .ref o), (4, .int (nI (4 * j)))]) hx hb dL_law_179 hl (by decide) rfl (fun ls hl => ?_)
    refine lv_aload_n hx hb dL_law_181 rfl (lv_at hl 3 rfl) ?_
    refine lv_aload_n hx hb dL_law_182 rfl (lv_at hl 1 rfl) ?_
    refine lv_iload hx hb dL_law_183 (lv_at hl 5 rfl) ?_
    refine lv_iconst (v := 1) hx hb dL_law_185 (by decide) ?_
    refine lv_iadd hx hb dL_law_186 ?_
    refine va_sld hx hb hX hbl hbA hS (lw_in (k := 1) hj hL (by decide)) dL_law_187 ?_
    refine sg_vi (rest := []) S m_good hKc hA trivial (cX9_peek_m hg) calX9_peek lk_X9_peek h2.symm hS 0 9 rfl rfl rfl ⟨by decide, by decide⟩ ⟨hc1, hs1⟩ rfl hl.1 rfl (Nat.le_of_ble_eq_true rfl) dL_law_188 (fun H locs h2 hS => ?_)
    refine lv_istore (lv' := [(6, .int v), (5, .int 0), (0, .ref b), (1, .ref (aC 0)), (2, .ref (aM 0)), (3, .ref o), (4, .int (nI (4 * j)))]) hx hb dL_law_191 hl (by decide) rfl (fun ls hl => ?_)
    refine lv_aload_n hx hb dL_law_193 rfl (lv_at hl 4 rfl) ?_
    refine sg_vi (rest := []) S m_good hKc hA trivial (cX9_thrown_m rfl) calX9_thrown lk_X9_thrown h2 hS 0 9 rfl rfl rfl ⟨by decide, by decide⟩ ⟨hc1, hs1⟩ rfl hl.1 rfl (Nat.le_of_ble_eq_true rfl) dL_law_194 (fun H locs h2 hS => ?_)
    refine lv_iload hx hb dL_law_197 (lv_at hl 1 rfl) ?_
    refine lv_icmp_eq (tgt := 204) hx hb dL_law_199 (by decide) (fun _ => ?_) (fun c => absurd rfl c)
    refine lv_iload hx hb dL_law_204 (lv_at hl 1 rfl) ?_
    refine lv_if_ne (tgt := 221) hx hb dL_law_206 (by decide) (fun c => absurd rfl c) (fun _ => ?_)
    refine lv_aload_n hx hb dL_law_209 rfl (lv_at hl 5 rfl) ?_
    refine lv_iconst (v := 0) hx hb dL_law_210 (by decide) ?_
    refine va_lald hx hb hK h2.2.1 14 1 rfl rfl (by unfold vp_in; decide) dL_law_211 ?_
    refine lv_iload hx hb dL_law_212 (lv_at hl 0 rfl) ?_
    refine lv_i2l hx hb dL_law_214 rfl ?_
    rw [upd0]
    refine xl_lcmpE hx hb dL_law_215 ?_
    refine lv_if_eq (tgt := 221) hx hb dL_law_216 (by decide) (fun _ => ?_) (fun c => absurd rfl c)
    refine lv_goto (tgt := 576) hx hb dL_law_221 (by decide) ?_
    refine W.widen (k := 22 + (j + 1)) (n := 8616 + 6 * (j + 1)) (by omega) (by omega) ?_
    exact kk t' c' 0 _ (vp_updL g 0 v.toInt64) H locs ls hI' (by omega) h2.symm hS (lv_sub hl [2, 3, 4, 5, 6] rfl)
set_option maxHeartbeats 4000000 in
set_option maxRecDepth 100000 in
theorem law_set {p : Program} {l : Launch} {e : Env} {s : State} {m : MethodId} {below : List Frame} {meth : Method} {c : Code} {b L j t : Nat} {xs : Nat → Int32} {dC : Nat → ClassId} {dI : Nat → Nat → Nat} {cI cL : ClassId} {aC aM : Nat → Nat} {o : Nat} {c0 : zS} {r tr : Int32} {g : Nat → Int64} {H : Heap} {locs : List Loc} {ls : Array Slot} (hst : l.stackTraces = false) (X : lwX p s m meth c b L xs dC dI cI cL) (hj : 4 * j + 4 ≤ L) (hL : L ≤ 2048) (hI : Iv t c0) (ht : t ≤ 20060 * j) (h2 : lwI s dC dI cI cL aC aM o c0 r tr g H) (hS : va_S (lwA s) s.heap H locs) (hl : lwL ls j b aC aM o) (kk : ∀ (t' : Nat) (c' : zS) (r' tr' : Int32) (g' : Nat → Int64) (H : Heap) (locs : List Loc) (ls : Array Slot), Iv t' c' → t' ≤ t + 20060 → lwI s dC dI cI cL aC aM o c' r' tr' g' H → va_S (lwA s) s.heap H locs → lwL ls j b aC aM o → W p l e room_1 s m #[Value.ref b] below meth c H locs (22 + (j + 1)) (8616 + 6 * (j + 1)) (lw_Z below #[Value.ref b] s) (F0 m 576 ls [])) : W p l e room_1 s m #[Value.ref b] below meth c H locs (22 + j) (8616 + 6 * j) (lw_Z below #[Value.ref b] s) (F0 m 224 ls []) := by
  obtain ⟨C0, hK, hF⟩ := X
  obtain ⟨hx, hb, hr, hml, hown, hts, hX, hbl, hlocks, hgv⟩ := id C0
  have hbA : ¬ lwA s b := Nat.not_le.mpr hbl
  have hA : ∀ q : Nat, s.heap.size ≤ q → lwA s q := fun _ h => h
  have S : CallFix p m c cL_law 7 s #[Value.ref b] sw_tb RL := ⟨hx, hb, hml, hown, fun w h => hts w (List.mem_filter.mp h).1⟩
  have hKc : va_K (dC, dI) vwCl [(cI, .int)] s := hK.sub [0] rfl
  have hc1 : 22 + j + 1 ≤ room_1.cells := by show _ ≤ 1055; omega
  have hs1 : 8616 + 6 * j + 6 ≤ room_1.slots := by show _ ≤ 16862; omega
  have hc0 : 22 + j ≤ room_1.cells := by omega
  have hs0 : 8616 + 6 * j ≤ room_1.slots := by omega
  have hcall := p_set (r := r) (tr := tr) hI (xs (nI (4 * j) + 1).toNatClampNeg) (xs (nI (4 * j) + 2).toNatClampNeg)
  rcases hcall with ⟨q, tr2, hx1, hq, hg⟩ | ⟨-, tr2, t', c', hf, hg, hI', ht'⟩
  · rcases hq with rfl | rfl
    · refine lv_aload_n hx hb dL_law_224 rfl (lv_at hl 1 rfl) ?_
      refine lv_aload_n hx hb dL_law_225 rfl (lv_at hl 0 rfl) ?_
      refine lv_iload hx hb dL_law_226 (lv_at hl 4 rfl) ?_
      refine lv_iconst (v := 1) hx hb dL_law_228 (by decide) ?_
      refine lv_iadd hx hb dL_law_229 ?_
      refine va_sld hx hb hX hbl hbA hS (lw_in (k := 1) hj hL (by decide)) dL_law_230 ?_
      refine lv_aload_n hx hb dL_law_231 rfl (lv_at hl 0 rfl) ?_
      refine lv_iload hx hb dL_law_232 (lv_at hl 4 rfl) ?_
      refine lv_iconst (v := 2) hx hb dL_law_234 (by decide) ?_
      refine lv_iadd hx hb dL_law_235 ?_
      refine va_sld hx hb hX hbl hbA hS (lw_in (k := 2) hj hL (by decide)) dL_law_236 ?_
      refine sg_hi (rest := []) S t_good hK hA hF (hL_set_1 hst hx1) calL_set h2 hS ⟨by decide, by decide⟩ ⟨hc1, hs1⟩ rfl hl.1 rfl (Nat.le_of_ble_eq_true rfl) dL_law_237 (fun H locs h2 hS => ?_)
      refine lv_istore (lv' := [(5, .int 1), (0, .ref b), (1, .ref (aC 0)), (2, .ref (aM 0)), (3, .ref o), (4, .int (nI (4 * j)))]) hx hb dL_law_240 hl (by decide) rfl (fun ls hl => ?_)
      refine lv_aload_n hx hb dL_law_242 rfl (lv_at hl 3 rfl) ?_
      refine lv_aload_n hx hb dL_law_243 rfl (lv_at hl 1 rfl) ?_
      refine lv_iload hx hb dL_law_244 (lv_at hl 5 rfl) ?_
      refine lv_iconst (v := 1) hx hb dL_law_246 (by decide) ?_
      refine lv_iadd hx hb dL_law_247 ?_
      refine va_sld hx hb hX hbl hbA hS (lw_in (k := 1) hj hL (by decide)) dL_law_248 ?_
      refine lv_aload_n hx hb dL_law_249 rfl (lv_at hl 1 rfl) ?_
      refine lv_iload hx hb dL_law_250 (lv_at hl 5 rfl) ?_
      refine lv_iconst (v := 2) hx hb dL_law_252 (by decide) ?_
      refine lv_iadd hx hb dL_law_253 ?_
      refine va_sld hx hb hX hbl hbA hS (lw_in (k := 2) hj hL (by decide)) dL_law_254 ?_
      refine sg_vv (rest := []) S m_good hKc hA trivial (cX9_set_m hg) calX9_set lk_X9_set h2.symm hS 0 9 rfl rfl rfl ⟨by decide, by decide⟩ ⟨hc1, hs1⟩ rfl hl.1 rfl (Nat.le_of_ble_eq_true rfl) dL_law_255 (fun H locs h2 hS => ?_)
      refine lv_aload_n hx hb dL_law_258 rfl (lv_at hl 3 rfl) ?_
      refine sg_vi (rest := []) S m_good hKc hA trivial (cX9_thrown_m rfl) calX9_thrown lk_X9_thrown h2 hS 0 9 rfl rfl rfl ⟨by decide, by decide⟩ ⟨hc1, hs1⟩ rfl hl.1 rfl (Nat.le_of_ble_eq_true rfl) dL_law_259 (fun H locs h2 hS => ?_)
      refine lv_iload hx hb dL_law_262 (lv_at hl 0 rfl) ?_
      refine lv_icmp_eq (tgt := 269) hx hb dL_law_264 (by decide) (fun _ => ?_) (fun c => absurd rfl c)
      refine lv_goto (tgt := 576) hx hb dL_law_269 (by decide) ?_
      refine W.widen (k := 22 + (j + 1)) (n := 8616 + 6 * (j + 1)) (by omega) (by omega) ?_
      exact kk t c0 1 _ g H locs ls hI (by omega) h2.symm hS (lv_sub hl [1, 2, 3, 4, 5] rfl)
    · exact absurd hx1 no2_set
  · refine lv_aload_n hx hb dL_law_224 rfl (lv_at hl 1 rfl) ?_
    refine lv_aload_n hx hb dL_law_225 rfl (lv_at hl 0 rfl) ?_
    refine lv_iload hx hb dL_law_226 (lv_at hl 4 rfl) ?_
    refine lv_iconst (v := 1) hx hb dL_law_228 (by decide) ?_
    refine lv_iadd hx hb dL_law_229 ?_
    refine va_sld hx hb hX hbl hbA hS (lw_in (k := 1) hj hL (by decide)) dL_law_230 ?_
    refine lv_aload_n hx hb dL_law_231 rfl (lv_at hl 0 rfl) ?_
    refine lv_iload hx hb dL_law_232 (lv_at hl 4 rfl) ?_
    refine lv_iconst (v := 2) hx hb dL_law_234 (by decide) ?_
    refine lv_iadd hx hb dL_law_235 ?_
    refine va_sld hx hb hX hbl hbA hS (lw_in (k := 2) hj hL (by decide)) dL_law_236 ?_
    refine sg_hi (rest := []) S t_good hK hA hF (hL_set hf) calL_set h2 hS ⟨by decide, by decide⟩ ⟨hc1, hs1⟩ rfl hl.1 rfl (Nat.le_of_ble_eq_true rfl) dL_law_237 (fun H locs h2 hS => ?_)
    refine lv_istore (lv' := [(5, .int 0), (0, .ref b), (1, .ref (aC 0)), (2, .ref (aM 0)), (3, .ref o), (4, .int (nI (4 * j)))]) hx hb dL_law_240 hl (by decide) rfl (fun ls hl => ?_)
    refine lv_aload_n hx hb dL_law_242 rfl (lv_at hl 3 rfl) ?_
    refine lv_aload_n hx hb dL_law_243 rfl (lv_at hl 1 rfl) ?_
    refine lv_iload hx hb dL_law_244 (lv_at hl 5 rfl) ?_
    refine lv_iconst (v := 1) hx hb dL_law_246 (by decide) ?_
    refine lv_iadd hx hb dL_law_247 ?_
    refine va_sld hx hb hX hbl hbA hS (lw_in (k := 1) hj hL (by decide)) dL_law_248 ?_
    refine lv_aload_n hx hb dL_law_249 rfl (lv_at hl 1 rfl) ?_
    refine lv_iload hx hb dL_law_250 (lv_at hl 5 rfl) ?_
    refine lv_iconst (v := 2) hx hb dL_law_252 (by decide) ?_
    refine lv_iadd hx hb dL_law_253 ?_
    refine va_sld hx hb hX hbl hbA hS (lw_in (k := 2) hj hL (by decide)) dL_law_254 ?_
    refine sg_vv (rest := []) S m_good hKc hA trivial (cX9_set_m hg) calX9_set lk_X9_set h2.symm hS 0 9 rfl rfl rfl ⟨by decide, by decide⟩ ⟨hc1, hs1⟩ rfl hl.1 rfl (Nat.le_of_ble_eq_true rfl) dL_law_255 (fun H locs h2 hS => ?_)
    refine lv_aload_n hx hb dL_law_258 rfl (lv_at hl 3 rfl) ?_
    refine sg_vi (rest := []) S m_good hKc hA trivial (cX9_thrown_m rfl) calX9_thrown lk_X9_thrown h2 hS 0 9 rfl rfl rfl ⟨by decide, by decide⟩ ⟨hc1, hs1⟩ rfl hl.1 rfl (Nat.le_of_ble_eq_true rfl) dL_law_259 (fun H locs h2 hS => ?_)
    refine lv_iload hx hb dL_law_262 (lv_at hl 0 rfl) ?_
    refine lv_icmp_eq (tgt := 269) hx hb dL_law_264 (by decide) (fun _ => ?_) (fun c => absurd rfl c)
    refine lv_goto (tgt := 576) hx hb dL_law_269 (by decide) ?_
    refine W.widen (k := 22 + (j + 1)) (n := 8616 + 6 * (j + 1)) (by omega) (by omega) ?_
    exact kk t' c' 0 _ g H locs ls hI' (by omega) h2.symm hS (lv_sub hl [1, 2, 3, 4, 5] rfl)
set_option maxHeartbeats 4000000 in
set_option maxRecDepth 100000 in
theorem law_get {p : Program} {l : Launch} {e : Env} {s : State} {m : MethodId} {below : List Frame} {meth : Method} {c : Code} {b L j t : Nat} {xs : Nat → Int32} {dC : Nat → ClassId} {dI : Nat → Nat → Nat} {cI cL : ClassId} {aC aM : Nat → Nat} {o : Nat} {c0 : zS} {r tr : Int32} {g : Nat → Int64} {H : Heap} {locs : List Loc} {ls : Array Slot} (hst : l.stackTraces = false) (X : lwX p s m meth c b L xs dC dI cI cL) (hj : 4 * j + 4 ≤ L) (hL : L ≤ 2048) (hI : Iv t c0) (ht : t ≤ 20060 * j) (h2 : lwI s dC dI cI cL aC aM o c0 r tr g H) (hS : va_S (lwA s) s.heap H locs) (hl : lwL ls j b aC aM o) (kk : ∀ (t' : Nat) (c' : zS) (r' tr' : Int32) (g' : Nat → Int64) (H : Heap) (locs : List Loc) (ls : Array Slot), Iv t' c' → t' ≤ t + 20060 → lwI s dC dI cI cL aC aM o c' r' tr' g' H → va_S (lwA s) s.heap H locs → lwL ls j b aC aM o → W p l e room_1 s m #[Value.ref b] below meth c H locs (22 + (j + 1)) (8616 + 6 * (j + 1)) (lw_Z below #[Value.ref b] s) (F0 m 576 ls [])) : W p l e room_1 s m #[Value.ref b] below meth c H locs (22 + j) (8616 + 6 * j) (lw_Z below #[Value.ref b] s) (F0 m 272 ls []) := by
  obtain ⟨C0, hK, hF⟩ := X
  obtain ⟨hx, hb, hr, hml, hown, hts, hX, hbl, hlocks, hgv⟩ := id C0
  have hbA : ¬ lwA s b := Nat.not_le.mpr hbl
  have hA : ∀ q : Nat, s.heap.size ≤ q → lwA s q := fun _ h => h
  have S : CallFix p m c cL_law 7 s #[Value.ref b] sw_tb RL := ⟨hx, hb, hml, hown, fun w h => hts w (List.mem_filter.mp h).1⟩
  have hKc : va_K (dC, dI) vwCl [(cI, .int)] s := hK.sub [0] rfl
  have hc1 : 22 + j + 1 ≤ room_1.cells := by show _ ≤ 1055; omega
  have hs1 : 8616 + 6 * j + 6 ≤ room_1.slots := by show _ ≤ 16862; omega
  have hc0 : 22 + j ≤ room_1.cells := by omega
  have hs0 : 8616 + 6 * j ≤ room_1.slots := by omega
  have hcall := p_get (r := r) (tr := tr) hI (xs (nI (4 * j) + 1).toNatClampNeg)
  rcases hcall with ⟨q, v, tr2, hx1, hq, hg⟩ | ⟨-, v, tr2, t', c', hf, hg, hI', ht'⟩
  · rcases hq with rfl | rfl
    · refine lv_aload_n hx hb dL_law_272 rfl (lv_at hl 1 rfl) ?_
      refine lv_aload_n hx hb dL_law_273 rfl (lv_at hl 0 rfl) ?_
      refine lv_iload hx hb dL_law_274 (lv_at hl 4 rfl) ?_
      refine lv_iconst (v := 1) hx hb dL_law_276 (by decide) ?_
      refine lv_iadd hx hb dL_law_277 ?_
      refine va_sld hx hb hX hbl hbA hS (lw_in (k := 1) hj hL (by decide)) dL_law_278 ?_
      refine lv_aload_n hx hb dL_law_279 rfl (lv_at hl 3 rfl) ?_
      refine sg_hi (rest := []) S t_good hK hA hF (hL_get_1 hst hx1) calL_get h2 hS ⟨by decide, by decide⟩ ⟨hc1, hs1⟩ rfl hl.1 rfl (Nat.le_of_ble_eq_true rfl) dL_law_280 (fun H locs h2 hS => ?_)
      refine lv_istore (lv' := [(5, .int 1), (0, .ref b), (1, .ref (aC 0)), (2, .ref (aM 0)), (3, .ref o), (4, .int (nI (4 * j)))]) hx hb dL_law_283 hl (by decide) rfl (fun ls hl => ?_)
      refine lv_aload_n hx hb dL_law_285 rfl (lv_at hl 3 rfl) ?_
      refine lv_aload_n hx hb dL_law_286 rfl (lv_at hl 1 rfl) ?_
      refine lv_iload hx hb dL_law_287 (lv_at hl 5 rfl) ?_
      refine lv_iconst (v := 1) hx hb dL_law_289 (by decide) ?_
      refine lv_iadd hx hb dL_law_290 ?_
      refine va_sld hx hb hX hbl hbA hS (lw_in (k := 1) hj hL (by decide)) dL_law_291 ?_
      refine sg_vi (rest := []) S m_good hKc hA trivial (cX9_get_m hg) calX9_get lk_X9_get h2.symm hS 0 9 rfl rfl rfl ⟨by decide, by decide⟩ ⟨hc1, hs1⟩ rfl hl.1 rfl (Nat.le_of_ble_eq_true rfl) dL_law_292 (fun H locs h2 hS => ?_)
      refine lv_istore (lv' := [(6, .int v), (5, .int 1), (0, .ref b), (1, .ref (aC 0)), (2, .ref (aM 0)), (3, .ref o), (4, .int (nI (4 * j)))]) hx hb dL_law_295 hl (by decide) rfl (fun ls hl => ?_)
      refine lv_aload_n hx hb dL_law_297 rfl (lv_at hl 4 rfl) ?_
      refine sg_vi (rest := []) S m_good hKc hA trivial (cX9_thrown_m rfl) calX9_thrown lk_X9_thrown h2 hS 0 9 rfl rfl rfl ⟨by decide, by decide⟩ ⟨hc1, hs1⟩ rfl hl.1 rfl (Nat.le_of_ble_eq_true rfl) dL_law_298 (fun H locs h2 hS => ?_)
      refine lv_iload hx hb dL_law_301 (lv_at hl 1 rfl) ?_
      refine lv_icmp_eq (tgt := 308) hx hb dL_law_303 (by decide) (fun _ => ?_) (fun c => absurd rfl c)
      refine lv_iload hx hb dL_law_308 (lv_at hl 1 rfl) ?_
      refine lv_if_ne (tgt := 325) hx hb dL_law_310 (by decide) (fun _ => ?_) (fun c => absurd c (by decide))
      refine lv_goto (tgt := 576) hx hb dL_law_325 (by decide) ?_
      refine W.widen (k := 22 + (j + 1)) (n := 8616 + 6 * (j + 1)) (by omega) (by omega) ?_
      exact kk t c0 1 _ g H locs ls hI (by omega) h2.symm hS (lv_sub hl [2, 3, 4, 5, 6] rfl)
    · exact absurd hx1 no2_get
  · refine lv_aload_n hx hb dL_law_272 rfl (lv_at hl 1 rfl) ?_
    refine lv_aload_n hx hb dL_law_273 rfl (lv_at hl 0 rfl) ?_
    refine lv_iload hx hb dL_law_274 (lv_at hl 4 rfl) ?_
    refine lv_iconst (v := 1) hx hb dL_law_276 (by decide) ?_
    refine lv_iadd hx hb dL_law_277 ?_
    refine va_sld hx hb hX hbl hbA hS (lw_in (k := 1) hj hL (by decide)) dL_law_278 ?_
    refine lv_aload_n hx hb dL_law_279 rfl (lv_at hl 3 rfl) ?_
    refine sg_hi (rest := []) S t_good hK hA hF (hL_get hf) calL_get h2 hS ⟨by decide, by decide⟩ ⟨hc1, hs1⟩ rfl hl.1 rfl (Nat.le_of_ble_eq_true rfl) dL_law_280 (fun H locs h2 hS => ?_)
    refine lv_istore (lv' := [(5, .int 0), (0, .ref b), (1, .ref (aC 0)), (2, .ref (aM 0)), (3, .ref o), (4, .int (nI (4 * j)))]) hx hb dL_law_283 hl (by decide) rfl (fun ls hl => ?_)
    refine lv_aload_n hx hb dL_law_285 rfl (lv_at hl 3 rfl) ?_
    refine lv_aload_n hx hb dL_law_286 rfl (lv_at hl 1 rfl) ?_
    refine lv_iload hx hb dL_law_287 (lv_at hl 5 rfl) ?_
    refine lv_iconst (v := 1) hx hb dL_law_289 (by decide) ?_
    refine lv_iadd hx hb dL_law_290 ?_
    refine va_sld hx hb hX hbl hbA hS (lw_in (k := 1) hj hL (by decide)) dL_law_291 ?_
    refine sg_vi (rest := []) S m_good hKc hA trivial (cX9_get_m hg) calX9_get lk_X9_get h2.symm hS 0 9 rfl rfl rfl ⟨by decide, by decide⟩ ⟨hc1, hs1⟩ rfl hl.1 rfl (Nat.le_of_ble_eq_true rfl) dL_law_292 (fun H locs h2 hS => ?_)
    refine lv_istore (lv' := [(6, .int v), (5, .int 0), (0, .ref b), (1, .ref (aC 0)), (2, .ref (aM 0)), (3, .ref o), (4, .int (nI (4 * j)))]) hx hb dL_law_295 hl (by decide) rfl (fun ls hl => ?_)
    refine lv_aload_n hx hb dL_law_297 rfl (lv_at hl 4 rfl) ?_
    refine sg_vi (rest := []) S m_good hKc hA trivial (cX9_thrown_m rfl) calX9_thrown lk_X9_thrown h2 hS 0 9 rfl rfl rfl ⟨by decide, by decide⟩ ⟨hc1, hs1⟩ rfl hl.1 rfl (Nat.le_of_ble_eq_true rfl) dL_law_298 (fun H locs h2 hS => ?_)
    refine lv_iload hx hb dL_law_301 (lv_at hl 1 rfl) ?_
    refine lv_icmp_eq (tgt := 308) hx hb dL_law_303 (by decide) (fun _ => ?_) (fun c => absurd rfl c)
    refine lv_iload hx hb dL_law_308 (lv_at hl 1 rfl) ?_
    refine lv_if_ne (tgt := 325) hx hb dL_law_310 (by decide) (fun c => absurd rfl c) (fun _ => ?_)
    refine lv_aload_n hx hb dL_law_313 rfl (lv_at hl 5 rfl) ?_
    refine lv_iconst (v := 0) hx hb dL_law_314 (by decide) ?_
    refine va_lald hx hb hK h2.2.1 14 1 rfl rfl (by unfold vp_in; decide) dL_law_315 ?_
    refine lv_iload hx hb dL_law_316 (lv_at hl 0 rfl) ?_
    refine lv_i2l hx hb dL_law_318 rfl ?_
    rw [upd0]
    refine xl_lcmpE hx hb dL_law_319 ?_
    refine lv_if_eq (tgt := 325) hx hb dL_law_320 (by decide) (fun _ => ?_) (fun c => absurd rfl c)
    refine lv_goto (tgt := 576) hx hb dL_law_325 (by decide) ?_
    refine W.widen (k := 22 + (j + 1)) (n := 8616 + 6 * (j + 1)) (by omega) (by omega) ?_
    exact kk t' c' 0 _ (vp_updL g 0 v.toInt64) H locs ls hI' (by omega) h2.symm hS (lv_sub hl [2, 3, 4, 5, 6] rfl)
set_option maxHeartbeats 4000000 in
set_option maxRecDepth 100000 in
theorem law_key {p : Program} {l : Launch} {e : Env} {s : State} {m : MethodId} {below : List Frame} {meth : Method} {c : Code} {b L j t : Nat} {xs : Nat → Int32} {dC : Nat → ClassId} {dI : Nat → Nat → Nat} {cI cL : ClassId} {aC aM : Nat → Nat} {o : Nat} {c0 : zS} {r tr : Int32} {g : Nat → Int64} {H : Heap} {locs : List Loc} {ls : Array Slot} (hst : l.stackTraces = false) (X : lwX p s m meth c b L xs dC dI cI cL) (hj : 4 * j + 4 ≤ L) (hL : L ≤ 2048) (hI : Iv t c0) (ht : t ≤ 20060 * j) (h2 : lwI s dC dI cI cL aC aM o c0 r tr g H) (hS : va_S (lwA s) s.heap H locs) (hl : lwL ls j b aC aM o) (kk : ∀ (t' : Nat) (c' : zS) (r' tr' : Int32) (g' : Nat → Int64) (H : Heap) (locs : List Loc) (ls : Array Slot), Iv t' c' → t' ≤ t + 20060 → lwI s dC dI cI cL aC aM o c' r' tr' g' H → va_S (lwA s) s.heap H locs → lwL ls j b aC aM o → W p l e room_1 s m #[Value.ref b] below meth c H locs (22 + (j + 1)) (8616 + 6 * (j + 1)) (lw_Z below #[Value.ref b] s) (F0 m 576 ls [])) : W p l e room_1 s m #[Value.ref b] below meth c H locs (22 + j) (8616 + 6 * j) (lw_Z below #[Value.ref b] s) (F0 m 328 ls []) := by
  obtain ⟨C0, hK, hF⟩ := X
  obtain ⟨hx, hb, hr, hml, hown, hts, hX, hbl, hlocks, hgv⟩ := id C0
  have hbA : ¬ lwA s b := Nat.not_le.mpr hbl
  have hA : ∀ q : Nat, s.heap.size ≤ q → lwA s q := fun _ h => h
  have S : CallFix p m c cL_law 7 s #[Value.ref b] sw_tb RL := ⟨hx, hb, hml, hown, fun w h => hts w (List.mem_filter.mp h).1⟩
  have hKc : va_K (dC, dI) vwCl [(cI, .int)] s := hK.sub [0] rfl
  have hc1 : 22 + j + 1 ≤ room_1.cells := by show _ ≤ 1055; omega
  have hs1 : 8616 + 6 * j + 6 ≤ room_1.slots := by show _ ≤ 16862; omega
  have hc0 : 22 + j ≤ room_1.cells := by omega
  have hs0 : 8616 + 6 * j ≤ room_1.slots := by omega
  have hcall := p_key (r := r) (tr := tr) hI (xs (nI (4 * j) + 1).toNatClampNeg) (xs (nI (4 * j) + 2).toNatClampNeg)
  rcases hcall with ⟨q, tr2, hx1, hq, hg⟩ | ⟨-, tr2, t', c', hf, hg, hI', ht'⟩
  · rcases hq with rfl | rfl
    · refine lv_aload_n hx hb dL_law_328 rfl (lv_at hl 1 rfl) ?_
      refine lv_aload_n hx hb dL_law_329 rfl (lv_at hl 0 rfl) ?_
      refine lv_iload hx hb dL_law_330 (lv_at hl 4 rfl) ?_
      refine lv_iconst (v := 1) hx hb dL_law_332 (by decide) ?_
      refine lv_iadd hx hb dL_law_333 ?_
      refine va_sld hx hb hX hbl hbA hS (lw_in (k := 1) hj hL (by decide)) dL_law_334 ?_
      refine lv_aload_n hx hb dL_law_335 rfl (lv_at hl 0 rfl) ?_
      refine lv_iload hx hb dL_law_336 (lv_at hl 4 rfl) ?_
      refine lv_iconst (v := 2) hx hb dL_law_338 (by decide) ?_
      refine lv_iadd hx hb dL_law_339 ?_
      refine va_sld hx hb hX hbl hbA hS (lw_in (k := 2) hj hL (by decide)) dL_law_340 ?_
      refine sg_hi (rest := []) S t_good hK hA hF (hL_key_1 hst hx1) calL_key h2 hS ⟨by decide, by decide⟩ ⟨hc1, hs1⟩ rfl hl.1 rfl (Nat.le_of_ble_eq_true rfl) dL_law_341 (fun H locs h2 hS => ?_)
      refine lv_istore (lv' := [(5, .int 1), (0, .ref b), (1, .ref (aC 0)), (2, .ref (aM 0)), (3, .ref o), (4, .int (nI (4 * j)))]) hx hb dL_law_344 hl (by decide) rfl (fun ls hl => ?_)
      refine lv_aload_n hx hb dL_law_346 rfl (lv_at hl 3 rfl) ?_
      refine lv_aload_n hx hb dL_law_347 rfl (lv_at hl 1 rfl) ?_
      refine lv_iload hx hb dL_law_348 (lv_at hl 5 rfl) ?_
      refine lv_iconst (v := 1) hx hb dL_law_350 (by decide) ?_
      refine lv_iadd hx hb dL_law_351 ?_
      refine va_sld hx hb hX hbl hbA hS (lw_in (k := 1) hj hL (by decide)) dL_law_352 ?_
      refine lv_aload_n hx hb dL_law_353 rfl (lv_at hl 1 rfl) ?_
      refine lv_iload hx hb dL_law_354 (lv_at hl 5 rfl) ?_
      refine lv_iconst (v := 2) hx hb dL_law_356 (by decide) ?_
      refine lv_iadd hx hb dL_law_357 ?_
      refine va_sld hx hb hX hbl hbA hS (lw_in (k := 2) hj hL (by decide)) dL_law_358 ?_
      refine sg_vv (rest := []) S m_good hKc hA trivial (cX9_key_m hg) calX9_key lk_X9_key h2.symm hS 0 9 rfl rfl rfl ⟨by decide, by decide⟩ ⟨hc1, hs1⟩ rfl hl.1 rfl (Nat.le_of_ble_eq_true rfl) dL_law_359 (fun H locs h2 hS => ?_)
      refine lv_aload_n hx hb dL_law_362 rfl (lv_at hl 3 rfl) ?_
      refine sg_vi (rest := []) S m_good hKc hA trivial (cX9_thrown_m rfl) calX9_thrown lk_X9_thrown h2 hS 0 9 rfl rfl rfl ⟨by decide, by decide⟩ ⟨hc1, hs1⟩ rfl hl.1 rfl (Nat.le_of_ble_eq_true rfl) dL_law_363 (fun H locs h2 hS => ?_)
      refine lv_iload hx hb dL_law_366 (lv_at hl 0 rfl) ?_
      refine lv_icmp_eq (tgt := 373) hx hb dL_law_368 (by decide) (fun _ => ?_) (fun c => absurd rfl c)
      refine lv_goto (tgt := 576) hx hb dL_law_373 (by decide) ?_
      refine W.widen (k := 22 + (j + 1)) (n := 8616 + 6 * (j + 1)) (by omega) (by omega) ?_
      exact kk t c0 1 _ g H locs ls hI (by omega) h2.symm hS (lv_sub hl [1, 2, 3, 4, 5] rfl)
    · exact absurd hx1 no2_key
  · refine lv_aload_n hx hb dL_law_328 rfl (lv_at hl 1 rfl) ?_
    refine lv_aload_n hx hb dL_law_329 rfl (lv_at hl 0 rfl) ?_
    refine lv_iload hx hb dL_law_330 (lv_at hl 4 rfl) ?_
    refine lv_iconst (v := 1) hx hb dL_law_332 (by decide) ?_
    refine lv_iadd hx hb dL_law_333 ?_
    refine va_sld hx hb hX hbl hbA hS (lw_in (k := 1) hj hL (by decide)) dL_law_334 ?_
    refine lv_aload_n hx hb dL_law_335 rfl (lv_at hl 0 rfl) ?_
    refine lv_iload hx hb dL_law_336 (lv_at hl 4 rfl) ?_
    refine lv_iconst (v := 2) hx hb dL_law_338 (by decide) ?_
    refine lv_iadd hx hb dL_law_339 ?_
    refine va_sld hx hb hX hbl hbA hS (lw_in (k := 2) hj hL (by decide)) dL_law_340 ?_
    refine sg_hi (rest := []) S t_good hK hA hF (hL_key hf) calL_key h2 hS ⟨by decide, by decide⟩ ⟨hc1, hs1⟩ rfl hl.1 rfl (Nat.le_of_ble_eq_true rfl) dL_law_341 (fun H locs h2 hS => ?_)
    refine lv_istore (lv' := [(5, .int 0), (0, .ref b), (1, .ref (aC 0)), (2, .ref (aM 0)), (3, .ref o), (4, .int (nI (4 * j)))]) hx hb dL_law_344 hl (by decide) rfl (fun ls hl => ?_)
    refine lv_aload_n hx hb dL_law_346 rfl (lv_at hl 3 rfl) ?_
    refine lv_aload_n hx hb dL_law_347 rfl (lv_at hl 1 rfl) ?_
    refine lv_iload hx hb dL_law_348 (lv_at hl 5 rfl) ?_
    refine lv_iconst (v := 1) hx hb dL_law_350 (by decide) ?_
    refine lv_iadd hx hb dL_law_351 ?_
    refine va_sld hx hb hX hbl hbA hS (lw_in (k := 1) hj hL (by decide)) dL_law_352 ?_
    refine lv_aload_n hx hb dL_law_353 rfl (lv_at hl 1 rfl) ?_
    refine lv_iload hx hb dL_law_354 (lv_at hl 5 rfl) ?_
    refine lv_iconst (v := 2) hx hb dL_law_356 (by decide) ?_
    refine lv_iadd hx hb dL_law_357 ?_
    refine va_sld hx hb hX hbl hbA hS (lw_in (k := 2) hj hL (by decide)) dL_law_358 ?_
    refine sg_vv (rest := []) S m_good hKc hA trivial (cX9_key_m hg) calX9_key lk_X9_key h2.symm hS 0 9 rfl rfl rfl ⟨by decide, by decide⟩ ⟨hc1, hs1⟩ rfl hl.1 rfl (Nat.le_of_ble_eq_true rfl) dL_law_359 (fun H locs h2 hS => ?_)
    refine lv_aload_n hx hb dL_law_362 rfl (lv_at hl 3 rfl) ?_
    refine sg_vi (rest := []) S m_good hKc hA trivial (cX9_thrown_m rfl) calX9_thrown lk_X9_thrown h2 hS 0 9 rfl rfl rfl ⟨by decide, by decide⟩ ⟨hc1, hs1⟩ rfl hl.1 rfl (Nat.le_of_ble_eq_true rfl) dL_law_363 (fun H locs h2 hS => ?_)
    refine lv_iload hx hb dL_law_366 (lv_at hl 0 rfl) ?_
    refine lv_icmp_eq (tgt := 373) hx hb dL_law_368 (by decide) (fun _ => ?_) (fun c => absurd rfl c)
    refine lv_goto (tgt := 576) hx hb dL_law_373 (by decide) ?_
    refine W.widen (k := 22 + (j + 1)) (n := 8616 + 6 * (j + 1)) (by omega) (by omega) ?_
    exact kk t' c' 0 _ g H locs ls hI' (by omega) h2.symm hS (lv_sub hl [1, 2, 3, 4, 5] rfl)
set_option maxHeartbeats 4000000 in
set_option maxRecDepth 100000 in
theorem law_edge {p : Program} {l : Launch} {e : Env} {s : State} {m : MethodId} {below : List Frame} {meth : Method} {c : Code} {b L j t : Nat} {xs : Nat → Int32} {dC : Nat → ClassId} {dI : Nat → Nat → Nat} {cI cL : ClassId} {aC aM : Nat → Nat} {o : Nat} {c0 : zS} {r tr : Int32} {g : Nat → Int64} {H : Heap} {locs : List Loc} {ls : Array Slot} (hst : l.stackTraces = false) (X : lwX p s m meth c b L xs dC dI cI cL) (hj : 4 * j + 4 ≤ L) (hL : L ≤ 2048) (hI : Iv t c0) (ht : t ≤ 20060 * j) (h2 : lwI s dC dI cI cL aC aM o c0 r tr g H) (hS : va_S (lwA s) s.heap H locs) (hl : lwL ls j b aC aM o) (kk : ∀ (t' : Nat) (c' : zS) (r' tr' : Int32) (g' : Nat → Int64) (H : Heap) (locs : List Loc) (ls : Array Slot), Iv t' c' → t' ≤ t + 20060 → lwI s dC dI cI cL aC aM o c' r' tr' g' H → va_S (lwA s) s.heap H locs → lwL ls j b aC aM o → W p l e room_1 s m #[Value.ref b] below meth c H locs (22 + (j + 1)) (8616 + 6 * (j + 1)) (lw_Z below #[Value.ref b] s) (F0 m 576 ls [])) : W p l e room_1 s m #[Value.ref b] below meth c H locs (22 + j) (8616 + 6 * j) (lw_Z below #[Value.ref b] s) (F0 m 376 ls []) := by
  obtain ⟨C0, hK, hF⟩ := X
  obtain ⟨hx, hb, hr, hml, hown, hts, hX, hbl, hlocks, hgv⟩ := id C0
  have hbA : ¬ lwA s b := Nat.not_le.mpr hbl
  have hA : ∀ q : Nat, s.heap.size ≤ q → lwA s q := fun _ h => h
  have S : CallFix p m c cL_law 7 s #[Value.ref b] sw_tb RL := ⟨hx, hb, hml, hown, fun w h => hts w (List.mem_filter.mp h).1⟩
  have hKc : va_K (dC, dI) vwCl [(cI, .int)] s := hK.sub [0] rfl
  have hc1 : 22 + j + 1 ≤ room_1.cells := by show _ ≤ 1055; omega
  have hs1 : 8616 + 6 * j + 6 ≤ room_1.slots := by show _ ≤ 16862; omega
  have hc0 : 22 + j ≤ room_1.cells := by omega
  have hs0 : 8616 + 6 * j ≤ room_1.slots := by omega
  have hcall := p_edge (r := r) (tr := tr) hI (xs (nI (4 * j) + 1).toNatClampNeg)
  rcases hcall with ⟨q, v, tr2, hx1, hq, hg⟩ | ⟨-, v, tr2, t', c', hf, hg, hI', ht'⟩
  · rcases hq with rfl | rfl
    · refine lv_aload_n hx hb dL_law_376 rfl (lv_at hl 1 rfl) ?_
      refine lv_aload_n hx hb dL_law_377 rfl (lv_at hl 0 rfl) ?_
      refine lv_iload hx hb dL_law_378 (lv_at hl 4 rfl) ?_
      refine lv_iconst (v := 1) hx hb dL_law_380 (by decide) ?_
      refine lv_iadd hx hb dL_law_381 ?_
      refine va_sld hx hb hX hbl hbA hS (lw_in (k := 1) hj hL (by decide)) dL_law_382 ?_
      refine lv_aload_n hx hb dL_law_383 rfl (lv_at hl 3 rfl) ?_
      refine sg_hi (rest := []) S t_good hK hA hF (hL_edge_1 hst hx1) calL_edge h2 hS ⟨by decide, by decide⟩ ⟨hc1, hs1⟩ rfl hl.1 rfl (Nat.le_of_ble_eq_true rfl) dL_law_384 (fun H locs h2 hS => ?_)
      refine lv_istore (lv' := [(5, .int 1), (0, .ref b), (1, .ref (aC 0)), (2, .ref (aM 0)), (3, .ref o), (4, .int (nI (4 * j)))]) hx hb dL_law_387 hl (by decide) rfl (fun ls hl => ?_)
      refine lv_aload_n hx hb dL_law_389 rfl (lv_at hl 3 rfl) ?_
      refine lv_aload_n hx hb dL_law_390 rfl (lv_at hl 1 rfl) ?_
      refine lv_iload hx hb dL_law_391 (lv_at hl 5 rfl) ?_
      refine lv_iconst (v := 1) hx hb dL_law_393 (by decide) ?_
      refine lv_iadd hx hb dL_law_394 ?_
      refine va_sld hx hb hX hbl hbA hS (lw_in (k := 1) hj hL (by decide)) dL_law_395 ?_
      refine sg_vi (rest := []) S m_good hKc hA trivial (cX9_edge_m hg) calX9_edge lk_X9_edge h2.symm hS 0 9 rfl rfl rfl ⟨by decide, by decide⟩ ⟨hc1, hs1⟩ rfl hl.1 rfl (Nat.le_of_ble_eq_true rfl) dL_law_396 (fun H locs h2 hS => ?_)
      refine lv_istore (lv' := [(6, .int v), (5, .int 1), (0, .ref b), (1, .ref (aC 0)), (2, .ref (aM 0)), (3, .ref o), (4, .int (nI (4 * j)))]) hx hb dL_law_399 hl (by decide) rfl (fun ls hl => ?_)
      refine lv_aload_n hx hb dL_law_401 rfl (lv_at hl 4 rfl) ?_
      refine sg_vi (rest := []) S m_good hKc hA trivial (cX9_thrown_m rfl) calX9_thrown lk_X9_thrown h2 hS 0 9 rfl rfl rfl ⟨by decide, by decide⟩ ⟨hc1, hs1⟩ rfl hl.1 rfl (Nat.le_of_ble_eq_true rfl) dL_law_402 (fun H locs h2 hS => ?_)
      refine lv_iload hx hb dL_law_405 (lv_at hl 1 rfl) ?_
      refine lv_icmp_eq (tgt := 412) hx hb dL_law_407 (by decide) (fun _ => ?_) (fun c => absurd rfl c)
      refine lv_iload hx hb dL_law_412 (lv_at hl 1 rfl) ?_
      refine lv_if_ne (tgt := 429) hx hb dL_law_414 (by decide) (fun _ => ?_) (fun c => absurd c (by decide))
      refine lv_goto (tgt := 576) hx hb dL_law_429 (by decide) ?_
      refine W.widen (k := 22 + (j + 1)) (n := 8616 + 6 * (j + 1)) (by omega) (by omega) ?_
      exact kk t c0 1 _ g H locs ls hI (by omega) h2.symm hS (lv_sub hl [2, 3, 4, 5, 6] rfl)
    · refine lv_aload_n hx hb dL_law_376 rfl (lv_at hl 1 rfl) ?_
      refine lv_aload_n hx hb dL_law_377 rfl (lv_at hl 0 rfl) ?_
      refine lv_iload hx hb dL_law_378 (lv_at hl 4 rfl) ?_
      refine lv_iconst (v := 1) hx hb dL_law_380 (by decide) ?_
      refine lv_iadd hx hb dL_law_381 ?_
      refine va_sld hx hb hX hbl hbA hS (lw_in (k := 1) hj hL (by decide)) dL_law_382 ?_
      refine lv_aload_n hx hb dL_law_383 rfl (lv_at hl 3 rfl) ?_
      refine sg_hi (rest := []) S t_good hK hA hF (hL_edge_2 hst hx1) calL_edge h2 hS ⟨by decide, by decide⟩ ⟨hc1, hs1⟩ rfl hl.1 rfl (Nat.le_of_ble_eq_true rfl) dL_law_384 (fun H locs h2 hS => ?_)
      refine lv_istore (lv' := [(5, .int 2), (0, .ref b), (1, .ref (aC 0)), (2, .ref (aM 0)), (3, .ref o), (4, .int (nI (4 * j)))]) hx hb dL_law_387 hl (by decide) rfl (fun ls hl => ?_)
      refine lv_aload_n hx hb dL_law_389 rfl (lv_at hl 3 rfl) ?_
      refine lv_aload_n hx hb dL_law_390 rfl (lv_at hl 1 rfl) ?_
      refine lv_iload hx hb dL_law_391 (lv_at hl 5 rfl) ?_
      refine lv_iconst (v := 1) hx hb dL_law_393 (by decide) ?_
      refine lv_iadd hx hb dL_law_394 ?_
      refine va_sld hx hb hX hbl hbA hS (lw_in (k := 1) hj hL (by decide)) dL_law_395 ?_
      refine sg_vi (rest := []) S m_good hKc hA trivial (cX9_edge_m hg) calX9_edge lk_X9_edge h2.symm hS 0 9 rfl rfl rfl ⟨by decide, by decide⟩ ⟨hc1, hs1⟩ rfl hl.1 rfl (Nat.le_of_ble_eq_true rfl) dL_law_396 (fun H locs h2 hS => ?_)
      refine lv_istore (lv' := [(6, .int v), (5, .int 2), (0, .ref b), (1, .ref (aC 0)), (2, .ref (aM 0)), (3, .ref o), (4, .int (nI (4 * j)))]) hx hb dL_law_399 hl (by decide) rfl (fun ls hl => ?_)
      refine lv_aload_n hx hb dL_law_401 rfl (lv_at hl 4 rfl) ?_
      refine sg_vi (rest := []) S m_good hKc hA trivial (cX9_thrown_m rfl) calX9_thrown lk_X9_thrown h2 hS 0 9 rfl rfl rfl ⟨by decide, by decide⟩ ⟨hc1, hs1⟩ rfl hl.1 rfl (Nat.le_of_ble_eq_true rfl) dL_law_402 (fun H locs h2 hS => ?_)
      refine lv_iload hx hb dL_law_405 (lv_at hl 1 rfl) ?_
      refine lv_icmp_eq (tgt := 412) hx hb dL_law_407 (by decide) (fun _ => ?_) (fun c => absurd rfl c)
      refine lv_iload hx hb dL_law_412 (lv_at hl 1 rfl) ?_
      refine lv_if_ne (tgt := 429) hx hb dL_law_414 (by decide) (fun _ => ?_) (fun c => absurd c (by decide))
      refine lv_goto (tgt := 576) hx hb dL_law_429 (by decide) ?_
      refine W.widen (k := 22 + (j + 1)) (n := 8616 + 6 * (j + 1)) (by omega) (by omega) ?_
      exact kk t c0 2 _ g H locs ls hI (by omega) h2.symm hS (lv_sub hl [2, 3, 4, 5, 6] rfl)
  · refine lv_aload_n hx hb dL_law_376 rfl (lv_at hl 1 rfl) ?_
    refine lv_aload_n hx hb dL_law_377 rfl (lv_at hl 0 rfl) ?_
    refine lv_iload hx hb dL_law_378 (lv_at hl 4 rfl) ?_
    refine lv_iconst (v := 1) hx hb dL_law_380 (by decide) ?_
    refine lv_iadd hx hb dL_law_381 ?_
    refine va_sld hx hb hX hbl hbA hS (lw_in (k := 1) hj hL (by decide)) dL_law_382 ?_
    refine lv_aload_n hx hb dL_law_383 rfl (lv_at hl 3 rfl) ?_
    refine sg_hi (rest := []) S t_good hK hA hF (hL_edge hf) calL_edge h2 hS ⟨by decide, by decide⟩ ⟨hc1, hs1⟩ rfl hl.1 rfl (Nat.le_of_ble_eq_true rfl) dL_law_384 (fun H locs h2 hS => ?_)
    refine lv_istore (lv' := [(5, .int 0), (0, .ref b), (1, .ref (aC 0)), (2, .ref (aM 0)), (3, .ref o), (4, .int (nI (4 * j)))]) hx hb dL_law_387 hl (by decide) rfl (fun ls hl => ?_)
    refine lv_aload_n hx hb dL_law_389 rfl (lv_at hl 3 rfl) ?_
    refine lv_aload_n hx hb dL_law_390 rfl (lv_at hl 1 rfl) ?_
    refine lv_iload hx hb dL_law_391 (lv_at hl 5 rfl) ?_
    refine lv_iconst (v := 1) hx hb dL_law_393 (by decide) ?_
    refine lv_iadd hx hb dL_law_394 ?_
    refine va_sld hx hb hX hbl hbA hS (lw_in (k := 1) hj hL (by decide)) dL_law_395 ?_
    refine sg_vi (rest := []) S m_good hKc hA trivial (cX9_edge_m hg) calX9_edge lk_X9_edge h2.symm hS 0 9 rfl rfl rfl ⟨by decide, by decide⟩ ⟨hc1, hs1⟩ rfl hl.1 rfl (Nat.le_of_ble_eq_true rfl) dL_law_396 (fun H locs h2 hS => ?_)
    refine lv_istore (lv' := [(6, .int v), (5, .int 0), (0, .ref b), (1, .ref (aC 0)), (2, .ref (aM 0)), (3, .ref o), (4, .int (nI (4 * j)))]) hx hb dL_law_399 hl (by decide) rfl (fun ls hl => ?_)
    refine lv_aload_n hx hb dL_law_401 rfl (lv_at hl 4 rfl) ?_
    refine sg_vi (rest := []) S m_good hKc hA trivial (cX9_thrown_m rfl) calX9_thrown lk_X9_thrown h2 hS 0 9 rfl rfl rfl ⟨by decide, by decide⟩ ⟨hc1, hs1⟩ rfl hl.1 rfl (Nat.le_of_ble_eq_true rfl) dL_law_402 (fun H locs h2 hS => ?_)
    refine lv_iload hx hb dL_law_405 (lv_at hl 1 rfl) ?_
    refine lv_icmp_eq (tgt := 412) hx hb dL_law_407 (by decide) (fun _ => ?_) (fun c => absurd rfl c)
    refine lv_iload hx hb dL_law_412 (lv_at hl 1 rfl) ?_
    refine lv_if_ne (tgt := 429) hx hb dL_law_414 (by decide) (fun c => absurd rfl c) (fun _ => ?_)
    refine lv_aload_n hx hb dL_law_417 rfl (lv_at hl 5 rfl) ?_
    refine lv_iconst (v := 0) hx hb dL_law_418 (by decide) ?_
    refine va_lald hx hb hK h2.2.1 14 1 rfl rfl (by unfold vp_in; decide) dL_law_419 ?_
    refine lv_iload hx hb dL_law_420 (lv_at hl 0 rfl) ?_
    refine lv_i2l hx hb dL_law_422 rfl ?_
    rw [upd0]
    refine xl_lcmpE hx hb dL_law_423 ?_
    refine lv_if_eq (tgt := 429) hx hb dL_law_424 (by decide) (fun _ => ?_) (fun c => absurd rfl c)
    refine lv_goto (tgt := 576) hx hb dL_law_429 (by decide) ?_
    refine W.widen (k := 22 + (j + 1)) (n := 8616 + 6 * (j + 1)) (by omega) (by omega) ?_
    exact kk t' c' 0 _ (vp_updL g 0 v.toInt64) H locs ls hI' (by omega) h2.symm hS (lv_sub hl [2, 3, 4, 5, 6] rfl)
set_option maxHeartbeats 4000000 in
set_option maxRecDepth 100000 in
theorem law_run {p : Program} {l : Launch} {e : Env} {s : State} {m : MethodId} {below : List Frame} {meth : Method} {c : Code} {b L j t : Nat} {xs : Nat → Int32} {dC : Nat → ClassId} {dI : Nat → Nat → Nat} {cI cL : ClassId} {aC aM : Nat → Nat} {o : Nat} {c0 : zS} {r tr : Int32} {g : Nat → Int64} {H : Heap} {locs : List Loc} {ls : Array Slot} (hst : l.stackTraces = false) (X : lwX p s m meth c b L xs dC dI cI cL) (hj : 4 * j + 4 ≤ L) (hL : L ≤ 2048) (hI : Iv t c0) (ht : t ≤ 20060 * j) (h2 : lwI s dC dI cI cL aC aM o c0 r tr g H) (hS : va_S (lwA s) s.heap H locs) (hl : lwL ls j b aC aM o) (kk : ∀ (t' : Nat) (c' : zS) (r' tr' : Int32) (g' : Nat → Int64) (H : Heap) (locs : List Loc) (ls : Array Slot), Iv t' c' → t' ≤ t + 20060 → lwI s dC dI cI cL aC aM o c' r' tr' g' H → va_S (lwA s) s.heap H locs → lwL ls j b aC aM o → W p l e room_1 s m #[Value.ref b] below meth c H locs (22 + (j + 1)) (8616 + 6 * (j + 1)) (lw_Z below #[Value.ref b] s) (F0 m 576 ls [])) : W p l e room_1 s m #[Value.ref b] below meth c H locs (22 + j) (8616 + 6 * j) (lw_Z below #[Value.ref b] s) (F0 m 432 ls []) := by
  obtain ⟨C0, hK, hF⟩ := X
  obtain ⟨hx, hb, hr, hml, hown, hts, hX, hbl, hlocks, hgv⟩ := id C0
  have hbA : ¬ lwA s b := Nat.not_le.mpr hbl
  have hA : ∀ q : Nat, s.heap.size ≤ q → lwA s q := fun _ h => h
  have S : CallFix p m c cL_law 7 s #[Value.ref b] sw_tb RL := ⟨hx, hb, hml, hown, fun w h => hts w (List.mem_filter.mp h).1⟩
  have hKc : va_K (dC, dI) vwCl [(cI, .int)] s := hK.sub [0] rfl
  have hc1 : 22 + j + 1 ≤ room_1.cells := by show _ ≤ 1055; omega
  have hs1 : 8616 + 6 * j + 6 ≤ room_1.slots := by show _ ≤ 16862; omega
  have hc0 : 22 + j ≤ room_1.cells := by omega
  have hs0 : 8616 + 6 * j ≤ room_1.slots := by omega
  have hcall := p_run (r := r) (tr := tr) hI (by omega) (xs (nI (4 * j) + 1).toNatClampNeg)
  rcases hcall with ⟨q, v, tr2, hx1, hq, hg⟩ | ⟨-, v, tr2, t', c', hf, hg, hI', ht'⟩
  · rcases hq with rfl | rfl
    · refine lv_aload_n hx hb dL_law_432 rfl (lv_at hl 1 rfl) ?_
      refine lv_aload_n hx hb dL_law_433 rfl (lv_at hl 0 rfl) ?_
      refine lv_iload hx hb dL_law_434 (lv_at hl 4 rfl) ?_
      refine lv_iconst (v := 1) hx hb dL_law_436 (by decide) ?_
      refine lv_iadd hx hb dL_law_437 ?_
      refine va_sld hx hb hX hbl hbA hS (lw_in (k := 1) hj hL (by decide)) dL_law_438 ?_
      refine lv_aload_n hx hb dL_law_439 rfl (lv_at hl 3 rfl) ?_
      refine sg_hi (rest := []) S t_good hK hA hF (hL_run_1 hst hx1) calL_run h2 hS ⟨by decide, by decide⟩ ⟨hc1, hs1⟩ rfl hl.1 rfl (Nat.le_of_ble_eq_true rfl) dL_law_440 (fun H locs h2 hS => ?_)
      refine lv_istore (lv' := [(5, .int 1), (0, .ref b), (1, .ref (aC 0)), (2, .ref (aM 0)), (3, .ref o), (4, .int (nI (4 * j)))]) hx hb dL_law_443 hl (by decide) rfl (fun ls hl => ?_)
      refine lv_aload_n hx hb dL_law_445 rfl (lv_at hl 3 rfl) ?_
      refine lv_aload_n hx hb dL_law_446 rfl (lv_at hl 1 rfl) ?_
      refine lv_iload hx hb dL_law_447 (lv_at hl 5 rfl) ?_
      refine lv_iconst (v := 1) hx hb dL_law_449 (by decide) ?_
      refine lv_iadd hx hb dL_law_450 ?_
      refine va_sld hx hb hX hbl hbA hS (lw_in (k := 1) hj hL (by decide)) dL_law_451 ?_
      refine sg_vi (rest := []) S m_good hKc hA trivial (cX9_run_m hg) calX9_run lk_X9_run h2.symm hS 0 9 rfl rfl rfl ⟨by decide, by decide⟩ ⟨hc1, hs1⟩ rfl hl.1 rfl (Nat.le_of_ble_eq_true rfl) dL_law_452 (fun H locs h2 hS => ?_)
      refine lv_istore (lv' := [(6, .int v), (5, .int 1), (0, .ref b), (1, .ref (aC 0)), (2, .ref (aM 0)), (3, .ref o), (4, .int (nI (4 * j)))]) hx hb dL_law_455 hl (by decide) rfl (fun ls hl => ?_)
      refine lv_aload_n hx hb dL_law_457 rfl (lv_at hl 4 rfl) ?_
      refine sg_vi (rest := []) S m_good hKc hA trivial (cX9_thrown_m rfl) calX9_thrown lk_X9_thrown h2 hS 0 9 rfl rfl rfl ⟨by decide, by decide⟩ ⟨hc1, hs1⟩ rfl hl.1 rfl (Nat.le_of_ble_eq_true rfl) dL_law_458 (fun H locs h2 hS => ?_)
      refine lv_iload hx hb dL_law_461 (lv_at hl 1 rfl) ?_
      refine lv_icmp_eq (tgt := 468) hx hb dL_law_463 (by decide) (fun _ => ?_) (fun c => absurd rfl c)
      refine lv_iload hx hb dL_law_468 (lv_at hl 1 rfl) ?_
      refine lv_if_ne (tgt := 492) hx hb dL_law_470 (by decide) (fun _ => ?_) (fun c => absurd c (by decide))
      refine lv_goto (tgt := 576) hx hb dL_law_492 (by decide) ?_
      refine W.widen (k := 22 + (j + 1)) (n := 8616 + 6 * (j + 1)) (by omega) (by omega) ?_
      exact kk t c0 1 _ g H locs ls hI (by omega) h2.symm hS (lv_sub hl [2, 3, 4, 5, 6] rfl)
    · exact absurd hx1 no2_run
  · refine lv_aload_n hx hb dL_law_432 rfl (lv_at hl 1 rfl) ?_
    refine lv_aload_n hx hb dL_law_433 rfl (lv_at hl 0 rfl) ?_
    refine lv_iload hx hb dL_law_434 (lv_at hl 4 rfl) ?_
    refine lv_iconst (v := 1) hx hb dL_law_436 (by decide) ?_
    refine lv_iadd hx hb dL_law_437 ?_
    refine va_sld hx hb hX hbl hbA hS (lw_in (k := 1) hj hL (by decide)) dL_law_438 ?_
    refine lv_aload_n hx hb dL_law_439 rfl (lv_at hl 3 rfl) ?_
    refine sg_hi (rest := []) S t_good hK hA hF (hL_run hf) calL_run h2 hS ⟨by decide, by decide⟩ ⟨hc1, hs1⟩ rfl hl.1 rfl (Nat.le_of_ble_eq_true rfl) dL_law_440 (fun H locs h2 hS => ?_)
    refine lv_istore (lv' := [(5, .int 0), (0, .ref b), (1, .ref (aC 0)), (2, .ref (aM 0)), (3, .ref o), (4, .int (nI (4 * j)))]) hx hb dL_law_443 hl (by decide) rfl (fun ls hl => ?_)
    refine lv_aload_n hx hb dL_law_445 rfl (lv_at hl 3 rfl) ?_
    refine lv_aload_n hx hb dL_law_446 rfl (lv_at hl 1 rfl) ?_
    refine lv_iload hx hb dL_law_447 (lv_at hl 5 rfl) ?_
    refine lv_iconst (v := 1) hx hb dL_law_449 (by decide) ?_
    refine lv_iadd hx hb dL_law_450 ?_
    refine va_sld hx hb hX hbl hbA hS (lw_in (k := 1) hj hL (by decide)) dL_law_451 ?_
    refine sg_vi (rest := []) S m_good hKc hA trivial (cX9_run_m hg) calX9_run lk_X9_run h2.symm hS 0 9 rfl rfl rfl ⟨by decide, by decide⟩ ⟨hc1, hs1⟩ rfl hl.1 rfl (Nat.le_of_ble_eq_true rfl) dL_law_452 (fun H locs h2 hS => ?_)
    refine lv_istore (lv' := [(6, .int v), (5, .int 0), (0, .ref b), (1, .ref (aC 0)), (2, .ref (aM 0)), (3, .ref o), (4, .int (nI (4 * j)))]) hx hb dL_law_455 hl (by decide) rfl (fun ls hl => ?_)
    refine lv_aload_n hx hb dL_law_457 rfl (lv_at hl 4 rfl) ?_
    refine sg_vi (rest := []) S m_good hKc hA trivial (cX9_thrown_m rfl) calX9_thrown lk_X9_thrown h2 hS 0 9 rfl rfl rfl ⟨by decide, by decide⟩ ⟨hc1, hs1⟩ rfl hl.1 rfl (Nat.le_of_ble_eq_true rfl) dL_law_458 (fun H locs h2 hS => ?_)
    refine lv_iload hx hb dL_law_461 (lv_at hl 1 rfl) ?_
    refine lv_icmp_eq (tgt := 468) hx hb dL_law_463 (by decide) (fun _ => ?_) (fun c => absurd rfl c)
    refine lv_iload hx hb dL_law_468 (lv_at hl 1 rfl) ?_
    refine lv_if_ne (tgt := 492) hx hb dL_law_470 (by decide) (fun c => absurd rfl c) (fun _ => ?_)
    refine lv_aload_n hx hb dL_law_473 rfl (lv_at hl 5 rfl) ?_
    refine lv_iconst (v := 0) hx hb dL_law_474 (by decide) ?_
    refine va_lald hx hb hK h2.2.1 14 1 rfl rfl (by unfold vp_in; decide) dL_law_475 ?_
    refine lv_iload hx hb dL_law_476 (lv_at hl 0 rfl) ?_
    rw [upd0]
    have hend : W p l e room_1 s m #[Value.ref b] below meth c H locs (22 + j + 1) (8616 + 6 * j + 6) (lw_Z below #[Value.ref b] s) (F0 m 487 ls [.int 0]) := by
      refine lv_if_eq (tgt := 492) hx hb dL_law_487 (by decide) (fun _ => ?_) (fun c => absurd rfl c)
      refine lv_goto (tgt := 576) hx hb dL_law_492 (by decide) ?_
      refine W.widen (k := 22 + (j + 1)) (n := 8616 + 6 * (j + 1)) (by omega) (by omega) ?_
      exact kk t' c' 0 _ (vp_updL g 0 (if v = 0 then (0 : Int64) else 1)) H locs ls hI' (by omega) h2.symm hS (lv_sub hl [2, 3, 4, 5, 6] rfl)
    refine lv_if_eq (tgt := 485) hx hb dL_law_478 (by decide) (fun hv => ?_) (fun hv => ?_)
    · rw [if_pos hv]
      refine lv_lconst (v := 0) hx hb dL_law_485 rfl ?_
      exact xl_lcmpE hx hb dL_law_486 hend
    · rw [if_neg hv]
      refine lv_lconst (v := 1) hx hb dL_law_481 rfl ?_
      refine lv_goto (tgt := 486) hx hb dL_law_482 (by decide) ?_
      exact xl_lcmpE hx hb dL_law_486 hend
set_option maxHeartbeats 4000000 in
set_option maxRecDepth 100000 in
theorem law_count {p : Program} {l : Launch} {e : Env} {s : State} {m : MethodId} {below : List Frame} {meth : Method} {c : Code} {b L j t : Nat} {xs : Nat → Int32} {dC : Nat → ClassId} {dI : Nat → Nat → Nat} {cI cL : ClassId} {aC aM : Nat → Nat} {o : Nat} {c0 : zS} {r tr : Int32} {g : Nat → Int64} {H : Heap} {locs : List Loc} {ls : Array Slot} (hst : l.stackTraces = false) (X : lwX p s m meth c b L xs dC dI cI cL) (hj : 4 * j + 4 ≤ L) (hL : L ≤ 2048) (hI : Iv t c0) (ht : t ≤ 20060 * j) (h2 : lwI s dC dI cI cL aC aM o c0 r tr g H) (hS : va_S (lwA s) s.heap H locs) (hl : lwL ls j b aC aM o) (kk : ∀ (t' : Nat) (c' : zS) (r' tr' : Int32) (g' : Nat → Int64) (H : Heap) (locs : List Loc) (ls : Array Slot), Iv t' c' → t' ≤ t + 20060 → lwI s dC dI cI cL aC aM o c' r' tr' g' H → va_S (lwA s) s.heap H locs → lwL ls j b aC aM o → W p l e room_1 s m #[Value.ref b] below meth c H locs (22 + (j + 1)) (8616 + 6 * (j + 1)) (lw_Z below #[Value.ref b] s) (F0 m 576 ls [])) : W p l e room_1 s m #[Value.ref b] below meth c H locs (22 + j) (8616 + 6 * j) (lw_Z below #[Value.ref b] s) (F0 m 495 ls []) := by
  obtain ⟨C0, hK, hF⟩ := X
  obtain ⟨hx, hb, hr, hml, hown, hts, hX, hbl, hlocks, hgv⟩ := id C0
  have hbA : ¬ lwA s b := Nat.not_le.mpr hbl
  have hA : ∀ q : Nat, s.heap.size ≤ q → lwA s q := fun _ h => h
  have S : CallFix p m c cL_law 7 s #[Value.ref b] sw_tb RL := ⟨hx, hb, hml, hown, fun w h => hts w (List.mem_filter.mp h).1⟩
  have hKc : va_K (dC, dI) vwCl [(cI, .int)] s := hK.sub [0] rfl
  have hc1 : 22 + j + 1 ≤ room_1.cells := by show _ ≤ 1055; omega
  have hs1 : 8616 + 6 * j + 6 ≤ room_1.slots := by show _ ≤ 16862; omega
  have hc0 : 22 + j ≤ room_1.cells := by omega
  have hs0 : 8616 + 6 * j ≤ room_1.slots := by omega
  have hcall := p_count (r := r) (tr := tr) hI (xs (nI (4 * j) + 1).toNatClampNeg)
  rcases hcall with ⟨q, v, tr2, hx1, hq, hg⟩ | ⟨-, v, tr2, t', c', hf, hg, hI', ht'⟩
  · rcases hq with rfl | rfl
    · refine lv_aload_n hx hb dL_law_495 rfl (lv_at hl 1 rfl) ?_
      refine lv_aload_n hx hb dL_law_496 rfl (lv_at hl 0 rfl) ?_
      refine lv_iload hx hb dL_law_497 (lv_at hl 4 rfl) ?_
      refine lv_iconst (v := 1) hx hb dL_law_499 (by decide) ?_
      refine lv_iadd hx hb dL_law_500 ?_
      refine va_sld hx hb hX hbl hbA hS (lw_in (k := 1) hj hL (by decide)) dL_law_501 ?_
      refine lv_aload_n hx hb dL_law_502 rfl (lv_at hl 3 rfl) ?_
      refine sg_hi (rest := []) S t_good hK hA hF (hL_count_1 hst hx1) calL_count h2 hS ⟨by decide, by decide⟩ ⟨hc1, hs1⟩ rfl hl.1 rfl (Nat.le_of_ble_eq_true rfl) dL_law_503 (fun H locs h2 hS => ?_)
      refine lv_istore (lv' := [(5, .int 1), (0, .ref b), (1, .ref (aC 0)), (2, .ref (aM 0)), (3, .ref o), (4, .int (nI (4 * j)))]) hx hb dL_law_506 hl (by decide) rfl (fun ls hl => ?_)
      refine lv_aload_n hx hb dL_law_508 rfl (lv_at hl 3 rfl) ?_
      refine lv_aload_n hx hb dL_law_509 rfl (lv_at hl 1 rfl) ?_
      refine lv_iload hx hb dL_law_510 (lv_at hl 5 rfl) ?_
      refine lv_iconst (v := 1) hx hb dL_law_512 (by decide) ?_
      refine lv_iadd hx hb dL_law_513 ?_
      refine va_sld hx hb hX hbl hbA hS (lw_in (k := 1) hj hL (by decide)) dL_law_514 ?_
      refine sg_vi (rest := []) S m_good hKc hA trivial (cX9_count_m hg) calX9_count lk_X9_count h2.symm hS 0 9 rfl rfl rfl ⟨by decide, by decide⟩ ⟨hc1, hs1⟩ rfl hl.1 rfl (Nat.le_of_ble_eq_true rfl) dL_law_515 (fun H locs h2 hS => ?_)
      refine lv_istore (lv' := [(6, .int v), (5, .int 1), (0, .ref b), (1, .ref (aC 0)), (2, .ref (aM 0)), (3, .ref o), (4, .int (nI (4 * j)))]) hx hb dL_law_518 hl (by decide) rfl (fun ls hl => ?_)
      refine lv_aload_n hx hb dL_law_520 rfl (lv_at hl 4 rfl) ?_
      refine sg_vi (rest := []) S m_good hKc hA trivial (cX9_thrown_m rfl) calX9_thrown lk_X9_thrown h2 hS 0 9 rfl rfl rfl ⟨by decide, by decide⟩ ⟨hc1, hs1⟩ rfl hl.1 rfl (Nat.le_of_ble_eq_true rfl) dL_law_521 (fun H locs h2 hS => ?_)
      refine lv_iload hx hb dL_law_524 (lv_at hl 1 rfl) ?_
      refine lv_icmp_eq (tgt := 531) hx hb dL_law_526 (by decide) (fun _ => ?_) (fun c => absurd rfl c)
      refine lv_iload hx hb dL_law_531 (lv_at hl 1 rfl) ?_
      refine lv_if_ne (tgt := 548) hx hb dL_law_533 (by decide) (fun _ => ?_) (fun c => absurd c (by decide))
      refine lv_goto (tgt := 576) hx hb dL_law_548 (by decide) ?_
      refine W.widen (k := 22 + (j + 1)) (n := 8616 + 6 * (j + 1)) (by omega) (by omega) ?_
      exact kk t c0 1 _ g H locs ls hI (by omega) h2.symm hS (lv_sub hl [2, 3, 4, 5, 6] rfl)
    · exact absurd hx1 no2_count
  · refine lv_aload_n hx hb dL_law_495 rfl (lv_at hl 1 rfl) ?_
    refine lv_aload_n hx hb dL_law_496 rfl (lv_at hl 0 rfl) ?_
    refine lv_iload hx hb dL_law_497 (lv_at hl 4 rfl) ?_
    refine lv_iconst (v := 1) hx hb dL_law_499 (by decide) ?_
    refine lv_iadd hx hb dL_law_500 ?_
    refine va_sld hx hb hX hbl hbA hS (lw_in (k := 1) hj hL (by decide)) dL_law_501 ?_
    refine lv_aload_n hx hb dL_law_502 rfl (lv_at hl 3 rfl) ?_
    refine sg_hi (rest := []) S t_good hK hA hF (hL_count hf) calL_count h2 hS ⟨by decide, by decide⟩ ⟨hc1, hs1⟩ rfl hl.1 rfl (Nat.le_of_ble_eq_true rfl) dL_law_503 (fun H locs h2 hS => ?_)
    refine lv_istore (lv' := [(5, .int 0), (0, .ref b), (1, .ref (aC 0)), (2, .ref (aM 0)), (3, .ref o), (4, .int (nI (4 * j)))]) hx hb dL_law_506 hl (by decide) rfl (fun ls hl => ?_)
    refine lv_aload_n hx hb dL_law_508 rfl (lv_at hl 3 rfl) ?_
    refine lv_aload_n hx hb dL_law_509 rfl (lv_at hl 1 rfl) ?_
    refine lv_iload hx hb dL_law_510 (lv_at hl 5 rfl) ?_
    refine lv_iconst (v := 1) hx hb dL_law_512 (by decide) ?_
    refine lv_iadd hx hb dL_law_513 ?_
    refine va_sld hx hb hX hbl hbA hS (lw_in (k := 1) hj hL (by decide)) dL_law_514 ?_
    refine sg_vi (rest := []) S m_good hKc hA trivial (cX9_count_m hg) calX9_count lk_X9_count h2.symm hS 0 9 rfl rfl rfl ⟨by decide, by decide⟩ ⟨hc1, hs1⟩ rfl hl.1 rfl (Nat.le_of_ble_eq_true rfl) dL_law_515 (fun H locs h2 hS => ?_)
    refine lv_istore (lv' := [(6, .int v), (5, .int 0), (0, .ref b), (1, .ref (aC 0)), (2, .ref (aM 0)), (3, .ref o), (4, .int (nI (4 * j)))]) hx hb dL_law_518 hl (by decide) rfl (fun ls hl => ?_)
    refine lv_aload_n hx hb dL_law_520 rfl (lv_at hl 4 rfl) ?_
    refine sg_vi (rest := []) S m_good hKc hA trivial (cX9_thrown_m rfl) calX9_thrown lk_X9_thrown h2 hS 0 9 rfl rfl rfl ⟨by decide, by decide⟩ ⟨hc1, hs1⟩ rfl hl.1 rfl (Nat.le_of_ble_eq_true rfl) dL_law_521 (fun H locs h2 hS => ?_)
    refine lv_iload hx hb dL_law_524 (lv_at hl 1 rfl) ?_
    refine lv_icmp_eq (tgt := 531) hx hb dL_law_526 (by decide) (fun _ => ?_) (fun c => absurd rfl c)
    refine lv_iload hx hb dL_law_531 (lv_at hl 1 rfl) ?_
    refine lv_if_ne (tgt := 548) hx hb dL_law_533 (by decide) (fun c => absurd rfl c) (fun _ => ?_)
    refine lv_aload_n hx hb dL_law_536 rfl (lv_at hl 5 rfl) ?_
    refine lv_iconst (v := 0) hx hb dL_law_537 (by decide) ?_
    refine va_lald hx hb hK h2.2.1 14 1 rfl rfl (by unfold vp_in; decide) dL_law_538 ?_
    refine lv_iload hx hb dL_law_539 (lv_at hl 0 rfl) ?_
    refine lv_i2l hx hb dL_law_541 rfl ?_
    rw [upd0]
    refine xl_lcmpE hx hb dL_law_542 ?_
    refine lv_if_eq (tgt := 548) hx hb dL_law_543 (by decide) (fun _ => ?_) (fun c => absurd rfl c)
    refine lv_goto (tgt := 576) hx hb dL_law_548 (by decide) ?_
    refine W.widen (k := 22 + (j + 1)) (n := 8616 + 6 * (j + 1)) (by omega) (by omega) ?_
    exact kk t' c' 0 _ (vp_updL g 0 v.toInt64) H locs ls hI' (by omega) h2.symm hS (lv_sub hl [2, 3, 4, 5, 6] rfl)
set_option maxHeartbeats 4000000 in
set_option maxRecDepth 100000 in
theorem law_change {p : Program} {l : Launch} {e : Env} {s : State} {m : MethodId} {below : List Frame} {meth : Method} {c : Code} {b L j t : Nat} {xs : Nat → Int32} {dC : Nat → ClassId} {dI : Nat → Nat → Nat} {cI cL : ClassId} {aC aM : Nat → Nat} {o : Nat} {c0 : zS} {r tr : Int32} {g : Nat → Int64} {H : Heap} {locs : List Loc} {ls : Array Slot} (hst : l.stackTraces = false) (X : lwX p s m meth c b L xs dC dI cI cL) (hj : 4 * j + 4 ≤ L) (hL : L ≤ 2048) (hI : Iv t c0) (ht : t ≤ 20060 * j) (h2 : lwI s dC dI cI cL aC aM o c0 r tr g H) (hS : va_S (lwA s) s.heap H locs) (hl : lwL ls j b aC aM o) (kk : ∀ (t' : Nat) (c' : zS) (r' tr' : Int32) (g' : Nat → Int64) (H : Heap) (locs : List Loc) (ls : Array Slot), Iv t' c' → t' ≤ t + 20060 → lwI s dC dI cI cL aC aM o c' r' tr' g' H → va_S (lwA s) s.heap H locs → lwL ls j b aC aM o → W p l e room_1 s m #[Value.ref b] below meth c H locs (22 + (j + 1)) (8616 + 6 * (j + 1)) (lw_Z below #[Value.ref b] s) (F0 m 576 ls [])) : W p l e room_1 s m #[Value.ref b] below meth c H locs (22 + j) (8616 + 6 * j) (lw_Z below #[Value.ref b] s) (F0 m 551 ls []) := by
  obtain ⟨C0, hK, hF⟩ := X
  obtain ⟨hx, hb, hr, hml, hown, hts, hX, hbl, hlocks, hgv⟩ := id C0
  have hbA : ¬ lwA s b := Nat.not_le.mpr hbl
  have hA : ∀ q : Nat, s.heap.size ≤ q → lwA s q := fun _ h => h
  have S : CallFix p m c cL_law 7 s #[Value.ref b] sw_tb RL := ⟨hx, hb, hml, hown, fun w h => hts w (List.mem_filter.mp h).1⟩
  have hKc : va_K (dC, dI) vwCl [(cI, .int)] s := hK.sub [0] rfl
  have hc1 : 22 + j + 1 ≤ room_1.cells := by show _ ≤ 1055; omega
  have hs1 : 8616 + 6 * j + 6 ≤ room_1.slots := by show _ ≤ 16862; omega
  have hc0 : 22 + j ≤ room_1.cells := by omega
  have hs0 : 8616 + 6 * j ≤ room_1.slots := by omega
  have hcall := p_change (r := r) (tr := tr) hI (by omega) (xs (nI (4 * j) + 1).toNatClampNeg)
  rcases hcall with ⟨q, v, tr2, hx1, -, -⟩ | ⟨-, v, tr2, t', c', hf, hg, hI', ht'⟩
  · cases hx1
  · refine lv_aload_n hx hb dL_law_551 rfl (lv_at hl 1 rfl) ?_
    refine lv_aload_n hx hb dL_law_552 rfl (lv_at hl 0 rfl) ?_
    refine lv_iload hx hb dL_law_553 (lv_at hl 4 rfl) ?_
    refine lv_iconst (v := 1) hx hb dL_law_555 (by decide) ?_
    refine lv_iadd hx hb dL_law_556 ?_
    refine va_sld hx hb hX hbl hbA hS (lw_in (k := 1) hj hL (by decide)) dL_law_557 ?_
    obtain ⟨hP, hD⟩ := h2.app
    have h3 := sg_2.spl (a := cW aC cI c0) (b := oW o cL g ++ mW aM cI (al c0 (rF r) tr)) hP hD
    refine sg_vi (rest := []) S c_good hKc hA hF.1 (cX8_change_m hf) calX8_change lk_X8_change h3 hS 0 8 rfl rfl rfl ⟨by decide, by decide⟩ ⟨hc0, hs0⟩ rfl hl.1 rfl (Nat.le_of_ble_eq_true rfl) dL_law_558 (fun H locs h3 hS => ?_)
    obtain ⟨hP, hD⟩ := h3.app
    have h2 := sg_2.spl (a := cW aC cI c' ++ oW o cL g) (b := mW aM cI (al c0 (rF r) tr)) hP hD
    refine lv_aload_n hx hb dL_law_561 rfl (lv_at hl 2 rfl) ?_
    refine lv_aload_n hx hb dL_law_562 rfl (lv_at hl 0 rfl) ?_
    refine lv_iload hx hb dL_law_563 (lv_at hl 4 rfl) ?_
    refine lv_iconst (v := 1) hx hb dL_law_565 (by decide) ?_
    refine lv_iadd hx hb dL_law_566 ?_
    refine va_sld hx hb hX hbl hbA hS (lw_in (k := 1) hj hL (by decide)) dL_law_567 ?_
    refine sg_vi (rest := [.int v]) S m_good hKc hA trivial (cX9_change_m hg) calX9_change lk_X9_change h2.symm hS 0 9 rfl rfl rfl ⟨by decide, by decide⟩ ⟨hc0, hs0⟩ rfl hl.1 rfl (Nat.le_of_ble_eq_true rfl) dL_law_568 (fun H locs h2 hS => ?_)
    refine lv_icmp_eq (tgt := 576) hx hb dL_law_571 (by decide) (fun _ => ?_) (fun c => absurd rfl c)
    refine W.widen (k := 22 + (j + 1)) (n := 8616 + 6 * (j + 1)) (by omega) (by omega) ?_
    exact kk t' c' 0 _ g H locs ls hI' (by omega) h2.symm hS hl
