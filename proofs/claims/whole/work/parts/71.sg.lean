/-! CALLS FROM A LARGER WORLD: the callee's cells beside others -/
def sg_2 (D : va_G) (cl : List vw_C) (A : Nat → Prop) (a b : va_W) (H : Heap) : Prop := va_P D cl a H ∧ va_P D cl b H ∧ va_D A a ∧ va_D A b ∧ (∀ (i j : Nat) (x y : Nat × va_E), a[i]? = some x → b[j]? = some y → x.1 ≠ y.1)
theorem sg_2.symm {D : va_G} {cl : List vw_C} {A : Nat → Prop} {a b : va_W} {H : Heap} (h : sg_2 D cl A a b H) : sg_2 D cl A b a H := ⟨h.2.1, h.1, h.2.2.2.1, h.2.2.1, fun i j x y hx hy e => h.2.2.2.2 j i y x hy hx e.symm⟩
theorem sg_2.one {D : va_G} {cl : List vw_C} {A : Nat → Prop} {a : va_W} {H : Heap} (hP : va_P D cl a H) (hD : va_D A a) : sg_2 D cl A a [] H := ⟨hP, fun k q h => by simp at h, hD, ⟨fun i j p q h => by simp at h, fun k q h => by simp at h⟩, fun i j x y _ h => by simp at h⟩
theorem sg_2.app {D : va_G} {cl : List vw_C} {A : Nat → Prop} {a b : va_W} {H : Heap} (h : sg_2 D cl A a b H) : va_P D cl (a ++ b) H ∧ va_D A (a ++ b) := ⟨va_P.app h.1 h.2.1, va_D.app h.2.2.1 h.2.2.2.1 (fun i j x y hx hy e => h.2.2.2.2 i j x y hx hy e)⟩
theorem sg_2.spl {D : va_G} {cl : List vw_C} {A : Nat → Prop} {a b : va_W} {H : Heap} (hP : va_P D cl (a ++ b) H) (hD : va_D A (a ++ b)) : sg_2 D cl A a b H := by
  have ea : ∀ (k : Nat) (q : Nat × va_E), a[k]? = some q → (a ++ b)[k]? = some q := fun k q h => by rw [List.getElem?_append_left (List.getElem?_eq_some_iff.mp h).1]; exact h
  have eb : ∀ (k : Nat) (q : Nat × va_E), b[k]? = some q → (a ++ b)[a.length + k]? = some q := fun k q h => by rw [List.getElem?_append_right (by omega), show a.length + k - a.length = k by omega]; exact h
  refine ⟨fun k q h => hP k q (ea k q h), fun k q h => hP _ q (eb k q h), ⟨fun i j x y hx hy e => hD.1 i j x y (ea _ _ hx) (ea _ _ hy) e, fun k q h => hD.2 k q (ea k q h)⟩, ⟨fun i j x y hx hy e => by have := hD.1 _ _ x y (eb _ _ hx) (eb _ _ hy) e; omega, fun k q h => hD.2 _ q (eb k q h)⟩, fun i j x y hx hy e => ?_⟩
  have h1 := hD.1 _ _ x y (ea _ _ hx) (eb _ _ hy) e
  have h2 := (List.getElem?_eq_some_iff.mp hx).1
  omega
theorem sg_2.next {D : va_G} {cl : List vw_C} {A : Nat → Prop} {a b w2 : va_W} {H H1 : Heap} (h : sg_2 D cl A a b H) (hk : ∀ q : Nat, q < H.size → ¬ va_A a H.size q → H1[q]? = H[q]?) (hF : ∀ q, va_A a H.size q → A q) (hP1 : va_P D cl w2 H1) (hD1 : va_D (va_A a H.size) w2) : sg_2 D cl A w2 b H1 := by
  obtain ⟨h1, h2, h3, h4, h5⟩ := h
  have apart : ∀ (k : Nat) (q : Nat × va_E), b[k]? = some q → q.1 < H.size ∧ ¬ va_A a H.size q.1 := by
    intro k q hq
    have hl := (h2 k q hq).lt
    refine ⟨hl, fun h => ?_⟩
    rcases h with ⟨k2, e, h⟩ | h
    · exact h5 k2 k (q.1, e) q h hq rfl
    · omega
  refine ⟨hP1, fun k q hq => (h2 k q hq).kept (hk q.1 (apart k q hq).1 (apart k q hq).2), hD1.weaken (fun k q _ h => hF q.1 h), h4, fun i j x y hx hy e => ?_⟩
  exact (apart j y hy).2 (by rw [← e]; exact hD1.2 i x hx)
section SG
variable {p : Program} {l : Launch} {e : Env} {R : Room} {s : State} {m : MethodId} {args : Array Value} {below : List Frame} {meth : Method} {c : Code} {H : Heap} {locs : List Loc} {cells slots : Nat} {Q : State → Prop}
variable {cc : ByteArray} {nL : Nat} {own : String} {D : va_G} {cl : List vw_C} {tys : List (ClassId × FieldType)} {F : (Nat → Prop) → State → Heap → Prop} {A : Nat → Prop} {w w2 wr : va_W} {pc : Nat} {ls : Array Slot} {rest st : List Value}
theorem sg_pre {as : List Value} (hg : sw_good F) (hK : va_K D cl tys s) (hA : ∀ q : Nat, s.heap.size ≤ q → A q) (hF : F A s s.heap) (hP : va_P D cl w H) (hD : va_D A w) (hS : va_S A s.heap H locs) : ∀ U : State, U.heap = H → s.WarmedH U.vm → sw_Pc D cl tys F as w H.size as.toArray U := by
  intro U hU hW
  refine ⟨rfl, by rw [hU], by rw [hU]; exact hP, va_K.moved hW.alike hK, hD.weaken (fun _ _ _ _ => trivial), ?_⟩
  rw [hU]
  exact hg.2.2 _ _ _ _ (hg.1 _ _ _ _ hW.alike (hg.2.1 _ _ _ _ hF hS.2.1)) (sw_sub hA hD hS)
theorem sg_gin {y : MethodName} {cc : ByteArray} {nL : Nat} {ret : Option FieldType} (h : Cond.code y cc nL ret ∈ sw_tb) : GoodIn sw_tb (sw_ws y cc nL ret) := by
  intro w hw
  have hm : w ∈ sw_tb := by
    rcases List.mem_cons.mp hw with h1 | h1
    · rw [h1]; exact h
    · exact h1
  exact ⟨hm, good_of_word (List.mem_filter.mp hm).2⟩
theorem sg_vi {y : MethodName} {bytes : ByteArray} {maxL n index : Nat} {rt : Option FieldType} {f1 n1 : Nat} {b : Nat} {As : List Value} {r : Int32} (S : CallFix p m c cc nL s args sw_tb own) (hg : sw_good F) (hK : va_K D cl tys s) (hA : ∀ q : Nat, s.heap.size ≤ q → A q) (hF : F A s s.heap) (hM : sw_Mi l y (sw_ws y bytes maxL rt) (sw_rm f1 n1) D cl tys F (.ref b :: As) w w2 r) (hc : sw_calV y bytes maxL rt n) (hlk : Cond.methodLink own index y ∈ sw_tb)
    (h2 : sg_2 D cl A w wr H) (hS : va_S A s.heap H locs) (q0 ci : Nat) {fs : List Value} (he : w[q0]? = some (b, .inr (ci, fs))) {q : vw_C} (hci : cl[ci]? = some q) (hq : q.1 = y.cls) (hR : f1 + 1 ≤ R.frames ∧ 8 + (maxL + 11) + n1 ≤ R.locals) (hf : cells ≤ R.cells ∧ slots ≤ R.slots) (hn : As.length = n) (hl : ls.size = nL) (hst : st = As.reverse ++ .ref b :: rest) (hw : (rest.map fun v => v.category).sum ≤ 8) (hdg : decode cc pc = .ok (.invokevirtual index, 3))
    (kk : ∀ (H1 : Heap) (locs1 : List Loc), sg_2 D cl A w2 wr H1 → va_S A s.heap H1 locs1 → W p l e R s m args below meth c H1 locs1 cells slots Q (F0 m (pc + 3) ls (.int r :: rest))) : W p l e R s m args below meth c H locs cells slots Q (F0 m pc ls st) := by
  have hP := h2.1
  have hD := h2.2.2.1
  have hsb := sw_sub hA hD hS
  have hts := S.2.2.2.2
  obtain ⟨k1, k2, k3, k4, k5⟩ := hc
  have cw : CallW R s args own y.cls index y bytes maxL rt (sw_ws y bytes maxL rt) (sw_rm f1 n1) 0 0 n := ⟨callB_of n hts (sg_gin k1) rfl rfl rfl (hts _ k4) (hts _ hlk) k5 hR, hts _ k2, hts _ k3⟩
  refine va_calli (va_runV (C := y.cls) (As := As) (rest := rest) S (hM H.size) cw ⟨sw_blind hg, by rw [← hq]; exact va_recv hK hP hci he, sg_pre (as := .ref b :: As) hg hK hA hF hP hD hS⟩ rfl hn hl hst (lv_room hw) hdg hf) hS (fun q _ h => hsb q h) hsb (fun r9 u t H1 locs1 ht hvm hw9 hB hz1 hk1 hS1 => ?_)
  obtain ⟨hP1, hK1, hD1⟩ := hB
  rw [ht] at hP1
  subst hw9
  exact kk H1 locs1 (h2.next hk1 hsb hP1 hD1) hS1
theorem sg_vv {y : MethodName} {bytes : ByteArray} {maxL n index : Nat} {rt : Option FieldType} {f1 n1 : Nat} {b : Nat} {As : List Value} (S : CallFix p m c cc nL s args sw_tb own) (hg : sw_good F) (hK : va_K D cl tys s) (hA : ∀ q : Nat, s.heap.size ≤ q → A q) (hF : F A s s.heap) (hM : sw_Mv l y (sw_ws y bytes maxL rt) (sw_rm f1 n1) D cl tys F (.ref b :: As) w w2) (hc : sw_calV y bytes maxL rt n) (hlk : Cond.methodLink own index y ∈ sw_tb)
    (h2 : sg_2 D cl A w wr H) (hS : va_S A s.heap H locs) (q0 ci : Nat) {fs : List Value} (he : w[q0]? = some (b, .inr (ci, fs))) {q : vw_C} (hci : cl[ci]? = some q) (hq : q.1 = y.cls) (hR : f1 + 1 ≤ R.frames ∧ 8 + (maxL + 11) + n1 ≤ R.locals) (hf : cells ≤ R.cells ∧ slots ≤ R.slots) (hn : As.length = n) (hl : ls.size = nL) (hst : st = As.reverse ++ .ref b :: rest) (hw : (rest.map fun v => v.category).sum ≤ 8) (hdg : decode cc pc = .ok (.invokevirtual index, 3))
    (kk : ∀ (H1 : Heap) (locs1 : List Loc), sg_2 D cl A w2 wr H1 → va_S A s.heap H1 locs1 → W p l e R s m args below meth c H1 locs1 cells slots Q (F0 m (pc + 3) ls rest)) : W p l e R s m args below meth c H locs cells slots Q (F0 m pc ls st) := by
  have hP := h2.1
  have hD := h2.2.2.1
  have hsb := sw_sub hA hD hS
  have hts := S.2.2.2.2
  obtain ⟨k1, k2, k3, k4, k5⟩ := hc
  have cw : CallW R s args own y.cls index y bytes maxL rt (sw_ws y bytes maxL rt) (sw_rm f1 n1) 0 0 n := ⟨callB_of n hts (sg_gin k1) rfl rfl rfl (hts _ k4) (hts _ hlk) k5 hR, hts _ k2, hts _ k3⟩
  refine va_callv (va_runV (C := y.cls) (As := As) (rest := rest) S (hM H.size) cw ⟨sw_blind hg, by rw [← hq]; exact va_recv hK hP hci he, sg_pre (as := .ref b :: As) hg hK hA hF hP hD hS⟩ rfl hn hl hst (lv_room hw) hdg hf) hS (fun q _ h => hsb q h) hsb (fun u t H1 locs1 ht hvm hw9 hB hz1 hk1 hS1 => ?_)
  obtain ⟨hP1, hK1, hD1⟩ := hB
  rw [ht] at hP1
  exact kk H1 locs1 (h2.next hk1 hsb hP1 hD1) hS1
theorem sg_si {y : MethodName} {bytes : ByteArray} {maxL n index : Nat} {rt : Option FieldType} {f1 n1 : Nat} {As : List Value} {r : Int32} (S : CallFix p m c cc nL s args sw_tb own) (hg : sw_good F) (hK : va_K D cl tys s) (hA : ∀ q : Nat, s.heap.size ≤ q → A q) (hF : F A s s.heap) (hM : sw_Mi l y (sw_ws y bytes maxL rt) (sw_rm f1 n1) D cl tys F As w w2 r) (hc : sw_calS y bytes maxL rt n) (hlk : Cond.methodLink own index y ∈ sw_tb)
    (h2 : sg_2 D cl A w wr H) (hS : va_S A s.heap H locs) (hR : f1 + 1 ≤ R.frames ∧ 8 + (maxL + 11) + n1 ≤ R.locals) (hf : cells ≤ R.cells ∧ slots ≤ R.slots) (hn : As.length = n) (hl : ls.size = nL) (hst : st = As.reverse ++ rest) (hw : (rest.map fun v => v.category).sum ≤ 8) (hdg : decode cc pc = .ok (.invokestatic index, 3))
    (kk : ∀ (H1 : Heap) (locs1 : List Loc), sg_2 D cl A w2 wr H1 → va_S A s.heap H1 locs1 → W p l e R s m args below meth c H1 locs1 cells slots Q (F0 m (pc + 3) ls (.int r :: rest))) : W p l e R s m args below meth c H locs cells slots Q (F0 m pc ls st) := by
  have hP := h2.1
  have hD := h2.2.2.1
  have hsb := sw_sub hA hD hS
  have hts := S.2.2.2.2
  obtain ⟨k1, k2, k4, k5⟩ := hc
  have cw : CallB R s args own index y bytes maxL rt (sw_ws y bytes maxL rt) (sw_rm f1 n1) 0 0 n ∧ (Cond.static y).before args s = true := ⟨callB_of n hts (sg_gin k1) rfl rfl rfl (hts _ k4) (hts _ hlk) k5 hR, hts _ k2⟩
  refine va_calli (va_runS (As := As) (rest := rest) S (hM H.size) cw ⟨sw_blind hg, sg_pre (as := As) hg hK hA hF hP hD hS⟩ rfl hn hl hst (lv_room hw) hdg hf) hS (fun q _ h => hsb q h) hsb (fun r9 u t H1 locs1 ht hvm hw9 hB hz1 hk1 hS1 => ?_)
  obtain ⟨hP1, hK1, hD1⟩ := hB
  rw [ht] at hP1
  subst hw9
  exact kk H1 locs1 (h2.next hk1 hsb hP1 hD1) hS1
end SG
