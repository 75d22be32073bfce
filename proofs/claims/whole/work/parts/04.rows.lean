/-! THE WORDS, ONE LIST FOR ALL METHODS; rows of a walk that keeps one world -/
def sw_tb : List Cond := lw_tbl.filter goodWord
abbrev sw_ws (y : MethodName) (cc : ByteArray) (nL : Nat) (ret : Option FieldType) : List Cond := Cond.code y cc nL ret :: sw_tb
theorem sw_in {w : Cond} (i : Nat) (h : tables_1[i]? = some w) (hg : goodWord w = true) : w ∈ sw_tb := List.mem_filter.mpr ⟨List.mem_append_right _ (List.mem_of_getElem? h), hg⟩
theorem sw_inp {w : Cond} (i : Nat) (h : (k2_sels lw_privs)[i]? = some w) (hg : goodWord w = true) : w ∈ sw_tb := List.mem_filter.mpr ⟨List.mem_append_left _ (List.mem_of_getElem? h), hg⟩
theorem sw_gin {y yo : MethodName} {cc co : ByteArray} {nL no : Nat} {ret ro : Option FieldType} (h : Cond.code y cc nL ret ∈ sw_tb) : GoodIn (sw_ws yo co no ro) (sw_ws y cc nL ret) := by
  intro w hw
  have hm : w ∈ sw_tb := by
    rcases List.mem_cons.mp hw with h1 | h1
    · rw [h1]; exact h
    · exact h1
  exact ⟨List.mem_cons_of_mem _ hm, good_of_word (List.mem_filter.mp hm).2⟩
def sw_calV (y : MethodName) (cc : ByteArray) (nL : Nat) (ret : Option FieldType) (n : Nat) : Prop := Cond.code y cc nL ret ∈ sw_tb ∧ Cond.instanceMethod y ∈ sw_tb ∧ Cond.selects y.cls y y ∈ sw_tb ∧ Cond.initialized y.cls ∈ sw_tb ∧ (y.cls ≠ "java/lang/invoke/MethodHandle" ∧ y.cls ≠ "java/lang/invoke/VarHandle" ∧ (parseMethodDescriptor y.desc).map (fun d => d.parameters.length) = some n)
def sw_calS (y : MethodName) (cc : ByteArray) (nL : Nat) (ret : Option FieldType) (n : Nat) : Prop := Cond.code y cc nL ret ∈ sw_tb ∧ Cond.static y ∈ sw_tb ∧ Cond.initialized y.cls ∈ sw_tb ∧ (y.cls ≠ "java/lang/invoke/MethodHandle" ∧ y.cls ≠ "java/lang/invoke/VarHandle" ∧ (parseMethodDescriptor y.desc).map (fun d => d.parameters.length) = some n)
abbrev sw_rm (f n : Nat) : Room := { frames := f, cells := 0, slots := 0, locals := n }
section SWR
variable {p : Program} {l : Launch} {e : Env} {R : Room} {s : State} {m : MethodId} {args : Array Value} {below : List Frame} {meth : Method} {c : Code} {H : Heap} {locs : List Loc} {cells slots : Nat} {Q : State → Prop}
variable {cc : ByteArray} {nL : Nat} {own : String} {ret ro : Option FieldType} {yo : MethodName} {D : va_G} {cl : List vw_C} {tys : List (ClassId × FieldType)} {F : (Nat → Prop) → State → Heap → Prop} {A : Nat → Prop} {w w2 : va_W} {pc : Nat} {ls : Array Slot} {rest st : List Value}
theorem sw_sub (hA : ∀ q : Nat, s.heap.size ≤ q → A q) (hD : va_D A w) (hS : va_S A s.heap H locs) : ∀ q, va_A w H.size q → A q := by
  intro q h
  rcases h with ⟨k, e, h⟩ | h
  · exact hD.2 k (q, e) h
  · exact hA q (Nat.le_trans hS.1 h)
theorem sw_pre {as : List Value} (hg : sw_good F) (X : sw_X p s m args meth c cc nL own ret (sw_ws yo cc nL ro) D cl tys F A) (hP : va_P D cl w H) (hD : va_D A w) (hS : va_S A s.heap H locs) : ∀ U : State, U.heap = H → s.WarmedH U.vm → sw_Pc D cl tys F as w H.size as.toArray U := by
  obtain ⟨-, -, -, hK, hA, hF⟩ := X
  intro U hU hW
  refine ⟨rfl, by rw [hU], by rw [hU]; exact hP, va_K.moved hW.alike hK, hD.weaken (fun _ _ _ _ => trivial), ?_⟩
  rw [hU]
  exact hg.2.2 _ _ _ _ (hg.1 _ _ _ _ hW.alike (hg.2.1 _ _ _ _ hF hS.2.1)) (sw_sub hA hD hS)
/-- a call of an instance method that answers an int -/
theorem sw_vi {y : MethodName} {bytes : ByteArray} {maxL n index : Nat} {rt : Option FieldType} {f1 n1 f0 n0 : Nat} {b : Nat} {As : List Value} {r : Int32} (hg : sw_good F) (X : sw_X p s m args meth c cc nL own ret (sw_ws yo cc nL ro) D cl tys F A) (hM : sw_Mi l y (sw_ws y bytes maxL rt) (sw_rm f1 n1) D cl tys F (.ref b :: As) w w2 r) (hc : sw_calV y bytes maxL rt n) (hlk : Cond.methodLink own index y ∈ sw_tb)
    (hP : va_P D cl w H) (hD : va_D A w) (hS : va_S A s.heap H locs) (q0 ci : Nat) {fs : List Value} (he : w[q0]? = some (b, .inr (ci, fs))) {q : vw_C} (hci : cl[ci]? = some q) (hq : q.1 = y.cls) (hR : Nat.ble (f1 + 1) f0 = true ∧ Nat.ble (8 + (maxL + 11) + n1) n0 = true) (hn : As.length = n) (hl : ls.size = nL) (hst : st = As.reverse ++ .ref b :: rest) (hw : (rest.map fun v => v.category).sum ≤ 8) (hdg : decode cc pc = .ok (.invokevirtual index, 3))
    (kk : ∀ (H1 : Heap) (locs1 : List Loc), va_P D cl w2 H1 → va_D A w2 → va_S A s.heap H1 locs1 → W p l e (sw_rm f0 n0) s m args below meth c H1 locs1 0 0 Q (F0 m (pc + 3) ls (.int r :: rest))) : W p l e (sw_rm f0 n0) s m args below meth c H locs 0 0 Q (F0 m pc ls st) := by
  have hsb := sw_sub X.2.2.2.2.1 hD hS
  have hts := X.1.2.2.2.2
  obtain ⟨k1, k2, k3, k4, k5⟩ := hc
  have cw : CallW (sw_rm f0 n0) s args own y.cls index y bytes maxL rt (sw_ws y bytes maxL rt) (sw_rm f1 n1) 0 0 n := ⟨callB_of n hts (sw_gin k1) rfl rfl rfl (hts _ (List.mem_cons_of_mem _ k4)) (hts _ (List.mem_cons_of_mem _ hlk)) k5 ⟨Nat.le_of_ble_eq_true hR.1, Nat.le_of_ble_eq_true hR.2⟩, hts _ (List.mem_cons_of_mem _ k2), hts _ (List.mem_cons_of_mem _ k3)⟩
  refine va_calli (va_runV (C := y.cls) (As := As) (rest := rest) X.1 (hM H.size) cw ⟨sw_blind hg, by rw [← hq]; exact va_recv X.2.2.2.1 hP hci he, sw_pre (as := .ref b :: As) hg X hP hD hS⟩ rfl hn hl hst (lv_room hw) hdg ⟨Nat.zero_le _, Nat.zero_le _⟩) hS (fun q _ h => hsb q h) hsb (fun r9 u t H1 locs1 ht hvm hw9 hB hz1 hk1 hS1 => ?_)
  obtain ⟨hP1, hK1, hD1⟩ := hB
  rw [ht] at hP1
  subst hw9
  exact kk H1 locs1 hP1 (hD1.weaken (fun k q _ h => hsb q.1 h)) hS1
/-- a call of an instance method that answers nothing -/
theorem sw_vv {y : MethodName} {bytes : ByteArray} {maxL n index : Nat} {rt : Option FieldType} {f1 n1 f0 n0 : Nat} {b : Nat} {As : List Value} (hg : sw_good F) (X : sw_X p s m args meth c cc nL own ret (sw_ws yo cc nL ro) D cl tys F A) (hM : sw_Mv l y (sw_ws y bytes maxL rt) (sw_rm f1 n1) D cl tys F (.ref b :: As) w w2) (hc : sw_calV y bytes maxL rt n) (hlk : Cond.methodLink own index y ∈ sw_tb)
    (hP : va_P D cl w H) (hD : va_D A w) (hS : va_S A s.heap H locs) (q0 ci : Nat) {fs : List Value} (he : w[q0]? = some (b, .inr (ci, fs))) {q : vw_C} (hci : cl[ci]? = some q) (hq : q.1 = y.cls) (hR : Nat.ble (f1 + 1) f0 = true ∧ Nat.ble (8 + (maxL + 11) + n1) n0 = true) (hn : As.length = n) (hl : ls.size = nL) (hst : st = As.reverse ++ .ref b :: rest) (hw : (rest.map fun v => v.category).sum ≤ 8) (hdg : decode cc pc = .ok (.invokevirtual index, 3))
    (kk : ∀ (H1 : Heap) (locs1 : List Loc), va_P D cl w2 H1 → va_D A w2 → va_S A s.heap H1 locs1 → W p l e (sw_rm f0 n0) s m args below meth c H1 locs1 0 0 Q (F0 m (pc + 3) ls rest)) : W p l e (sw_rm f0 n0) s m args below meth c H locs 0 0 Q (F0 m pc ls st) := by
  have hsb := sw_sub X.2.2.2.2.1 hD hS
  have hts := X.1.2.2.2.2
  obtain ⟨k1, k2, k3, k4, k5⟩ := hc
  have cw : CallW (sw_rm f0 n0) s args own y.cls index y bytes maxL rt (sw_ws y bytes maxL rt) (sw_rm f1 n1) 0 0 n := ⟨callB_of n hts (sw_gin k1) rfl rfl rfl (hts _ (List.mem_cons_of_mem _ k4)) (hts _ (List.mem_cons_of_mem _ hlk)) k5 ⟨Nat.le_of_ble_eq_true hR.1, Nat.le_of_ble_eq_true hR.2⟩, hts _ (List.mem_cons_of_mem _ k2), hts _ (List.mem_cons_of_mem _ k3)⟩
  refine va_callv (va_runV (C := y.cls) (As := As) (rest := rest) X.1 (hM H.size) cw ⟨sw_blind hg, by rw [← hq]; exact va_recv X.2.2.2.1 hP hci he, sw_pre (as := .ref b :: As) hg X hP hD hS⟩ rfl hn hl hst (lv_room hw) hdg ⟨Nat.zero_le _, Nat.zero_le _⟩) hS (fun q _ h => hsb q h) hsb (fun u t H1 locs1 ht hvm hw9 hB hz1 hk1 hS1 => ?_)
  obtain ⟨hP1, hK1, hD1⟩ := hB
  rw [ht] at hP1
  exact kk H1 locs1 hP1 (hD1.weaken (fun k q _ h => hsb q.1 h)) hS1
/-- a call of a static method that answers an int -/
theorem sw_si {y : MethodName} {bytes : ByteArray} {maxL n index : Nat} {rt : Option FieldType} {f1 n1 f0 n0 : Nat} {As : List Value} {r : Int32} (hg : sw_good F) (X : sw_X p s m args meth c cc nL own ret (sw_ws yo cc nL ro) D cl tys F A) (hM : sw_Mi l y (sw_ws y bytes maxL rt) (sw_rm f1 n1) D cl tys F As w w2 r) (hc : sw_calS y bytes maxL rt n) (hlk : Cond.methodLink own index y ∈ sw_tb)
    (hP : va_P D cl w H) (hD : va_D A w) (hS : va_S A s.heap H locs) (hR : Nat.ble (f1 + 1) f0 = true ∧ Nat.ble (8 + (maxL + 11) + n1) n0 = true) (hn : As.length = n) (hl : ls.size = nL) (hst : st = As.reverse ++ rest) (hw : (rest.map fun v => v.category).sum ≤ 8) (hdg : decode cc pc = .ok (.invokestatic index, 3))
    (kk : ∀ (H1 : Heap) (locs1 : List Loc), va_P D cl w2 H1 → va_D A w2 → va_S A s.heap H1 locs1 → W p l e (sw_rm f0 n0) s m args below meth c H1 locs1 0 0 Q (F0 m (pc + 3) ls (.int r :: rest))) : W p l e (sw_rm f0 n0) s m args below meth c H locs 0 0 Q (F0 m pc ls st) := by
  have hsb := sw_sub X.2.2.2.2.1 hD hS
  have hts := X.1.2.2.2.2
  obtain ⟨k1, k2, k4, k5⟩ := hc
  have cw : CallB (sw_rm f0 n0) s args own index y bytes maxL rt (sw_ws y bytes maxL rt) (sw_rm f1 n1) 0 0 n ∧ (Cond.static y).before args s = true := ⟨callB_of n hts (sw_gin k1) rfl rfl rfl (hts _ (List.mem_cons_of_mem _ k4)) (hts _ (List.mem_cons_of_mem _ hlk)) k5 ⟨Nat.le_of_ble_eq_true hR.1, Nat.le_of_ble_eq_true hR.2⟩, hts _ (List.mem_cons_of_mem _ k2)⟩
  refine va_calli (va_runS (As := As) (rest := rest) X.1 (hM H.size) cw ⟨sw_blind hg, sw_pre (as := As) hg X hP hD hS⟩ rfl hn hl hst (lv_room hw) hdg ⟨Nat.zero_le _, Nat.zero_le _⟩) hS (fun q _ h => hsb q h) hsb (fun r9 u t H1 locs1 ht hvm hw9 hB hz1 hk1 hS1 => ?_)
  obtain ⟨hP1, hK1, hD1⟩ := hB
  rw [ht] at hP1
  subst hw9
  exact kk H1 locs1 hP1 (hD1.weaken (fun k q _ h => hsb q.1 h)) hS1
theorem sw_get (X : sw_X p s m args meth c cc nL own ret (sw_ws yo cc nL ro) D cl tys F A) (hP : va_P D cl w H) (q0 : Nat) {ci a index : Nat} {fs : List Value} (he : w[q0]? = some (a, .inr (ci, fs))) {C : String} {T : u_T} {N : Nat} (hc : cl[ci]? = some (C, T, N)) (hin : ∀ w ∈ u_ws C T N, w ∈ sw_tb) (k : Nat) (hk : k < N) (hlk : Cond.fieldLink own index (T k).1 (T k).2.1 (T k).2.2.1 ∈ sw_tb) {v : Value} (hv : fs[k]? = some v) (hdg : decode cc pc = .ok (.getfield index, 3))
    (kk : W p l e R s m args below meth c H locs cells slots Q (F0 m (pc + 3) ls (v :: rest))) : W p l e R s m args below meth c H locs cells slots Q (F0 m pc ls (.ref a :: rest)) := by
  obtain ⟨⟨hx, hb, hml, hown, hts⟩, hr, hlocks, hK, hA, hF⟩ := X
  exact va_get (D := D) (ci := ci) (v := v) (C := C) (T := T) (N := N) hx hb hts (fun w h => List.mem_cons_of_mem _ (hin w h)) hown hK hP q0 he hc k hk (hts _ (List.mem_cons_of_mem _ hlk)) (fun _ h9 => h9) hv hdg kk
theorem sw_put (X : sw_X p s m args meth c cc nL own ret (sw_ws yo cc nL ro) D cl tys F A) (hP : va_P D cl w H) (hD : va_D A w) (hS : va_S A s.heap H locs) (q0 : Nat) {ci a index : Nat} {fs : List Value} (he : w[q0]? = some (a, .inr (ci, fs))) {C : String} {T : u_T} {N : Nat} (hc : cl[ci]? = some (C, T, N)) (hin : ∀ w ∈ u_ws C T N, w ∈ sw_tb) (ty0 : Nat → FieldType) (hty : ∀ k, k < N → parseFieldDescriptor (T k).2.2.1 = some (ty0 k)) (hnm : ∀ a, a < N → ∀ b, b < N → a ≠ b → (T a).2.1 ≠ (T b).2.1) (k : Nat) (hk : k < N) (hlk : Cond.fieldLink own index (T k).1 (T k).2.1 (T k).2.2.1 ∈ sw_tb) (hfin : (T k).2.2.2 = false) {v : Value} (hn : narrow (ty0 k) v = v) (hfit : fits (ty0 k) v = true) (hl : k < fs.length) (hw2 : w.set q0 (a, .inr (ci, fs.set k v)) = w2) (hdg : decode cc pc = .ok (.putfield index, 3))
    (kk : ∀ (H1 : Heap) (locs1 : List Loc), va_P D cl w2 H1 → va_D A w2 → va_S A s.heap H1 locs1 → W p l e R s m args below meth c H1 locs1 cells slots Q (F0 m (pc + 3) ls rest)) : W p l e R s m args below meth c H locs cells slots Q (F0 m pc ls (v :: .ref a :: rest)) := by
  obtain ⟨⟨hx, hb, hml, hown, hts⟩, hr, hlocks, hK, hA, hF⟩ := X
  subst hw2
  exact va_put (D := D) (ci := ci) (v := v) (ty := ty0 k) (C := C) (T := T) (N := N) hx hb hts (fun w h => List.mem_cons_of_mem _ (hin w h)) ty0 hty hnm hown hK hP hD hS q0 he hc k hk (hts _ (List.mem_cons_of_mem _ hlk)) (fun _ h9 => h9) hfin (hty k hk) hn hfit hl hdg kk
theorem sw_iald (X : sw_X p s m args meth c cc nL own ret (sw_ws yo cc nL ro) D cl tys F A) (hP : va_P D cl w H) (q0 : Nat) {a n : Nat} {cA : ClassId} {f : Nat → Int32} (he : w[q0]? = some (a, .inl (cA, n, .inl f))) (ht : tys[0]? = some (cA, .int)) {i : Int32} (hin : vp_in i n) (hdg : decode cc pc = .ok (.iaload, 1))
    (kk : W p l e R s m args below meth c H locs cells slots Q (F0 m (pc + 1) ls (.int (f i.toNatClampNeg) :: rest))) : W p l e R s m args below meth c H locs cells slots Q (F0 m pc ls (.int i :: .ref a :: rest)) :=
  va_iald X.1.1 X.1.2.1 X.2.2.2.1 hP q0 0 he ht hin hdg kk
theorem sw_iast (X : sw_X p s m args meth c cc nL own ret (sw_ws yo cc nL ro) D cl tys F A) (hP : va_P D cl w H) (hD : va_D A w) (hS : va_S A s.heap H locs) (q0 : Nat) {a n : Nat} {cA : ClassId} {f : Nat → Int32} (he : w[q0]? = some (a, .inl (cA, n, .inl f))) (ht : tys[0]? = some (cA, .int)) {i x : Int32} (hin : vp_in i n) (hw2 : w.set q0 (a, .inl (cA, n, .inl (upd f i.toNatClampNeg x))) = w2) (hdg : decode cc pc = .ok (.iastore, 1))
    (kk : ∀ (H1 : Heap) (locs1 : List Loc), va_P D cl w2 H1 → va_D A w2 → va_S A s.heap H1 locs1 → W p l e R s m args below meth c H1 locs1 cells slots Q (F0 m (pc + 1) ls rest)) : W p l e R s m args below meth c H locs cells slots Q (F0 m pc ls (.int x :: .int i :: .ref a :: rest)) := by
  subst hw2
  exact va_iast X.1.1 X.1.2.1 X.2.2.2.1 hP hD hS q0 0 he ht hin hdg kk
theorem sw_bret {r : Int32} (X : sw_X p s m args meth c cc nL own (some .boolean) (sw_ws yo cc nL ro) D cl tys F A) (hn : narrow .boolean (.int r) = .int r) (hP : va_P D cl w H) (hD : va_D A w) (hS : va_S A s.heap H locs) (hdg : decode cc pc = .ok (.ireturn, 1)) :
    W p l e R s m args below meth c H locs cells slots (MQ below (sw_Qi D cl tys A w r) args s cells slots A) (F0 m pc ls [.int r]) := by
  obtain ⟨⟨hx, hb, hml, hown, hts⟩, hr, hlocks, hK, hA, hF⟩ := X
  exact W.zret (v := r) (ty := .boolean) hx hb hr hn (fun t ht hW => ⟨⟨r, (), rfl, rfl, by rw [ht]; exact hP, va_K.moved hW.alike hK, hD⟩, hS.F ht⟩) hS.2.2 hdg
theorem sw_tabK (hx : p.tables.exec = Jvm.exec) (hb : c.code = cc) {dflt lo hi off : Int} {offs : Array Int} {len tgt : Nat} {x : Int32} (hdg : decode cc pc = .ok (.tableswitch dflt lo hi offs, len)) (ks : List Int32) (h : x ∈ ks) (hk : ks.all (fun k => decide (lo ≤ k.toInt) && (decide (k.toInt ≤ hi) && decide (offs[(k.toInt - lo).toNat]? = some off))) = true) (ht : (pc : Int) + off = (tgt : Int))
    (kk : W p l e R s m args below meth c H locs cells slots Q (F0 m tgt ls rest)) : W p l e R s m args below meth c H locs cells slots Q (F0 m pc ls (.int x :: rest)) := by
  have h1 := List.all_eq_true.mp hk x h
  simp only [Bool.and_eq_true, decide_eq_true_eq] at h1
  exact lv_tableIn hx hb hdg (by omega) (by omega) h1.2.2 ht kk
theorem sw_tabD (hx : p.tables.exec = Jvm.exec) (hb : c.code = cc) {dflt lo hi : Int} {offs : Array Int} {len tgt : Nat} {x : Int32} (hdg : decode cc pc = .ok (.tableswitch dflt lo hi offs, len)) (ks : List Int32) (h : ¬ x ∈ ks) (hk : (List.range (hi - lo + 1).toNat).all (fun i => decide (offs[i]? = some dflt) || decide (Int32.ofInt (lo + (i : Int)) ∈ ks)) = true) (ht : (pc : Int) + dflt = (tgt : Int))
    (kk : W p l e R s m args below meth c H locs cells slots Q (F0 m tgt ls rest)) : W p l e R s m args below meth c H locs cells slots Q (F0 m pc ls (.int x :: rest)) := by
  by_cases ho : x.toInt < lo ∨ hi < x.toInt
  · exact lv_tableOut hx hb hdg ho ht kk
  · have h1 := List.all_eq_true.mp hk (x.toInt - lo).toNat (List.mem_range.mpr (by omega))
    simp only [Bool.or_eq_true, decide_eq_true_eq] at h1
    rcases h1 with h1 | h1
    · exact lv_tableIn hx hb hdg (by omega) (by omega) h1 ht kk
    · refine absurd ?_ h
      have e : lo + ((x.toInt - lo).toNat : Int) = x.toInt := by omega
      rw [e, Int32.ofInt_toInt] at h1
      exact h1
theorem sw_lkK (hx : p.tables.exec = Jvm.exec) (hb : c.code = cc) {dflt off : Int} {ps : Array (Int × Int)} {len tgt : Nat} {x : Int32} (hdg : decode cc pc = .ok (.lookupswitch dflt ps, len)) (hp : (ps.toList.zip (ps.toList.drop 1)).all (fun (a, next) => a.1 < next.1) = true) (ks : List Int32) (h : x ∈ ks) (hk : ks.all (fun k => decide (Op.lookupswitch.offset ps.toList dflt k.toInt = off)) = true) (ht : (pc : Int) + off = (tgt : Int))
    (kk : W p l e R s m args below meth c H locs cells slots Q (F0 m tgt ls rest)) : W p l e R s m args below meth c H locs cells slots Q (F0 m pc ls (.int x :: rest)) := by
  have h1 := List.all_eq_true.mp hk x h
  simp only [decide_eq_true_eq] at h1
  exact lv_lookup hx hb hdg hp h1 ht kk
theorem sw_lkD (hx : p.tables.exec = Jvm.exec) (hb : c.code = cc) {dflt : Int} {ps : Array (Int × Int)} {len tgt : Nat} {x : Int32} (hdg : decode cc pc = .ok (.lookupswitch dflt ps, len)) (hp : (ps.toList.zip (ps.toList.drop 1)).all (fun (a, next) => a.1 < next.1) = true) (ks : List Int32) (h : ¬ x ∈ ks) (hk : ps.toList.all (fun q => decide (q.2 = dflt) || decide (Int32.ofInt q.1 ∈ ks)) = true) (ht : (pc : Int) + dflt = (tgt : Int))
    (kk : W p l e R s m args below meth c H locs cells slots Q (F0 m tgt ls rest)) : W p l e R s m args below meth c H locs cells slots Q (F0 m pc ls (.int x :: rest)) := by
  refine lv_lookup hx hb hdg hp ?_ ht kk
  have key : ∀ l : List (Int × Int), l.all (fun q => decide (q.2 = dflt) || decide (Int32.ofInt q.1 ∈ ks)) = true → Op.lookupswitch.offset l dflt x.toInt = dflt := by
    intro l
    induction l with
    | nil => intro _; simp [Op.lookupswitch.offset]
    | cons q l ih =>
      intro hl
      simp only [List.all_cons, Bool.and_eq_true, Bool.or_eq_true, decide_eq_true_eq] at hl
      have ih := ih hl.2
      by_cases e : q.1 = x.toInt
      · rcases hl.1 with h1 | h1
        · simp [Op.lookupswitch.offset, e, h1]
        · rw [e, Int32.ofInt_toInt] at h1
          exact absurd h1 h
      · simp only [Op.lookupswitch.offset] at ih ⊢
        simpa [e] using ih
  exact key _ hk
end SWR
/-! naming, binding -/
def nm {α β : Type} (x : α) (f : α → Option β) : Option β := f x
theorem nm_use {α β : Type} {x y : α} {f : α → Option β} {z : Option β} (e : y = x) (h : nm x f = z) : f y = z := by subst e; exact h
def bd {α β : Type} (x : Option α) (f : α → Option β) : Option β := x.bind f
theorem bd_some {α β : Type} {x : Option α} {f : α → Option β} {z : β} (h : bd x f = some z) : ∃ a, x = some a ∧ f a = some z := Option.bind_eq_some_iff.mp h
def bd2 {α σ β : Type} (x : Option (α × σ)) (f : α → σ → Option β) : Option β := x.bind (fun p => f p.1 p.2)
theorem bd2_some {α σ β : Type} {x : Option (α × σ)} {f : α → σ → Option β} {z : β} (h : bd2 x f = some z) : ∃ a s, x = some (a, s) ∧ f a s = some z := by
  obtain ⟨⟨a, s⟩, h1, h2⟩ := Option.bind_eq_some_iff.mp h
  exact ⟨a, s, h1, h2⟩
theorem if_yes {α : Type} {c : Prop} [Decidable c] {x y : Option α} {z : α} (h : (if c then x else y) = some z) (hc : c) : x = some z := by rw [if_pos hc] at h; exact h
theorem if_no {α : Type} {c : Prop} [Decidable c] {x y : Option α} {z : α} (h : (if c then x else y) = some z) (hc : ¬ c) : y = some z := by rw [if_neg hc] at h; exact h
/-- an index, or a boolean, that is looked at -/
def gd {α : Type} (c : Prop) [Decidable c] (x : Option α) : Option α := if c then x else none
theorem gd_some {α : Type} {c : Prop} [Decidable c] {x : Option α} {z : α} (h : gd c x = some z) : c ∧ x = some z := by
  unfold gd at h
  split at h
  · exact ⟨by assumption, h⟩
  · cases h
def vin (i : Int32) (n : Int32) : Prop := 0 ≤ i ∧ i < n
theorem vin_in {i : Int32} {n : Int32} {k : Nat} (h : 0 ≤ i ∧ i < n) (hn : n.toInt = (k : Int)) : vp_in i k := by
  rw [vp_in_iff]
  have h1 := Int32.le_iff_toInt_le.mp h.1
  have h2 := Int32.lt_iff_toInt_lt.mp h.2
  rw [Int32.toInt_zero] at h1
  omega
theorem bz_n {x : Int32} (h : x = 0 ∨ x = 1) : narrow .boolean (.int x) = .int x := by
  rcases h with rfl | rfl <;> decide
theorem bz_f {x : Int32} (h : x = 0 ∨ x = 1) : fits .boolean (.int x) = true := by
  rcases h with rfl | rfl <;> decide
