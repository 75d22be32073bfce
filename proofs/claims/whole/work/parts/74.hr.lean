/-! ROWS OF THE LAW AND ITS HELPERS: a throw that is caught, a helper's body, a helper's call, lcmp -/
abbrev wsH (y : MethodName) (cc : ByteArray) (nL : Nat) (ret : Option FieldType) (hh : List (Nat × Nat × Nat × Nat)) : List Cond := Cond.codeWith y cc nL ret hh :: sw_tb
theorem sh_of {l : Launch} {y : MethodName} {ws ws' : List Cond} {rm : Room} {D : va_G} {cl : List vw_C} {tys : List (ClassId × FieldType)} {F : (Nat → Prop) → State → Heap → Prop} {as : List Value} {w : va_W} {sz : Nat} {Qc : Array Value → State → Outcome → State → Prop} {cc : ByteArray} {maxL : Nat} {ret : Option FieldType} {mc ms : Nat} {hh : List (Nat × Nat × Nat × Nat)}
    (hy : plainName y.cls = true) (hw : ws = Cond.codeWith y cc maxL ret hh :: ws') (hl : (lg_sl as).length ≤ maxL)
    (body : ∀ (p : Program) (e : Env) (s : State) (m : MethodId) (args : Array Value) (below : List Frame) (meth : Method) (c : Code) (A : Nat → Prop) (ls : Array Slot), va_A w sz = A → sw_X p s m args meth c cc maxL y.cls ret ws D cl tys F A → c.exceptionTable.toList = tableOf hh → va_P D cl w s.heap → va_D A w → va_S A s.heap s.heap [] → lv_has ls maxL (lv_args 0 as) →
      W p l e rm s m args below meth c s.heap [] 0 0 (MQ below Qc args s mc ms A) (F0 m 0 ls [])) : Met l y ws rm (sw_Pc D cl tys F as w sz) Qc mc ms (va_A w sz) := by
  refine va_MetW (cc := cc) (maxL := maxL) (ret := ret) hy hw ?_
  intro p e s m args below meth c s₁ B hml hv
  obtain ⟨rfl, hsz, hP, hK, hD0, hF⟩ := hv
  have hts := atoms_spec (ws := ws) B.pre
  have hown : s.vm.findClass y.cls = some m.cls := findClass_of_methodNamed B.named
  have htab := vx_table (x := y) (bytes := cc) (maxL' := maxL) (ret' := ret) (hh := hh) B (hts (Cond.codeWith y cc maxL ret hh) (by rw [hw]; exact List.mem_cons_self))
  have hl2 := lv_entry as (n := maxL) hl
  rw [lg_entry_eq]
  generalize (lg_sl as ++ List.replicate (maxL - (lg_sl as).length) Slot.unset).toArray = ls at hl2 ⊢
  exact body p e s m _ below meth c _ ls rfl ⟨⟨B.exec, B.bytes, hml, hown, hts⟩, B.returns, B.notSynchronized, hK, fun q h => Or.inr (by rw [← hsz]; exact h), hF⟩ htab hP (hD0.self (sz := sz)) va_S.rf hl2
/-- a helper's contract -/
def sh_M (l : Launch) (y : MethodName) (ws : List Cond) (rm : Room) (D : va_G) (cl : List vw_C) (tys : List (ClassId × FieldType)) (F : (Nat → Prop) → State → Heap → Prop) (as : List Value) (w w' : va_W) (r : Int32) : Prop := ∀ sz : Nat, Met l y ws rm (sw_Pc D cl tys F as w sz) (sw_Qi D cl tys (va_A w sz) w' r) 1 6 (va_A w sz)
section HR
variable {p : Program} {l : Launch} {e : Env} {R : Room} {s : State} {m : MethodId} {args : Array Value} {below : List Frame} {meth : Method} {c : Code} {H : Heap} {locs : List Loc} {cells slots : Nat} {Q : State → Prop}
variable {cc : ByteArray} {nL : Nat} {own : String} {D : va_G} {cl : List vw_C} {tys : List (ClassId × FieldType)} {F : (Nat → Prop) → State → Heap → Prop} {A : Nat → Prop} {w w2 wr : va_W} {pc : Nat} {ls : Array Slot} {rest st : List Value}
theorem xl_lcmpE (hexec : p.tables.exec = Jvm.exec) (hb : c.code = cc) {x : Int64} (hdg : decode cc pc = .ok (.lcmp, 1))
    (k : W p l e R s m args below meth c H locs cells slots Q (F0 m (pc + 1) ls (.int 0 :: rest))) : W p l e R s m args below meth c H locs cells slots Q (F0 m pc ls (.long x :: .long x :: rest)) := by
  intro T hT X
  obtain ⟨t, a, b⟩ := k T hT X
  refine ⟨t, ?_, b⟩
  jvm_step X.here [X.here.top, hexec, hb, hdg]
  exact a
/-- a call whose throw is caught by the row x -/
theorem sg_tx {y : MethodName} {bytes : ByteArray} {maxL n index : Nat} {rt : Option FieldType} {f1 n1 : Nat} {b : Nat} {As : List Value} {E name : String} (S : CallFix p m c cc nL s args sw_tb own) (hg : sw_good F) (hK : va_K D cl tys s) (hA : ∀ q : Nat, s.heap.size ≤ q → A q) (hF : F A s s.heap) (hM : sx_M l y (sw_ws y bytes maxL rt) { frames := f1, cells := 1, slots := 6, locals := n1 } D cl tys F (.ref b :: As) w E) (hc : sw_calV y bytes maxL rt n) (hlk : Cond.methodLink own index y ∈ sw_tb)
    (h2 : sg_2 D cl A w wr H) (hS : va_S A s.heap H locs) (q0 ci : Nat) {fs : List Value} (he : w[q0]? = some (b, .inr (ci, fs))) {q : vw_C} (hci : cl[ci]? = some q) (hq : q.1 = y.cls) (hR : f1 + 1 ≤ R.frames ∧ 8 + (maxL + 11) + n1 ≤ R.locals) (hf : cells + 1 ≤ R.cells ∧ slots + 6 ≤ R.slots) (hn : As.length = n) (hl : ls.size = nL) (hst : st = As.reverse ++ .ref b :: rest) (hw : (rest.map fun v => v.category).sum ≤ 8) (hdg : decode cc pc = .ok (.invokevirtual index, 3))
    (pre : List ExceptionTableEntry) (x : ExceptionTableEntry) (suf : List ExceptionTableEntry) (hsplit : c.exceptionTable.toList = pre ++ x :: suf) (hpass : ∀ z ∈ pre, covers z pc = false ∨ (z.catchType ≠ 0 ∧ ∃ nm : String, (Cond.classLink own z.catchType nm).before args s = true ∧ va_Nc E nm s)) (hx : covers x pc = true) (h0 : x.catchType ≠ 0)
    (hlink : (Cond.classLink own x.catchType name).before args s = true) (hcast : (Cond.castable E name).before args s = true)
    (kk : ∀ (H1 : Heap) (locs1 : List Loc) (q9 : Nat), sg_2 D cl A w wr H1 → va_S A s.heap H1 locs1 → W p l e R s m args below meth c H1 locs1 (cells + 1) (slots + 6) Q (F0 m x.handlerPc ls [.ref q9])) : W p l e R s m args below meth c H locs cells slots Q (F0 m pc ls st) := by
  have hP := h2.1
  have hD := h2.2.2.1
  have hsb := sw_sub hA hD hS
  have hts := S.2.2.2.2
  have hown := S.2.2.2.1
  obtain ⟨k1, k2, k3, k4, k5⟩ := hc
  have cw : CallW R s args own y.cls index y bytes maxL rt (sw_ws y bytes maxL rt) { frames := f1, cells := 1, slots := 6, locals := n1 } 1 6 n := ⟨callB_of n hts (sg_gin k1) rfl rfl rfl (hts _ k4) (hts _ hlk) k5 hR, hts _ k2, hts _ k3⟩
  have hr := vx_runV (C := y.cls) (As := As) (rest := rest) (g := F0 m pc ls st) (e := e) (below := below) (meth := meth) (locs := locs) (cells := cells) (slots := slots) S (hM H.size) cw ⟨sw_blind hg, by rw [← hq]; exact va_recv hK hP hci he, sg_pre (as := .ref b :: As) hg hK hA hF hP hD hS⟩ rfl hn hl hst (lv_room hw) hdg hf
  intro T hT X
  rcases hr T hT X with ⟨v, st₀, t, T', L, _, _, _, _, _, hno, _⟩ | ⟨q9, st₀, t, T', L, E', ce, h0', X', hL, e1, e2, ⟨u, hp, ⟨rfl, hP1, hK1, hD1⟩, hFr⟩, hce, hcv, hcl, stp⟩
  · exact hno.elim
  · obtain ⟨j1, j2, j3⟩ := vx_keep h0' e1 hS (fun q _ h => hsb q h) hsb hL hFr
    rw [← e1] at hP1
    obtain ⟨t2, a1, b1⟩ := vx_catch (own := own) (name := name) (ls := ls) (rest := rest) (pc := pc) hown pre x suf hsplit hpass hx h0 hlink hcast (by rw [e1]; exact hce) hcv hcl (kk T'.heap (locs ++ L) q9 (h2.next j2 hsb hP1 hD1) j3) T' rfl X'
    exact ⟨t2, stp.trans a1, b1⟩
/-- the law's call of a helper -/
def sh_cal (y : MethodName) (cc : ByteArray) (nL : Nat) (ret : Option FieldType) (hh : List (Nat × Nat × Nat × Nat)) (own : String) (index n : Nat) : Prop := (Cond.codeWith y cc nL ret hh ∈ sw_tb ∧ Cond.static y ∈ sw_tb ∧ Cond.initialized y.cls ∈ sw_tb ∧ Cond.methodLink own index y ∈ sw_tb) ∧ (y.cls ≠ "java/lang/invoke/MethodHandle" ∧ y.cls ≠ "java/lang/invoke/VarHandle" ∧ (parseMethodDescriptor y.desc).map (fun d => d.parameters.length) = some n)
theorem sg_hi {y : MethodName} {bytes : ByteArray} {maxL n index : Nat} {rt : Option FieldType} {hh : List (Nat × Nat × Nat × Nat)} {f1 n1 : Nat} {As : List Value} {r : Int32} (S : CallFix p m c cc nL s args sw_tb own) (hg : sw_good F) (hK : va_K D cl tys s) (hA : ∀ q : Nat, s.heap.size ≤ q → A q) (hF : F A s s.heap) (hM : sh_M l y (wsH y bytes maxL rt hh) { frames := f1, cells := 1, slots := 6, locals := n1 } D cl tys F As w w2 r) (hc : sh_cal y bytes maxL rt hh own index n)
    (h2 : sg_2 D cl A w wr H) (hS : va_S A s.heap H locs) (hR : f1 + 1 ≤ R.frames ∧ 8 + (maxL + 11) + n1 ≤ R.locals) (hf : cells + 1 ≤ R.cells ∧ slots + 6 ≤ R.slots) (hn : As.length = n) (hl : ls.size = nL) (hst : st = As.reverse ++ rest) (hw : (rest.map fun v => v.category).sum ≤ 8) (hdg : decode cc pc = .ok (.invokestatic index, 3))
    (kk : ∀ (H1 : Heap) (locs1 : List Loc), sg_2 D cl A w2 wr H1 → va_S A s.heap H1 locs1 → W p l e R s m args below meth c H1 locs1 (cells + 1) (slots + 6) Q (F0 m (pc + 3) ls (.int r :: rest))) : W p l e R s m args below meth c H locs cells slots Q (F0 m pc ls st) := by
  have hP := h2.1
  have hD := h2.2.2.1
  have hsb := sw_sub hA hD hS
  have hts := S.2.2.2.2
  obtain ⟨⟨k1, k2, k3, k4⟩, k5⟩ := hc
  have hG : GoodIn sw_tb (va_wsS own index y (wsH y bytes maxL rt hh)) := by
    intro w9 h9
    have hm : w9 ∈ sw_tb := by
      simp only [va_wsS, List.mem_append, List.mem_cons, List.not_mem_nil, or_false] at h9
      rcases h9 with (rfl | rfl | rfl) | (rfl | h9)
      · exact k4
      · exact k2
      · exact k3
      · exact k1
      · exact h9
    exact ⟨hm, good_of_word (List.mem_filter.mp hm).2⟩
  refine va_calli (vx_runSW (As := As) (rest := rest) S (hM H.size) (vx_cwSW n hts hG rfl rfl rfl k5 hR) ⟨sw_blind hg, sg_pre (as := As) hg hK hA hF hP hD hS⟩ rfl hn hl hst (lv_room hw) hdg hf) hS (fun q _ h => hsb q h) hsb (fun r9 u t H1 locs1 ht hvm hw9 hB hz1 hk1 hS1 => ?_)
  obtain ⟨hP1, hK1, hD1⟩ := hB
  rw [ht] at hP1
  subst hw9
  exact kk H1 locs1 (h2.next hk1 hsb hP1 hD1) hS1
end HR
