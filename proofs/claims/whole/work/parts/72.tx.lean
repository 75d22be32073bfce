/-! WHAT A THROW NEEDS; a method that throws; a call whose throw is caught -/
abbrev eA : String := "java/lang/IllegalArgumentException"
abbrev eS : String := "java/lang/IllegalStateException"
abbrev eN : List String := ["java/lang/RuntimeException", "java/lang/Exception"]
def xBs : List Cond := [.declares ⟨"java/lang/RuntimeException", "<init>", "()V"⟩, .declares ⟨"java/lang/Exception", "<init>", "()V"⟩, .declares ⟨"java/lang/Throwable", "<init>", "()V"⟩, .castable eA eA, .castable eS eS]
def xF : (Nat → Prop) → State → Heap → Prop := fun A U H => vx_Zq Bundle.tN "UNASSIGNED_STACK" Bundle.steD A U H ∧ vx_Zq Bundle.tN "SUPPRESSED_SENTINEL" Bundle.listD A U H ∧ (∀ w ∈ xBs, va_Nw w U) ∧ va_Nc eS eA U
theorem nw_mvD {x : MethodName} {u U : State} (h : u.vm.Alike U.vm) (hZ : va_Nw (.declares x) u) : va_Nw (.declares x) U := va_tabs rfl (rfl : (u.setVm U.vm).vm = U.vm) (by rw [Cond.declares_setVm h]; exact hZ)
theorem nw_mvC {C T : String} {u U : State} (h : u.vm.Alike U.vm) (hZ : va_Nw (.castable C T) u) : va_Nw (.castable C T) U := va_tabs rfl (rfl : (u.setVm U.vm).vm = U.vm) (by rw [Cond.castable_setVm h]; exact hZ)
theorem xBs_mv {u U : State} (h : u.vm.Alike U.vm) (hZ : ∀ w ∈ xBs, va_Nw w u) : ∀ w ∈ xBs, va_Nw w U := by
  intro w hw
  have hz := hZ w hw
  simp only [xBs, List.mem_cons, List.not_mem_nil, or_false] at hw
  rcases hw with rfl | rfl | rfl | rfl | rfl
  · exact nw_mvD h hz
  · exact nw_mvD h hz
  · exact nw_mvD h hz
  · exact nw_mvC h hz
  · exact nw_mvC h hz
theorem x_good : sw_good xF := ⟨fun A u U H hv h => ⟨h.1.moved hv, h.2.1.moved hv, xBs_mv hv h.2.2.1, h.2.2.2.moved hv⟩, fun A U H H1 h hq => ⟨h.1.kept hq, h.2.1.kept hq, h.2.2.1, h.2.2.2⟩, fun A B U H h hq => ⟨h.1.narrow hq, h.2.1.narrow hq, h.2.2.1, h.2.2.2⟩⟩
def tF : (Nat → Prop) → State → Heap → Prop := fun A U H => cF A U H ∧ xF A U H
theorem t_good : sw_good tF := ⟨fun A u U H hv h => ⟨c_good.1 A u U H hv h.1, x_good.1 A u U H hv h.2⟩, fun A U H H1 h hq => ⟨c_good.2.1 A U H H1 h.1 hq, x_good.2.1 A U H H1 h.2 hq⟩, fun A B U H h hq => ⟨c_good.2.2 A B U H h.1 hq, x_good.2.2 A B U H h.2 hq⟩⟩
abbrev sx_X (D : va_G) (cl : List vw_C) (tys : List (ClassId × FieldType)) (A : Nat → Prop) (w : va_W) (E : String) : String → State → State → Prop := vx_X (fun (_ : Unit) => True) (fun E' _ t => E' = E ∧ va_P D cl w t.heap ∧ va_K D cl tys t ∧ va_D A w) A
abbrev sx_No : Array Value → State → Outcome → State → Prop := fun _ _ _ _ => False
/-- a method that throws E, its world as it was -/
def sx_M (l : Launch) (y : MethodName) (ws : List Cond) (rm : Room) (D : va_G) (cl : List vw_C) (tys : List (ClassId × FieldType)) (F : (Nat → Prop) → State → Heap → Prop) (as : List Value) (w : va_W) (E : String) : Prop := ∀ sz : Nat, vx_Met l y ws rm (sw_Pc D cl tys F as w sz) sx_No (sx_X D cl tys (va_A w sz) w E) 1 6 (va_A w sz)
theorem sx_of {l : Launch} {y : MethodName} {ws ws' : List Cond} {rm : Room} {D : va_G} {cl : List vw_C} {tys : List (ClassId × FieldType)} {F : (Nat → Prop) → State → Heap → Prop} {as : List Value} {w : va_W} {sz : Nat} {E : String} {cc : ByteArray} {maxL : Nat} {ret : Option FieldType}
    (hy : plainName y.cls = true) (hw : ws = Cond.code y cc maxL ret :: ws') (hl : (lg_sl as).length ≤ maxL)
    (body : ∀ (p : Program) (e : Env) (s : State) (m : MethodId) (args : Array Value) (below : List Frame) (meth : Method) (c : Code) (A : Nat → Prop) (ls : Array Slot), va_A w sz = A → sw_X p s m args meth c cc maxL y.cls ret ws D cl tys F A → (∀ x ∈ c.exceptionTable.toList, False) → va_P D cl w s.heap → va_D A w → va_S A s.heap s.heap [] → lv_has ls maxL (lv_args 0 as) →
      W p l e rm s m args below meth c s.heap [] 0 0 (vx_MQ below sx_No (sx_X D cl tys A w E) args s 1 6 A) (F0 m 0 ls [])) : vx_Met l y ws rm (sw_Pc D cl tys F as w sz) sx_No (sx_X D cl tys (va_A w sz) w E) 1 6 (va_A w sz) := by
  refine vx_ofW (cc := cc) (maxL := maxL) (ret := ret) hy hw ?_
  intro p e s m args below meth c s₁ B hml ht hv
  obtain ⟨rfl, hsz, hP, hK, hD0, hF⟩ := hv
  have hts := atoms_spec (ws := ws) B.pre
  have hown : s.vm.findClass y.cls = some m.cls := findClass_of_methodNamed B.named
  have hl2 := lv_entry as (n := maxL) hl
  rw [lg_entry_eq]
  generalize (lg_sl as ++ List.replicate (maxL - (lg_sl as).length) Slot.unset).toArray = ls at hl2 ⊢
  exact body p e s m _ below meth c _ ls rfl ⟨⟨B.exec, B.bytes, hml, hown, hts⟩, B.returns, B.notSynchronized, hK, fun q h => Or.inr (by rw [← hsz]; exact h), hF⟩ ht hP (hD0.self (sz := sz)) va_S.rf hl2
theorem k_clA : Cond.classLink RX8 52 eA ∈ sw_tb := sw_in 215 (by decide +kernel) rfl
theorem k_inA : Cond.initialized eA ∈ sw_tb := sw_in 14 (by decide +kernel) rfl
theorem k_clS : Cond.classLink RX8 93 eS ∈ sw_tb := sw_in 343 (by decide +kernel) rfl
theorem k_inS : Cond.initialized eS ∈ sw_tb := sw_in 15 (by decide +kernel) rfl
theorem k_atA : ∀ w ∈ (vx_at0 RX8 54 eA eN).filter goodWord, w ∈ sw_tb := fun w h => List.mem_filter.mpr ⟨(by decide +kernel : ∀ w ∈ (vx_at0 RX8 54 eA eN).filter goodWord, w ∈ lw_tbl) w h, (List.mem_filter.mp h).2⟩
theorem k_atS : ∀ w ∈ (vx_at0 RX8 95 eS eN).filter goodWord, w ∈ sw_tb := fun w h => List.mem_filter.mpr ⟨(by decide +kernel : ∀ w ∈ (vx_at0 RX8 95 eS eN).filter goodWord, w ∈ lw_tbl) w h, (List.mem_filter.mp h).2⟩
theorem k_nbA : ∀ w ∈ (vx_at0 RX8 54 eA eN).filter (fun w => !goodWord w), w ∈ xBs := by decide +kernel
theorem k_nbS : ∀ w ∈ (vx_at0 RX8 95 eS eN).filter (fun w => !goodWord w), w ∈ xBs := by decide +kernel
theorem k_otA : ∀ w ∈ Cond.classLink RX8 52 eA :: Cond.initialized eA :: vx_at0 RX8 54 eA eN, vx_ot w = true := by decide +kernel
theorem k_otS : ∀ w ∈ Cond.classLink RX8 93 eS :: Cond.initialized eS :: vx_at0 RX8 95 eS eN, vx_ot w = true := by decide +kernel
section SX
variable {p : Program} {l : Launch} {e : Env} {R : Room} {s : State} {m : MethodId} {args : Array Value} {below : List Frame} {meth : Method} {c : Code} {H : Heap} {locs : List Loc} {cells slots : Nat} {Q : State → Prop}
variable {cc : ByteArray} {nL : Nat} {ret : Option FieldType} {Ts : List Cond} {D : va_G} {cl : List vw_C} {tys : List (ClassId × FieldType)} {A : Nat → Prop} {w : va_W} {pc : Nat} {ls : Array Slot}
theorem xB_use (h : ∀ w ∈ xBs, va_Nw w s) : ∀ w ∈ xBs, w.before args s = true := by
  intro w hw
  have hz := h w hw
  simp only [xBs, List.mem_cons, List.not_mem_nil, or_false] at hw
  rcases hw with rfl | rfl | rfl | rfl | rfl <;> exact va_Nw.use rfl hz
/-- 'throw new E()' at the end of a way -/
theorem sx_thr {E : String} {ik ic : Nat} (hst : l.stackTraces = false) (X : sw_X p s m args meth c cc nL RX8 ret Ts D cl tys tF A) (hT : ∀ w ∈ sw_tb, w ∈ Ts) (ht : ∀ x ∈ c.exceptionTable.toList, False) (hfE : Bundle.fit E = true) (k1 : Cond.classLink RX8 ik E ∈ sw_tb) (k2 : Cond.initialized E ∈ sw_tb) (k3 : ∀ w ∈ (vx_at0 RX8 ic E eN).filter goodWord, w ∈ sw_tb) (k4 : ∀ w ∈ (vx_at0 RX8 ic E eN).filter (fun w => !goodWord w), w ∈ xBs) (k5 : ∀ w ∈ Cond.classLink RX8 ik E :: Cond.initialized E :: vx_at0 RX8 ic E eN, vx_ot w = true)
    (hP : va_P D cl w H) (hD : va_D A w) (hS : va_S A s.heap H locs) (hl : ls.size = nL) (hR : 5 < R.frames ∧ 81 ≤ R.locals) (hf : 1 ≤ R.cells ∧ 6 ≤ R.slots)
    (d0 : decode cc pc = .ok (.new ik, 3)) (d3 : decode cc (pc + 3) = .ok (.dup, 1)) (d4 : decode cc (pc + 4) = .ok (.invokespecial ic, 3)) (d7 : decode cc (pc + 7) = .ok (.athrow, 1)) :
    W p l e R s m args below meth c H locs 0 0 (vx_MQ below sx_No (sx_X D cl tys A w E) args s 1 6 A) (F0 m pc ls []) := by
  obtain ⟨⟨hx, hb, hml, hown, hts⟩, hr, hlocks, hK, hA, hF⟩ := X
  have ht1 : ∀ w ∈ sw_tb, w.before args s = true := fun w h => hts w (hT w h)
  refine vx_throw0 (own := RX8) (cls := E) (names := eN) (ik := ik) (ic := ic) (A := A) hx hb hst hown hfE (by decide) (ht1 _ k1) (ht1 _ k2) (vx_hat (B := xBs) (fun w h => ht1 w (k3 w h)) k4 (xB_use hF.2.2.2.1)) k5 hF.2.1 hF.2.2.1 hS (hl.trans hml.symm) d0 d3 d4 d7 (fun x h => (ht x h).elim) hR.1 hR.2 (by omega) (by omega) hlocks ?_ (fun z hz => hS.2.2 z hz) (by omega) (by omega)
  intro t hv hz hk
  refine ⟨(), trivial, ⟨rfl, hP.kept (fun k q h => hk q.1 (hP k q h).lt), va_K.moved hv hK, hD⟩, Nat.le_trans hS.1 hz, fun q h1 h2 => ?_⟩
  rw [hk q (Nat.lt_of_lt_of_le h1 hS.1)]
  exact hS.2.1 q h1 h2
end SX
