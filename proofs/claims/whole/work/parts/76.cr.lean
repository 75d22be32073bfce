/-! ROWS OF CONSTRUCTORS: nest mates' links, what is made, the end -/
def nN (U : State) : Prop := va_Nw (.methodLinkNest RX8 9 yX1_init RX8) U ∧ va_Nw (.methodLinkNest RX8 34 yX6_init RX8) U ∧ va_Nw (.methodLinkNest RX4 11 yX7_init RX8) U
theorem nN.warm {s U : State} (hW : s.WarmedH U.vm) (h : nN s) : nN U := ⟨va_Nw.warmM hW h.1, va_Nw.warmM hW h.2.1, va_Nw.warmM hW h.2.2⟩
theorem nN.same {s U : State} (hv : s.vm = U.vm) (h : nN s) : nN U := ⟨va_Nw.same rfl hv h.1, va_Nw.same rfl hv h.2.1, va_Nw.same rfl hv h.2.2⟩
def sN : (Nat → Prop) → State → Heap → Prop := fun _ U _ => nN U
abbrev sc_Q (D : va_G) (cl : List vw_C) (tys : List (ClassId × FieldType)) (A : Nat → Prop) (post : (Nat → Nat) → Prop) (wf : (Nat → Nat) → va_W) : Array Value → State → Outcome → State → Prop := va_Qv post (fun u t => va_P D cl (wf u) t.heap ∧ va_K D cl tys t ∧ va_D A (wf u)) A
def sc_M (l : Launch) (y : MethodName) (ws : List Cond) (rm : Room) (D : va_G) (cl : List vw_C) (tys : List (ClassId × FieldType)) (as : List Value) (w : va_W) (post : (Nat → Nat) → Prop) (wf : (Nat → Nat) → va_W) (mc ms : Nat) : Prop := ∀ sz : Nat, Met l y ws rm (sw_Pc D cl tys sN as w sz) (sc_Q D cl tys (va_A w sz) post wf) mc ms (va_A w sz)
def sc_cal (y : MethodName) (cc : ByteArray) (nL n : Nat) : Prop := Cond.code y cc nL none ∈ sw_tb ∧ Cond.instanceMethod y ∈ sw_tb ∧ Cond.initialized y.cls ∈ sw_tb ∧ y.name = "<init>" ∧ (y.cls ≠ "java/lang/invoke/MethodHandle" ∧ y.cls ≠ "java/lang/invoke/VarHandle" ∧ (parseMethodDescriptor y.desc).map (fun d => d.parameters.length) = some n)
theorem k_arr : Cond.arrayClass .int ∈ sw_tb := sw_in 50 (by decide +kernel) rfl
theorem k_oi : Cond.instanceMethod Lib.objectInit ∈ sw_tb := sw_in 23 (by decide +kernel) rfl
theorem k_oc : Cond.code Lib.objectInit ⟨#[0xb1]⟩ 1 none ∈ sw_tb := sw_in 24 (by decide +kernel) rfl
section CR
variable {p : Program} {l : Launch} {e : Env} {R : Room} {s : State} {m : MethodId} {args : Array Value} {below : List Frame} {meth : Method} {c : Code} {H : Heap} {locs : List Loc} {cells slots : Nat} {Q : State → Prop}
variable {cc : ByteArray} {nL : Nat} {own : String} {ret : Option FieldType} {Ts : List Cond} {D : va_G} {cl : List vw_C} {tys : List (ClassId × FieldType)} {A : Nat → Prop} {w wr ws : va_W} {wf : (Nat → Nat) → va_W} {post : (Nat → Nat) → Prop} {pc : Nat} {ls : Array Slot} {rest st : List Value}
theorem sc_blind {as : List Value} {sz : Nat} : FrameBlind (sw_Pc D cl tys sN as w sz) := by
  intro a U g mk q
  obtain ⟨q0, q1, qP, qK, qD, qF⟩ := q
  exact ⟨q0, q1, qP, va_K.moved (u := U) (U := U.calling g mk a) (Vm.Alike.refl U.vm) qK, qD, nN.same (U := U.calling g mk a) rfl qF⟩
theorem sc_pre {as : List Value} (hK : va_K D cl tys s) (hN : nN s) (hP : va_P D cl w H) (hD : va_D A w) : ∀ U : State, U.heap = H → s.WarmedH U.vm → sw_Pc D cl tys sN as w H.size as.toArray U := by
  intro U hU hW
  exact ⟨rfl, by rw [hU], by rw [hU]; exact hP, va_K.moved hW.alike hK, hD.weaken (fun _ _ _ _ => trivial), hN.warm hW⟩
theorem sc_init {y : MethodName} {bytes : ByteArray} {maxL n index : Nat} {rm : Room} {mc ms : Nat} {b : Nat} {As : List Value} (S : CallFix p m c cc nL s args sw_tb own) (hK : va_K D cl tys s) (hA : ∀ q : Nat, s.heap.size ≤ q → A q) (hN : nN s) (hM : sc_M l y (sw_ws y bytes maxL none) rm D cl tys (.ref b :: As) w post wf mc ms) (hc : sc_cal y bytes maxL n) (hlk : Cond.methodLink own index y ∈ sw_tb) (hrc : rm.cells = mc) (hrs : rm.slots = ms)
    (h2 : sg_2 D cl A w wr H) (hS : va_S A s.heap H locs) (hR : rm.frames + 1 ≤ R.frames ∧ 8 + (maxL + 11) + rm.locals ≤ R.locals) (hf : cells + mc ≤ R.cells ∧ slots + ms ≤ R.slots) (hn : As.length = n) (hl : ls.size = nL) (hst : st = As.reverse ++ .ref b :: rest) (hw : (rest.map fun v => v.category).sum ≤ 8) (hdg : decode cc pc = .ok (.invokespecial index, 3))
    (kk : ∀ (u : Nat → Nat) (H1 : Heap) (locs1 : List Loc), post u → sg_2 D cl A (wf u) wr H1 → va_S A s.heap H1 locs1 → W p l e R s m args below meth c H1 locs1 (cells + mc) (slots + ms) Q (F0 m (pc + 3) ls rest)) : W p l e R s m args below meth c H locs cells slots Q (F0 m pc ls st) := by
  have hP := h2.1
  have hD := h2.2.2.1
  have hsb := sw_sub hA hD hS
  have hts := S.2.2.2.2
  obtain ⟨k1, k2, k3, k4, k5⟩ := hc
  refine va_callv (va_runI (As := As) (rest := rest) S (hM H.size) (cwI n hts (sg_gin k1) rfl hrc hrs (hts _ k3) (hts _ hlk) (hts _ k2) k4 k5 hR) ⟨sc_blind, sc_pre (as := .ref b :: As) hK hN hP hD⟩ rfl hn hl hst (lv_room hw) hdg hf) hS (fun q _ h => hsb q h) hsb (fun u t H1 locs1 ht hvm hw9 hB hz1 hk1 hS1 => ?_)
  obtain ⟨hP1, hK1, hD1⟩ := hB
  rw [ht] at hP1
  exact kk u H1 locs1 hw9 (h2.next hk1 hsb hP1 hD1) hS1
theorem sc_initN {y : MethodName} {host : String} {bytes : ByteArray} {maxL n index : Nat} {rm : Room} {mc ms : Nat} {b : Nat} {As : List Value} (S : CallFix p m c cc nL s args sw_tb own) (hK : va_K D cl tys s) (hA : ∀ q : Nat, s.heap.size ≤ q → A q) (hN : nN s) (hM : sc_M l y (sw_ws y bytes maxL none) rm D cl tys (.ref b :: As) w post wf mc ms) (hc : sc_cal y bytes maxL n) (hlk : va_Nw (.methodLinkNest own index y host) s) (hrc : rm.cells = mc) (hrs : rm.slots = ms)
    (h2 : sg_2 D cl A w wr H) (hS : va_S A s.heap H locs) (hR : rm.frames + 1 ≤ R.frames ∧ 8 + (maxL + 11) + rm.locals ≤ R.locals) (hf : cells + mc ≤ R.cells ∧ slots + ms ≤ R.slots) (hn : As.length = n) (hl : ls.size = nL) (hst : st = As.reverse ++ .ref b :: rest) (hw : (rest.map fun v => v.category).sum ≤ 8) (hdg : decode cc pc = .ok (.invokespecial index, 3))
    (kk : ∀ (u : Nat → Nat) (H1 : Heap) (locs1 : List Loc), post u → sg_2 D cl A (wf u) wr H1 → va_S A s.heap H1 locs1 → W p l e R s m args below meth c H1 locs1 (cells + mc) (slots + ms) Q (F0 m (pc + 3) ls rest)) : W p l e R s m args below meth c H locs cells slots Q (F0 m pc ls st) := by
  have hP := h2.1
  have hD := h2.2.2.1
  have hsb := sw_sub hA hD hS
  have hts := S.2.2.2.2
  obtain ⟨k1, k2, k3, k4, k5⟩ := hc
  refine va_callv (va_runIN (host := host) (As := As) (rest := rest) S (hM H.size) ⟨va_cnB n hts (sg_gin k1) rfl hrc hrs hlk (hts _ k3) k5 hR, k4, hts _ k2⟩ ⟨sc_blind, sc_pre (as := .ref b :: As) hK hN hP hD⟩ rfl hn hl hst (lv_room hw) hdg hf) hS (fun q _ h => hsb q h) hsb (fun u t H1 locs1 ht hvm hw9 hB hz1 hk1 hS1 => ?_)
  obtain ⟨hP1, hK1, hD1⟩ := hB
  rw [ht] at hP1
  exact kk u H1 locs1 hw9 (h2.next hk1 hsb hP1 hD1) hS1
theorem sc_ret {F : (Nat → Prop) → State → Heap → Prop} (X : sw_X p s m args meth c cc nL own none Ts D cl tys F A) (u : Nat → Nat) (hu : post u) (hP : va_P D cl (wf u) H) (hD : va_D A (wf u)) (hS : va_S A s.heap H locs) (hdg : decode cc pc = .ok (.return_, 1)) :
    W p l e R s m args below meth c H locs cells slots (MQ below (sc_Q D cl tys A post wf) args s cells slots A) (F0 m pc ls []) := by
  obtain ⟨⟨hx, hb, hml, hown, hts⟩, hr, hlocks, hK, hA, hF⟩ := X
  exact W.vret hx hb hr (fun t ht hW => ⟨⟨u, rfl, hu, by rw [ht]; exact hP, va_K.moved hW.alike hK, hD⟩, hS.F ht⟩) hS.2.2 hdg
theorem sc_newa {cI : ClassId} {n : Int32} {N : Nat} (S : CallFix p m c cc nL s args sw_tb own) (hK : va_K D cl [(cI, .int)] s) (hA : ∀ q : Nat, s.heap.size ≤ q → A q) (hP : va_P D cl ws H) (hD : va_D A ws) (hS : va_S A s.heap H locs) (hn : ¬ n < 0) (hN : n.toNatClampNeg = N) (hby : N * componentBytes .int ≤ 536870912) (hf : cells + 1 ≤ R.cells ∧ slots + N ≤ R.slots) (hdg : decode cc pc = .ok (.newarray .int, 2))
    (kk : ∀ (q : Nat) (H1 : Heap), va_P D cl (ws ++ [(q, .inl (cI, N, .inl (fun _ => 0)))]) H1 → va_D A (ws ++ [(q, .inl (cI, N, .inl (fun _ => 0)))]) → va_S A s.heap H1 locs → W p l e R s m args below meth c H1 locs (cells + 1) (slots + N) Q (F0 m (pc + 2) ls (.ref q :: rest))) : W p l e R s m args below meth c H locs cells slots Q (F0 m pc ls (.int n :: rest)) := by
  obtain ⟨hx, hb, hml, hown, hts⟩ := S
  refine va_newa (ty := .int) (a0 := (N, .inl (fun _ => 0))) hx hb (atype := .int) (hts _ k_arr) rfl hK hP hD hS hA (fun _ => rfl) hn hN hby hf.1 hf.2 hdg (fun q cA H1 hK1 hP1 hD1 hS1 => ?_)
  have e1 := (hK.2 0 (cI, .int) rfl).2
  have e2 := (hK1.2 1 (cA, .int) rfl).2
  have e3 : cA = cI := Option.some.inj (e2.symm.trans e1)
  subst e3
  exact kk q H1 hP1 hD1 hS1
theorem sc_obj (S : CallFix p m c cc nL s args sw_tb own) {idx : Nat} (hlk : Cond.methodLink own idx Lib.objectInit ∈ sw_tb) {a : Nat} (hl : ls.size = nL) (hw : (rest.map fun v => v.category).sum + 12 ≤ R.locals) (hR : 1 ≤ R.frames) (hdg : decode cc pc = .ok (.invokespecial idx, 3)) (kk : W p l e R s m args below meth c H locs cells slots Q (F0 m (pc + 3) ls rest)) : W p l e R s m args below meth c H locs cells slots Q (F0 m pc ls (.ref a :: rest)) := by
  obtain ⟨hx, hb, hml, hown, hts⟩ := S
  refine W.objInit (g := F0 m pc ls (.ref a :: rest)) hx hb hown (hts _ hlk) (hts _ k_oi) (hts _ k_oc) rfl (by rw [hml]; exact hl) rfl hdg hR ?_ ?_
  · show 2 * 0 + (rest.map fun v => v.category).sum + 12 ≤ R.locals
    omega
  · exact W.eq (g2 := F0 m (pc + 3) ls rest) rfl kk
end CR
def r31 : Nat → Int32 := upd (upd (upd (upd (upd (upd (upd (upd (fun _ => 0) 0 31) 1 31) 2 31) 3 31) 4 31) 5 31) 6 31) 7 31
def z0 : zS := (fun _ => 0, fun k => if k = 1 then r31 else fun _ => 0)
def z1 : zS := (fun _ => 0, fun k => if k = 3 then r31 else fun _ => 0)
