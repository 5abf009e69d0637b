/-! Calls over a part of the world that answer an int; the law's helpers, which catch. -/
def oc (cJ : ClassId) (ao : Nat) (g : Nat → Int64) : Nat × va_E := (ao, .inl (cJ, 1, .inr (.inl g)))
section LR
variable {p : Program} {l : Launch} {e : Env} {R : Room} {s : State} {m : MethodId} {args : Array Value} {below : List Frame} {meth : Method} {c : Code} {H : Heap} {locs : List Loc} {cells slots mc ms : Nat} {Q : State → Prop}
variable {cc : ByteArray} {nL pc : Nat} {ls : Array Slot} {rest : List Value} {own : String} {D : Gd} {tys tc : List (ClassId × FieldType)} {A : Nat → Prop} {w w' wr wc w1 : va_W} {a : Nat} {cI : ClassId}
theorem in_r {q0 : Nat} {x : Nat × va_E} (h : wc[q0]? = some x) : (wr ++ wc)[wr.length + q0]? = some x := by
  rw [List.getElem?_append_right (Nat.le_add_right _ _), Nat.add_sub_cancel_left]; exact h
theorem mk_w {y : MethodName} {n : Nat} {ret : Option FieldType} {hh : List (Nat × Nat × Nat × Nat)} {rm : Room} {as : List Value} {r : Int32} {w' : va_W} (hy : plainName y.cls = true) (hn : (lg_sl as).length ≤ n)
    (body : ∀ (p : Program) (e : Env) (s : State) (m : MethodId) (args : Array Value) (below : List Frame) (meth : Method) (c : Code) (A : Nat → Prop) (ls : Array Slot), Fx p s m args meth c cc n y.cls D tys A → Wd D A s w s.heap [] → meth.sig.returnType = ret → c.exceptionTable.toList = tableOf hh → lv_has ls n (lv_args 0 as) →
      W p l e rm s m args below meth c s.heap [] 0 0 (MQ below (va_Qi (fun (r' : Int32) (u : va_W) => r' = r ∧ u = w') (Po D tys A) A) args s mc ms A) (F0 m 0 ls [])) : CI l y (.codeWith y cc n ret hh) rm D tys as w r w' mc ms := by
  intro sz
  refine va_MetW (cc := cc) (maxL := n) (ret := ret) (hh := hh) hy rfl ?_
  intro p e s m args below meth c s₁ B hml hv
  obtain ⟨rfl, hsz, hP, hK, hD0, hE⟩ := hv
  subst hsz
  have hts := atoms_spec (ws := .codeWith y cc n ret hh :: LW) B.pre
  have hown : s.vm.findClass y.cls = some m.cls := findClass_of_methodNamed B.named
  have htab := vx_table (x := y) B (hts _ List.mem_cons_self)
  have hl := lv_entry as (n := n) hn
  rw [lg_entry_eq]
  exact body p e s m _ below meth c _ _ ⟨B.exec, B.bytes, hml, hown, fun w h => hts w (List.mem_cons_of_mem _ h), hK, hE, fun q h => Or.inr h, B.notSynchronized⟩ ⟨hP, hD0.self, va_S.rf⟩ B.returns htab hl
theorem fin_w {r : Int32} (F : Fx p s m args meth c cc nL own D tys A) (X : Wd D A s w' H locs) (hr : meth.sig.returnType = some .int) (hc : cells ≤ mc) (hs : slots ≤ ms) (hdg : decode cc pc = .ok (.ireturn, 1)) :
    W p l e R s m args below meth c H locs cells slots (MQ below (va_Qi (fun (r' : Int32) (u : va_W) => r' = r ∧ u = w') (Po D tys A) A) args s mc ms A) (F0 m pc ls [.int r]) :=
  W.widen hc hs (W.iret F.x F.b hr (fun t ht hW => ⟨⟨r, w', rfl, ⟨rfl, rfl⟩, by rw [ht]; exact X.1, va_K.moved hW.alike F.2.2.2.2.2.1, X.2.1⟩, X.2.2.F ht⟩) X.2.2.2.2 hdg F.2.2.2.2.2.2.2.2)
/-- a method that returns or throws, over the right part -/
theorem r_tr {C : String} {T : u_T} {N ci q0 index n maxL mc1 ms1 : Nat} {y : MethodName} {bytes : ByteArray} {ret : Option FieldType} {rm : Room} {fs As : List Value} {q1 : Nat × Int32} (F : Fx p s m args meth c cc nL own D tys A) (hKc : va_K D clX tc s) (X : Wd D A s (wr ++ wc) H locs) (hls : ls.size = nL) (hC : CT l y (.code y bytes maxL ret) rm D tc (.ref a :: As) wc q1 w1 mc1 ms1)
    (he : wc[q0]? = some (a, .inr (ci, fs))) (hc : clX[ci]? = some (C, T, N)) (h1 : Cond.methodLink own index y ∈ LW) (h2 : Cond.instanceMethod y ∈ LW) (h3 : Cond.selects C y y ∈ LW) (h4 : Cond.initialized C ∈ LW) (h5 : Cond.code y bytes maxL ret ∈ LW)
    (hd : y.cls = C ∧ y.cls ≠ "java/lang/invoke/MethodHandle" ∧ y.cls ≠ "java/lang/invoke/VarHandle" ∧ (parseMethodDescriptor y.desc).map (fun d => d.parameters.length) = some n) (hR : rm.frames + 1 ≤ R.frames ∧ 8 + (maxL + 11) + rm.locals ≤ R.locals) (hrm : rm.cells = mc1 ∧ rm.slots = ms1) (hcs : cells + mc1 ≤ R.cells ∧ slots + ms1 ≤ R.slots) (hn : As.length = n)
    (hrest : (rest.map fun v => v.category).sum ≤ 8) (hdg : decode cc pc = .ok (.invokevirtual index, 3)) {st0 : List Value} (hst : st0 = As.reverse ++ .ref a :: rest)
    (kx : ¬ q1.1 = 0 → ∀ (H : Heap) (locs : List Loc) (E : String) (ce : Cell) (q9 : Addr), Wd D A s (wr ++ w1) H locs → exn q1.1 E → H[q9]? = some ce → ce.vm = .none → s.vm.findClass E = some ce.cls → vx_W p l e R s m args below meth c H locs (cells + mc1) (slots + ms1) Q (F0 m pc ls rest) q9)
    (kk : q1.1 = 0 → ∀ (H : Heap) (locs : List Loc), Wd D A s (wr ++ w1) H locs → W p l e R s m args below meth c H locs (cells + mc1) (slots + ms1) Q (F0 m (pc + 3) ls (.int q1.2 :: rest))) : W p l e R s m args below meth c H locs cells slots Q (F0 m pc ls st0) := by
  obtain ⟨hx, hb, hml, ho, hts, hK, hE, hA, hlk⟩ := id F
  have cw : CallW R s args own C index y bytes maxL ret (.code y bytes maxL ret :: LW) rm mc1 ms1 n := cwV n (Ts := .code y bytes maxL ret :: LW) (fun w hw => hts w (LW_cons h5 w hw)) (LW_sub (by
    intro w hw
    simp only [wsV, List.mem_append, List.mem_cons, List.not_mem_nil, or_false] at hw
    rcases hw with (rfl | rfl | rfl | rfl) | rfl | hw <;> assumption)) rfl hrm.1 hrm.2 hd hR
  refine vx_calli (vx_runV (As := As) (rest := rest) (b := a) (Ts := LW) ⟨hx, hb, hml, ho, hts⟩ (hC H.size) cw ⟨blind_Pr, va_recv hK X.1 hc (in_r he), pre_r F hKc X⟩ rfl hn hls hst (lv_room hrest) hdg hcs) X.2.2 (fun q _ h => r_A F X q h) (r_A F X) (fun q _ h => r_A F X q h)
    (fun E ce q9 u t H1 locs1 ht hvm hw hB hz1 hk1 hS hce hcv hcl => ?_) (fun r1 u t H1 locs1 ht hvm hw hB hz1 hk1 hS => ?_)
  · obtain rfl := hw
    obtain ⟨hEx, hP1, hK1, hD1⟩ := hB
    rw [ht] at hP1
    obtain ⟨hP2, hD2⟩ := fr_r X.1 X.2.1 hk1 (r_A F X) hP1 hD1
    refine kx (fun e0 => ?_) H1 locs1 E ce q9 ⟨hP2, hD2, hS⟩ hEx hce hcv hcl
    rcases hEx with h | h <;> omega
  · obtain ⟨⟨h0, rfl⟩, rfl⟩ := hw
    obtain ⟨hP1, hK1, hD1⟩ := hB
    rw [ht] at hP1
    obtain ⟨hP2, hD2⟩ := fr_r X.1 X.2.1 hk1 (r_A F X) hP1 hD1
    exact kk h0 H1 locs1 ⟨hP2, hD2, hS⟩
/-- a method that answers an int, over the right part -/
theorem r_vr {C : String} {T : u_T} {N ci q0 index n maxL : Nat} {y : MethodName} {bytes : ByteArray} {ret : Option FieldType} {rm : Room} {fs As : List Value} {r : Int32} (F : Fx p s m args meth c cc nL own D tys A) (hKc : va_K D clX tc s) (X : Wd D A s (wr ++ wc) H locs) (hls : ls.size = nL) (hC : CI l y (.code y bytes maxL ret) rm D tc (.ref a :: As) wc r w1 0 0)
    (he : wc[q0]? = some (a, .inr (ci, fs))) (hc : clX[ci]? = some (C, T, N)) (h1 : Cond.methodLink own index y ∈ LW) (h2 : Cond.instanceMethod y ∈ LW) (h3 : Cond.selects C y y ∈ LW) (h4 : Cond.initialized C ∈ LW) (h5 : Cond.code y bytes maxL ret ∈ LW)
    (hd : y.cls = C ∧ y.cls ≠ "java/lang/invoke/MethodHandle" ∧ y.cls ≠ "java/lang/invoke/VarHandle" ∧ (parseMethodDescriptor y.desc).map (fun d => d.parameters.length) = some n) (hR : rm.frames + 1 ≤ R.frames ∧ 8 + (maxL + 11) + rm.locals ≤ R.locals) (hrm : rm.cells = 0 ∧ rm.slots = 0) (hcs : cells ≤ R.cells ∧ slots ≤ R.slots) (hn : As.length = n)
    (hrest : (rest.map fun v => v.category).sum ≤ 8) (hdg : decode cc pc = .ok (.invokevirtual index, 3)) {st0 : List Value} (hst : st0 = As.reverse ++ .ref a :: rest)
    (kk : ∀ (H : Heap) (locs : List Loc), Wd D A s (wr ++ w1) H locs → W p l e R s m args below meth c H locs cells slots Q (F0 m (pc + 3) ls (.int r :: rest))) : W p l e R s m args below meth c H locs cells slots Q (F0 m pc ls st0) := by
  obtain ⟨hx, hb, hml, ho, hts, hK, hE, hA, hlk⟩ := id F
  have cw : CallW R s args own C index y bytes maxL ret (.code y bytes maxL ret :: LW) rm 0 0 n := cwV n (Ts := .code y bytes maxL ret :: LW) (fun w hw => hts w (LW_cons h5 w hw)) (LW_sub (by
    intro w hw
    simp only [wsV, List.mem_append, List.mem_cons, List.not_mem_nil, or_false] at hw
    rcases hw with (rfl | rfl | rfl | rfl) | rfl | hw <;> assumption)) rfl hrm.1 hrm.2 hd hR
  refine va_calli (va_runV (As := As) (rest := rest) (b := a) (Ts := LW) ⟨hx, hb, hml, ho, hts⟩ (hC H.size) cw ⟨blind_Pr, va_recv hK X.1 hc (in_r he), pre_r F hKc X⟩ rfl hn hls hst (lv_room hrest) hdg hcs) X.2.2 (fun q _ h => r_A F X q h) (r_A F X) (fun r1 u t H1 locs1 ht hvm hw hB hz1 hk1 hS => ?_)
  obtain ⟨rfl, rfl⟩ := hw
  obtain ⟨hP1, hK1, hD1⟩ := hB
  rw [ht] at hP1
  obtain ⟨hP2, hD2⟩ := fr_r X.1 X.2.1 hk1 (r_A F X) hP1 hD1
  exact kk H1 locs1 ⟨hP2, hD2, hS⟩
/-- a static method with handlers of its own that answers an int, over the right part -/
theorem r_sr {index n maxL mc1 ms1 : Nat} {y : MethodName} {bytes : ByteArray} {ret : Option FieldType} {hh : List (Nat × Nat × Nat × Nat)} {rm : Room} {As : List Value} {r : Int32} (F : Fx p s m args meth c cc nL own D tys A) (hKc : va_K D clX tc s) (X : Wd D A s (wr ++ wc) H locs) (hls : ls.size = nL) (hC : CI l y (.codeWith y bytes maxL ret hh) rm D tc As wc r w1 mc1 ms1)
    (h1 : Cond.methodLink own index y ∈ LW) (h2 : Cond.static y ∈ LW) (h4 : Cond.initialized y.cls ∈ LW) (h5 : Cond.codeWith y bytes maxL ret hh ∈ LW)
    (hd : y.cls ≠ "java/lang/invoke/MethodHandle" ∧ y.cls ≠ "java/lang/invoke/VarHandle" ∧ (parseMethodDescriptor y.desc).map (fun d => d.parameters.length) = some n) (hR : rm.frames + 1 ≤ R.frames ∧ 8 + (maxL + 11) + rm.locals ≤ R.locals) (hrm : rm.cells = mc1 ∧ rm.slots = ms1) (hcs : cells + mc1 ≤ R.cells ∧ slots + ms1 ≤ R.slots) (hn : As.length = n)
    (hrest : (rest.map fun v => v.category).sum ≤ 8) (hdg : decode cc pc = .ok (.invokestatic index, 3)) {st0 : List Value} (hst : st0 = As.reverse ++ rest)
    (kk : ∀ (H : Heap) (locs : List Loc), Wd D A s (wr ++ w1) H locs → W p l e R s m args below meth c H locs (cells + mc1) (slots + ms1) Q (F0 m (pc + 3) ls (.int r :: rest))) : W p l e R s m args below meth c H locs cells slots Q (F0 m pc ls st0) := by
  obtain ⟨hx, hb, hml, ho, hts, hK, hE, hA, hlk⟩ := id F
  have cw : vx_CSW R s args own index y bytes maxL ret hh (.codeWith y bytes maxL ret hh :: LW) rm mc1 ms1 n := vx_cwSW n (Ts := .codeWith y bytes maxL ret hh :: LW) (fun w hw => hts w (LW_cons h5 w hw)) (LW_sub (ws := va_wsS own index y (.codeWith y bytes maxL ret hh :: LW)) (by
    intro w hw
    simp only [va_wsS, List.mem_append, List.mem_cons, List.not_mem_nil, or_false] at hw
    rcases hw with (rfl | rfl | rfl) | rfl | hw <;> assumption)) rfl hrm.1 hrm.2 hd hR
  refine va_calli (vx_runSW (As := As) (rest := rest) (Ts := LW) ⟨hx, hb, hml, ho, hts⟩ (hC H.size) cw ⟨blind_Pr, pre_r F hKc X⟩ rfl hn hls hst (lv_room hrest) hdg hcs) X.2.2 (fun q _ h => r_A F X q h) (r_A F X) (fun r1 u t H1 locs1 ht hvm hw hB hz1 hk1 hS => ?_)
  obtain ⟨rfl, rfl⟩ := hw
  obtain ⟨hP1, hK1, hD1⟩ := hB
  rw [ht] at hP1
  obtain ⟨hP2, hD2⟩ := fr_r X.1 X.2.1 hk1 (r_A F X) hP1 hD1
  exact kk H1 locs1 ⟨hP2, hD2, hS⟩
/-- the law's own word: a place of the long array -/
theorem r_last {cJ : ClassId} {g : Nat → Int64} {x : Int64} {i : Int32} (F : Fx p s m args meth c cc nL own D tys A) (X : Wd D A s ([oc cJ a g] ++ wc) H locs) (ht : tys[1]? = some (cJ, .long)) (hin : ¬ (i < 0 ∨ 1 ≤ i.toNatClampNeg)) (hdg : decode cc pc = .ok (.lastore, 1))
    (kk : ∀ (H : Heap) (locs : List Loc), Wd D A s ([oc cJ a (vp_updL g i.toNatClampNeg x)] ++ wc) H locs → W p l e R s m args below meth c H locs cells slots Q (F0 m (pc + 1) ls rest)) : W p l e R s m args below meth c H locs cells slots Q (F0 m pc ls (.long x :: .int i :: .ref a :: rest)) :=
  va_last F.x F.b F.2.2.2.2.2.1 X.1 X.2.1 X.2.2 0 1 rfl ht hin hdg (fun H1 l1 h1 h2 h3 => kk H1 l1 ⟨h1, h2, h3⟩)
end LR
