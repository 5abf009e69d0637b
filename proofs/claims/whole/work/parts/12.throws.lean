/-! Methods that return or throw: contracts, ends, calls. -/
def exn (k : Nat) (E : String) : Prop := (k = 1 ∧ E = "java/util/NoSuchElementException") ∨ (k = 2 ∧ E = "java/lang/IllegalStateException")
def QT (D : Gd) (tys : List (ClassId × FieldType)) (A : Nat → Prop) (q : Nat × Int32) (w' : va_W) : Array Value → State → Outcome → State → Prop := va_Qi (fun (r' : Int32) (u : va_W) => (q.1 = 0 ∧ r' = q.2) ∧ u = w') (Po D tys A) A
def XT (D : Gd) (tys : List (ClassId × FieldType)) (A : Nat → Prop) (q : Nat × Int32) (w' : va_W) : String → State → State → Prop := vx_X (fun (u : va_W) => u = w') (fun E u t => exn q.1 E ∧ Po D tys A u t) A
def CT (l : Launch) (y : MethodName) (cw : Cond) (rm : Room) (D : Gd) (tys : List (ClassId × FieldType)) (as : List Value) (w : va_W) (q : Nat × Int32) (w' : va_W) (mc ms : Nat) : Prop :=
  ∀ sz : Nat, vx_Met l y (cw :: LW) rm (va_Pc as (fun U => U.heap.size = sz ∧ Pr D tys w U)) (QT D tys (va_A w sz) q w') (XT D tys (va_A w sz) q w') mc ms (va_A w sz)
theorem at_ok1 : ∀ w ∈ vx_at0 "TypeBench" 84 "java/util/NoSuchElementException" ["java/lang/RuntimeException", "java/lang/Exception"], w ∈ LW ∨ w ∈ NW := by
  have h : (vx_at0 "TypeBench" 84 "java/util/NoSuchElementException" ["java/lang/RuntimeException", "java/lang/Exception"]).all (fun w => (decide (w ∈ lw_tbl) && goodWord w) || decide (w ∈ NW)) = true := by decide +kernel
  intro w hw
  have h1 := List.all_eq_true.mp h w hw
  simp only [Bool.or_eq_true, Bool.and_eq_true, decide_eq_true_eq] at h1
  rcases h1 with h1 | h1
  · exact Or.inl (List.mem_filter.mpr h1)
  · exact Or.inr h1
theorem at_ok2 : ∀ w ∈ vx_at0 "TypeBench" 121 "java/lang/IllegalStateException" ["java/lang/RuntimeException", "java/lang/Exception"], w ∈ LW ∨ w ∈ NW := by
  have h : (vx_at0 "TypeBench" 121 "java/lang/IllegalStateException" ["java/lang/RuntimeException", "java/lang/Exception"]).all (fun w => (decide (w ∈ lw_tbl) && goodWord w) || decide (w ∈ NW)) = true := by decide +kernel
  intro w hw
  have h1 := List.all_eq_true.mp h w hw
  simp only [Bool.or_eq_true, Bool.and_eq_true, decide_eq_true_eq] at h1
  rcases h1 with h1 | h1
  · exact Or.inl (List.mem_filter.mpr h1)
  · exact Or.inr h1
theorem NW_tab {w : Cond} (h : w ∈ NW) : w.onTables = true := by
  have h0 : NW.all (fun w => w.onTables) = true := by decide +kernel
  exact List.all_eq_true.mp h0 w h
section TW
variable {p : Program} {l : Launch} {e : Env} {R : Room} {s : State} {m : MethodId} {args : Array Value} {below : List Frame} {meth : Method} {c : Code} {H : Heap} {locs : List Loc} {cells slots mc ms : Nat} {Q : State → Prop}
variable {cc : ByteArray} {nL pc : Nat} {ls : Array Slot} {rest : List Value} {own : String} {D : Gd} {tys : List (ClassId × FieldType)} {A : Nat → Prop} {w w' : va_W} {a : Nat} {q : Nat × Int32}
theorem mk_t {y : MethodName} {n : Nat} {ret : Option FieldType} {rm : Room} {as : List Value} {w' : va_W} (hy : plainName y.cls = true) (hn : (lg_sl as).length ≤ n)
    (body : ∀ (p : Program) (e : Env) (s : State) (m : MethodId) (args : Array Value) (below : List Frame) (meth : Method) (c : Code) (A : Nat → Prop) (ls : Array Slot), Fx p s m args meth c cc n y.cls D tys A → Wd D A s w s.heap [] → meth.sig.returnType = ret → (∀ x ∈ c.exceptionTable.toList, False) → lv_has ls n (lv_args 0 as) →
      W p l e rm s m args below meth c s.heap [] 0 0 (vx_MQ below (QT D tys A q w') (XT D tys A q w') args s mc ms A) (F0 m 0 ls [])) : CT l y (.code y cc n ret) rm D tys as w q w' mc ms := by
  intro sz
  refine vx_ofW (cc := cc) (maxL := n) (ret := ret) hy rfl ?_
  intro p e s m args below meth c s₁ B hml hno hv
  obtain ⟨rfl, hsz, hP, hK, hD0, hE⟩ := hv
  subst hsz
  have hts := atoms_spec (ws := .code y cc n ret :: LW) B.pre
  have hown : s.vm.findClass y.cls = some m.cls := findClass_of_methodNamed B.named
  have hl := lv_entry as (n := n) hn
  rw [lg_entry_eq]
  exact body p e s m _ below meth c _ _ ⟨B.exec, B.bytes, hml, hown, fun w h => hts w (List.mem_cons_of_mem _ h), hK, hE, fun q h => Or.inr h, B.notSynchronized⟩ ⟨hP, hD0.self, va_S.rf⟩ B.returns hno hl
theorem fin_t {r : Int32} (F : Fx p s m args meth c cc nL own D tys A) (X : Wd D A s w' H locs) (hr : meth.sig.returnType = some .int) (h0 : q.1 = 0 ∧ r = q.2) (hc : cells ≤ mc) (hs : slots ≤ ms) (hdg : decode cc pc = .ok (.ireturn, 1)) :
    W p l e R s m args below meth c H locs cells slots (vx_MQ below (QT D tys A q w') (XT D tys A q w') args s mc ms A) (F0 m pc ls [.int r]) :=
  W.widen hc hs (vx_ret (W.iret F.x F.b hr (fun t ht hW => ⟨⟨r, w', rfl, ⟨h0, rfl⟩, by rw [ht]; exact X.1, va_K.moved hW.alike F.2.2.2.2.2.1, X.2.1⟩, X.2.2.F ht⟩) X.2.2.2.2 hdg F.2.2.2.2.2.2.2.2))
theorem fin_tz {r : Int32} (F : Fx p s m args meth c cc nL own D tys A) (X : Wd D A s w' H locs) (hr : meth.sig.returnType = some .boolean) (h0 : q.1 = 0 ∧ r = q.2) (h01 : r = 0 ∨ r = 1) (hc : cells ≤ mc) (hs : slots ≤ ms) (hdg : decode cc pc = .ok (.ireturn, 1)) :
    W p l e R s m args below meth c H locs cells slots (vx_MQ below (QT D tys A q w') (XT D tys A q w') args s mc ms A) (F0 m pc ls [.int r]) :=
  W.widen hc hs (vx_ret (W.zret F.x F.b hr (by rcases h01 with rfl | rfl <;> decide) (fun t ht hW => ⟨⟨r, w', rfl, ⟨h0, rfl⟩, by rw [ht]; exact X.1, va_K.moved hW.alike F.2.2.2.2.2.1, X.2.1⟩, X.2.2.F ht⟩) X.2.2.2.2 hdg F.2.2.2.2.2.2.2.2))
/-- 'throw new E()' in a method without handlers -/
theorem r_throw {cls : String} {ik ic : Nat} (F : Fx p s m args meth c cc nL own D tys A) (X : Wd D A s w' H locs) (hls : ls.size = nL) (hno : ∀ x ∈ c.exceptionTable.toList, False) (hl : l.stackTraces = false) (hq : exn q.1 cls)
    (hk : Cond.classLink own ik cls ∈ LW) (hini : Cond.initialized cls ∈ LW) (hat : ∀ w ∈ vx_at0 own ic cls ["java/lang/RuntimeException", "java/lang/Exception"], w ∈ LW ∨ w ∈ NW) (hcls : Bundle.fit cls = true)
    (d0 : decode cc pc = .ok (.new ik, 3)) (d3 : decode cc (pc + 3) = .ok (.dup, 1)) (d4 : decode cc (pc + 4) = .ok (.invokespecial ic, 3)) (d7 : decode cc (pc + 7) = .ok (.athrow, 1))
    (hRf : 5 < R.frames) (hRl : (rest.map fun v => v.category).sum + 81 ≤ R.locals) (hRc : cells + 1 ≤ R.cells) (hRs : slots + 6 ≤ R.slots) (hc : cells + 1 ≤ mc) (hs : slots + 6 ≤ ms) :
    W p l e R s m args below meth c H locs cells slots (vx_MQ below (QT D tys A q w') (XT D tys A q w') args s mc ms A) (F0 m pc ls rest) := by
  obtain ⟨hx, hb, hml, ho, hts, hK, hE, hA, hlk⟩ := id F
  refine vx_throw0 hx hb hl (own := own) (cls := cls) (names := ["java/lang/RuntimeException", "java/lang/Exception"]) (ik := ik) (ic := ic) (A := A) ho hcls (by decide) (hts _ hk) (hts _ hini)
    (fun w hw => (hat w hw).elim (fun h => hts w h) (fun h => va_Nw.use (NW_tab h) (hE.1 w h))) (fun w hw => ?_) hE.2.1 hE.2.2.1 X.2.2 (hls.trans hml.symm) d0 d3 d4 d7 (fun x hx => (hno x hx).elim) hRf hRl hRc hRs hlk (fun t hvm hz hkp => ?_) X.2.2.2.2 hc hs
  · have good : ∀ w, w ∈ LW ∨ w ∈ NW → vx_ot w = true := fun w h => by
      unfold vx_ot
      rcases h with h | h
      · rw [LW_good h]; exact Bool.or_true _
      · rw [NW_tab h]; exact Bool.true_or _
    rcases List.mem_cons.mp hw with rfl | hw
    · exact good _ (Or.inl hk)
    · rcases List.mem_cons.mp hw with rfl | hw
      · exact good _ (Or.inl hini)
      · exact good _ (hat w hw)
  · refine ⟨w', rfl, ⟨hq, X.1.kept (fun k q9 hq9 => hkp _ ((X.1 k q9 hq9).lt)), va_K.moved hvm hK, X.2.1⟩, Nat.le_trans X.2.2.1 hz, fun q9 h1 h2 => ?_⟩
    rw [hkp q9 (Nat.lt_of_lt_of_le h1 X.2.2.1)]
    exact X.2.2.2.1 q9 h1 h2
/-- an exception of a callee's goes on to the caller -/
theorem r_out {E : String} {ce : Cell} {q9 : Addr} (F : Fx p s m args meth c cc nL own D tys A) (X : Wd D A s w' H locs) (hno : ∀ x ∈ c.exceptionTable.toList, False) (hE : exn q.1 E) (hce : H[q9]? = some ce) (hcv : ce.vm = .none) (hcl : s.vm.findClass E = some ce.cls) (hc : cells ≤ mc) (hs : slots ≤ ms) :
    vx_W p l e R s m args below meth c H locs cells slots (vx_MQ below (QT D tys A q w') (XT D tys A q w') args s mc ms A) (F0 m pc ls rest) q9 :=
  vx_out (E := E) (fun x hx => (hno x hx).elim) F.2.2.2.2.2.2.2.2 hce hcv hcl (fun t ht hvm => ⟨w', rfl, ⟨hE, by rw [ht]; exact X.1, va_K.moved hvm F.2.2.2.2.2.1, X.2.1⟩, X.2.2.F ht⟩) X.2.2.2.2 hc hs
/-- a call of an own method that returns or throws -/
theorem r_t {C : String} {T : u_T} {N ci q0 index n maxL mc1 ms1 : Nat} {y : MethodName} {bytes : ByteArray} {ret : Option FieldType} {rm : Room} {fs As : List Value} {q1 : Nat × Int32} (F : Fx p s m args meth c cc nL own D tys A) (X : Wd D A s w H locs) (hls : ls.size = nL) (hC : CT l y (.code y bytes maxL ret) rm D tys (.ref a :: As) w q1 w' mc1 ms1)
    (he : w[q0]? = some (a, .inr (ci, fs))) (hc : clX[ci]? = some (C, T, N)) (h1 : Cond.methodLink own index y ∈ LW) (h2 : Cond.instanceMethod y ∈ LW) (h3 : Cond.selects C y y ∈ LW) (h4 : Cond.initialized C ∈ LW) (h5 : Cond.code y bytes maxL ret ∈ LW)
    (hd : y.cls = C ∧ y.cls ≠ "java/lang/invoke/MethodHandle" ∧ y.cls ≠ "java/lang/invoke/VarHandle" ∧ (parseMethodDescriptor y.desc).map (fun d => d.parameters.length) = some n) (hR : rm.frames + 1 ≤ R.frames ∧ 8 + (maxL + 11) + rm.locals ≤ R.locals) (hrm : rm.cells = mc1 ∧ rm.slots = ms1) (hcs : cells + mc1 ≤ R.cells ∧ slots + ms1 ≤ R.slots) (hn : As.length = n)
    (hrest : (rest.map fun v => v.category).sum ≤ 8) (hdg : decode cc pc = .ok (.invokevirtual index, 3)) {st0 : List Value} (hst : st0 = As.reverse ++ .ref a :: rest)
    (kx : ¬ q1.1 = 0 → ∀ (H : Heap) (locs : List Loc) (E : String) (ce : Cell) (q9 : Addr), Wd D A s w' H locs → exn q1.1 E → H[q9]? = some ce → ce.vm = .none → s.vm.findClass E = some ce.cls → vx_W p l e R s m args below meth c H locs (cells + mc1) (slots + ms1) Q (F0 m pc ls rest) q9)
    (kk : q1.1 = 0 → ∀ (H : Heap) (locs : List Loc), Wd D A s w' H locs → W p l e R s m args below meth c H locs (cells + mc1) (slots + ms1) Q (F0 m (pc + 3) ls (.int q1.2 :: rest))) : W p l e R s m args below meth c H locs cells slots Q (F0 m pc ls st0) := by
  obtain ⟨hx, hb, hml, ho, hts, hK, hE, hA, hlk⟩ := id F
  have cw : CallW R s args own C index y bytes maxL ret (.code y bytes maxL ret :: LW) rm mc1 ms1 n := cwV n (Ts := .code y bytes maxL ret :: LW) (fun w hw => hts w (LW_cons h5 w hw)) (LW_sub (by
    intro w hw
    simp only [wsV, List.mem_append, List.mem_cons, List.not_mem_nil, or_false] at hw
    rcases hw with (rfl | rfl | rfl | rfl) | rfl | hw <;> assumption)) rfl hrm.1 hrm.2 hd hR
  refine vx_calli (vx_runV (As := As) (rest := rest) (b := a) (Ts := LW) ⟨hx, hb, hml, ho, hts⟩ (hC H.size) cw ⟨blind_Pr, va_recv hK X.1 hc he, pre_all F X⟩ rfl hn hls hst (lv_room hrest) hdg hcs) X.2.2 (fun q _ h => all_A F X q h) (all_A F X) (fun q _ h => all_A F X q h)
    (fun E ce q9 u t H1 locs1 ht hvm hw hB hz1 hk1 hS hce hcv hcl => ?_) (fun r1 u t H1 locs1 ht hvm hw hB hz1 hk1 hS => ?_)
  · obtain rfl := hw
    obtain ⟨hEx, hP1, hK1, hD1⟩ := hB
    rw [ht] at hP1
    refine kx (fun e0 => ?_) H1 locs1 E ce q9 ⟨hP1, hD1.weaken (fun k q hk hq => all_A F X _ hq), hS⟩ hEx hce hcv hcl
    rcases hEx with h | h <;> omega
  · obtain ⟨⟨h0, rfl⟩, rfl⟩ := hw
    obtain ⟨hP1, hK1, hD1⟩ := hB
    rw [ht] at hP1
    exact kk h0 H1 locs1 ⟨hP1, hD1.weaken (fun k q hk hq => all_A F X _ hq), hS⟩
end TW
