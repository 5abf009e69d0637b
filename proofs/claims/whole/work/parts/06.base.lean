/-! States of the two objects as numbers and rows of numbers; worlds; contracts in one form; rows of the kit in that form. -/
abbrev St : Type := (Nat → Int32) × (Nat → Nat → Int32)
def wsc (s : St) (k : Nat) (v : Int32) : St := (fun j => if j = k then v else s.1 j, s.2)
def wal (s : St) (k : Nat) (f : Nat → Int32) : St := (s.1, fun j => if j = k then f else s.2 j)
def war (s : St) (k i : Nat) (v : Int32) : St := wal s k (upd (s.2 k) i v)
/-- what every contract asks of the tables beside its words -/
def EV (A : Nat → Prop) (U : State) : Prop := (∀ w ∈ NW, va_Nw w U) ∧ vx_Zq Bundle.tN "UNASSIGNED_STACK" Bundle.steD A U U.heap ∧ vx_Zq Bundle.tN "SUPPRESSED_SENTINEL" Bundle.listD A U U.heap ∧ va_Nc "java/lang/IllegalStateException" "java/util/NoSuchElementException" U
theorem EV.go {A A' : Nat → Prop} {s U : State} {H : Heap} {locs : List Loc} (h : EV A s) (hS : va_S A s.heap H locs) (hU : U.heap = H) (hW : s.WarmedH U.vm) (hA : ∀ q, A' q → A q) : EV A' U := by
  refine ⟨fun w hw => ?_, ?_, ?_, va_Nc.moved hW.alike h.2.2.2⟩
  · have h1 := h.1 w hw
    simp only [NW, List.mem_cons, List.not_mem_nil, or_false] at hw
    rcases hw with rfl | rfl | rfl | rfl | rfl | rfl | rfl | rfl | rfl | rfl | rfl | rfl | rfl | rfl | rfl | rfl | rfl | rfl | rfl | rfl | rfl | rfl | rfl <;> first | exact va_Nw.warmM hW h1 | exact va_Nw.warmF hW h1 | exact va_Nw.warmD hW h1 | exact va_Nw.warmC hW h1
  · rw [hU]
    exact ((vx_Zq.moved hW.alike h.2.1).kept (fun a ha hna => hS.2.1 a ha hna)).narrow hA
  · rw [hU]
    exact ((vx_Zq.moved hW.alike h.2.2.1).kept (fun a ha hna => hS.2.1 a ha hna)).narrow hA
theorem EV.blind {A : Nat → Prop} {U : State} (g : JFrame) (mk : MethodId) (a : Array Value) (h : EV A U) : EV A (U.calling g mk a) :=
  ⟨fun w hw => by
    have h1 := h.1 w hw
    simp only [NW, List.mem_cons, List.not_mem_nil, or_false] at hw
    rcases hw with rfl | rfl | rfl | rfl | rfl | rfl | rfl | rfl | rfl | rfl | rfl | rfl | rfl | rfl | rfl | rfl | rfl | rfl | rfl | rfl | rfl | rfl | rfl <;> exact va_Nw.same rfl (u := U) (U := U.calling g mk a) rfl h1,
   vx_Zq.moved (u := U) (U := U.calling g mk a) (Vm.Alike.refl U.vm) h.2.1, vx_Zq.moved (u := U) (U := U.calling g mk a) (Vm.Alike.refl U.vm) h.2.2.1, va_Nc.moved (u := U) (U := U.calling g mk a) (Vm.Alike.refl U.vm) h.2.2.2⟩
abbrev Gd : Type := (Nat → ClassId) × (Nat → Nat → Nat)
/-- a contract's start: the world w -/
def Pr (D : Gd) (tys : List (ClassId × FieldType)) (w : va_W) (U : State) : Prop := va_P D clX w U.heap ∧ va_K D clX tys U ∧ va_D (fun _ => True) w ∧ EV (va_A w U.heap.size) U
/-- .. and its end -/
def Po (D : Gd) (tys : List (ClassId × FieldType)) (A : Nat → Prop) (u : va_W) (t : State) : Prop := va_P D clX u t.heap ∧ va_K D clX tys t ∧ va_D A u
def CI (l : Launch) (y : MethodName) (cw : Cond) (rm : Room) (D : Gd) (tys : List (ClassId × FieldType)) (as : List Value) (w : va_W) (r : Int32) (w' : va_W) (mc ms : Nat) : Prop :=
  ∀ sz : Nat, Met l y (cw :: LW) rm (va_Pc as (fun U => U.heap.size = sz ∧ Pr D tys w U)) (va_Qi (fun (r' : Int32) (u : va_W) => r' = r ∧ u = w') (Po D tys (va_A w sz)) (va_A w sz)) mc ms (va_A w sz)
def CV (l : Launch) (y : MethodName) (cw : Cond) (rm : Room) (D : Gd) (tys : List (ClassId × FieldType)) (as : List Value) (w : va_W) (w' : va_W) (mc ms : Nat) : Prop :=
  ∀ sz : Nat, Met l y (cw :: LW) rm (va_Pc as (fun U => U.heap.size = sz ∧ Pr D tys w U)) (va_Qv (fun (u : va_W) => u = w') (Po D tys (va_A w sz)) (va_A w sz)) mc ms (va_A w sz)
theorem blind_Pr {as : List Value} {D : Gd} {tys : List (ClassId × FieldType)} {w : va_W} {sz : Nat} : FrameBlind (va_Pc as (fun U => U.heap.size = sz ∧ Pr D tys w U)) := by
  intro a U g mk q
  obtain ⟨q0, q1, qP, qK, qD, qE⟩ := q
  exact ⟨q0, q1, qP, va_K.moved (u := U) (U := U.calling g mk a) (Vm.Alike.refl U.vm) qK, qD, EV.blind g mk a qE⟩
theorem LW_good {w : Cond} (h : w ∈ LW) : goodWord w = true := (List.mem_filter.mp h).2
theorem LW_sub {c0 : Cond} {ws : List Cond} (h : ∀ w ∈ ws, w ∈ LW) : GoodIn (c0 :: LW) ws := fun w hw => ⟨List.mem_cons_of_mem _ (h w hw), good_of_word (LW_good (h w hw))⟩
theorem LW_cons {c1 : Cond} (h : c1 ∈ LW) : ∀ w ∈ c1 :: LW, w ∈ LW := fun w hw => (List.mem_cons.mp hw).elim (fun e => by rw [e]; exact h) id
/-- what a walk knows of its method -/
def Fx (p : Program) (s : State) (m : MethodId) (args : Array Value) (meth : Method) (c : Code) (cc : ByteArray) (nL : Nat) (own : String) (D : Gd) (tys : List (ClassId × FieldType)) (A : Nat → Prop) : Prop :=
  p.tables.exec = Jvm.exec ∧ c.code = cc ∧ c.maxLocals = nL ∧ s.vm.findClass own = some m.cls ∧ (∀ w ∈ LW, w.before args s = true) ∧ va_K D clX tys s ∧ EV A s ∧ (∀ q, s.heap.size ≤ q → A q) ∧ meth.locks = false
/-- the world of a walk: the cells w, nothing else changed -/
def Wd (D : Gd) (A : Nat → Prop) (s : State) (w : va_W) (H : Heap) (locs : List Loc) : Prop := va_P D clX w H ∧ va_D A w ∧ va_S A s.heap H locs
section BW
variable {p : Program} {l : Launch} {e : Env} {R : Room} {s : State} {m : MethodId} {args : Array Value} {below : List Frame} {meth : Method} {c : Code} {H : Heap} {locs : List Loc} {cells slots : Nat} {Q : State → Prop}
variable {cc : ByteArray} {nL pc : Nat} {ls : Array Slot} {rest : List Value} {own : String} {D : Gd} {tys : List (ClassId × FieldType)} {A : Nat → Prop} {w w' : va_W} {a : Nat}
theorem Fx.x (F : Fx p s m args meth c cc nL own D tys A) : p.tables.exec = Jvm.exec := F.1
theorem Fx.b (F : Fx p s m args meth c cc nL own D tys A) : c.code = cc := F.2.1
theorem mk_i {y : MethodName} {n : Nat} {ret : Option FieldType} {rm : Room} {as : List Value} {r : Int32} {w' : va_W} (hy : plainName y.cls = true) (hn : (lg_sl as).length ≤ n)
    (body : ∀ (p : Program) (e : Env) (s : State) (m : MethodId) (args : Array Value) (below : List Frame) (meth : Method) (c : Code) (A : Nat → Prop) (ls : Array Slot), Fx p s m args meth c cc n y.cls D tys A → Wd D A s w s.heap [] → meth.sig.returnType = ret → lv_has ls n (lv_args 0 as) →
      W p l e rm s m args below meth c s.heap [] 0 0 (MQ below (va_Qi (fun (r' : Int32) (u : va_W) => r' = r ∧ u = w') (Po D tys A) A) args s 0 0 A) (F0 m 0 ls [])) : CI l y (.code y cc n ret) rm D tys as w r w' 0 0 := by
  intro sz
  refine Met.ofW (cc := cc) (maxL := n) (ret := ret) hy rfl ?_
  intro p e s m args below meth c s₁ B hml hv
  obtain ⟨rfl, hsz, hP, hK, hD0, hE⟩ := hv
  subst hsz
  have hts := atoms_spec (ws := .code y cc n ret :: LW) B.pre
  have hown : s.vm.findClass y.cls = some m.cls := findClass_of_methodNamed B.named
  have hl := lv_entry as (n := n) hn
  rw [lg_entry_eq]
  exact body p e s m _ below meth c _ _ ⟨B.exec, B.bytes, hml, hown, fun w h => hts w (List.mem_cons_of_mem _ h), hK, hE, fun q h => Or.inr h, B.notSynchronized⟩ ⟨hP, hD0.self, va_S.rf⟩ B.returns hl
theorem mk_v {y : MethodName} {n : Nat} {rm : Room} {as : List Value} {w' : va_W} (hy : plainName y.cls = true) (hn : (lg_sl as).length ≤ n)
    (body : ∀ (p : Program) (e : Env) (s : State) (m : MethodId) (args : Array Value) (below : List Frame) (meth : Method) (c : Code) (A : Nat → Prop) (ls : Array Slot), Fx p s m args meth c cc n y.cls D tys A → Wd D A s w s.heap [] → meth.sig.returnType = none → lv_has ls n (lv_args 0 as) →
      W p l e rm s m args below meth c s.heap [] 0 0 (MQ below (va_Qv (fun (u : va_W) => u = w') (Po D tys A) A) args s 0 0 A) (F0 m 0 ls [])) : CV l y (.code y cc n none) rm D tys as w w' 0 0 := by
  intro sz
  refine Met.ofW (cc := cc) (maxL := n) (ret := none) hy rfl ?_
  intro p e s m args below meth c s₁ B hml hv
  obtain ⟨rfl, hsz, hP, hK, hD0, hE⟩ := hv
  subst hsz
  have hts := atoms_spec (ws := .code y cc n none :: LW) B.pre
  have hown : s.vm.findClass y.cls = some m.cls := findClass_of_methodNamed B.named
  have hl := lv_entry as (n := n) hn
  rw [lg_entry_eq]
  exact body p e s m _ below meth c _ _ ⟨B.exec, B.bytes, hml, hown, fun w h => hts w (List.mem_cons_of_mem _ h), hK, hE, fun q h => Or.inr h, B.notSynchronized⟩ ⟨hP, hD0.self, va_S.rf⟩ B.returns hl
theorem fin_i {r : Int32} (F : Fx p s m args meth c cc nL own D tys A) (X : Wd D A s w' H locs) (hr : meth.sig.returnType = some .int) (hdg : decode cc pc = .ok (.ireturn, 1)) :
    W p l e R s m args below meth c H locs 0 0 (MQ below (va_Qi (fun (r' : Int32) (u : va_W) => r' = r ∧ u = w') (Po D tys A) A) args s 0 0 A) (F0 m pc ls [.int r]) :=
  W.iret F.x F.b hr (fun t ht hW => ⟨⟨r, w', rfl, ⟨rfl, rfl⟩, by rw [ht]; exact X.1, va_K.moved hW.alike F.2.2.2.2.2.1, X.2.1⟩, X.2.2.F ht⟩) X.2.2.2.2 hdg F.2.2.2.2.2.2.2.2
theorem fin_z {r : Int32} (F : Fx p s m args meth c cc nL own D tys A) (X : Wd D A s w' H locs) (hr : meth.sig.returnType = some .boolean) (h01 : r = 0 ∨ r = 1) (hdg : decode cc pc = .ok (.ireturn, 1)) :
    W p l e R s m args below meth c H locs 0 0 (MQ below (va_Qi (fun (r' : Int32) (u : va_W) => r' = r ∧ u = w') (Po D tys A) A) args s 0 0 A) (F0 m pc ls [.int r]) :=
  W.zret F.x F.b hr (by rcases h01 with rfl | rfl <;> decide) (fun t ht hW => ⟨⟨r, w', rfl, ⟨rfl, rfl⟩, by rw [ht]; exact X.1, va_K.moved hW.alike F.2.2.2.2.2.1, X.2.1⟩, X.2.2.F ht⟩) X.2.2.2.2 hdg F.2.2.2.2.2.2.2.2
theorem fin_v (F : Fx p s m args meth c cc nL own D tys A) (X : Wd D A s w' H locs) (hr : meth.sig.returnType = none) (hdg : decode cc pc = .ok (.return_, 1)) :
    W p l e R s m args below meth c H locs 0 0 (MQ below (va_Qv (fun (u : va_W) => u = w') (Po D tys A) A) args s 0 0 A) (F0 m pc ls []) :=
  W.vret F.x F.b hr (fun t ht hW => ⟨⟨w', rfl, rfl, by rw [ht]; exact X.1, va_K.moved hW.alike F.2.2.2.2.2.1, X.2.1⟩, X.2.2.F ht⟩) X.2.2.2.2 hdg F.2.2.2.2.2.2.2.2
theorem r_get {C : String} {T : u_T} {N ci index : Nat} {fs : List Value} {v : Value} (F : Fx p s m args meth c cc nL own D tys A) (X : Wd D A s w H locs) (hin : ∀ z ∈ u_ws C T N, z ∈ LW) (q0 k : Nat) (he : w[q0]? = some (a, .inr (ci, fs))) (hc : clX[ci]? = some (C, T, N)) (hk : k < N)
    (hlink : Cond.fieldLink own index (T k).1 (T k).2.1 (T k).2.2.1 ∈ LW) (hv : fs[k]? = some v) (hdg : decode cc pc = .ok (.getfield index, 3))
    (kk : W p l e R s m args below meth c H locs cells slots Q (F0 m (pc + 3) ls (v :: rest))) : W p l e R s m args below meth c H locs cells slots Q (F0 m pc ls (.ref a :: rest)) :=
  va_get F.x F.b F.2.2.2.2.1 hin F.2.2.2.1 F.2.2.2.2.2.1 X.1 q0 he hc k hk (F.2.2.2.2.1 _ hlink) (fun _ h => h) hv hdg kk
theorem r_getN {C host : String} {T : u_T} {N ci index : Nat} {fs : List Value} {v : Value} (F : Fx p s m args meth c cc nL own D tys A) (X : Wd D A s w H locs) (hin : ∀ z ∈ u_ws C T N, z ∈ LW) (q0 k : Nat) (he : w[q0]? = some (a, .inr (ci, fs))) (hc : clX[ci]? = some (C, T, N)) (hk : k < N)
    (hlink : Cond.fieldLinkNest own index (T k).1 (T k).2.1 (T k).2.2.1 host ∈ NW) (hv : fs[k]? = some v) (hdg : decode cc pc = .ok (.getfield index, 3))
    (kk : W p l e R s m args below meth c H locs cells slots Q (F0 m (pc + 3) ls (v :: rest))) : W p l e R s m args below meth c H locs cells slots Q (F0 m pc ls (.ref a :: rest)) :=
  va_getN F.x F.b F.2.2.2.2.1 hin F.2.2.2.1 F.2.2.2.2.2.1 X.1 q0 he hc k hk (va_Nw.use rfl (F.2.2.2.2.2.2.1.1 _ hlink)) (fun _ h => h) hv hdg kk
theorem r_put {C : String} {T : u_T} {N ci index : Nat} {fs : List Value} {v : Value} {ty : FieldType} (F : Fx p s m args meth c cc nL own D tys A) (X : Wd D A s w H locs) (hin : ∀ z ∈ u_ws C T N, z ∈ LW) (ty0 : Nat → FieldType) (hty : ∀ k, k < N → parseFieldDescriptor (T k).2.2.1 = some (ty0 k)) (hnm : ∀ a, a < N → ∀ b, b < N → a ≠ b → (T a).2.1 ≠ (T b).2.1) (q0 k : Nat) (he : w[q0]? = some (a, .inr (ci, fs))) (hc : clX[ci]? = some (C, T, N)) (hk : k < N)
    (hlink : Cond.fieldLink own index (T k).1 (T k).2.1 (T k).2.2.1 ∈ LW) (hfin : (T k).2.2.2 = false) (hd : parseFieldDescriptor (T k).2.2.1 = some ty) (hn : narrow ty v = v) (hfit : fits ty v = true) (hl : k < fs.length) (hdg : decode cc pc = .ok (.putfield index, 3)) (hw' : w.set q0 (a, .inr (ci, fs.set k v)) = w')
    (kk : ∀ (H : Heap) (locs : List Loc), Wd D A s w' H locs → W p l e R s m args below meth c H locs cells slots Q (F0 m (pc + 3) ls rest)) : W p l e R s m args below meth c H locs cells slots Q (F0 m pc ls (v :: .ref a :: rest)) := by
  subst hw'
  exact va_put F.x F.b F.2.2.2.2.1 hin ty0 hty hnm F.2.2.2.1 F.2.2.2.2.2.1 X.1 X.2.1 X.2.2 q0 he hc k hk (F.2.2.2.2.1 _ hlink) (fun _ h => h) hfin hd hn hfit hl hdg (fun H1 l1 h1 h2 h3 => kk H1 l1 ⟨h1, h2, h3⟩)
theorem r_putN {C host : String} {T : u_T} {N ci index : Nat} {fs : List Value} {v : Value} {ty : FieldType} (F : Fx p s m args meth c cc nL own D tys A) (X : Wd D A s w H locs) (hin : ∀ z ∈ u_ws C T N, z ∈ LW) (ty0 : Nat → FieldType) (hty : ∀ k, k < N → parseFieldDescriptor (T k).2.2.1 = some (ty0 k)) (hnm : ∀ a, a < N → ∀ b, b < N → a ≠ b → (T a).2.1 ≠ (T b).2.1) (q0 k : Nat) (he : w[q0]? = some (a, .inr (ci, fs))) (hc : clX[ci]? = some (C, T, N)) (hk : k < N)
    (hlink : Cond.fieldLinkNest own index (T k).1 (T k).2.1 (T k).2.2.1 host ∈ NW) (hfin : (T k).2.2.2 = false) (hd : parseFieldDescriptor (T k).2.2.1 = some ty) (hn : narrow ty v = v) (hfit : fits ty v = true) (hl : k < fs.length) (hdg : decode cc pc = .ok (.putfield index, 3)) (hw' : w.set q0 (a, .inr (ci, fs.set k v)) = w')
    (kk : ∀ (H : Heap) (locs : List Loc), Wd D A s w' H locs → W p l e R s m args below meth c H locs cells slots Q (F0 m (pc + 3) ls rest)) : W p l e R s m args below meth c H locs cells slots Q (F0 m pc ls (v :: .ref a :: rest)) := by
  subst hw'
  exact va_putN F.x F.b F.2.2.2.2.1 hin ty0 hty hnm F.2.2.2.1 F.2.2.2.2.2.1 X.1 X.2.1 X.2.2 q0 he hc k hk (va_Nw.use rfl (F.2.2.2.2.2.2.1.1 _ hlink)) (fun _ h => h) hfin hd hn hfit hl hdg (fun H1 l1 h1 h2 h3 => kk H1 l1 ⟨h1, h2, h3⟩)
theorem r_ald {cA : ClassId} {n : Nat} {f : Nat → Int32} {i : Int32} (F : Fx p s m args meth c cc nL own D tys A) (X : Wd D A s w H locs) (q0 t0 : Nat) (ha : w[q0]? = some (a, .inl (cA, n, .inl f))) (ht : tys[t0]? = some (cA, .int)) (hin : ¬ (i < 0 ∨ n ≤ i.toNatClampNeg)) (hdg : decode cc pc = .ok (.iaload, 1))
    (kk : W p l e R s m args below meth c H locs cells slots Q (F0 m (pc + 1) ls (.int (f i.toNatClampNeg) :: rest))) : W p l e R s m args below meth c H locs cells slots Q (F0 m pc ls (.int i :: .ref a :: rest)) :=
  va_iald F.x F.b F.2.2.2.2.2.1 X.1 q0 t0 ha ht hin hdg kk
theorem r_ast {cA : ClassId} {n : Nat} {f : Nat → Int32} {i x : Int32} (F : Fx p s m args meth c cc nL own D tys A) (X : Wd D A s w H locs) (q0 t0 : Nat) (ha : w[q0]? = some (a, .inl (cA, n, .inl f))) (ht : tys[t0]? = some (cA, .int)) (hin : ¬ (i < 0 ∨ n ≤ i.toNatClampNeg)) (hdg : decode cc pc = .ok (.iastore, 1)) (hw' : w.set q0 (a, .inl (cA, n, .inl (upd f i.toNatClampNeg x))) = w')
    (kk : ∀ (H : Heap) (locs : List Loc), Wd D A s w' H locs → W p l e R s m args below meth c H locs cells slots Q (F0 m (pc + 1) ls rest)) : W p l e R s m args below meth c H locs cells slots Q (F0 m pc ls (.int x :: .int i :: .ref a :: rest)) := by
  subst hw'
  exact va_iast F.x F.b F.2.2.2.2.2.1 X.1 X.2.1 X.2.2 q0 t0 ha ht hin hdg (fun H1 l1 h1 h2 h3 => kk H1 l1 ⟨h1, h2, h3⟩)
/-- the callee's start at a call, its world the caller's -/
theorem pre_all {as : List Value} (F : Fx p s m args meth c cc nL own D tys A) (X : Wd D A s w H locs) : ∀ U : State, U.heap = H → s.WarmedH U.vm → va_Pc as (fun U => U.heap.size = H.size ∧ Pr D tys w U) as.toArray U := fun U hU hW =>
  ⟨rfl, by rw [hU], by rw [hU]; exact X.1, va_K.moved hW.alike F.2.2.2.2.2.1, X.2.1.weaken (fun _ _ _ _ => trivial), by
    rw [hU]
    exact F.2.2.2.2.2.2.1.go X.2.2 hU hW (fun q hq => by
      rcases hq with ⟨k, e9, h9⟩ | h9
      · exact X.2.1.2 k _ h9
      · exact F.2.2.2.2.2.2.2.1 q (Nat.le_trans X.2.2.1 h9))⟩
theorem all_A (F : Fx p s m args meth c cc nL own D tys A) (X : Wd D A s w H locs) : ∀ q, va_A w H.size q → A q := fun q hq => by
  rcases hq with ⟨k, e9, h9⟩ | h9
  · exact X.2.1.2 k _ h9
  · exact F.2.2.2.2.2.2.2.1 q (Nat.le_trans X.2.2.1 h9)
/-- a call of an own method by the receiver, an int back, over the whole world -/
theorem r_vi {C : String} {T : u_T} {N ci q0 index n maxL : Nat} {y : MethodName} {bytes : ByteArray} {ret : Option FieldType} {rm : Room} {fs As : List Value} {r : Int32} (F : Fx p s m args meth c cc nL own D tys A) (X : Wd D A s w H locs) (hls : ls.size = nL) (hC : CI l y (.code y bytes maxL ret) rm D tys (.ref a :: As) w r w' 0 0)
    (he : w[q0]? = some (a, .inr (ci, fs))) (hc : clX[ci]? = some (C, T, N)) (h1 : Cond.methodLink own index y ∈ LW) (h2 : Cond.instanceMethod y ∈ LW) (h3 : Cond.selects C y y ∈ LW) (h4 : Cond.initialized C ∈ LW) (h5 : Cond.code y bytes maxL ret ∈ LW)
    (hd : y.cls = C ∧ y.cls ≠ "java/lang/invoke/MethodHandle" ∧ y.cls ≠ "java/lang/invoke/VarHandle" ∧ (parseMethodDescriptor y.desc).map (fun d => d.parameters.length) = some n) (hR : rm.frames + 1 ≤ R.frames ∧ 8 + (maxL + 11) + rm.locals ≤ R.locals) (hrm : rm.cells = 0 ∧ rm.slots = 0) (hcs : cells ≤ R.cells ∧ slots ≤ R.slots) (hn : As.length = n)
    (hrest : (rest.map fun v => v.category).sum ≤ 8) (hdg : decode cc pc = .ok (.invokevirtual index, 3)) {st0 : List Value} (hst : st0 = As.reverse ++ .ref a :: rest)
    (kk : ∀ (H : Heap) (locs : List Loc), Wd D A s w' H locs → W p l e R s m args below meth c H locs cells slots Q (F0 m (pc + 3) ls (.int r :: rest))) : W p l e R s m args below meth c H locs cells slots Q (F0 m pc ls st0) := by
  obtain ⟨hx, hb, hml, ho, hts, hK, hE, hA, hlk⟩ := id F
  have cw : CallW R s args own C index y bytes maxL ret (.code y bytes maxL ret :: LW) rm 0 0 n := cwV n (Ts := .code y bytes maxL ret :: LW) (fun w hw => hts w (LW_cons h5 w hw)) (LW_sub (by
    intro w hw
    simp only [wsV, List.mem_append, List.mem_cons, List.not_mem_nil, or_false] at hw
    rcases hw with (rfl | rfl | rfl | rfl) | rfl | hw <;> assumption)) rfl hrm.1 hrm.2 hd hR
  refine va_calli (va_runV (As := As) (rest := rest) (b := a) (Ts := LW) ⟨hx, hb, hml, ho, hts⟩ (hC H.size) cw ⟨blind_Pr, va_recv hK X.1 hc he, pre_all F X⟩ rfl hn hls hst (lv_room hrest) hdg hcs) X.2.2 (fun q _ h => all_A F X q h) (all_A F X) (fun r1 u t H1 locs1 ht hvm hw hB hz1 hk1 hS => ?_)
  obtain ⟨rfl, rfl⟩ := hw
  obtain ⟨hP1, hK1, hD1⟩ := hB
  rw [ht] at hP1
  exact kk H1 locs1 ⟨hP1, hD1.weaken (fun k q hk hq => all_A F X _ hq), hS⟩
theorem r_vv {C : String} {T : u_T} {N ci q0 index n maxL : Nat} {y : MethodName} {bytes : ByteArray} {rm : Room} {fs As : List Value} (F : Fx p s m args meth c cc nL own D tys A) (X : Wd D A s w H locs) (hls : ls.size = nL) (hC : CV l y (.code y bytes maxL none) rm D tys (.ref a :: As) w w' 0 0)
    (he : w[q0]? = some (a, .inr (ci, fs))) (hc : clX[ci]? = some (C, T, N)) (h1 : Cond.methodLink own index y ∈ LW) (h2 : Cond.instanceMethod y ∈ LW) (h3 : Cond.selects C y y ∈ LW) (h4 : Cond.initialized C ∈ LW) (h5 : Cond.code y bytes maxL none ∈ LW)
    (hd : y.cls = C ∧ y.cls ≠ "java/lang/invoke/MethodHandle" ∧ y.cls ≠ "java/lang/invoke/VarHandle" ∧ (parseMethodDescriptor y.desc).map (fun d => d.parameters.length) = some n) (hR : rm.frames + 1 ≤ R.frames ∧ 8 + (maxL + 11) + rm.locals ≤ R.locals) (hrm : rm.cells = 0 ∧ rm.slots = 0) (hcs : cells ≤ R.cells ∧ slots ≤ R.slots) (hn : As.length = n)
    (hrest : (rest.map fun v => v.category).sum ≤ 8) (hdg : decode cc pc = .ok (.invokevirtual index, 3)) {st0 : List Value} (hst : st0 = As.reverse ++ .ref a :: rest)
    (kk : ∀ (H : Heap) (locs : List Loc), Wd D A s w' H locs → W p l e R s m args below meth c H locs cells slots Q (F0 m (pc + 3) ls rest)) : W p l e R s m args below meth c H locs cells slots Q (F0 m pc ls st0) := by
  obtain ⟨hx, hb, hml, ho, hts, hK, hE, hA, hlk⟩ := id F
  have cw : CallW R s args own C index y bytes maxL none (.code y bytes maxL none :: LW) rm 0 0 n := cwV n (Ts := .code y bytes maxL none :: LW) (fun w hw => hts w (LW_cons h5 w hw)) (LW_sub (by
    intro w hw
    simp only [wsV, List.mem_append, List.mem_cons, List.not_mem_nil, or_false] at hw
    rcases hw with (rfl | rfl | rfl | rfl) | rfl | hw <;> assumption)) rfl hrm.1 hrm.2 hd hR
  refine va_callv (va_runV (As := As) (rest := rest) (b := a) (Ts := LW) ⟨hx, hb, hml, ho, hts⟩ (hC H.size) cw ⟨blind_Pr, va_recv hK X.1 hc he, pre_all F X⟩ rfl hn hls hst (lv_room hrest) hdg hcs) X.2.2 (fun q _ h => all_A F X q h) (all_A F X) (fun u t H1 locs1 ht hvm hw hB hz1 hk1 hS => ?_)
  obtain rfl := hw
  obtain ⟨hP1, hK1, hD1⟩ := hB
  rw [ht] at hP1
  exact kk H1 locs1 ⟨hP1, hD1.weaken (fun k q hk hq => all_A F X _ hq), hS⟩
/-- .. of a nest mate's -/
theorem r_ni {C host : String} {T : u_T} {N ci q0 index n maxL : Nat} {y : MethodName} {bytes : ByteArray} {ret : Option FieldType} {rm : Room} {fs As : List Value} {r : Int32} (F : Fx p s m args meth c cc nL own D tys A) (X : Wd D A s w H locs) (hls : ls.size = nL) (hC : CI l y (.code y bytes maxL ret) rm D tys (.ref a :: As) w r w' 0 0)
    (he : w[q0]? = some (a, .inr (ci, fs))) (hc : clX[ci]? = some (C, T, N)) (h1 : Cond.methodLinkNest own index y host ∈ NW) (h2 : Cond.instanceMethod y ∈ LW) (h3 : Cond.selects C y y ∈ LW) (h4 : Cond.initialized y.cls ∈ LW) (h5 : Cond.code y bytes maxL ret ∈ LW)
    (hd : y.cls ≠ "java/lang/invoke/MethodHandle" ∧ y.cls ≠ "java/lang/invoke/VarHandle" ∧ (parseMethodDescriptor y.desc).map (fun d => d.parameters.length) = some n) (hR : rm.frames + 1 ≤ R.frames ∧ 8 + (maxL + 11) + rm.locals ≤ R.locals) (hrm : rm.cells = 0 ∧ rm.slots = 0) (hcs : cells ≤ R.cells ∧ slots ≤ R.slots) (hn : As.length = n)
    (hrest : (rest.map fun v => v.category).sum ≤ 8) (hdg : decode cc pc = .ok (.invokevirtual index, 3)) {st0 : List Value} (hst : st0 = As.reverse ++ .ref a :: rest)
    (kk : ∀ (H : Heap) (locs : List Loc), Wd D A s w' H locs → W p l e R s m args below meth c H locs cells slots Q (F0 m (pc + 3) ls (.int r :: rest))) : W p l e R s m args below meth c H locs cells slots Q (F0 m pc ls st0) := by
  obtain ⟨hx, hb, hml, ho, hts, hK, hE, hA, hlk⟩ := id F
  have cw : va_CN R s args own index y host bytes maxL ret (.code y bytes maxL ret :: LW) rm 0 0 n := va_cnB n (Ts := .code y bytes maxL ret :: LW) (fun w hw => hts w (LW_cons h5 w hw)) (LW_sub (LW_cons h5)) rfl hrm.1 hrm.2 (hE.1 _ h1) (hts _ h4) hd hR
  refine va_calli (va_runVN (As := As) (rest := rest) (b := a) (Ts := LW) ⟨hx, hb, hml, ho, hts⟩ (hC H.size) ⟨cw, hts _ h2, hts _ h3⟩ ⟨blind_Pr, va_recv hK X.1 hc he, pre_all F X⟩ rfl hn hls hst (lv_room hrest) hdg hcs) X.2.2 (fun q _ h => all_A F X q h) (all_A F X) (fun r1 u t H1 locs1 ht hvm hw hB hz1 hk1 hS => ?_)
  obtain ⟨rfl, rfl⟩ := hw
  obtain ⟨hP1, hK1, hD1⟩ := hB
  rw [ht] at hP1
  exact kk H1 locs1 ⟨hP1, hD1.weaken (fun k q hk hq => all_A F X _ hq), hS⟩
theorem r_nv {C host : String} {T : u_T} {N ci q0 index n maxL : Nat} {y : MethodName} {bytes : ByteArray} {rm : Room} {fs As : List Value} (F : Fx p s m args meth c cc nL own D tys A) (X : Wd D A s w H locs) (hls : ls.size = nL) (hC : CV l y (.code y bytes maxL none) rm D tys (.ref a :: As) w w' 0 0)
    (he : w[q0]? = some (a, .inr (ci, fs))) (hc : clX[ci]? = some (C, T, N)) (h1 : Cond.methodLinkNest own index y host ∈ NW) (h2 : Cond.instanceMethod y ∈ LW) (h3 : Cond.selects C y y ∈ LW) (h4 : Cond.initialized y.cls ∈ LW) (h5 : Cond.code y bytes maxL none ∈ LW)
    (hd : y.cls ≠ "java/lang/invoke/MethodHandle" ∧ y.cls ≠ "java/lang/invoke/VarHandle" ∧ (parseMethodDescriptor y.desc).map (fun d => d.parameters.length) = some n) (hR : rm.frames + 1 ≤ R.frames ∧ 8 + (maxL + 11) + rm.locals ≤ R.locals) (hrm : rm.cells = 0 ∧ rm.slots = 0) (hcs : cells ≤ R.cells ∧ slots ≤ R.slots) (hn : As.length = n)
    (hrest : (rest.map fun v => v.category).sum ≤ 8) (hdg : decode cc pc = .ok (.invokevirtual index, 3)) {st0 : List Value} (hst : st0 = As.reverse ++ .ref a :: rest)
    (kk : ∀ (H : Heap) (locs : List Loc), Wd D A s w' H locs → W p l e R s m args below meth c H locs cells slots Q (F0 m (pc + 3) ls rest)) : W p l e R s m args below meth c H locs cells slots Q (F0 m pc ls st0) := by
  obtain ⟨hx, hb, hml, ho, hts, hK, hE, hA, hlk⟩ := id F
  have cw : va_CN R s args own index y host bytes maxL none (.code y bytes maxL none :: LW) rm 0 0 n := va_cnB n (Ts := .code y bytes maxL none :: LW) (fun w hw => hts w (LW_cons h5 w hw)) (LW_sub (LW_cons h5)) rfl hrm.1 hrm.2 (hE.1 _ h1) (hts _ h4) hd hR
  refine va_callv (va_runVN (As := As) (rest := rest) (b := a) (Ts := LW) ⟨hx, hb, hml, ho, hts⟩ (hC H.size) ⟨cw, hts _ h2, hts _ h3⟩ ⟨blind_Pr, va_recv hK X.1 hc he, pre_all F X⟩ rfl hn hls hst (lv_room hrest) hdg hcs) X.2.2 (fun q _ h => all_A F X q h) (all_A F X) (fun u t H1 locs1 ht hvm hw hB hz1 hk1 hS => ?_)
  obtain rfl := hw
  obtain ⟨hP1, hK1, hD1⟩ := hB
  rw [ht] at hP1
  exact kk H1 locs1 ⟨hP1, hD1.weaken (fun k q hk hq => all_A F X _ hq), hS⟩
end BW
