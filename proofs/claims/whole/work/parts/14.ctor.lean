/-! New objects and arrays; a call over a part of the world (the frame rule for two parts side by side). -/
def CN (l : Launch) (y : MethodName) (cw : Cond) (rm : Room) (D : Gd) (tys : List (ClassId × FieldType)) (as : List Value) (w : va_W) (P : va_W → Prop) (mc ms : Nat) : Prop :=
  ∀ sz : Nat, Met l y (cw :: LW) rm (va_Pc as (fun U => U.heap.size = sz ∧ Pr D tys w U)) (va_Qv P (Po D tys (va_A w sz)) (va_A w sz)) mc ms (va_A w sz)
theorem fr_r {A0 : Nat → Prop} {D : Gd} {wr wc w1 : va_W} {H H1 : Heap} (hP : va_P D clX (wr ++ wc) H) (hD : va_D A0 (wr ++ wc)) (hk : ∀ q : Nat, q < H.size → ¬ va_A wc H.size q → H1[q]? = H[q]?) (hF : ∀ q, va_A wc H.size q → A0 q)
    (hP1 : va_P D clX w1 H1) (hD1 : va_D (va_A wc H.size) w1) : va_P D clX (wr ++ w1) H1 ∧ va_D A0 (wr ++ w1) := by
  have inl : ∀ {k : Nat} {q : Nat × va_E}, wr[k]? = some q → (wr ++ wc)[k]? = some q := fun {k q} h => by
    rw [List.getElem?_append_left (List.getElem?_eq_some_iff.mp h).1]; exact h
  have inr : ∀ {k : Nat} {q : Nat × va_E}, wc[k]? = some q → (wr ++ wc)[wr.length + k]? = some q := fun {k q} h => by
    rw [List.getElem?_append_right (Nat.le_add_right _ _), Nat.add_sub_cancel_left]; exact h
  have apart : ∀ {k : Nat} {q : Nat × va_E}, wr[k]? = some q → ¬ va_A wc H.size q.1 := by
    intro k q hq hA
    rcases hA with ⟨j, e, hj⟩ | hj
    · have h1 := hD.1 _ _ _ _ (inl hq) (inr hj) rfl
      have h2 := (List.getElem?_eq_some_iff.mp hq).1
      omega
    · have := (hP _ _ (inl hq)).lt
      omega
  have split : ∀ {k : Nat} {q : Nat × va_E}, (wr ++ w1)[k]? = some q → (k < wr.length ∧ wr[k]? = some q) ∨ (wr.length ≤ k ∧ w1[k - wr.length]? = some q) := by
    intro k q h
    by_cases hl : k < wr.length
    · rw [List.getElem?_append_left hl] at h; exact Or.inl ⟨hl, h⟩
    · rw [List.getElem?_append_right (by omega)] at h; exact Or.inr ⟨by omega, h⟩
  refine ⟨fun k q h => ?_, fun i j x y hx hy e => ?_, fun k q h => ?_⟩
  · rcases split h with ⟨-, h⟩ | ⟨-, h⟩
    · exact (hP _ _ (inl h)).kept (hk _ ((hP _ _ (inl h)).lt) (apart h))
    · exact hP1 _ _ h
  · rcases split hx with ⟨h1, hx⟩ | ⟨h1, hx⟩ <;> rcases split hy with ⟨h2, hy⟩ | ⟨h2, hy⟩
    · exact hD.1 _ _ _ _ (inl hx) (inl hy) e
    · exact absurd (by rw [e]; exact hD1.2 _ _ hy) (apart hx)
    · exact absurd (by rw [← e]; exact hD1.2 _ _ hx) (apart hy)
    · have := hD1.1 _ _ _ _ hx hy e
      omega
  · rcases split h with ⟨-, h⟩ | ⟨-, h⟩
    · exact hD.2 _ _ (inl h)
    · exact hF _ (hD1.2 _ _ h)
section CW
variable {p : Program} {l : Launch} {e : Env} {R : Room} {s : State} {m : MethodId} {args : Array Value} {below : List Frame} {meth : Method} {c : Code} {H : Heap} {locs : List Loc} {cells slots mc ms : Nat} {Q : State → Prop}
variable {cc : ByteArray} {nL pc : Nat} {ls : Array Slot} {rest : List Value} {own : String} {D : Gd} {tys tc : List (ClassId × FieldType)} {A : Nat → Prop} {w w' wr wc w1 : va_W} {a : Nat} {cI : ClassId} {P : va_W → Prop}
theorem Wd.swap (X : Wd D A s (wr ++ wc) H locs) : Wd D A s (wc ++ wr) H locs := ⟨va_P.swap (a := []) X.1, va_D.swap (a := []) X.2.1, X.2.2⟩
theorem Wd.sub (X : Wd D A s w H locs) (is : List Nat) (hn : va_nd is = true) (hs : is.map (fun i => w[i]?) = w'.map some) : Wd D A s w' H locs :=
  ⟨X.1.sub is (by
    have h : is.filterMap (fun i => w[i]?) = (is.map (fun i => w[i]?)).filterMap id := by rw [List.filterMap_map]; rfl
    rw [h, hs, List.filterMap_map]
    exact List.filterMap_some), X.2.1.sub is hn hs, X.2.2⟩
/-- the callee's start at a call over the right part -/
theorem pre_r {as : List Value} (F : Fx p s m args meth c cc nL own D tys A) (hKc : va_K D clX tc s) (X : Wd D A s (wr ++ wc) H locs) : ∀ U : State, U.heap = H → s.WarmedH U.vm → va_Pc as (fun U => U.heap.size = H.size ∧ Pr D tc wc U) as.toArray U := fun U hU hW =>
  ⟨rfl, by rw [hU], by
    rw [hU]
    exact X.1.by (fun k => wr.length + k) (fun k q hk => by rw [List.getElem?_append_right (Nat.le_add_right _ _), Nat.add_sub_cancel_left]; exact hk), va_K.moved hW.alike hKc,
    (X.2.1.by (fun k => wr.length + k) (fun k q hk => by rw [List.getElem?_append_right (Nat.le_add_right _ _), Nat.add_sub_cancel_left]; exact hk) (fun i j _ _ h => by omega)).weaken (fun _ _ _ _ => trivial), by
    rw [hU]
    exact F.2.2.2.2.2.2.1.go X.2.2 hU hW (fun q hq => by
      rcases hq with ⟨k, e9, h9⟩ | h9
      · exact X.2.1.2 (wr.length + k) (q, e9) (by rw [List.getElem?_append_right (Nat.le_add_right _ _), Nat.add_sub_cancel_left]; exact h9)
      · exact F.2.2.2.2.2.2.2.1 q (Nat.le_trans X.2.2.1 h9))⟩
theorem r_A (F : Fx p s m args meth c cc nL own D tys A) (X : Wd D A s (wr ++ wc) H locs) : ∀ q, va_A wc H.size q → A q := fun q hq => by
  rcases hq with ⟨k, e9, h9⟩ | h9
  · exact X.2.1.2 (wr.length + k) (q, e9) (by rw [List.getElem?_append_right (Nat.le_add_right _ _), Nat.add_sub_cancel_left]; exact h9)
  · exact F.2.2.2.2.2.2.2.1 q (Nat.le_trans X.2.2.1 h9)
theorem mk_c {y : MethodName} {n : Nat} {rm : Room} {as : List Value} (hy : plainName y.cls = true) (hyi : y.name = "<init>") (hn : (lg_sl as).length ≤ n)
    (body : ∀ (p : Program) (e : Env) (s : State) (m : MethodId) (args : Array Value) (below : List Frame) (meth : Method) (c : Code) (A : Nat → Prop) (ls : Array Slot), Fx p s m args meth c cc n y.cls D tys A → Wd D A s w s.heap [] → meth.sig.returnType = none → meth.name = "<init>" → lv_has ls n (lv_args 0 as) →
      W p l e rm s m args below meth c s.heap [] 0 0 (MQ below (va_Qv P (Po D tys A) A) args s mc ms A) (F0 m 0 ls [])) : CN l y (.code y cc n none) rm D tys as w P mc ms := by
  intro sz
  refine Met.ofW (cc := cc) (maxL := n) (ret := none) hy rfl ?_
  intro p e s m args below meth c s₁ B hml hv
  obtain ⟨rfl, hsz, hP, hK, hD0, hE⟩ := hv
  subst hsz
  have hts := atoms_spec (ws := .code y cc n none :: LW) B.pre
  have hown : s.vm.findClass y.cls = some m.cls := findClass_of_methodNamed B.named
  have hin : meth.name = "<init>" := ((name_of_methodNamed B.named B.method).1).trans hyi
  have hl := lv_entry as (n := n) hn
  rw [lg_entry_eq]
  exact body p e s m _ below meth c _ _ ⟨B.exec, B.bytes, hml, hown, fun w h => hts w (List.mem_cons_of_mem _ h), hK, hE, fun q h => Or.inr h, B.notSynchronized⟩ ⟨hP, hD0.self, va_S.rf⟩ B.returns hin hl
theorem fin_c (F : Fx p s m args meth c cc nL own D tys A) (X : Wd D A s w' H locs) (hr : meth.sig.returnType = none) (hP : P w') (hc : cells ≤ mc) (hs : slots ≤ ms) (hdg : decode cc pc = .ok (.return_, 1)) :
    W p l e R s m args below meth c H locs cells slots (MQ below (va_Qv P (Po D tys A) A) args s mc ms A) (F0 m pc ls []) :=
  W.widen hc hs (W.vret F.x F.b hr (fun t ht hW => ⟨⟨w', rfl, hP, by rw [ht]; exact X.1, va_K.moved hW.alike F.2.2.2.2.2.1, X.2.1⟩, X.2.2.F ht⟩) X.2.2.2.2 hdg F.2.2.2.2.2.2.2.2)
theorem r_oi {idx : Nat} (F : Fx p s m args meth c cc nL own D tys A) (hls : ls.size = nL) (h1 : Cond.methodLink own idx objectInit ∈ LW) (h2 : Cond.instanceMethod objectInit ∈ LW) (h3 : Cond.code objectInit ⟨#[0xb1]⟩ 1 none ∈ LW) (hd : decode cc pc = .ok (.invokespecial idx, 3)) (hf : 1 ≤ R.frames) (hlo : 2 * (F0 m pc ls [.ref a]).monitorRoom + ((([] : List Value)).map fun v => v.category).sum + 12 ≤ R.locals)
    (kk : W p l e R s m args below meth c H locs cells slots Q (F0 m (pc + 3) ls [])) : W p l e R s m args below meth c H locs cells slots Q (F0 m pc ls [.ref a]) :=
  W.objInit F.x F.b F.2.2.2.1 (F.2.2.2.2.1 _ h1) (F.2.2.2.2.1 _ h2) (F.2.2.2.2.1 _ h3) rfl (hls.trans F.2.2.1.symm) rfl hd hf hlo kk
theorem r_newa {n : Int32} {N : Nat} (F : Fx p s m args meth c cc nL own D tys A) (X : Wd D A s w H locs) (ht : tys[0]? = some (cI, .int)) (harr : Cond.arrayClass .int ∈ LW) (hn : ¬ n < 0) (hN : n.toNatClampNeg = N) (hb : N * componentBytes .int ≤ 536870912) (hc : cells + 1 ≤ R.cells) (hs : slots + N ≤ R.slots) (hdg : decode cc pc = .ok (.newarray .int, 2))
    (kk : ∀ (q : Nat) (H : Heap), Wd D A s (w ++ [(q, .inl (cI, N, .inl (fun _ => 0)))]) H locs → W p l e R s m args below meth c H locs (cells + 1) (slots + N) Q (F0 m (pc + 2) ls (.ref q :: rest))) : W p l e R s m args below meth c H locs cells slots Q (F0 m pc ls (.int n :: rest)) := by
  obtain ⟨hx, hb0, hml, ho, hts, hK, hE, hA, hlk⟩ := id F
  refine va_newa hx hb0 (atype := .int) (hts _ harr) (ty := .int) rfl hK X.1 X.2.1 X.2.2 hA (n := n) (N' := N) (a0 := (N, .inl (fun _ => 0))) (fun _ => rfl) hn hN hb hc hs hdg (fun q cA H1 hK1 hP1 hD1 hS1 => ?_)
  have e : cA = cI := by
    have h1 := va_nm_int (hK1.2 tys.length (cA, .int) (by rw [List.getElem?_append_right (Nat.le_refl _), Nat.sub_self]; rfl)).2
    have h2 := va_nm_int (hK.2 0 _ ht).2
    exact Option.some.inj (h1.symm.trans h2)
  subst e
  exact kk q H1 ⟨hP1, hD1, hS1⟩
theorem r_new {C : String} {T : u_T} {N ci index : Nat} {fs : List Value} {ty : Nat → FieldType} (F : Fx p s m args meth c cc nL own D tys A) (X : Wd D A s w H locs) (hin : ∀ z ∈ u_ws C T N, z ∈ LW) (hty : ∀ k, k < N → parseFieldDescriptor (T k).2.2.1 = some (ty k)) (h1 : Cond.classLink own index C ∈ LW) (h2 : Cond.instantiable C N ∈ LW) (h3 : Cond.initialized C ∈ LW)
    (hc : clX[ci]? = some (C, T, N)) (hfs : ∀ j, j < N → defaultValue (ty j) = vp_V fs j) (hcs : cells + 1 ≤ R.cells) (hss : slots + N ≤ R.slots) (hdg : decode cc pc = .ok (.new index, 3))
    (kk : ∀ (q : Nat) (H : Heap), Wd D A s (w ++ [(q, .inr (ci, fs))]) H locs → W p l e R s m args below meth c H locs (cells + 1) (slots + N) Q (F0 m (pc + 3) ls (.ref q :: rest))) : W p l e R s m args below meth c H locs cells slots Q (F0 m pc ls rest) := by
  obtain ⟨hx, hb0, hml, ho, hts, hK, hE, hA, hlk⟩ := id F
  exact va_new hx hb0 hts hin ty hty ho (hts _ h1) (hts _ h2) (hts _ h3) hK X.1 X.2.1 X.2.2 hA hc hfs hcs hss hdg (fun q H1 hP1 hD1 hS1 => kk q H1 ⟨hP1, hD1, hS1⟩)
theorem r_putF {C : String} {T : u_T} {N ci index : Nat} {fs : List Value} {v : Value} {ty : FieldType} (F : Fx p s m args meth c cc nL own D tys A) (X : Wd D A s w H locs) (hini : meth.name = "<init>") (hin : ∀ z ∈ u_ws C T N, z ∈ LW) (ty0 : Nat → FieldType) (hty : ∀ k, k < N → parseFieldDescriptor (T k).2.2.1 = some (ty0 k)) (hnm : ∀ a, a < N → ∀ b, b < N → a ≠ b → (T a).2.1 ≠ (T b).2.1) (q0 k : Nat) (he : w[q0]? = some (a, .inr (ci, fs))) (hc : clX[ci]? = some (C, T, N)) (hk : k < N)
    (hlink : Cond.fieldLink own index (T k).1 (T k).2.1 (T k).2.2.1 ∈ LW) (hfin : (T k).2.2.2 = true) (hdecl : (T k).1 = own) (hd : parseFieldDescriptor (T k).2.2.1 = some ty) (hn : narrow ty v = v) (hfit : fits ty v = true) (hl : k < fs.length) (hdg : decode cc pc = .ok (.putfield index, 3)) (hw' : w.set q0 (a, .inr (ci, fs.set k v)) = w')
    (kk : ∀ (H : Heap) (locs : List Loc), Wd D A s w' H locs → W p l e R s m args below meth c H locs cells slots Q (F0 m (pc + 3) ls rest)) : W p l e R s m args below meth c H locs cells slots Q (F0 m pc ls (v :: .ref a :: rest)) := by
  subst hw'
  exact va_putF F.x F.b F.2.2.2.2.1 hin ty0 hty hnm F.2.2.2.1 F.2.2.2.2.2.1 X.1 X.2.1 X.2.2 q0 he hc k hk (F.2.2.2.2.1 _ hlink) (fun _ h => h) hfin hini hdecl hd hn hfit hl hdg (fun H1 l1 h1 h2 h3 => kk H1 l1 ⟨h1, h2, h3⟩)
/-- a nest mate's constructor, over the right part -/
theorem r_cn {host : String} {index n maxL mc1 ms1 : Nat} {y : MethodName} {bytes : ByteArray} {rm : Room} {As : List Value} (F : Fx p s m args meth c cc nL own D tys A) (hKc : va_K D clX tc s) (X : Wd D A s (wr ++ wc) H locs) (hls : ls.size = nL) (hC : CN l y (.code y bytes maxL none) rm D tc (.ref a :: As) wc P mc1 ms1)
    (h1 : Cond.methodLinkNest own index y host ∈ NW) (hyi : y.name = "<init>") (h2 : Cond.instanceMethod y ∈ LW) (h4 : Cond.initialized y.cls ∈ LW) (h5 : Cond.code y bytes maxL none ∈ LW)
    (hd : y.cls ≠ "java/lang/invoke/MethodHandle" ∧ y.cls ≠ "java/lang/invoke/VarHandle" ∧ (parseMethodDescriptor y.desc).map (fun d => d.parameters.length) = some n) (hR : rm.frames + 1 ≤ R.frames ∧ 8 + (maxL + 11) + rm.locals ≤ R.locals) (hrm : rm.cells = mc1 ∧ rm.slots = ms1) (hcs : cells + mc1 ≤ R.cells ∧ slots + ms1 ≤ R.slots) (hn : As.length = n)
    (hrest : (rest.map fun v => v.category).sum ≤ 8) (hdg : decode cc pc = .ok (.invokespecial index, 3)) {st0 : List Value} (hst : st0 = As.reverse ++ .ref a :: rest)
    (kk : ∀ (H : Heap) (locs : List Loc) (u : va_W), P u → Wd D A s (wr ++ u) H locs → W p l e R s m args below meth c H locs (cells + mc1) (slots + ms1) Q (F0 m (pc + 3) ls rest)) : W p l e R s m args below meth c H locs cells slots Q (F0 m pc ls st0) := by
  obtain ⟨hx, hb, hml, ho, hts, hK, hE, hA, hlk⟩ := id F
  have cw : va_CN R s args own index y host bytes maxL none (.code y bytes maxL none :: LW) rm mc1 ms1 n := va_cnB n (Ts := .code y bytes maxL none :: LW) (fun w hw => hts w (LW_cons h5 w hw)) (LW_sub (LW_cons h5)) rfl hrm.1 hrm.2 (hE.1 _ h1) (hts _ h4) hd hR
  refine va_callv (va_runIN (As := As) (rest := rest) (b := a) (Ts := LW) ⟨hx, hb, hml, ho, hts⟩ (hC H.size) ⟨cw, hyi, hts _ h2⟩ ⟨blind_Pr, pre_r F hKc X⟩ rfl hn hls hst (lv_room hrest) hdg hcs) X.2.2 (fun q _ h => r_A F X q h) (r_A F X) (fun u t H1 locs1 ht hvm hw hB hz1 hk1 hS => ?_)
  obtain ⟨hP1, hK1, hD1⟩ := hB
  rw [ht] at hP1
  obtain ⟨hP2, hD2⟩ := fr_r X.1 X.2.1 hk1 (r_A F X) hP1 hD1
  exact kk H1 locs1 u hw ⟨hP2, hD2, hS⟩
/-- .. a constructor of another -/
theorem r_ci {index n maxL mc1 ms1 : Nat} {y : MethodName} {bytes : ByteArray} {rm : Room} {As : List Value} (F : Fx p s m args meth c cc nL own D tys A) (hKc : va_K D clX tc s) (X : Wd D A s (wr ++ wc) H locs) (hls : ls.size = nL) (hC : CN l y (.code y bytes maxL none) rm D tc (.ref a :: As) wc P mc1 ms1)
    (h1 : Cond.methodLink own index y ∈ LW) (hyi : y.name = "<init>") (h2 : Cond.instanceMethod y ∈ LW) (h4 : Cond.initialized y.cls ∈ LW) (h5 : Cond.code y bytes maxL none ∈ LW)
    (hd : y.cls ≠ "java/lang/invoke/MethodHandle" ∧ y.cls ≠ "java/lang/invoke/VarHandle" ∧ (parseMethodDescriptor y.desc).map (fun d => d.parameters.length) = some n) (hR : rm.frames + 1 ≤ R.frames ∧ 8 + (maxL + 11) + rm.locals ≤ R.locals) (hrm : rm.cells = mc1 ∧ rm.slots = ms1) (hcs : cells + mc1 ≤ R.cells ∧ slots + ms1 ≤ R.slots) (hn : As.length = n)
    (hrest : (rest.map fun v => v.category).sum ≤ 8) (hdg : decode cc pc = .ok (.invokespecial index, 3)) {st0 : List Value} (hst : st0 = As.reverse ++ .ref a :: rest)
    (kk : ∀ (H : Heap) (locs : List Loc) (u : va_W), P u → Wd D A s (wr ++ u) H locs → W p l e R s m args below meth c H locs (cells + mc1) (slots + ms1) Q (F0 m (pc + 3) ls rest)) : W p l e R s m args below meth c H locs cells slots Q (F0 m pc ls st0) := by
  obtain ⟨hx, hb, hml, ho, hts, hK, hE, hA, hlk⟩ := id F
  have cw := cwI (R := R) (own := own) (index := index) (mc := mc1) (ms := ms1) (rm := rm) n (Ts := .code y bytes maxL none :: LW) (fun w hw => hts w (LW_cons h5 w hw)) (LW_sub (LW_cons h5)) rfl hrm.1 hrm.2 (hts _ h4) (hts _ h1) (hts _ h2) hyi hd hR
  refine va_callv (va_runI (As := As) (rest := rest) (b := a) (Ts := LW) ⟨hx, hb, hml, ho, hts⟩ (hC H.size) cw ⟨blind_Pr, pre_r F hKc X⟩ rfl hn hls hst (lv_room hrest) hdg hcs) X.2.2 (fun q _ h => r_A F X q h) (r_A F X) (fun u t H1 locs1 ht hvm hw hB hz1 hk1 hS => ?_)
  obtain ⟨hP1, hK1, hD1⟩ := hB
  rw [ht] at hP1
  obtain ⟨hP2, hD2⟩ := fr_r X.1 X.2.1 hk1 (r_A F X) hP1 hD1
  exact kk H1 locs1 u hw ⟨hP2, hD2, hS⟩
end CW
