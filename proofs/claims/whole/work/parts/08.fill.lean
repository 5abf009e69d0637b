/-! Arrays.fill, over any world that holds the array -/
section SV
variable {p : Program} {l : Launch} {e : Env} {R : Room} {s : State} {m : MethodId} {args : Array Value} {below : List Frame} {meth : Method} {c : Code} {H : Heap} {locs : List Loc} {cells slots : Nat} {Q : State → Prop}
variable {cc : ByteArray} {nL pc : Nat} {ls : Array Slot} {rest : List Value} {own : String} {D : Gd} {tys : List (ClassId × FieldType)} {A : Nat → Prop} {w w' : va_W} {a : Nat}
/-- a static call, nothing back, over the whole world -/
theorem r_sv {index n maxL : Nat} {y : MethodName} {bytes : ByteArray} {rm : Room} {As : List Value} (F : Fx p s m args meth c cc nL own D tys A) (X : Wd D A s w H locs) (hls : ls.size = nL) (hC : CV l y (.code y bytes maxL none) rm D tys As w w' 0 0)
    (h1 : Cond.methodLink own index y ∈ LW) (h2 : Cond.static y ∈ LW) (h4 : Cond.initialized y.cls ∈ LW) (h5 : Cond.code y bytes maxL none ∈ LW)
    (hd : y.cls ≠ "java/lang/invoke/MethodHandle" ∧ y.cls ≠ "java/lang/invoke/VarHandle" ∧ (parseMethodDescriptor y.desc).map (fun d => d.parameters.length) = some n) (hR : rm.frames + 1 ≤ R.frames ∧ 8 + (maxL + 11) + rm.locals ≤ R.locals) (hrm : rm.cells = 0 ∧ rm.slots = 0) (hcs : cells ≤ R.cells ∧ slots ≤ R.slots) (hn : As.length = n)
    (hrest : (rest.map fun v => v.category).sum ≤ 8) (hdg : decode cc pc = .ok (.invokestatic index, 3)) {st0 : List Value} (hst : st0 = As.reverse ++ rest)
    (kk : ∀ (H : Heap) (locs : List Loc), Wd D A s w' H locs → W p l e R s m args below meth c H locs cells slots Q (F0 m (pc + 3) ls rest)) : W p l e R s m args below meth c H locs cells slots Q (F0 m pc ls st0) := by
  obtain ⟨hx, hb, hml, ho, hts, hK, hE, hA, hlk⟩ := id F
  have cw := va_cwS (R := R) (mc := 0) (ms := 0) (rm := rm) n (Ts := .code y bytes maxL none :: LW) (fun w hw => hts w (LW_cons h5 w hw)) (LW_sub (ws := va_wsS own index y (.code y bytes maxL none :: LW)) (by
    intro w hw
    simp only [va_wsS, List.mem_append, List.mem_cons, List.not_mem_nil, or_false] at hw
    rcases hw with (rfl | rfl | rfl) | rfl | hw <;> assumption)) rfl hrm.1 hrm.2 hd hR
  refine va_callv (va_runS (As := As) (rest := rest) (Ts := LW) ⟨hx, hb, hml, ho, hts⟩ (hC H.size) cw ⟨blind_Pr, pre_all F X⟩ rfl hn hls hst (lv_room hrest) hdg hcs) X.2.2 (fun q _ h => all_A F X q h) (all_A F X) (fun u t H1 locs1 ht hvm hw hB hz1 hk1 hS => ?_)
  obtain rfl := hw
  obtain ⟨hP1, hK1, hD1⟩ := hB
  rw [ht] at hP1
  exact kk H1 locs1 ⟨hP1, hD1.weaken (fun k q hk hq => all_A F X _ hq), hS⟩
end SV
theorem hd_J_rangeCheck : y_J_rangeCheck.cls ≠ "java/lang/invoke/MethodHandle" ∧ y_J_rangeCheck.cls ≠ "java/lang/invoke/VarHandle" ∧ (parseMethodDescriptor y_J_rangeCheck.desc).map (fun d => d.parameters.length) = some 3 := ⟨by decide, by decide, by decide +kernel⟩
theorem hd_J_fill2 : y_J_fill2.cls ≠ "java/lang/invoke/MethodHandle" ∧ y_J_fill2.cls ≠ "java/lang/invoke/VarHandle" ∧ (parseMethodDescriptor y_J_fill2.desc).map (fun d => d.parameters.length) = some 2 := ⟨by decide, by decide, by decide +kernel⟩
theorem hd_J_fill4 : y_J_fill4.cls ≠ "java/lang/invoke/MethodHandle" ∧ y_J_fill4.cls ≠ "java/lang/invoke/VarHandle" ∧ (parseMethodDescriptor y_J_fill4.desc).map (fun d => d.parameters.length) = some 4 := ⟨by decide, by decide, by decide +kernel⟩
theorem c_J_rangeCheck (l : Launch) (D : Gd) (tys : List (ClassId × FieldType)) (w : va_W) (v0 v1 v2 : Int32) (h1 : v1 ≤ v2) (h2 : 0 ≤ v1) (h3 : v2 ≤ v0) : CV l y_J_rangeCheck (.code y_J_rangeCheck b_J_rangeCheck 3 none) { frames := 0, cells := 0, slots := 0, locals := 0 } D tys [.int v0, .int v1, .int v2] w w 0 0 := by
  refine mk_v (by decide) (Nat.le_of_ble_eq_true rfl) ?_
  intro p e s m args below meth c A ls F X hr hl
  have hl : lv_has ls 3 [(0, .int v0), (1, .int v1), (2, .int v2)] := hl
  refine lv_iload_n F.x F.b d_J_rangeCheck_0 rfl (lv_at hl 1 rfl) ?_
  refine lv_iload_n F.x F.b d_J_rangeCheck_1 rfl (lv_at hl 2 rfl) ?_
  refine lv_icmp_le (tgt := 46) F.x F.b d_J_rangeCheck_2 (by decide) (fun hc => ?_) (fun hc => absurd h1 hc)
  refine lv_iload_n F.x F.b d_J_rangeCheck_46 rfl (lv_at hl 1 rfl) ?_
  refine lv_if_ge (tgt := 59) F.x F.b d_J_rangeCheck_47 (by decide) (fun hc => ?_) (fun hc => absurd h2 hc)
  refine lv_iload_n F.x F.b d_J_rangeCheck_59 rfl (lv_at hl 2 rfl) ?_
  refine lv_iload_n F.x F.b d_J_rangeCheck_60 rfl (lv_at hl 0 rfl) ?_
  refine lv_icmp_le (tgt := 73) F.x F.b d_J_rangeCheck_61 (by decide) (fun hc => ?_) (fun hc => absurd h3 hc)
  exact fin_v F X hr d_J_rangeCheck_73
theorem fw_get {w : va_W} {q0 : Nat} {x y : Nat × va_E} (h : w[q0]? = some x) : (w.set q0 y)[q0]? = some y := by
  rw [List.getElem?_set_self (List.getElem?_eq_some_iff.mp h).1]
theorem fw_set {w : va_W} {q0 : Nat} {x y : Nat × va_E} : (w.set q0 x).set q0 y = w.set q0 y := List.set_set ..
theorem fw_id {w : va_W} {q0 : Nat} {x : Nat × va_E} (h : w[q0]? = some x) : w.set q0 x = w := by
  apply List.ext_getElem?
  intro j
  by_cases e : q0 = j
  · subst e; rw [fw_get h, h]
  · rw [List.getElem?_set_ne e]
set_option maxHeartbeats 4000000 in
theorem c_J_fill2 (l : Launch) (D : Gd) {tys : List (ClassId × FieldType)} (w : va_W) (q0 : Nat) {a : Nat} {cA : ClassId} {N : Nat} {f : Nat → Int32} {x : Int32} (q : Nat → Int32) (hq : w[q0]? = some (a, .inl (cA, N, .inl f))) (ht : tys[0]? = some (cA, .int)) (h : f_J_fill2 N f x = some q) :
    CV l y_J_fill2 (.code y_J_fill2 b_J_fill2 4 none) { frames := 0, cells := 0, slots := 0, locals := 0 } D tys [.ref a, .int x] w (w.set q0 (a, .inl (cA, N, .inl q))) 0 0 := by
  refine mk_v (by decide) (Nat.le_of_ble_eq_true rfl) ?_
  intro p e s m args below meth c A ls F X hr hl
  have hl : lv_has ls 4 [(0, .ref a), (1, .int x)] := hl
  have L5 : ∀ (n : Nat) (g : Nat → Int32) (i : Int32) (H : Heap) (locs : List Loc) (ls : Array Slot), Wd D A s (w.set q0 (a, .inl (cA, N, .inl g))) H locs → lv_has ls 4 [(3, .int (Int32.ofNat N)), (2, .int i), (0, .ref a), (1, .int x)] → f_J_fill_l N x (Int32.ofNat N) n g i = some q → W p l e { frames := 0, cells := 0, slots := 0, locals := 0 } s m args below meth c H locs 0 0 (MQ below (va_Qv (fun (u : va_W) => u = w.set q0 (a, .inl (cA, N, .inl q))) (Po D tys A) A) args s 0 0 A) (F0 m 5 ls []) := by
    intro n
    induction n with
    | zero => intro g i H locs ls X hl h; cases h
    | succ n ih =>
      intro g i H locs ls X hl h
      rw [f_J_fill_l] at h
      refine lv_iload_n F.x F.b d_J_fill2_5 rfl (lv_at hl 1 rfl) ?_
      refine lv_iload_n F.x F.b d_J_fill2_6 rfl (lv_at hl 0 rfl) ?_
      refine lv_icmp_ge (tgt := 20) F.x F.b d_J_fill2_7 (by decide) (fun hc => ?_) (fun hc => ?_)
      · have h := it_t hc h
        rw [← Option.some.inj h]
        exact fin_v F X hr d_J_fill2_20
      · have h := it_e hc h
        obtain ⟨hb, h⟩ := it_b h
        refine lv_aload_n F.x F.b d_J_fill2_10 rfl (lv_at hl 2 rfl) ?_
        refine lv_iload_n F.x F.b d_J_fill2_11 rfl (lv_at hl 1 rfl) ?_
        refine lv_iload_n F.x F.b d_J_fill2_12 rfl (lv_at hl 3 rfl) ?_
        refine r_ast F X q0 0 (fw_get hq) ht hb d_J_fill2_13 fw_set (fun H locs X => ?_)
        refine lv_iinc (k := 1) (v := i + 1) F.x F.b d_J_fill2_14 hl rfl (ii_1 _) (by decide) (lv' := [(2, .int (i + 1)), (3, .int (Int32.ofNat N)), (0, .ref a), (1, .int x)]) rfl (fun ls hl => ?_)
        refine lv_goto (tgt := 5) F.x F.b d_J_fill2_17 (by decide) ?_
        exact ih _ _ _ _ _ X (lv_sub hl [1, 0, 2, 3] rfl) h
  refine lv_iconst (v := (0 : Int32)) F.x F.b d_J_fill2_0 (by decide) ?_
  refine lv_istore_n F.x F.b d_J_fill2_1 rfl hl (by decide) (lv' := [(2, .int 0), (0, .ref a), (1, .int x)]) rfl (fun ls hl => ?_)
  refine lv_aload_n F.x F.b d_J_fill2_2 rfl (lv_at hl 1 rfl) ?_
  refine va_alen F.x F.b F.2.2.2.2.2.1 X.1 q0 0 hq ht (v := Int32.ofNat N) rfl d_J_fill2_3 ?_
  refine lv_istore_n F.x F.b d_J_fill2_4 rfl hl (by decide) (lv' := [(3, .int (Int32.ofNat N)), (2, .int 0), (0, .ref a), (1, .int x)]) rfl (fun ls hl => ?_)
  exact L5 FU f 0 _ _ _ (by rw [fw_id hq]; exact X) hl h
set_option maxHeartbeats 4000000 in
theorem c_J_fill4 (l : Launch) (D : Gd) {tys : List (ClassId × FieldType)} (w : va_W) (q0 : Nat) {a : Nat} {cA : ClassId} {N : Nat} {f : Nat → Int32} {i j x : Int32} (q : Nat → Int32) (hq : w[q0]? = some (a, .inl (cA, N, .inl f))) (ht : tys[0]? = some (cA, .int)) (h : f_J_fill4 N f i j x = some q) :
    CV l y_J_fill4 (.code y_J_fill4 b_J_fill4 5 none) { frames := 1, cells := 0, slots := 0, locals := 22 } D tys [.ref a, .int i, .int j, .int x] w (w.set q0 (a, .inl (cA, N, .inl q))) 0 0 := by
  refine mk_v (by decide) (Nat.le_of_ble_eq_true rfl) ?_
  intro p e s m args below meth c A ls F X hr hl
  have hl : lv_has ls 5 [(0, .ref a), (1, .int i), (2, .int j), (3, .int x)] := hl
  have L10 : ∀ (n : Nat) (g : Nat → Int32) (k : Int32) (H : Heap) (locs : List Loc) (ls : Array Slot), Wd D A s (w.set q0 (a, .inl (cA, N, .inl g))) H locs → lv_has ls 5 [(4, .int k), (0, .ref a), (2, .int j), (3, .int x)] → f_J_fill_l N x j n g k = some q → W p l e { frames := 1, cells := 0, slots := 0, locals := 22 } s m args below meth c H locs 0 0 (MQ below (va_Qv (fun (u : va_W) => u = w.set q0 (a, .inl (cA, N, .inl q))) (Po D tys A) A) args s 0 0 A) (F0 m 10 ls []) := by
    intro n
    induction n with
    | zero => intro g k H locs ls X hl h; cases h
    | succ n ih =>
      intro g k H locs ls X hl h
      rw [f_J_fill_l] at h
      refine lv_iload F.x F.b d_J_fill4_10 (lv_at hl 0 rfl) ?_
      refine lv_iload_n F.x F.b d_J_fill4_12 rfl (lv_at hl 2 rfl) ?_
      refine lv_icmp_ge (tgt := 27) F.x F.b d_J_fill4_13 (by decide) (fun hc => ?_) (fun hc => ?_)
      · have h := it_t hc h
        rw [← Option.some.inj h]
        exact fin_v F X hr d_J_fill4_27
      · have h := it_e hc h
        obtain ⟨hb, h⟩ := it_b h
        refine lv_aload_n F.x F.b d_J_fill4_16 rfl (lv_at hl 1 rfl) ?_
        refine lv_iload F.x F.b d_J_fill4_17 (lv_at hl 0 rfl) ?_
        refine lv_iload_n F.x F.b d_J_fill4_19 rfl (lv_at hl 3 rfl) ?_
        refine r_ast F X q0 0 (fw_get hq) ht hb d_J_fill4_20 fw_set (fun H locs X => ?_)
        refine lv_iinc (k := 0) (v := k + 1) F.x F.b d_J_fill4_21 hl rfl (ii_1 _) (by decide) (lv' := [(4, .int (k + 1)), (0, .ref a), (2, .int j), (3, .int x)]) rfl (fun ls hl => ?_)
        refine lv_goto (tgt := 10) F.x F.b d_J_fill4_24 (by decide) ?_
        exact ih _ _ _ _ _ X hl h
  unfold f_J_fill4 at h
  obtain ⟨hr1, h⟩ := it_b h
  have hr1 := Decidable.not_not.mp hr1
  refine lv_aload_n F.x F.b d_J_fill4_0 rfl (lv_at hl 0 rfl) ?_
  refine va_alen F.x F.b F.2.2.2.2.2.1 X.1 q0 0 hq ht (v := Int32.ofNat N) rfl d_J_fill4_1 ?_
  refine lv_iload_n F.x F.b d_J_fill4_2 rfl (lv_at hl 1 rfl) ?_
  refine lv_iload_n F.x F.b d_J_fill4_3 rfl (lv_at hl 2 rfl) ?_
  refine r_sv F X hl.1 (c_J_rangeCheck l D tys w (Int32.ofNat N) i j hr1.1 hr1.2.1 hr1.2.2) mt_307 mt_308 mt_4 mt_309 hd_J_rangeCheck ⟨by decide, by decide⟩ ⟨rfl, rfl⟩ ⟨Nat.zero_le _, Nat.zero_le _⟩ rfl (Nat.le_of_ble_eq_true rfl) d_J_fill4_4 rfl (fun H locs X => ?_)
  refine lv_iload_n F.x F.b d_J_fill4_7 rfl (lv_at hl 1 rfl) ?_
  refine lv_istore F.x F.b d_J_fill4_8 hl (by decide) (lv' := [(4, .int i), (0, .ref a), (1, .int i), (2, .int j), (3, .int x)]) rfl (fun ls hl => ?_)
  exact L10 FU f i _ _ _ (by rw [fw_id hq]; exact X) (lv_sub hl [0, 1, 3, 4] rfl) h
