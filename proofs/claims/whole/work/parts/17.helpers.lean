def f_L_free (z : St) (g : Nat → Int64) : Option (Int32 × (St × (Nat → Int64))) :=
  ((f_X_free z).bind fun q1 => (if q1.1.1 = 0 then some ((0 : Int32), (q1.2, (vp_updL g (0 : Int32).toNatClampNeg ((q1.1.2).toInt64)))) else (if q1.1.1 = 1 then none else (if q1.1.1 = 2 then some ((1 : Int32), (q1.2, g)) else none))))
def f_L_sum (z : St) (g : Nat → Int64) (v1 v2 : Int32) : Option (Int32 × (St × (Nat → Int64))) :=
  ((f_X_sum z (v1) (v2)).bind fun q1 => (if q1.1.1 = 0 then some ((0 : Int32), (q1.2, (vp_updL g (0 : Int32).toNatClampNeg ((q1.1.2).toInt64)))) else (if q1.1.1 = 1 then some ((1 : Int32), (q1.2, g)) else (if q1.1.1 = 2 then some ((2 : Int32), (q1.2, g)) else none))))
def f_L_pair (z : St) (g : Nat → Int64) (v1 v2 : Int32) : Option (Int32 × (St × (Nat → Int64))) :=
  ((f_X_pair z (v1) (v2)).bind fun q1 => (if q1.1.1 = 0 then some ((0 : Int32), (q1.2, (vp_updL g (0 : Int32).toNatClampNeg ((q1.1.2).toInt64)))) else (if q1.1.1 = 1 then some ((1 : Int32), (q1.2, g)) else (if q1.1.1 = 2 then some ((2 : Int32), (q1.2, g)) else none))))
def f_L_join (z : St) (g : Nat → Int64) (v1 v2 : Int32) : Option (Int32 × (St × (Nat → Int64))) :=
  ((f_X_join z (v1) (v2)).bind fun q1 => (if q1.1.1 = 0 then (if (q1.1.2) = 0 then some ((0 : Int32), (q1.2, (vp_updL g (0 : Int32).toNatClampNeg ((0 : Int64))))) else some ((0 : Int32), (q1.2, (vp_updL g (0 : Int32).toNatClampNeg ((1 : Int64)))))) else (if q1.1.1 = 1 then some ((1 : Int32), (q1.2, g)) else (if q1.1.1 = 2 then none else none))))
def f_L_alike (z : St) (g : Nat → Int64) (v1 v2 : Int32) : Option (Int32 × (St × (Nat → Int64))) :=
  ((f_X_alike z (v1) (v2)).bind fun q1 => (if q1.1.1 = 0 then (if (q1.1.2) = 0 then some ((0 : Int32), (q1.2, (vp_updL g (0 : Int32).toNatClampNeg ((0 : Int64))))) else some ((0 : Int32), (q1.2, (vp_updL g (0 : Int32).toNatClampNeg ((1 : Int64)))))) else (if q1.1.1 = 1 then some ((1 : Int32), (q1.2, g)) else (if q1.1.1 = 2 then none else none))))
def f_L_same (z : St) (g : Nat → Int64) (v1 v2 : Int32) : Option (Int32 × (St × (Nat → Int64))) :=
  ((f_X_same z (v1) (v2)).bind fun q1 => (if q1.1.1 = 0 then (if (q1.1.2) = 0 then some ((0 : Int32), (q1.2, (vp_updL g (0 : Int32).toNatClampNeg ((0 : Int64))))) else some ((0 : Int32), (q1.2, (vp_updL g (0 : Int32).toNatClampNeg ((1 : Int64)))))) else (if q1.1.1 = 1 then some ((1 : Int32), (q1.2, g)) else (if q1.1.1 = 2 then none else none))))
def f_L_renamed (z : St) (g : Nat → Int64) (v1 v2 : Int32) : Option (Int32 × (St × (Nat → Int64))) :=
  ((f_X_renamed z (v1) (v2)).bind fun q1 => (if q1.1.1 = 0 then (if (q1.1.2) = 0 then some ((0 : Int32), (q1.2, (vp_updL g (0 : Int32).toNatClampNeg ((0 : Int64))))) else some ((0 : Int32), (q1.2, (vp_updL g (0 : Int32).toNatClampNeg ((1 : Int64)))))) else (if q1.1.1 = 1 then some ((1 : Int32), (q1.2, g)) else (if q1.1.1 = 2 then none else none))))
def f_L_kind (z : St) (g : Nat → Int64) (v1 : Int32) : Option (Int32 × (St × (Nat → Int64))) :=
  ((f_X_kind z (v1)).bind fun q1 => (if q1.1.1 = 0 then some ((0 : Int32), (q1.2, (vp_updL g (0 : Int32).toNatClampNeg ((q1.1.2).toInt64)))) else (if q1.1.1 = 1 then some ((1 : Int32), (q1.2, g)) else (if q1.1.1 = 2 then none else none))))
def f_L_part (z : St) (g : Nat → Int64) (v1 v2 : Int32) : Option (Int32 × (St × (Nat → Int64))) :=
  ((f_X_part z (v1) (v2)).bind fun q1 => (if q1.1.1 = 0 then some ((0 : Int32), (q1.2, (vp_updL g (0 : Int32).toNatClampNeg ((q1.1.2).toInt64)))) else (if q1.1.1 = 1 then some ((1 : Int32), (q1.2, g)) else (if q1.1.1 = 2 then none else none))))
def f_L_size (z : St) (g : Nat → Int64) (v1 : Int32) : Option (Int32 × (St × (Nat → Int64))) :=
  ((f_X_size z (v1)).bind fun q1 => (if q1.1.1 = 0 then some ((0 : Int32), (q1.2, (vp_updL g (0 : Int32).toNatClampNeg ((q1.1.2).toInt64)))) else (if q1.1.1 = 1 then some ((1 : Int32), (q1.2, g)) else (if q1.1.1 = 2 then none else none))))
def f_L_values (z : St) (g : Nat → Int64) (v1 : Int32) : Option (Int32 × (St × (Nat → Int64))) :=
  ((f_X_values z (v1)).bind fun q1 => (if q1.1.1 = 0 then some ((0 : Int32), (q1.2, (vp_updL g (0 : Int32).toNatClampNeg ((q1.1.2).toInt64)))) else (if q1.1.1 = 1 then some ((1 : Int32), (q1.2, g)) else (if q1.1.1 = 2 then none else none))))
def f_L_frees (z : St) (g : Nat → Int64) (v1 : Int32) : Option (Int32 × (St × (Nat → Int64))) :=
  ((f_X_frees z (v1)).bind fun q1 => (if q1.1.1 = 0 then some ((0 : Int32), (q1.2, (vp_updL g (0 : Int32).toNatClampNeg ((q1.1.2).toInt64)))) else (if q1.1.1 = 1 then some ((1 : Int32), (q1.2, g)) else (if q1.1.1 = 2 then none else none))))
theorem hd_L_free : y_L_free.cls ≠ "java/lang/invoke/MethodHandle" ∧ y_L_free.cls ≠ "java/lang/invoke/VarHandle" ∧ (parseMethodDescriptor y_L_free.desc).map (fun d => d.parameters.length) = some 2 := ⟨by decide, by decide, by decide +kernel⟩
set_option maxRecDepth 100000 in
set_option maxHeartbeats 4000000 in
theorem c_L_free (l : Launch) (hst : l.stackTraces = false) (D : Gd) (cI cJ : ClassId) (ad : Nat → Nat) (ao : Nat) (z : St) (g : Nat → Int64) (q : Int32 × (St × (Nat → Int64))) (h : f_L_free z g = some q) : CI l y_L_free (.codeWith y_L_free b_L_free 3 (some .int) [(0, 8, 11, 13)]) { frames := 8, cells := 1, slots := 6, locals := 151 } D [(cI, .int), (cJ, .long)] [.ref (ad 0), .ref ao] ([oc cJ ao g] ++ cX cI ad z) q.1 ([oc cJ ao q.2.2] ++ cX cI ad q.2.1) 1 6 := by
  refine mk_w (by decide) (Nat.le_of_ble_eq_true rfl) ?_
  intro p e s m args below meth c A ls F X hr htab hl
  have hl : lv_has ls 3 [(0, .ref (ad 0)), (1, .ref (ao))] := hl
  unfold f_L_free at h
  refine lv_aload_n F.x F.b d_L_free_0 rfl (lv_at hl 1 rfl) ?_
  refine lv_iconst (v := (0 : Int32)) F.x F.b d_L_free_1 (by decide) ?_
  refine lv_aload_n F.x F.b d_L_free_2 rfl (lv_at hl 0 rfl) ?_
  obtain ⟨q1, hq1, h⟩ := it_c h
  refine r_tr F (F.2.2.2.2.2.1.sub (tys' := [(cI, .int)]) [0] rfl) X hl.1 (c_X_free l hst D cI ad z q1 hq1) (gX_0 cI ad z) rfl mt_130 mt_131 mt_132 mt_1 mt_133 ⟨rfl, hd_X_free⟩ ⟨by decide, by decide⟩ ⟨rfl, rfl⟩ ⟨by decide, by decide⟩ rfl (Nat.le_of_ble_eq_true rfl) d_L_free_3 rfl (fun hc H locs E ce q9 X hE hce hcv hcl => ?_) (fun hc H locs X => ?_)
  · have h := it_e hc h
    rcases hE with ⟨h1, rfl⟩ | ⟨h1, rfl⟩
    · have h := it_t h1 h
      cases h
    · have h := it_e (show ¬ q1.1.1 = 1 by omega) h
      have h := it_t h1 h
      refine vx_catch (name := "java/lang/IllegalStateException") (E := "java/lang/IllegalStateException") F.2.2.2.1 [] (⟨0, 8, 11, 13⟩ : ExceptionTableEntry) [] (htab.trans rfl) (fun z9 hz9 => absurd hz9 List.not_mem_nil) (by decide) (by decide) (F.2.2.2.2.1 _ mt_129) (va_Nw.use rfl (F.2.2.2.2.2.2.1.1 _ (List.mem_of_getElem? (i := 21) rfl))) hce hcv hcl ?_
      refine lv_astore_n F.x F.b d_L_free_11 rfl hl (by decide) (lv' := [(2, .ref (q9)), (0, .ref (ad 0)), (1, .ref (ao))]) rfl (fun ls hl => ?_)
      refine lv_iconst (v := (1 : Int32)) F.x F.b d_L_free_12 (by decide) ?_
      rw [← Option.some.inj h]
      exact fin_w F X hr (by decide) (by decide) d_L_free_13
  · have h := it_t hc h
    refine lv_i2l (v := (q1.1.2).toInt64) F.x F.b d_L_free_6 rfl ?_
    refine r_last F X rfl (by decide) d_L_free_7 (fun H locs X => ?_)
    refine lv_goto (tgt := 14) F.x F.b d_L_free_8 (by decide) ?_
    refine lv_iconst (v := (0 : Int32)) F.x F.b d_L_free_14 (by decide) ?_
    rw [← Option.some.inj h]
    exact fin_w F X hr (by decide) (by decide) d_L_free_15
theorem hd_L_sum : y_L_sum.cls ≠ "java/lang/invoke/MethodHandle" ∧ y_L_sum.cls ≠ "java/lang/invoke/VarHandle" ∧ (parseMethodDescriptor y_L_sum.desc).map (fun d => d.parameters.length) = some 4 := ⟨by decide, by decide, by decide +kernel⟩
set_option maxRecDepth 100000 in
set_option maxHeartbeats 4000000 in
theorem c_L_sum (l : Launch) (hst : l.stackTraces = false) (D : Gd) (cI cJ : ClassId) (ad : Nat → Nat) (ao : Nat) (z : St) (g : Nat → Int64) (v1 v2 : Int32) (q : Int32 × (St × (Nat → Int64))) (h : f_L_sum z g v1 v2 = some q) : CI l y_L_sum (.codeWith y_L_sum b_L_sum 5 (some .int) [(0, 10, 13, 19), (0, 10, 17, 13)]) { frames := 9, cells := 3, slots := 18, locals := 177 } D [(cI, .int), (cJ, .long)] [.ref (ad 0), .int v1, .int v2, .ref ao] ([oc cJ ao g] ++ cX cI ad z) q.1 ([oc cJ ao q.2.2] ++ cX cI ad q.2.1) 3 18 := by
  refine mk_w (by decide) (Nat.le_of_ble_eq_true rfl) ?_
  intro p e s m args below meth c A ls F X hr htab hl
  have hl : lv_has ls 5 [(0, .ref (ad 0)), (1, .int (v1)), (2, .int (v2)), (3, .ref (ao))] := hl
  unfold f_L_sum at h
  refine lv_aload_n F.x F.b d_L_sum_0 rfl (lv_at hl 3 rfl) ?_
  refine lv_iconst (v := (0 : Int32)) F.x F.b d_L_sum_1 (by decide) ?_
  refine lv_aload_n F.x F.b d_L_sum_2 rfl (lv_at hl 0 rfl) ?_
  refine lv_iload_n F.x F.b d_L_sum_3 rfl (lv_at hl 1 rfl) ?_
  refine lv_iload_n F.x F.b d_L_sum_4 rfl (lv_at hl 2 rfl) ?_
  obtain ⟨q1, hq1, h⟩ := it_c h
  refine r_tr F (F.2.2.2.2.2.1.sub (tys' := [(cI, .int)]) [0] rfl) X hl.1 (c_X_sum l hst D cI ad z (v1) (v2) q1 hq1) (gX_0 cI ad z) rfl mt_204 mt_205 mt_206 mt_1 mt_207 ⟨rfl, hd_X_sum⟩ ⟨by decide, by decide⟩ ⟨rfl, rfl⟩ ⟨by decide, by decide⟩ rfl (Nat.le_of_ble_eq_true rfl) d_L_sum_5 rfl (fun hc H locs E ce q9 X hE hce hcv hcl => ?_) (fun hc H locs X => ?_)
  · have h := it_e hc h
    rcases hE with ⟨h1, rfl⟩ | ⟨h1, rfl⟩
    · have h := it_t h1 h
      refine vx_catch (name := "java/util/NoSuchElementException") (E := "java/util/NoSuchElementException") F.2.2.2.1 [] (⟨0, 10, 13, 19⟩ : ExceptionTableEntry) [(⟨0, 10, 17, 13⟩ : ExceptionTableEntry)] (htab.trans rfl) (fun z9 hz9 => absurd hz9 List.not_mem_nil) (by decide) (by decide) (F.2.2.2.2.1 _ mt_203) (va_Nw.use rfl (F.2.2.2.2.2.2.1.1 _ (List.mem_of_getElem? (i := 22) rfl))) hce hcv hcl ?_
      refine lv_astore F.x F.b d_L_sum_13 hl (by decide) (lv' := [(4, .ref (q9)), (0, .ref (ad 0)), (1, .int (v1)), (2, .int (v2)), (3, .ref (ao))]) rfl (fun ls hl => ?_)
      refine lv_iconst (v := (1 : Int32)) F.x F.b d_L_sum_15 (by decide) ?_
      rw [← Option.some.inj h]
      exact fin_w F X hr (by decide) (by decide) d_L_sum_16
    · have h := it_e (show ¬ q1.1.1 = 1 by omega) h
      have h := it_t h1 h
      refine vx_catch (name := "java/lang/IllegalStateException") (E := "java/lang/IllegalStateException") F.2.2.2.1 [(⟨0, 10, 13, 19⟩ : ExceptionTableEntry)] (⟨0, 10, 17, 13⟩ : ExceptionTableEntry) [] (htab.trans rfl) (fun z9 hz9 => by cases List.mem_singleton.mp hz9; exact Or.inr ⟨by decide, "java/util/NoSuchElementException", F.2.2.2.2.1 _ mt_203, F.2.2.2.2.2.2.1.2.2.2⟩) (by decide) (by decide) (F.2.2.2.2.1 _ mt_129) (va_Nw.use rfl (F.2.2.2.2.2.2.1.1 _ (List.mem_of_getElem? (i := 21) rfl))) hce hcv hcl ?_
      refine lv_astore F.x F.b d_L_sum_17 hl (by decide) (lv' := [(4, .ref (q9)), (0, .ref (ad 0)), (1, .int (v1)), (2, .int (v2)), (3, .ref (ao))]) rfl (fun ls hl => ?_)
      refine lv_iconst (v := (2 : Int32)) F.x F.b d_L_sum_19 (by decide) ?_
      rw [← Option.some.inj h]
      exact fin_w F X hr (by decide) (by decide) d_L_sum_20
  · have h := it_t hc h
    refine lv_i2l (v := (q1.1.2).toInt64) F.x F.b d_L_sum_8 rfl ?_
    refine r_last F X rfl (by decide) d_L_sum_9 (fun H locs X => ?_)
    refine lv_goto (tgt := 21) F.x F.b d_L_sum_10 (by decide) ?_
    refine lv_iconst (v := (0 : Int32)) F.x F.b d_L_sum_21 (by decide) ?_
    rw [← Option.some.inj h]
    exact fin_w F X hr (by decide) (by decide) d_L_sum_22
theorem hd_L_pair : y_L_pair.cls ≠ "java/lang/invoke/MethodHandle" ∧ y_L_pair.cls ≠ "java/lang/invoke/VarHandle" ∧ (parseMethodDescriptor y_L_pair.desc).map (fun d => d.parameters.length) = some 4 := ⟨by decide, by decide, by decide +kernel⟩
set_option maxRecDepth 100000 in
set_option maxHeartbeats 4000000 in
theorem c_L_pair (l : Launch) (hst : l.stackTraces = false) (D : Gd) (cI cJ : ClassId) (ad : Nat → Nat) (ao : Nat) (z : St) (g : Nat → Int64) (v1 v2 : Int32) (q : Int32 × (St × (Nat → Int64))) (h : f_L_pair z g v1 v2 = some q) : CI l y_L_pair (.codeWith y_L_pair b_L_pair 5 (some .int) [(0, 10, 13, 19), (0, 10, 17, 13)]) { frames := 9, cells := 3, slots := 18, locals := 177 } D [(cI, .int), (cJ, .long)] [.ref (ad 0), .int v1, .int v2, .ref ao] ([oc cJ ao g] ++ cX cI ad z) q.1 ([oc cJ ao q.2.2] ++ cX cI ad q.2.1) 3 18 := by
  refine mk_w (by decide) (Nat.le_of_ble_eq_true rfl) ?_
  intro p e s m args below meth c A ls F X hr htab hl
  have hl : lv_has ls 5 [(0, .ref (ad 0)), (1, .int (v1)), (2, .int (v2)), (3, .ref (ao))] := hl
  unfold f_L_pair at h
  refine lv_aload_n F.x F.b d_L_pair_0 rfl (lv_at hl 3 rfl) ?_
  refine lv_iconst (v := (0 : Int32)) F.x F.b d_L_pair_1 (by decide) ?_
  refine lv_aload_n F.x F.b d_L_pair_2 rfl (lv_at hl 0 rfl) ?_
  refine lv_iload_n F.x F.b d_L_pair_3 rfl (lv_at hl 1 rfl) ?_
  refine lv_iload_n F.x F.b d_L_pair_4 rfl (lv_at hl 2 rfl) ?_
  obtain ⟨q1, hq1, h⟩ := it_c h
  refine r_tr F (F.2.2.2.2.2.1.sub (tys' := [(cI, .int)]) [0] rfl) X hl.1 (c_X_pair l hst D cI ad z (v1) (v2) q1 hq1) (gX_0 cI ad z) rfl mt_250 mt_251 mt_252 mt_1 mt_253 ⟨rfl, hd_X_pair⟩ ⟨by decide, by decide⟩ ⟨rfl, rfl⟩ ⟨by decide, by decide⟩ rfl (Nat.le_of_ble_eq_true rfl) d_L_pair_5 rfl (fun hc H locs E ce q9 X hE hce hcv hcl => ?_) (fun hc H locs X => ?_)
  · have h := it_e hc h
    rcases hE with ⟨h1, rfl⟩ | ⟨h1, rfl⟩
    · have h := it_t h1 h
      refine vx_catch (name := "java/util/NoSuchElementException") (E := "java/util/NoSuchElementException") F.2.2.2.1 [] (⟨0, 10, 13, 19⟩ : ExceptionTableEntry) [(⟨0, 10, 17, 13⟩ : ExceptionTableEntry)] (htab.trans rfl) (fun z9 hz9 => absurd hz9 List.not_mem_nil) (by decide) (by decide) (F.2.2.2.2.1 _ mt_203) (va_Nw.use rfl (F.2.2.2.2.2.2.1.1 _ (List.mem_of_getElem? (i := 22) rfl))) hce hcv hcl ?_
      refine lv_astore F.x F.b d_L_pair_13 hl (by decide) (lv' := [(4, .ref (q9)), (0, .ref (ad 0)), (1, .int (v1)), (2, .int (v2)), (3, .ref (ao))]) rfl (fun ls hl => ?_)
      refine lv_iconst (v := (1 : Int32)) F.x F.b d_L_pair_15 (by decide) ?_
      rw [← Option.some.inj h]
      exact fin_w F X hr (by decide) (by decide) d_L_pair_16
    · have h := it_e (show ¬ q1.1.1 = 1 by omega) h
      have h := it_t h1 h
      refine vx_catch (name := "java/lang/IllegalStateException") (E := "java/lang/IllegalStateException") F.2.2.2.1 [(⟨0, 10, 13, 19⟩ : ExceptionTableEntry)] (⟨0, 10, 17, 13⟩ : ExceptionTableEntry) [] (htab.trans rfl) (fun z9 hz9 => by cases List.mem_singleton.mp hz9; exact Or.inr ⟨by decide, "java/util/NoSuchElementException", F.2.2.2.2.1 _ mt_203, F.2.2.2.2.2.2.1.2.2.2⟩) (by decide) (by decide) (F.2.2.2.2.1 _ mt_129) (va_Nw.use rfl (F.2.2.2.2.2.2.1.1 _ (List.mem_of_getElem? (i := 21) rfl))) hce hcv hcl ?_
      refine lv_astore F.x F.b d_L_pair_17 hl (by decide) (lv' := [(4, .ref (q9)), (0, .ref (ad 0)), (1, .int (v1)), (2, .int (v2)), (3, .ref (ao))]) rfl (fun ls hl => ?_)
      refine lv_iconst (v := (2 : Int32)) F.x F.b d_L_pair_19 (by decide) ?_
      rw [← Option.some.inj h]
      exact fin_w F X hr (by decide) (by decide) d_L_pair_20
  · have h := it_t hc h
    refine lv_i2l (v := (q1.1.2).toInt64) F.x F.b d_L_pair_8 rfl ?_
    refine r_last F X rfl (by decide) d_L_pair_9 (fun H locs X => ?_)
    refine lv_goto (tgt := 21) F.x F.b d_L_pair_10 (by decide) ?_
    refine lv_iconst (v := (0 : Int32)) F.x F.b d_L_pair_21 (by decide) ?_
    rw [← Option.some.inj h]
    exact fin_w F X hr (by decide) (by decide) d_L_pair_22
theorem hd_L_join : y_L_join.cls ≠ "java/lang/invoke/MethodHandle" ∧ y_L_join.cls ≠ "java/lang/invoke/VarHandle" ∧ (parseMethodDescriptor y_L_join.desc).map (fun d => d.parameters.length) = some 4 := ⟨by decide, by decide, by decide +kernel⟩
set_option maxRecDepth 100000 in
set_option maxHeartbeats 4000000 in
theorem c_L_join (l : Launch) (hst : l.stackTraces = false) (D : Gd) (cI cJ : ClassId) (ad : Nat → Nat) (ao : Nat) (z : St) (g : Nat → Int64) (v1 v2 : Int32) (q : Int32 × (St × (Nat → Int64))) (h : f_L_join z g v1 v2 = some q) : CI l y_L_join (.codeWith y_L_join b_L_join 5 (some .int) [(0, 17, 20, 19)]) { frames := 8, cells := 2, slots := 12, locals := 155 } D [(cI, .int), (cJ, .long)] [.ref (ad 0), .int v1, .int v2, .ref ao] ([oc cJ ao g] ++ cX cI ad z) q.1 ([oc cJ ao q.2.2] ++ cX cI ad q.2.1) 2 12 := by
  refine mk_w (by decide) (Nat.le_of_ble_eq_true rfl) ?_
  intro p e s m args below meth c A ls F X hr htab hl
  have hl : lv_has ls 5 [(0, .ref (ad 0)), (1, .int (v1)), (2, .int (v2)), (3, .ref (ao))] := hl
  unfold f_L_join at h
  refine lv_aload_n F.x F.b d_L_join_0 rfl (lv_at hl 3 rfl) ?_
  refine lv_iconst (v := (0 : Int32)) F.x F.b d_L_join_1 (by decide) ?_
  refine lv_aload_n F.x F.b d_L_join_2 rfl (lv_at hl 0 rfl) ?_
  refine lv_iload_n F.x F.b d_L_join_3 rfl (lv_at hl 1 rfl) ?_
  refine lv_iload_n F.x F.b d_L_join_4 rfl (lv_at hl 2 rfl) ?_
  obtain ⟨q1, hq1, h⟩ := it_c h
  refine r_tr F (F.2.2.2.2.2.1.sub (tys' := [(cI, .int)]) [0] rfl) X hl.1 (c_X_join l hst D cI ad z (v1) (v2) q1 hq1) (gX_0 cI ad z) rfl mt_257 mt_258 mt_259 mt_1 mt_260 ⟨rfl, hd_X_join⟩ ⟨by decide, by decide⟩ ⟨rfl, rfl⟩ ⟨by decide, by decide⟩ rfl (Nat.le_of_ble_eq_true rfl) d_L_join_5 rfl (fun hc H locs E ce q9 X hE hce hcv hcl => ?_) (fun hc H locs X => ?_)
  · have h := it_e hc h
    rcases hE with ⟨h1, rfl⟩ | ⟨h1, rfl⟩
    · have h := it_t h1 h
      refine vx_catch (name := "java/util/NoSuchElementException") (E := "java/util/NoSuchElementException") F.2.2.2.1 [] (⟨0, 17, 20, 19⟩ : ExceptionTableEntry) [] (htab.trans rfl) (fun z9 hz9 => absurd hz9 List.not_mem_nil) (by decide) (by decide) (F.2.2.2.2.1 _ mt_203) (va_Nw.use rfl (F.2.2.2.2.2.2.1.1 _ (List.mem_of_getElem? (i := 22) rfl))) hce hcv hcl ?_
      refine lv_astore F.x F.b d_L_join_20 hl (by decide) (lv' := [(4, .ref (q9)), (0, .ref (ad 0)), (1, .int (v1)), (2, .int (v2)), (3, .ref (ao))]) rfl (fun ls hl => ?_)
      refine lv_iconst (v := (1 : Int32)) F.x F.b d_L_join_22 (by decide) ?_
      rw [← Option.some.inj h]
      exact fin_w F X hr (by decide) (by decide) d_L_join_23
    · have h := it_e (show ¬ q1.1.1 = 1 by omega) h
      have h := it_t h1 h
      cases h
  · have h := it_t hc h
    refine lv_if_eq (tgt := 15) F.x F.b d_L_join_8 (by decide) (fun hc => ?_) (fun hc => ?_)
    · have h := it_t hc h
      refine lv_lconst (v := (0 : Int64)) F.x F.b d_L_join_15 (by decide) ?_
      refine r_last F X rfl (by decide) d_L_join_16 (fun H locs X => ?_)
      refine lv_goto (tgt := 24) F.x F.b d_L_join_17 (by decide) ?_
      refine lv_iconst (v := (0 : Int32)) F.x F.b d_L_join_24 (by decide) ?_
      rw [← Option.some.inj h]
      exact fin_w F X hr (by decide) (by decide) d_L_join_25
    · have h := it_e hc h
      refine lv_lconst (v := (1 : Int64)) F.x F.b d_L_join_11 (by decide) ?_
      refine lv_goto (tgt := 16) F.x F.b d_L_join_12 (by decide) ?_
      refine r_last F X rfl (by decide) d_L_join_16 (fun H locs X => ?_)
      refine lv_goto (tgt := 24) F.x F.b d_L_join_17 (by decide) ?_
      refine lv_iconst (v := (0 : Int32)) F.x F.b d_L_join_24 (by decide) ?_
      rw [← Option.some.inj h]
      exact fin_w F X hr (by decide) (by decide) d_L_join_25
theorem hd_L_alike : y_L_alike.cls ≠ "java/lang/invoke/MethodHandle" ∧ y_L_alike.cls ≠ "java/lang/invoke/VarHandle" ∧ (parseMethodDescriptor y_L_alike.desc).map (fun d => d.parameters.length) = some 4 := ⟨by decide, by decide, by decide +kernel⟩
set_option maxRecDepth 100000 in
set_option maxHeartbeats 4000000 in
theorem c_L_alike (l : Launch) (hst : l.stackTraces = false) (D : Gd) (cI cJ : ClassId) (ad : Nat → Nat) (ao : Nat) (z : St) (g : Nat → Int64) (v1 v2 : Int32) (q : Int32 × (St × (Nat → Int64))) (h : f_L_alike z g v1 v2 = some q) : CI l y_L_alike (.codeWith y_L_alike b_L_alike 5 (some .int) [(0, 17, 20, 19)]) { frames := 8, cells := 2, slots := 12, locals := 155 } D [(cI, .int), (cJ, .long)] [.ref (ad 0), .int v1, .int v2, .ref ao] ([oc cJ ao g] ++ cX cI ad z) q.1 ([oc cJ ao q.2.2] ++ cX cI ad q.2.1) 2 12 := by
  refine mk_w (by decide) (Nat.le_of_ble_eq_true rfl) ?_
  intro p e s m args below meth c A ls F X hr htab hl
  have hl : lv_has ls 5 [(0, .ref (ad 0)), (1, .int (v1)), (2, .int (v2)), (3, .ref (ao))] := hl
  unfold f_L_alike at h
  refine lv_aload_n F.x F.b d_L_alike_0 rfl (lv_at hl 3 rfl) ?_
  refine lv_iconst (v := (0 : Int32)) F.x F.b d_L_alike_1 (by decide) ?_
  refine lv_aload_n F.x F.b d_L_alike_2 rfl (lv_at hl 0 rfl) ?_
  refine lv_iload_n F.x F.b d_L_alike_3 rfl (lv_at hl 1 rfl) ?_
  refine lv_iload_n F.x F.b d_L_alike_4 rfl (lv_at hl 2 rfl) ?_
  obtain ⟨q1, hq1, h⟩ := it_c h
  refine r_tr F (F.2.2.2.2.2.1.sub (tys' := [(cI, .int)]) [0] rfl) X hl.1 (c_X_alike l hst D cI ad z (v1) (v2) q1 hq1) (gX_0 cI ad z) rfl mt_341 mt_342 mt_343 mt_1 mt_344 ⟨rfl, hd_X_alike⟩ ⟨by decide, by decide⟩ ⟨rfl, rfl⟩ ⟨by decide, by decide⟩ rfl (Nat.le_of_ble_eq_true rfl) d_L_alike_5 rfl (fun hc H locs E ce q9 X hE hce hcv hcl => ?_) (fun hc H locs X => ?_)
  · have h := it_e hc h
    rcases hE with ⟨h1, rfl⟩ | ⟨h1, rfl⟩
    · have h := it_t h1 h
      refine vx_catch (name := "java/util/NoSuchElementException") (E := "java/util/NoSuchElementException") F.2.2.2.1 [] (⟨0, 17, 20, 19⟩ : ExceptionTableEntry) [] (htab.trans rfl) (fun z9 hz9 => absurd hz9 List.not_mem_nil) (by decide) (by decide) (F.2.2.2.2.1 _ mt_203) (va_Nw.use rfl (F.2.2.2.2.2.2.1.1 _ (List.mem_of_getElem? (i := 22) rfl))) hce hcv hcl ?_
      refine lv_astore F.x F.b d_L_alike_20 hl (by decide) (lv' := [(4, .ref (q9)), (0, .ref (ad 0)), (1, .int (v1)), (2, .int (v2)), (3, .ref (ao))]) rfl (fun ls hl => ?_)
      refine lv_iconst (v := (1 : Int32)) F.x F.b d_L_alike_22 (by decide) ?_
      rw [← Option.some.inj h]
      exact fin_w F X hr (by decide) (by decide) d_L_alike_23
    · have h := it_e (show ¬ q1.1.1 = 1 by omega) h
      have h := it_t h1 h
      cases h
  · have h := it_t hc h
    refine lv_if_eq (tgt := 15) F.x F.b d_L_alike_8 (by decide) (fun hc => ?_) (fun hc => ?_)
    · have h := it_t hc h
      refine lv_lconst (v := (0 : Int64)) F.x F.b d_L_alike_15 (by decide) ?_
      refine r_last F X rfl (by decide) d_L_alike_16 (fun H locs X => ?_)
      refine lv_goto (tgt := 24) F.x F.b d_L_alike_17 (by decide) ?_
      refine lv_iconst (v := (0 : Int32)) F.x F.b d_L_alike_24 (by decide) ?_
      rw [← Option.some.inj h]
      exact fin_w F X hr (by decide) (by decide) d_L_alike_25
    · have h := it_e hc h
      refine lv_lconst (v := (1 : Int64)) F.x F.b d_L_alike_11 (by decide) ?_
      refine lv_goto (tgt := 16) F.x F.b d_L_alike_12 (by decide) ?_
      refine r_last F X rfl (by decide) d_L_alike_16 (fun H locs X => ?_)
      refine lv_goto (tgt := 24) F.x F.b d_L_alike_17 (by decide) ?_
      refine lv_iconst (v := (0 : Int32)) F.x F.b d_L_alike_24 (by decide) ?_
      rw [← Option.some.inj h]
      exact fin_w F X hr (by decide) (by decide) d_L_alike_25
theorem hd_L_same : y_L_same.cls ≠ "java/lang/invoke/MethodHandle" ∧ y_L_same.cls ≠ "java/lang/invoke/VarHandle" ∧ (parseMethodDescriptor y_L_same.desc).map (fun d => d.parameters.length) = some 4 := ⟨by decide, by decide, by decide +kernel⟩
set_option maxRecDepth 100000 in
set_option maxHeartbeats 4000000 in
theorem c_L_same (l : Launch) (hst : l.stackTraces = false) (D : Gd) (cI cJ : ClassId) (ad : Nat → Nat) (ao : Nat) (z : St) (g : Nat → Int64) (v1 v2 : Int32) (q : Int32 × (St × (Nat → Int64))) (h : f_L_same z g v1 v2 = some q) : CI l y_L_same (.codeWith y_L_same b_L_same 5 (some .int) [(0, 17, 20, 19)]) { frames := 8, cells := 2, slots := 12, locals := 153 } D [(cI, .int), (cJ, .long)] [.ref (ad 0), .int v1, .int v2, .ref ao] ([oc cJ ao g] ++ cX cI ad z) q.1 ([oc cJ ao q.2.2] ++ cX cI ad q.2.1) 2 12 := by
  refine mk_w (by decide) (Nat.le_of_ble_eq_true rfl) ?_
  intro p e s m args below meth c A ls F X hr htab hl
  have hl : lv_has ls 5 [(0, .ref (ad 0)), (1, .int (v1)), (2, .int (v2)), (3, .ref (ao))] := hl
  unfold f_L_same at h
  refine lv_aload_n F.x F.b d_L_same_0 rfl (lv_at hl 3 rfl) ?_
  refine lv_iconst (v := (0 : Int32)) F.x F.b d_L_same_1 (by decide) ?_
  refine lv_aload_n F.x F.b d_L_same_2 rfl (lv_at hl 0 rfl) ?_
  refine lv_iload_n F.x F.b d_L_same_3 rfl (lv_at hl 1 rfl) ?_
  refine lv_iload_n F.x F.b d_L_same_4 rfl (lv_at hl 2 rfl) ?_
  obtain ⟨q1, hq1, h⟩ := it_c h
  refine r_tr F (F.2.2.2.2.2.1.sub (tys' := [(cI, .int)]) [0] rfl) X hl.1 (c_X_same l hst D cI ad z (v1) (v2) q1 hq1) (gX_0 cI ad z) rfl mt_348 mt_349 mt_350 mt_1 mt_351 ⟨rfl, hd_X_same⟩ ⟨by decide, by decide⟩ ⟨rfl, rfl⟩ ⟨by decide, by decide⟩ rfl (Nat.le_of_ble_eq_true rfl) d_L_same_5 rfl (fun hc H locs E ce q9 X hE hce hcv hcl => ?_) (fun hc H locs X => ?_)
  · have h := it_e hc h
    rcases hE with ⟨h1, rfl⟩ | ⟨h1, rfl⟩
    · have h := it_t h1 h
      refine vx_catch (name := "java/util/NoSuchElementException") (E := "java/util/NoSuchElementException") F.2.2.2.1 [] (⟨0, 17, 20, 19⟩ : ExceptionTableEntry) [] (htab.trans rfl) (fun z9 hz9 => absurd hz9 List.not_mem_nil) (by decide) (by decide) (F.2.2.2.2.1 _ mt_203) (va_Nw.use rfl (F.2.2.2.2.2.2.1.1 _ (List.mem_of_getElem? (i := 22) rfl))) hce hcv hcl ?_
      refine lv_astore F.x F.b d_L_same_20 hl (by decide) (lv' := [(4, .ref (q9)), (0, .ref (ad 0)), (1, .int (v1)), (2, .int (v2)), (3, .ref (ao))]) rfl (fun ls hl => ?_)
      refine lv_iconst (v := (1 : Int32)) F.x F.b d_L_same_22 (by decide) ?_
      rw [← Option.some.inj h]
      exact fin_w F X hr (by decide) (by decide) d_L_same_23
    · have h := it_e (show ¬ q1.1.1 = 1 by omega) h
      have h := it_t h1 h
      cases h
  · have h := it_t hc h
    refine lv_if_eq (tgt := 15) F.x F.b d_L_same_8 (by decide) (fun hc => ?_) (fun hc => ?_)
    · have h := it_t hc h
      refine lv_lconst (v := (0 : Int64)) F.x F.b d_L_same_15 (by decide) ?_
      refine r_last F X rfl (by decide) d_L_same_16 (fun H locs X => ?_)
      refine lv_goto (tgt := 24) F.x F.b d_L_same_17 (by decide) ?_
      refine lv_iconst (v := (0 : Int32)) F.x F.b d_L_same_24 (by decide) ?_
      rw [← Option.some.inj h]
      exact fin_w F X hr (by decide) (by decide) d_L_same_25
    · have h := it_e hc h
      refine lv_lconst (v := (1 : Int64)) F.x F.b d_L_same_11 (by decide) ?_
      refine lv_goto (tgt := 16) F.x F.b d_L_same_12 (by decide) ?_
      refine r_last F X rfl (by decide) d_L_same_16 (fun H locs X => ?_)
      refine lv_goto (tgt := 24) F.x F.b d_L_same_17 (by decide) ?_
      refine lv_iconst (v := (0 : Int32)) F.x F.b d_L_same_24 (by decide) ?_
      rw [← Option.some.inj h]
      exact fin_w F X hr (by decide) (by decide) d_L_same_25
theorem hd_L_renamed : y_L_renamed.cls ≠ "java/lang/invoke/MethodHandle" ∧ y_L_renamed.cls ≠ "java/lang/invoke/VarHandle" ∧ (parseMethodDescriptor y_L_renamed.desc).map (fun d => d.parameters.length) = some 4 := ⟨by decide, by decide, by decide +kernel⟩
set_option maxRecDepth 100000 in
set_option maxHeartbeats 4000000 in
theorem c_L_renamed (l : Launch) (hst : l.stackTraces = false) (D : Gd) (cI cJ : ClassId) (ad : Nat → Nat) (ao : Nat) (z : St) (g : Nat → Int64) (v1 v2 : Int32) (q : Int32 × (St × (Nat → Int64))) (h : f_L_renamed z g v1 v2 = some q) : CI l y_L_renamed (.codeWith y_L_renamed b_L_renamed 5 (some .int) [(0, 17, 20, 19)]) { frames := 8, cells := 2, slots := 12, locals := 155 } D [(cI, .int), (cJ, .long)] [.ref (ad 0), .int v1, .int v2, .ref ao] ([oc cJ ao g] ++ cX cI ad z) q.1 ([oc cJ ao q.2.2] ++ cX cI ad q.2.1) 2 12 := by
  refine mk_w (by decide) (Nat.le_of_ble_eq_true rfl) ?_
  intro p e s m args below meth c A ls F X hr htab hl
  have hl : lv_has ls 5 [(0, .ref (ad 0)), (1, .int (v1)), (2, .int (v2)), (3, .ref (ao))] := hl
  unfold f_L_renamed at h
  refine lv_aload_n F.x F.b d_L_renamed_0 rfl (lv_at hl 3 rfl) ?_
  refine lv_iconst (v := (0 : Int32)) F.x F.b d_L_renamed_1 (by decide) ?_
  refine lv_aload_n F.x F.b d_L_renamed_2 rfl (lv_at hl 0 rfl) ?_
  refine lv_iload_n F.x F.b d_L_renamed_3 rfl (lv_at hl 1 rfl) ?_
  refine lv_iload_n F.x F.b d_L_renamed_4 rfl (lv_at hl 2 rfl) ?_
  obtain ⟨q1, hq1, h⟩ := it_c h
  refine r_tr F (F.2.2.2.2.2.1.sub (tys' := [(cI, .int)]) [0] rfl) X hl.1 (c_X_renamed l hst D cI ad z (v1) (v2) q1 hq1) (gX_0 cI ad z) rfl mt_355 mt_356 mt_357 mt_1 mt_358 ⟨rfl, hd_X_renamed⟩ ⟨by decide, by decide⟩ ⟨rfl, rfl⟩ ⟨by decide, by decide⟩ rfl (Nat.le_of_ble_eq_true rfl) d_L_renamed_5 rfl (fun hc H locs E ce q9 X hE hce hcv hcl => ?_) (fun hc H locs X => ?_)
  · have h := it_e hc h
    rcases hE with ⟨h1, rfl⟩ | ⟨h1, rfl⟩
    · have h := it_t h1 h
      refine vx_catch (name := "java/util/NoSuchElementException") (E := "java/util/NoSuchElementException") F.2.2.2.1 [] (⟨0, 17, 20, 19⟩ : ExceptionTableEntry) [] (htab.trans rfl) (fun z9 hz9 => absurd hz9 List.not_mem_nil) (by decide) (by decide) (F.2.2.2.2.1 _ mt_203) (va_Nw.use rfl (F.2.2.2.2.2.2.1.1 _ (List.mem_of_getElem? (i := 22) rfl))) hce hcv hcl ?_
      refine lv_astore F.x F.b d_L_renamed_20 hl (by decide) (lv' := [(4, .ref (q9)), (0, .ref (ad 0)), (1, .int (v1)), (2, .int (v2)), (3, .ref (ao))]) rfl (fun ls hl => ?_)
      refine lv_iconst (v := (1 : Int32)) F.x F.b d_L_renamed_22 (by decide) ?_
      rw [← Option.some.inj h]
      exact fin_w F X hr (by decide) (by decide) d_L_renamed_23
    · have h := it_e (show ¬ q1.1.1 = 1 by omega) h
      have h := it_t h1 h
      cases h
  · have h := it_t hc h
    refine lv_if_eq (tgt := 15) F.x F.b d_L_renamed_8 (by decide) (fun hc => ?_) (fun hc => ?_)
    · have h := it_t hc h
      refine lv_lconst (v := (0 : Int64)) F.x F.b d_L_renamed_15 (by decide) ?_
      refine r_last F X rfl (by decide) d_L_renamed_16 (fun H locs X => ?_)
      refine lv_goto (tgt := 24) F.x F.b d_L_renamed_17 (by decide) ?_
      refine lv_iconst (v := (0 : Int32)) F.x F.b d_L_renamed_24 (by decide) ?_
      rw [← Option.some.inj h]
      exact fin_w F X hr (by decide) (by decide) d_L_renamed_25
    · have h := it_e hc h
      refine lv_lconst (v := (1 : Int64)) F.x F.b d_L_renamed_11 (by decide) ?_
      refine lv_goto (tgt := 16) F.x F.b d_L_renamed_12 (by decide) ?_
      refine r_last F X rfl (by decide) d_L_renamed_16 (fun H locs X => ?_)
      refine lv_goto (tgt := 24) F.x F.b d_L_renamed_17 (by decide) ?_
      refine lv_iconst (v := (0 : Int32)) F.x F.b d_L_renamed_24 (by decide) ?_
      rw [← Option.some.inj h]
      exact fin_w F X hr (by decide) (by decide) d_L_renamed_25
theorem hd_L_kind : y_L_kind.cls ≠ "java/lang/invoke/MethodHandle" ∧ y_L_kind.cls ≠ "java/lang/invoke/VarHandle" ∧ (parseMethodDescriptor y_L_kind.desc).map (fun d => d.parameters.length) = some 3 := ⟨by decide, by decide, by decide +kernel⟩
set_option maxRecDepth 100000 in
set_option maxHeartbeats 4000000 in
theorem c_L_kind (l : Launch) (hst : l.stackTraces = false) (D : Gd) (cI cJ : ClassId) (ad : Nat → Nat) (ao : Nat) (z : St) (g : Nat → Int64) (v1 : Int32) (q : Int32 × (St × (Nat → Int64))) (h : f_L_kind z g v1 = some q) : CI l y_L_kind (.codeWith y_L_kind b_L_kind 4 (some .int) [(0, 9, 12, 19)]) { frames := 8, cells := 1, slots := 6, locals := 152 } D [(cI, .int), (cJ, .long)] [.ref (ad 0), .int v1, .ref ao] ([oc cJ ao g] ++ cX cI ad z) q.1 ([oc cJ ao q.2.2] ++ cX cI ad q.2.1) 1 6 := by
  refine mk_w (by decide) (Nat.le_of_ble_eq_true rfl) ?_
  intro p e s m args below meth c A ls F X hr htab hl
  have hl : lv_has ls 4 [(0, .ref (ad 0)), (1, .int (v1)), (2, .ref (ao))] := hl
  unfold f_L_kind at h
  refine lv_aload_n F.x F.b d_L_kind_0 rfl (lv_at hl 2 rfl) ?_
  refine lv_iconst (v := (0 : Int32)) F.x F.b d_L_kind_1 (by decide) ?_
  refine lv_aload_n F.x F.b d_L_kind_2 rfl (lv_at hl 0 rfl) ?_
  refine lv_iload_n F.x F.b d_L_kind_3 rfl (lv_at hl 1 rfl) ?_
  obtain ⟨q1, hq1, h⟩ := it_c h
  refine r_tr F (F.2.2.2.2.2.1.sub (tys' := [(cI, .int)]) [0] rfl) X hl.1 (c_X_kind l hst D cI ad z (v1) q1 hq1) (gX_0 cI ad z) rfl mt_370 mt_371 mt_372 mt_1 mt_373 ⟨rfl, hd_X_kind⟩ ⟨by decide, by decide⟩ ⟨rfl, rfl⟩ ⟨by decide, by decide⟩ rfl (Nat.le_of_ble_eq_true rfl) d_L_kind_4 rfl (fun hc H locs E ce q9 X hE hce hcv hcl => ?_) (fun hc H locs X => ?_)
  · have h := it_e hc h
    rcases hE with ⟨h1, rfl⟩ | ⟨h1, rfl⟩
    · have h := it_t h1 h
      refine vx_catch (name := "java/util/NoSuchElementException") (E := "java/util/NoSuchElementException") F.2.2.2.1 [] (⟨0, 9, 12, 19⟩ : ExceptionTableEntry) [] (htab.trans rfl) (fun z9 hz9 => absurd hz9 List.not_mem_nil) (by decide) (by decide) (F.2.2.2.2.1 _ mt_203) (va_Nw.use rfl (F.2.2.2.2.2.2.1.1 _ (List.mem_of_getElem? (i := 22) rfl))) hce hcv hcl ?_
      refine lv_astore_n F.x F.b d_L_kind_12 rfl hl (by decide) (lv' := [(3, .ref (q9)), (0, .ref (ad 0)), (1, .int (v1)), (2, .ref (ao))]) rfl (fun ls hl => ?_)
      refine lv_iconst (v := (1 : Int32)) F.x F.b d_L_kind_13 (by decide) ?_
      rw [← Option.some.inj h]
      exact fin_w F X hr (by decide) (by decide) d_L_kind_14
    · have h := it_e (show ¬ q1.1.1 = 1 by omega) h
      have h := it_t h1 h
      cases h
  · have h := it_t hc h
    refine lv_i2l (v := (q1.1.2).toInt64) F.x F.b d_L_kind_7 rfl ?_
    refine r_last F X rfl (by decide) d_L_kind_8 (fun H locs X => ?_)
    refine lv_goto (tgt := 15) F.x F.b d_L_kind_9 (by decide) ?_
    refine lv_iconst (v := (0 : Int32)) F.x F.b d_L_kind_15 (by decide) ?_
    rw [← Option.some.inj h]
    exact fin_w F X hr (by decide) (by decide) d_L_kind_16
theorem hd_L_part : y_L_part.cls ≠ "java/lang/invoke/MethodHandle" ∧ y_L_part.cls ≠ "java/lang/invoke/VarHandle" ∧ (parseMethodDescriptor y_L_part.desc).map (fun d => d.parameters.length) = some 4 := ⟨by decide, by decide, by decide +kernel⟩
set_option maxRecDepth 100000 in
set_option maxHeartbeats 4000000 in
theorem c_L_part (l : Launch) (hst : l.stackTraces = false) (D : Gd) (cI cJ : ClassId) (ad : Nat → Nat) (ao : Nat) (z : St) (g : Nat → Int64) (v1 v2 : Int32) (q : Int32 × (St × (Nat → Int64))) (h : f_L_part z g v1 v2 = some q) : CI l y_L_part (.codeWith y_L_part b_L_part 5 (some .int) [(0, 10, 13, 19)]) { frames := 8, cells := 2, slots := 12, locals := 154 } D [(cI, .int), (cJ, .long)] [.ref (ad 0), .int v1, .int v2, .ref ao] ([oc cJ ao g] ++ cX cI ad z) q.1 ([oc cJ ao q.2.2] ++ cX cI ad q.2.1) 2 12 := by
  refine mk_w (by decide) (Nat.le_of_ble_eq_true rfl) ?_
  intro p e s m args below meth c A ls F X hr htab hl
  have hl : lv_has ls 5 [(0, .ref (ad 0)), (1, .int (v1)), (2, .int (v2)), (3, .ref (ao))] := hl
  unfold f_L_part at h
  refine lv_aload_n F.x F.b d_L_part_0 rfl (lv_at hl 3 rfl) ?_
  refine lv_iconst (v := (0 : Int32)) F.x F.b d_L_part_1 (by decide) ?_
  refine lv_aload_n F.x F.b d_L_part_2 rfl (lv_at hl 0 rfl) ?_
  refine lv_iload_n F.x F.b d_L_part_3 rfl (lv_at hl 1 rfl) ?_
  refine lv_iload_n F.x F.b d_L_part_4 rfl (lv_at hl 2 rfl) ?_
  obtain ⟨q1, hq1, h⟩ := it_c h
  refine r_tr F (F.2.2.2.2.2.1.sub (tys' := [(cI, .int)]) [0] rfl) X hl.1 (c_X_part l hst D cI ad z (v1) (v2) q1 hq1) (gX_0 cI ad z) rfl mt_377 mt_378 mt_379 mt_1 mt_380 ⟨rfl, hd_X_part⟩ ⟨by decide, by decide⟩ ⟨rfl, rfl⟩ ⟨by decide, by decide⟩ rfl (Nat.le_of_ble_eq_true rfl) d_L_part_5 rfl (fun hc H locs E ce q9 X hE hce hcv hcl => ?_) (fun hc H locs X => ?_)
  · have h := it_e hc h
    rcases hE with ⟨h1, rfl⟩ | ⟨h1, rfl⟩
    · have h := it_t h1 h
      refine vx_catch (name := "java/util/NoSuchElementException") (E := "java/util/NoSuchElementException") F.2.2.2.1 [] (⟨0, 10, 13, 19⟩ : ExceptionTableEntry) [] (htab.trans rfl) (fun z9 hz9 => absurd hz9 List.not_mem_nil) (by decide) (by decide) (F.2.2.2.2.1 _ mt_203) (va_Nw.use rfl (F.2.2.2.2.2.2.1.1 _ (List.mem_of_getElem? (i := 22) rfl))) hce hcv hcl ?_
      refine lv_astore F.x F.b d_L_part_13 hl (by decide) (lv' := [(4, .ref (q9)), (0, .ref (ad 0)), (1, .int (v1)), (2, .int (v2)), (3, .ref (ao))]) rfl (fun ls hl => ?_)
      refine lv_iconst (v := (1 : Int32)) F.x F.b d_L_part_15 (by decide) ?_
      rw [← Option.some.inj h]
      exact fin_w F X hr (by decide) (by decide) d_L_part_16
    · have h := it_e (show ¬ q1.1.1 = 1 by omega) h
      have h := it_t h1 h
      cases h
  · have h := it_t hc h
    refine lv_i2l (v := (q1.1.2).toInt64) F.x F.b d_L_part_8 rfl ?_
    refine r_last F X rfl (by decide) d_L_part_9 (fun H locs X => ?_)
    refine lv_goto (tgt := 17) F.x F.b d_L_part_10 (by decide) ?_
    refine lv_iconst (v := (0 : Int32)) F.x F.b d_L_part_17 (by decide) ?_
    rw [← Option.some.inj h]
    exact fin_w F X hr (by decide) (by decide) d_L_part_18
theorem hd_L_size : y_L_size.cls ≠ "java/lang/invoke/MethodHandle" ∧ y_L_size.cls ≠ "java/lang/invoke/VarHandle" ∧ (parseMethodDescriptor y_L_size.desc).map (fun d => d.parameters.length) = some 3 := ⟨by decide, by decide, by decide +kernel⟩
set_option maxRecDepth 100000 in
set_option maxHeartbeats 4000000 in
theorem c_L_size (l : Launch) (hst : l.stackTraces = false) (D : Gd) (cI cJ : ClassId) (ad : Nat → Nat) (ao : Nat) (z : St) (g : Nat → Int64) (v1 : Int32) (q : Int32 × (St × (Nat → Int64))) (h : f_L_size z g v1 = some q) : CI l y_L_size (.codeWith y_L_size b_L_size 4 (some .int) [(0, 9, 12, 19)]) { frames := 8, cells := 1, slots := 6, locals := 154 } D [(cI, .int), (cJ, .long)] [.ref (ad 0), .int v1, .ref ao] ([oc cJ ao g] ++ cX cI ad z) q.1 ([oc cJ ao q.2.2] ++ cX cI ad q.2.1) 1 6 := by
  refine mk_w (by decide) (Nat.le_of_ble_eq_true rfl) ?_
  intro p e s m args below meth c A ls F X hr htab hl
  have hl : lv_has ls 4 [(0, .ref (ad 0)), (1, .int (v1)), (2, .ref (ao))] := hl
  unfold f_L_size at h
  refine lv_aload_n F.x F.b d_L_size_0 rfl (lv_at hl 2 rfl) ?_
  refine lv_iconst (v := (0 : Int32)) F.x F.b d_L_size_1 (by decide) ?_
  refine lv_aload_n F.x F.b d_L_size_2 rfl (lv_at hl 0 rfl) ?_
  refine lv_iload_n F.x F.b d_L_size_3 rfl (lv_at hl 1 rfl) ?_
  obtain ⟨q1, hq1, h⟩ := it_c h
  refine r_tr F (F.2.2.2.2.2.1.sub (tys' := [(cI, .int)]) [0] rfl) X hl.1 (c_X_size l hst D cI ad z (v1) q1 hq1) (gX_0 cI ad z) rfl mt_384 mt_385 mt_386 mt_1 mt_387 ⟨rfl, hd_X_size⟩ ⟨by decide, by decide⟩ ⟨rfl, rfl⟩ ⟨by decide, by decide⟩ rfl (Nat.le_of_ble_eq_true rfl) d_L_size_4 rfl (fun hc H locs E ce q9 X hE hce hcv hcl => ?_) (fun hc H locs X => ?_)
  · have h := it_e hc h
    rcases hE with ⟨h1, rfl⟩ | ⟨h1, rfl⟩
    · have h := it_t h1 h
      refine vx_catch (name := "java/util/NoSuchElementException") (E := "java/util/NoSuchElementException") F.2.2.2.1 [] (⟨0, 9, 12, 19⟩ : ExceptionTableEntry) [] (htab.trans rfl) (fun z9 hz9 => absurd hz9 List.not_mem_nil) (by decide) (by decide) (F.2.2.2.2.1 _ mt_203) (va_Nw.use rfl (F.2.2.2.2.2.2.1.1 _ (List.mem_of_getElem? (i := 22) rfl))) hce hcv hcl ?_
      refine lv_astore_n F.x F.b d_L_size_12 rfl hl (by decide) (lv' := [(3, .ref (q9)), (0, .ref (ad 0)), (1, .int (v1)), (2, .ref (ao))]) rfl (fun ls hl => ?_)
      refine lv_iconst (v := (1 : Int32)) F.x F.b d_L_size_13 (by decide) ?_
      rw [← Option.some.inj h]
      exact fin_w F X hr (by decide) (by decide) d_L_size_14
    · have h := it_e (show ¬ q1.1.1 = 1 by omega) h
      have h := it_t h1 h
      cases h
  · have h := it_t hc h
    refine lv_i2l (v := (q1.1.2).toInt64) F.x F.b d_L_size_7 rfl ?_
    refine r_last F X rfl (by decide) d_L_size_8 (fun H locs X => ?_)
    refine lv_goto (tgt := 15) F.x F.b d_L_size_9 (by decide) ?_
    refine lv_iconst (v := (0 : Int32)) F.x F.b d_L_size_15 (by decide) ?_
    rw [← Option.some.inj h]
    exact fin_w F X hr (by decide) (by decide) d_L_size_16
theorem hd_L_values : y_L_values.cls ≠ "java/lang/invoke/MethodHandle" ∧ y_L_values.cls ≠ "java/lang/invoke/VarHandle" ∧ (parseMethodDescriptor y_L_values.desc).map (fun d => d.parameters.length) = some 3 := ⟨by decide, by decide, by decide +kernel⟩
set_option maxRecDepth 100000 in
set_option maxHeartbeats 4000000 in
theorem c_L_values (l : Launch) (hst : l.stackTraces = false) (D : Gd) (cI cJ : ClassId) (ad : Nat → Nat) (ao : Nat) (z : St) (g : Nat → Int64) (v1 : Int32) (q : Int32 × (St × (Nat → Int64))) (h : f_L_values z g v1 = some q) : CI l y_L_values (.codeWith y_L_values b_L_values 4 (some .int) [(0, 9, 12, 19)]) { frames := 8, cells := 1, slots := 6, locals := 154 } D [(cI, .int), (cJ, .long)] [.ref (ad 0), .int v1, .ref ao] ([oc cJ ao g] ++ cX cI ad z) q.1 ([oc cJ ao q.2.2] ++ cX cI ad q.2.1) 1 6 := by
  refine mk_w (by decide) (Nat.le_of_ble_eq_true rfl) ?_
  intro p e s m args below meth c A ls F X hr htab hl
  have hl : lv_has ls 4 [(0, .ref (ad 0)), (1, .int (v1)), (2, .ref (ao))] := hl
  unfold f_L_values at h
  refine lv_aload_n F.x F.b d_L_values_0 rfl (lv_at hl 2 rfl) ?_
  refine lv_iconst (v := (0 : Int32)) F.x F.b d_L_values_1 (by decide) ?_
  refine lv_aload_n F.x F.b d_L_values_2 rfl (lv_at hl 0 rfl) ?_
  refine lv_iload_n F.x F.b d_L_values_3 rfl (lv_at hl 1 rfl) ?_
  obtain ⟨q1, hq1, h⟩ := it_c h
  refine r_tr F (F.2.2.2.2.2.1.sub (tys' := [(cI, .int)]) [0] rfl) X hl.1 (c_X_values l hst D cI ad z (v1) q1 hq1) (gX_0 cI ad z) rfl mt_402 mt_403 mt_404 mt_1 mt_405 ⟨rfl, hd_X_values⟩ ⟨by decide, by decide⟩ ⟨rfl, rfl⟩ ⟨by decide, by decide⟩ rfl (Nat.le_of_ble_eq_true rfl) d_L_values_4 rfl (fun hc H locs E ce q9 X hE hce hcv hcl => ?_) (fun hc H locs X => ?_)
  · have h := it_e hc h
    rcases hE with ⟨h1, rfl⟩ | ⟨h1, rfl⟩
    · have h := it_t h1 h
      refine vx_catch (name := "java/util/NoSuchElementException") (E := "java/util/NoSuchElementException") F.2.2.2.1 [] (⟨0, 9, 12, 19⟩ : ExceptionTableEntry) [] (htab.trans rfl) (fun z9 hz9 => absurd hz9 List.not_mem_nil) (by decide) (by decide) (F.2.2.2.2.1 _ mt_203) (va_Nw.use rfl (F.2.2.2.2.2.2.1.1 _ (List.mem_of_getElem? (i := 22) rfl))) hce hcv hcl ?_
      refine lv_astore_n F.x F.b d_L_values_12 rfl hl (by decide) (lv' := [(3, .ref (q9)), (0, .ref (ad 0)), (1, .int (v1)), (2, .ref (ao))]) rfl (fun ls hl => ?_)
      refine lv_iconst (v := (1 : Int32)) F.x F.b d_L_values_13 (by decide) ?_
      rw [← Option.some.inj h]
      exact fin_w F X hr (by decide) (by decide) d_L_values_14
    · have h := it_e (show ¬ q1.1.1 = 1 by omega) h
      have h := it_t h1 h
      cases h
  · have h := it_t hc h
    refine lv_i2l (v := (q1.1.2).toInt64) F.x F.b d_L_values_7 rfl ?_
    refine r_last F X rfl (by decide) d_L_values_8 (fun H locs X => ?_)
    refine lv_goto (tgt := 15) F.x F.b d_L_values_9 (by decide) ?_
    refine lv_iconst (v := (0 : Int32)) F.x F.b d_L_values_15 (by decide) ?_
    rw [← Option.some.inj h]
    exact fin_w F X hr (by decide) (by decide) d_L_values_16
theorem hd_L_frees : y_L_frees.cls ≠ "java/lang/invoke/MethodHandle" ∧ y_L_frees.cls ≠ "java/lang/invoke/VarHandle" ∧ (parseMethodDescriptor y_L_frees.desc).map (fun d => d.parameters.length) = some 3 := ⟨by decide, by decide, by decide +kernel⟩
set_option maxRecDepth 100000 in
set_option maxHeartbeats 4000000 in
theorem c_L_frees (l : Launch) (hst : l.stackTraces = false) (D : Gd) (cI cJ : ClassId) (ad : Nat → Nat) (ao : Nat) (z : St) (g : Nat → Int64) (v1 : Int32) (q : Int32 × (St × (Nat → Int64))) (h : f_L_frees z g v1 = some q) : CI l y_L_frees (.codeWith y_L_frees b_L_frees 4 (some .int) [(0, 9, 12, 19)]) { frames := 8, cells := 1, slots := 6, locals := 156 } D [(cI, .int), (cJ, .long)] [.ref (ad 0), .int v1, .ref ao] ([oc cJ ao g] ++ cX cI ad z) q.1 ([oc cJ ao q.2.2] ++ cX cI ad q.2.1) 1 6 := by
  refine mk_w (by decide) (Nat.le_of_ble_eq_true rfl) ?_
  intro p e s m args below meth c A ls F X hr htab hl
  have hl : lv_has ls 4 [(0, .ref (ad 0)), (1, .int (v1)), (2, .ref (ao))] := hl
  unfold f_L_frees at h
  refine lv_aload_n F.x F.b d_L_frees_0 rfl (lv_at hl 2 rfl) ?_
  refine lv_iconst (v := (0 : Int32)) F.x F.b d_L_frees_1 (by decide) ?_
  refine lv_aload_n F.x F.b d_L_frees_2 rfl (lv_at hl 0 rfl) ?_
  refine lv_iload_n F.x F.b d_L_frees_3 rfl (lv_at hl 1 rfl) ?_
  obtain ⟨q1, hq1, h⟩ := it_c h
  refine r_tr F (F.2.2.2.2.2.1.sub (tys' := [(cI, .int)]) [0] rfl) X hl.1 (c_X_frees l hst D cI ad z (v1) q1 hq1) (gX_0 cI ad z) rfl mt_417 mt_418 mt_419 mt_1 mt_420 ⟨rfl, hd_X_frees⟩ ⟨by decide, by decide⟩ ⟨rfl, rfl⟩ ⟨by decide, by decide⟩ rfl (Nat.le_of_ble_eq_true rfl) d_L_frees_4 rfl (fun hc H locs E ce q9 X hE hce hcv hcl => ?_) (fun hc H locs X => ?_)
  · have h := it_e hc h
    rcases hE with ⟨h1, rfl⟩ | ⟨h1, rfl⟩
    · have h := it_t h1 h
      refine vx_catch (name := "java/util/NoSuchElementException") (E := "java/util/NoSuchElementException") F.2.2.2.1 [] (⟨0, 9, 12, 19⟩ : ExceptionTableEntry) [] (htab.trans rfl) (fun z9 hz9 => absurd hz9 List.not_mem_nil) (by decide) (by decide) (F.2.2.2.2.1 _ mt_203) (va_Nw.use rfl (F.2.2.2.2.2.2.1.1 _ (List.mem_of_getElem? (i := 22) rfl))) hce hcv hcl ?_
      refine lv_astore_n F.x F.b d_L_frees_12 rfl hl (by decide) (lv' := [(3, .ref (q9)), (0, .ref (ad 0)), (1, .int (v1)), (2, .ref (ao))]) rfl (fun ls hl => ?_)
      refine lv_iconst (v := (1 : Int32)) F.x F.b d_L_frees_13 (by decide) ?_
      rw [← Option.some.inj h]
      exact fin_w F X hr (by decide) (by decide) d_L_frees_14
    · have h := it_e (show ¬ q1.1.1 = 1 by omega) h
      have h := it_t h1 h
      cases h
  · have h := it_t hc h
    refine lv_i2l (v := (q1.1.2).toInt64) F.x F.b d_L_frees_7 rfl ?_
    refine r_last F X rfl (by decide) d_L_frees_8 (fun H locs X => ?_)
    refine lv_goto (tgt := 15) F.x F.b d_L_frees_9 (by decide) ?_
    refine lv_iconst (v := (0 : Int32)) F.x F.b d_L_frees_15 (by decide) ?_
    rw [← Option.some.inj h]
    exact fin_w F X hr (by decide) (by decide) d_L_frees_16
