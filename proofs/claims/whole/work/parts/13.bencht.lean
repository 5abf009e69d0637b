theorem hd_X_leaderOf : y_X_leaderOf.cls ≠ "java/lang/invoke/MethodHandle" ∧ y_X_leaderOf.cls ≠ "java/lang/invoke/VarHandle" ∧ (parseMethodDescriptor y_X_leaderOf.desc).map (fun d => d.parameters.length) = some 1 := ⟨by decide, by decide, by decide +kernel⟩
set_option maxRecDepth 100000 in
set_option maxHeartbeats 4000000 in
theorem c_X_leaderOf (l : Launch) (hst : l.stackTraces = false) (D : Gd) (cI : ClassId) (ad : Nat → Nat) (z : St) (v1 : Int32) (q : (Nat × Int32) × St) (h : f_X_leaderOf z v1 = some q) : CT l y_X_leaderOf (.code y_X_leaderOf b_X_leaderOf 2 (some .int)) { frames := 6, cells := 1, slots := 6, locals := 110 } D [(cI, .int)] [.ref (ad 0), .int v1] (cX cI ad z) q.1 (cX cI ad q.2) 1 6 := by
  refine mk_t (by decide) (Nat.le_of_ble_eq_true rfl) ?_
  intro p e s m args below meth c A ls F X hr hno hl
  have hl : lv_has ls 2 [(0, .ref (ad 0)), (1, .int (v1))] := hl
  unfold f_X_leaderOf at h
  refine lv_iload_n F.x F.b d_X_leaderOf_0 rfl (lv_at hl 1 rfl) ?_
  refine lv_if_lt (tgt := 12) F.x F.b d_X_leaderOf_1 (by decide) (fun hc => ?_) (fun hc => ?_)
  · have h := it_t hc h
    rw [← Option.some.inj h]
    exact r_throw F X hl.1 hno hst (Or.inl ⟨rfl, rfl⟩) mt_212 mt_10 at_ok1 (by decide) d_X_leaderOf_12 d_X_leaderOf_15 d_X_leaderOf_16 d_X_leaderOf_19 (by decide) (Nat.le_of_ble_eq_true rfl) (by decide) (by decide) (by decide) (by decide)
  · have h := it_e hc h
    refine lv_iload_n F.x F.b d_X_leaderOf_4 rfl (lv_at hl 1 rfl) ?_
    refine lv_aload_n F.x F.b d_X_leaderOf_5 rfl (lv_at hl 0 rfl) ?_
    refine r_get F X in_X 0 0 (gX_0 cI ad z) rfl (by decide) mt_80 rfl d_X_leaderOf_6 ?_
    refine lv_icmp_lt (tgt := 20) F.x F.b d_X_leaderOf_9 (by decide) (fun hc => ?_) (fun hc => ?_)
    · have h := it_t hc h
      refine lv_aload_n F.x F.b d_X_leaderOf_20 rfl (lv_at hl 0 rfl) ?_
      refine r_get F X in_X 0 2 (gX_0 cI ad z) rfl (by decide) mt_82 rfl d_X_leaderOf_21 ?_
      refine lv_iload_n F.x F.b d_X_leaderOf_24 rfl (lv_at hl 1 rfl) ?_
      obtain ⟨hb1, h⟩ := it_b h
      refine r_ald F X 3 0 (gX_3 cI ad z) rfl hb1 d_X_leaderOf_25 ?_
      rw [← Option.some.inj h]
      exact fin_t F X hr ⟨rfl, rfl⟩ (by decide) (by decide) d_X_leaderOf_26
    · have h := it_e hc h
      rw [← Option.some.inj h]
      exact r_throw F X hl.1 hno hst (Or.inl ⟨rfl, rfl⟩) mt_212 mt_10 at_ok1 (by decide) d_X_leaderOf_12 d_X_leaderOf_15 d_X_leaderOf_16 d_X_leaderOf_19 (by decide) (Nat.le_of_ble_eq_true rfl) (by decide) (by decide) (by decide) (by decide)
theorem hd_X_nextNumber : y_X_nextNumber.cls ≠ "java/lang/invoke/MethodHandle" ∧ y_X_nextNumber.cls ≠ "java/lang/invoke/VarHandle" ∧ (parseMethodDescriptor y_X_nextNumber.desc).map (fun d => d.parameters.length) = some 0 := ⟨by decide, by decide, by decide +kernel⟩
set_option maxRecDepth 100000 in
set_option maxHeartbeats 4000000 in
theorem c_X_nextNumber (l : Launch) (hst : l.stackTraces = false) (D : Gd) (cI : ClassId) (ad : Nat → Nat) (z : St) (q : (Nat × Int32) × St) (h : f_X_nextNumber z = some q) : CT l y_X_nextNumber (.code y_X_nextNumber b_X_nextNumber 1 (some .int)) { frames := 6, cells := 1, slots := 6, locals := 110 } D [(cI, .int)] [.ref (ad 0)] (cX cI ad z) q.1 (cX cI ad q.2) 1 6 := by
  refine mk_t (by decide) (Nat.le_of_ble_eq_true rfl) ?_
  intro p e s m args below meth c A ls F X hr hno hl
  have hl : lv_has ls 1 [(0, .ref (ad 0))] := hl
  unfold f_X_nextNumber at h
  refine lv_aload_n F.x F.b d_X_nextNumber_0 rfl (lv_at hl 0 rfl) ?_
  refine r_get F X in_X 0 0 (gX_0 cI ad z) rfl (by decide) mt_80 rfl d_X_nextNumber_1 ?_
  refine lv_sipush (v := (1000 : Int32)) F.x F.b d_X_nextNumber_4 (by decide) ?_
  refine lv_icmp_lt (tgt := 18) F.x F.b d_X_nextNumber_7 (by decide) (fun hc => ?_) (fun hc => ?_)
  · have h := it_t hc h
    refine lv_aload_n F.x F.b d_X_nextNumber_18 rfl (lv_at hl 0 rfl) ?_
    refine lv_dup F.x F.b d_X_nextNumber_19 rfl ?_
    refine r_get F X in_X 0 0 (gX_0 cI ad z) rfl (by decide) mt_80 rfl d_X_nextNumber_20 ?_
    refine lv_iconst (v := (1 : Int32)) F.x F.b d_X_nextNumber_23 (by decide) ?_
    refine lv_iadd F.x F.b d_X_nextNumber_24 ?_
    refine r_put F X in_X t_X t_X_ok n_X 0 0 (gX_0 cI ad z) rfl (by decide) mt_80 rfl (t_X_ok 0 (by decide)) rfl rfl (Nat.le_of_ble_eq_true rfl) d_X_nextNumber_25 (pX_0 cI ad z _) (fun H locs X => ?_)
    refine lv_aload_n F.x F.b d_X_nextNumber_28 rfl (lv_at hl 0 rfl) ?_
    refine r_get F X in_X 0 0 (gX_0 cI ad (wsc z 0 ((z.1 0) + ((1 : Int32))))) rfl (by decide) mt_80 rfl d_X_nextNumber_29 ?_
    refine lv_iconst (v := (1 : Int32)) F.x F.b d_X_nextNumber_32 (by decide) ?_
    refine lv_isub F.x F.b d_X_nextNumber_33 ?_
    rw [← Option.some.inj h]
    exact fin_t F X hr ⟨rfl, rfl⟩ (by decide) (by decide) d_X_nextNumber_34
  · have h := it_e hc h
    rw [← Option.some.inj h]
    exact r_throw F X hl.1 hno hst (Or.inr ⟨rfl, rfl⟩) mt_138 mt_9 at_ok2 (by decide) d_X_nextNumber_10 d_X_nextNumber_13 d_X_nextNumber_14 d_X_nextNumber_17 (by decide) (Nat.le_of_ble_eq_true rfl) (by decide) (by decide) (by decide) (by decide)
theorem hd_X_makeWhole : y_X_makeWhole.cls ≠ "java/lang/invoke/MethodHandle" ∧ y_X_makeWhole.cls ≠ "java/lang/invoke/VarHandle" ∧ (parseMethodDescriptor y_X_makeWhole.desc).map (fun d => d.parameters.length) = some 3 := ⟨by decide, by decide, by decide +kernel⟩
set_option maxRecDepth 100000 in
set_option maxHeartbeats 4000000 in
theorem c_X_makeWhole (l : Launch) (hst : l.stackTraces = false) (D : Gd) (cI : ClassId) (ad : Nat → Nat) (z : St) (v1 v2 v3 : Int32) (q : (Nat × Int32) × St) (h : f_X_makeWhole z v1 v2 v3 = some q) : CT l y_X_makeWhole (.code y_X_makeWhole b_X_makeWhole 6 (some .int)) { frames := 7, cells := 1, slots := 6, locals := 130 } D [(cI, .int)] [.ref (ad 0), .int v1, .int v2, .int v3] (cX cI ad z) q.1 (cX cI ad q.2) 1 6 := by
  refine mk_t (by decide) (Nat.le_of_ble_eq_true rfl) ?_
  intro p e s m args below meth c A ls F X hr hno hl
  have hl : lv_has ls 6 [(0, .ref (ad 0)), (1, .int (v1)), (2, .int (v2)), (3, .int (v3))] := hl
  unfold f_X_makeWhole at h
  refine lv_aload_n F.x F.b d_X_makeWhole_0 rfl (lv_at hl 0 rfl) ?_
  obtain ⟨q1, hq1, h⟩ := it_c h
  refine r_t F X hl.1 (c_X_nextNumber l hst D cI ad z q1 hq1) (gX_0 cI ad z) rfl mt_134 mt_136 ms_5 mt_1 mt_137 ⟨rfl, hd_X_nextNumber⟩ ⟨by decide, by decide⟩ ⟨rfl, rfl⟩ ⟨by decide, by decide⟩ rfl (Nat.le_of_ble_eq_true rfl) d_X_makeWhole_1 rfl (fun hc H locs E ce q9 X hE hce hcv hcl => ?_) (fun hc H locs X => ?_)
  · have h := it_e hc h
    rw [← Option.some.inj h]
    exact r_out F X hno hE hce hcv hcl (by decide) (by decide)
  · have h := it_t hc h
    refine lv_istore F.x F.b d_X_makeWhole_4 hl (by decide) (lv' := [(4, .int (q1.1.2)), (0, .ref (ad 0)), (1, .int (v1)), (2, .int (v2)), (3, .int (v3))]) rfl (fun ls hl => ?_)
    refine lv_aload_n F.x F.b d_X_makeWhole_6 rfl (lv_at hl 1 rfl) ?_
    refine r_get F X in_X 0 1 (gX_0 cI ad q1.2) rfl (by decide) mt_81 rfl d_X_makeWhole_7 ?_
    refine lv_iload F.x F.b d_X_makeWhole_10 (lv_at hl 0 rfl) ?_
    refine lv_iload_n F.x F.b d_X_makeWhole_12 rfl (lv_at hl 2 rfl) ?_
    refine lv_iload_n F.x F.b d_X_makeWhole_13 rfl (lv_at hl 3 rfl) ?_
    refine lv_iload_n F.x F.b d_X_makeWhole_14 rfl (lv_at hl 4 rfl) ?_
    obtain ⟨q2, hq2, h⟩ := it_c h
    refine r_nv F X hl.1 (c_S_write l D cI ad q1.2 (q1.1.2) (v1) (v2) (v3) q2 hq2) (gX_1 cI ad q1.2) rfl (List.mem_of_getElem? (i := 7) rfl) mt_74 ms_2 mt_2 mt_75 hd_S_write ⟨by decide, by decide⟩ ⟨rfl, rfl⟩ ⟨by decide, by decide⟩ rfl (Nat.le_of_ble_eq_true rfl) d_X_makeWhole_15 rfl (fun H locs X => ?_)
    refine lv_aload_n F.x F.b d_X_makeWhole_18 rfl (lv_at hl 1 rfl) ?_
    refine r_get F X in_X 0 1 (gX_0 cI ad q2) rfl (by decide) mt_81 rfl d_X_makeWhole_19 ?_
    refine lv_iload F.x F.b d_X_makeWhole_22 (lv_at hl 0 rfl) ?_
    obtain ⟨q3, hq3, h⟩ := it_c h
    refine r_ni F X hl.1 (c_S_twinOf l D cI ad q2 (q1.1.2) q3 hq3) (gX_1 cI ad q2) rfl (List.mem_of_getElem? (i := 8) rfl) mt_233 ms_9 mt_2 mt_234 hd_S_twinOf ⟨by decide, by decide⟩ ⟨rfl, rfl⟩ ⟨by decide, by decide⟩ rfl (Nat.le_of_ble_eq_true rfl) d_X_makeWhole_24 rfl (fun H locs X => ?_)
    refine lv_istore F.x F.b d_X_makeWhole_27 hl (by decide) (lv' := [(5, .int (q3.1)), (4, .int (q1.1.2)), (0, .ref (ad 0)), (1, .int (v1)), (2, .int (v2)), (3, .int (v3))]) rfl (fun ls hl => ?_)
    refine lv_iload F.x F.b d_X_makeWhole_29 (lv_at hl 0 rfl) ?_
    refine lv_iconst (v := (-1 : Int32)) F.x F.b d_X_makeWhole_31 (by decide) ?_
    refine lv_icmp_ne (tgt := 53) F.x F.b d_X_makeWhole_32 (by decide) (fun hc => ?_) (fun hc => ?_)
    · have h := it_e hc h
      refine lv_aload_n F.x F.b d_X_makeWhole_53 rfl (lv_at hl 2 rfl) ?_
      refine r_get F X in_X 0 2 (gX_0 cI ad q3.2) rfl (by decide) mt_82 rfl d_X_makeWhole_54 ?_
      refine lv_iload F.x F.b d_X_makeWhole_57 (lv_at hl 1 rfl) ?_
      refine lv_iload F.x F.b d_X_makeWhole_59 (lv_at hl 0 rfl) ?_
      obtain ⟨hb4, h⟩ := it_b h
      refine r_ast F X 3 0 (gX_3 cI ad q3.2) rfl hb4 d_X_makeWhole_61 (sX_3 cI ad q3.2 _ _) (fun H locs X => ?_)
      refine lv_iload F.x F.b d_X_makeWhole_62 (lv_at hl 1 rfl) ?_
      rw [← Option.some.inj h]
      exact fin_t F X hr ⟨rfl, rfl⟩ (by decide) (by decide) d_X_makeWhole_64
    · have h := it_t hc h
      refine lv_aload_n F.x F.b d_X_makeWhole_35 rfl (lv_at hl 2 rfl) ?_
      refine r_get F X in_X 0 1 (gX_0 cI ad q3.2) rfl (by decide) mt_81 rfl d_X_makeWhole_36 ?_
      refine lv_iload F.x F.b d_X_makeWhole_39 (lv_at hl 1 rfl) ?_
      obtain ⟨q5, hq5, h⟩ := it_c h
      refine r_nv F X hl.1 (c_S_enter l D cI ad q3.2 (q1.1.2) q5 hq5) (gX_1 cI ad q3.2) rfl (List.mem_of_getElem? (i := 9) rfl) mt_245 ms_12 mt_2 mt_246 hd_S_enter ⟨by decide, by decide⟩ ⟨rfl, rfl⟩ ⟨by decide, by decide⟩ rfl (Nat.le_of_ble_eq_true rfl) d_X_makeWhole_41 rfl (fun H locs X => ?_)
      refine lv_aload_n F.x F.b d_X_makeWhole_44 rfl (lv_at hl 2 rfl) ?_
      refine lv_iload F.x F.b d_X_makeWhole_45 (lv_at hl 1 rfl) ?_
      obtain ⟨q6, hq6, h⟩ := it_c h
      refine r_vv F X hl.1 (c_X_addLeader l D cI ad q5 (q1.1.2) q6 hq6) (gX_0 cI ad q5) rfl mt_76 mt_78 ms_3 mt_1 mt_79 ⟨rfl, hd_X_addLeader⟩ ⟨by decide, by decide⟩ ⟨rfl, rfl⟩ ⟨by decide, by decide⟩ rfl (Nat.le_of_ble_eq_true rfl) d_X_makeWhole_47 rfl (fun H locs X => ?_)
      refine lv_goto (tgt := 62) F.x F.b d_X_makeWhole_50 (by decide) ?_
      refine lv_iload F.x F.b d_X_makeWhole_62 (lv_at hl 1 rfl) ?_
      rw [← Option.some.inj h]
      exact fin_t F X hr ⟨rfl, rfl⟩ (by decide) (by decide) d_X_makeWhole_64
theorem hd_X_free : y_X_free.cls ≠ "java/lang/invoke/MethodHandle" ∧ y_X_free.cls ≠ "java/lang/invoke/VarHandle" ∧ (parseMethodDescriptor y_X_free.desc).map (fun d => d.parameters.length) = some 0 := ⟨by decide, by decide, by decide +kernel⟩
set_option maxRecDepth 100000 in
set_option maxHeartbeats 4000000 in
theorem c_X_free (l : Launch) (hst : l.stackTraces = false) (D : Gd) (cI : ClassId) (ad : Nat → Nat) (z : St) (q : (Nat × Int32) × St) (h : f_X_free z = some q) : CT l y_X_free (.code y_X_free b_X_free 2 (some .int)) { frames := 7, cells := 1, slots := 6, locals := 130 } D [(cI, .int)] [.ref (ad 0)] (cX cI ad z) q.1 (cX cI ad q.2) 1 6 := by
  refine mk_t (by decide) (Nat.le_of_ble_eq_true rfl) ?_
  intro p e s m args below meth c A ls F X hr hno hl
  have hl : lv_has ls 2 [(0, .ref (ad 0))] := hl
  unfold f_X_free at h
  refine lv_aload_n F.x F.b d_X_free_0 rfl (lv_at hl 0 rfl) ?_
  obtain ⟨q1, hq1, h⟩ := it_c h
  refine r_t F X hl.1 (c_X_nextNumber l hst D cI ad z q1 hq1) (gX_0 cI ad z) rfl mt_134 mt_136 ms_5 mt_1 mt_137 ⟨rfl, hd_X_nextNumber⟩ ⟨by decide, by decide⟩ ⟨rfl, rfl⟩ ⟨by decide, by decide⟩ rfl (Nat.le_of_ble_eq_true rfl) d_X_free_1 rfl (fun hc H locs E ce q9 X hE hce hcv hcl => ?_) (fun hc H locs X => ?_)
  · have h := it_e hc h
    rw [← Option.some.inj h]
    exact r_out F X hno hE hce hcv hcl (by decide) (by decide)
  · have h := it_t hc h
    refine lv_istore_n F.x F.b d_X_free_4 rfl hl (by decide) (lv' := [(1, .int (q1.1.2)), (0, .ref (ad 0))]) rfl (fun ls hl => ?_)
    refine lv_aload_n F.x F.b d_X_free_5 rfl (lv_at hl 1 rfl) ?_
    refine r_get F X in_X 0 1 (gX_0 cI ad q1.2) rfl (by decide) mt_81 rfl d_X_free_6 ?_
    refine lv_iload_n F.x F.b d_X_free_9 rfl (lv_at hl 0 rfl) ?_
    refine lv_iconst (v := (0 : Int32)) F.x F.b d_X_free_10 (by decide) ?_
    refine lv_iconst (v := (-1 : Int32)) F.x F.b d_X_free_11 (by decide) ?_
    refine lv_iconst (v := (-1 : Int32)) F.x F.b d_X_free_12 (by decide) ?_
    obtain ⟨q2, hq2, h⟩ := it_c h
    refine r_nv F X hl.1 (c_S_write l D cI ad q1.2 (q1.1.2) ((0 : Int32)) ((-1 : Int32)) ((-1 : Int32)) q2 hq2) (gX_1 cI ad q1.2) rfl (List.mem_of_getElem? (i := 7) rfl) mt_74 ms_2 mt_2 mt_75 hd_S_write ⟨by decide, by decide⟩ ⟨rfl, rfl⟩ ⟨by decide, by decide⟩ rfl (Nat.le_of_ble_eq_true rfl) d_X_free_13 rfl (fun H locs X => ?_)
    refine lv_aload_n F.x F.b d_X_free_16 rfl (lv_at hl 1 rfl) ?_
    refine lv_iload_n F.x F.b d_X_free_17 rfl (lv_at hl 0 rfl) ?_
    obtain ⟨q3, hq3, h⟩ := it_c h
    refine r_vv F X hl.1 (c_X_addLeader l D cI ad q2 (q1.1.2) q3 hq3) (gX_0 cI ad q2) rfl mt_76 mt_78 ms_3 mt_1 mt_79 ⟨rfl, hd_X_addLeader⟩ ⟨by decide, by decide⟩ ⟨rfl, rfl⟩ ⟨by decide, by decide⟩ rfl (Nat.le_of_ble_eq_true rfl) d_X_free_18 rfl (fun H locs X => ?_)
    refine lv_iload_n F.x F.b d_X_free_21 rfl (lv_at hl 0 rfl) ?_
    rw [← Option.some.inj h]
    exact fin_t F X hr ⟨rfl, rfl⟩ (by decide) (by decide) d_X_free_22
theorem hd_X_sum : y_X_sum.cls ≠ "java/lang/invoke/MethodHandle" ∧ y_X_sum.cls ≠ "java/lang/invoke/VarHandle" ∧ (parseMethodDescriptor y_X_sum.desc).map (fun d => d.parameters.length) = some 2 := ⟨by decide, by decide, by decide +kernel⟩
set_option maxRecDepth 100000 in
set_option maxHeartbeats 4000000 in
theorem c_X_sum (l : Launch) (hst : l.stackTraces = false) (D : Gd) (cI : ClassId) (ad : Nat → Nat) (z : St) (v1 v2 : Int32) (q : (Nat × Int32) × St) (h : f_X_sum z v1 v2 = some q) : CT l y_X_sum (.code y_X_sum b_X_sum 3 (some .int)) { frames := 8, cells := 3, slots := 18, locals := 155 } D [(cI, .int)] [.ref (ad 0), .int v1, .int v2] (cX cI ad z) q.1 (cX cI ad q.2) 3 18 := by
  refine mk_t (by decide) (Nat.le_of_ble_eq_true rfl) ?_
  intro p e s m args below meth c A ls F X hr hno hl
  have hl : lv_has ls 3 [(0, .ref (ad 0)), (1, .int (v1)), (2, .int (v2))] := hl
  unfold f_X_sum at h
  refine lv_aload_n F.x F.b d_X_sum_0 rfl (lv_at hl 0 rfl) ?_
  refine lv_iconst (v := (2 : Int32)) F.x F.b d_X_sum_1 (by decide) ?_
  refine lv_aload_n F.x F.b d_X_sum_2 rfl (lv_at hl 0 rfl) ?_
  refine lv_iload_n F.x F.b d_X_sum_3 rfl (lv_at hl 1 rfl) ?_
  obtain ⟨q1, hq1, h⟩ := it_c h
  refine r_t F X hl.1 (c_X_leaderOf l hst D cI ad z (v1) q1 hq1) (gX_0 cI ad z) rfl mt_208 mt_210 ms_7 mt_1 mt_211 ⟨rfl, hd_X_leaderOf⟩ ⟨by decide, by decide⟩ ⟨rfl, rfl⟩ ⟨by decide, by decide⟩ rfl (Nat.le_of_ble_eq_true rfl) d_X_sum_4 rfl (fun hc H locs E ce q9 X hE hce hcv hcl => ?_) (fun hc H locs X => ?_)
  · have h := it_e hc h
    rw [← Option.some.inj h]
    exact r_out F X hno hE hce hcv hcl (by decide) (by decide)
  · have h := it_t hc h
    refine lv_aload_n F.x F.b d_X_sum_7 rfl (lv_at hl 0 rfl) ?_
    refine lv_iload_n F.x F.b d_X_sum_8 rfl (lv_at hl 2 rfl) ?_
    obtain ⟨q2, hq2, h⟩ := it_c h
    refine r_t F X hl.1 (c_X_leaderOf l hst D cI ad q1.2 (v2) q2 hq2) (gX_0 cI ad q1.2) rfl mt_208 mt_210 ms_7 mt_1 mt_211 ⟨rfl, hd_X_leaderOf⟩ ⟨by decide, by decide⟩ ⟨rfl, rfl⟩ ⟨by decide, by decide⟩ rfl (Nat.le_of_ble_eq_true rfl) d_X_sum_9 rfl (fun hc H locs E ce q9 X hE hce hcv hcl => ?_) (fun hc H locs X => ?_)
    · have h := it_e hc h
      rw [← Option.some.inj h]
      exact r_out F X hno hE hce hcv hcl (by decide) (by decide)
    · have h := it_t hc h
      obtain ⟨q3, hq3, h⟩ := it_c h
      refine r_t F X hl.1 (c_X_makeWhole l hst D cI ad q2.2 ((2 : Int32)) (q1.1.2) (q2.1.2) q3 hq3) (gX_0 cI ad q2.2) rfl mt_227 mt_229 ms_8 mt_1 mt_230 ⟨rfl, hd_X_makeWhole⟩ ⟨by decide, by decide⟩ ⟨rfl, rfl⟩ ⟨by decide, by decide⟩ rfl (Nat.le_of_ble_eq_true rfl) d_X_sum_12 rfl (fun hc H locs E ce q9 X hE hce hcv hcl => ?_) (fun hc H locs X => ?_)
      · have h := it_e hc h
        rw [← Option.some.inj h]
        exact r_out F X hno hE hce hcv hcl (by decide) (by decide)
      · have h := it_t hc h
        rw [← Option.some.inj h]
        exact fin_t F X hr ⟨rfl, rfl⟩ (by decide) (by decide) d_X_sum_15
theorem hd_X_pair : y_X_pair.cls ≠ "java/lang/invoke/MethodHandle" ∧ y_X_pair.cls ≠ "java/lang/invoke/VarHandle" ∧ (parseMethodDescriptor y_X_pair.desc).map (fun d => d.parameters.length) = some 2 := ⟨by decide, by decide, by decide +kernel⟩
set_option maxRecDepth 100000 in
set_option maxHeartbeats 4000000 in
theorem c_X_pair (l : Launch) (hst : l.stackTraces = false) (D : Gd) (cI : ClassId) (ad : Nat → Nat) (z : St) (v1 v2 : Int32) (q : (Nat × Int32) × St) (h : f_X_pair z v1 v2 = some q) : CT l y_X_pair (.code y_X_pair b_X_pair 3 (some .int)) { frames := 8, cells := 3, slots := 18, locals := 155 } D [(cI, .int)] [.ref (ad 0), .int v1, .int v2] (cX cI ad z) q.1 (cX cI ad q.2) 3 18 := by
  refine mk_t (by decide) (Nat.le_of_ble_eq_true rfl) ?_
  intro p e s m args below meth c A ls F X hr hno hl
  have hl : lv_has ls 3 [(0, .ref (ad 0)), (1, .int (v1)), (2, .int (v2))] := hl
  unfold f_X_pair at h
  refine lv_aload_n F.x F.b d_X_pair_0 rfl (lv_at hl 0 rfl) ?_
  refine lv_iconst (v := (3 : Int32)) F.x F.b d_X_pair_1 (by decide) ?_
  refine lv_aload_n F.x F.b d_X_pair_2 rfl (lv_at hl 0 rfl) ?_
  refine lv_iload_n F.x F.b d_X_pair_3 rfl (lv_at hl 1 rfl) ?_
  obtain ⟨q1, hq1, h⟩ := it_c h
  refine r_t F X hl.1 (c_X_leaderOf l hst D cI ad z (v1) q1 hq1) (gX_0 cI ad z) rfl mt_208 mt_210 ms_7 mt_1 mt_211 ⟨rfl, hd_X_leaderOf⟩ ⟨by decide, by decide⟩ ⟨rfl, rfl⟩ ⟨by decide, by decide⟩ rfl (Nat.le_of_ble_eq_true rfl) d_X_pair_4 rfl (fun hc H locs E ce q9 X hE hce hcv hcl => ?_) (fun hc H locs X => ?_)
  · have h := it_e hc h
    rw [← Option.some.inj h]
    exact r_out F X hno hE hce hcv hcl (by decide) (by decide)
  · have h := it_t hc h
    refine lv_aload_n F.x F.b d_X_pair_7 rfl (lv_at hl 0 rfl) ?_
    refine lv_iload_n F.x F.b d_X_pair_8 rfl (lv_at hl 2 rfl) ?_
    obtain ⟨q2, hq2, h⟩ := it_c h
    refine r_t F X hl.1 (c_X_leaderOf l hst D cI ad q1.2 (v2) q2 hq2) (gX_0 cI ad q1.2) rfl mt_208 mt_210 ms_7 mt_1 mt_211 ⟨rfl, hd_X_leaderOf⟩ ⟨by decide, by decide⟩ ⟨rfl, rfl⟩ ⟨by decide, by decide⟩ rfl (Nat.le_of_ble_eq_true rfl) d_X_pair_9 rfl (fun hc H locs E ce q9 X hE hce hcv hcl => ?_) (fun hc H locs X => ?_)
    · have h := it_e hc h
      rw [← Option.some.inj h]
      exact r_out F X hno hE hce hcv hcl (by decide) (by decide)
    · have h := it_t hc h
      obtain ⟨q3, hq3, h⟩ := it_c h
      refine r_t F X hl.1 (c_X_makeWhole l hst D cI ad q2.2 ((3 : Int32)) (q1.1.2) (q2.1.2) q3 hq3) (gX_0 cI ad q2.2) rfl mt_227 mt_229 ms_8 mt_1 mt_230 ⟨rfl, hd_X_makeWhole⟩ ⟨by decide, by decide⟩ ⟨rfl, rfl⟩ ⟨by decide, by decide⟩ rfl (Nat.le_of_ble_eq_true rfl) d_X_pair_12 rfl (fun hc H locs E ce q9 X hE hce hcv hcl => ?_) (fun hc H locs X => ?_)
      · have h := it_e hc h
        rw [← Option.some.inj h]
        exact r_out F X hno hE hce hcv hcl (by decide) (by decide)
      · have h := it_t hc h
        rw [← Option.some.inj h]
        exact fin_t F X hr ⟨rfl, rfl⟩ (by decide) (by decide) d_X_pair_15
theorem hd_X_join : y_X_join.cls ≠ "java/lang/invoke/MethodHandle" ∧ y_X_join.cls ≠ "java/lang/invoke/VarHandle" ∧ (parseMethodDescriptor y_X_join.desc).map (fun d => d.parameters.length) = some 2 := ⟨by decide, by decide, by decide +kernel⟩
set_option maxRecDepth 100000 in
set_option maxHeartbeats 4000000 in
theorem c_X_join (l : Launch) (hst : l.stackTraces = false) (D : Gd) (cI : ClassId) (ad : Nat → Nat) (z : St) (v1 v2 : Int32) (q : (Nat × Int32) × St) (h : f_X_join z v1 v2 = some q) : CT l y_X_join (.code y_X_join b_X_join 5 (some .boolean)) { frames := 7, cells := 2, slots := 12, locals := 131 } D [(cI, .int)] [.ref (ad 0), .int v1, .int v2] (cX cI ad z) q.1 (cX cI ad q.2) 2 12 := by
  refine mk_t (by decide) (Nat.le_of_ble_eq_true rfl) ?_
  intro p e s m args below meth c A ls F X hr hno hl
  have hl : lv_has ls 5 [(0, .ref (ad 0)), (1, .int (v1)), (2, .int (v2))] := hl
  unfold f_X_join at h
  refine lv_aload_n F.x F.b d_X_join_0 rfl (lv_at hl 0 rfl) ?_
  refine lv_iload_n F.x F.b d_X_join_1 rfl (lv_at hl 1 rfl) ?_
  obtain ⟨q1, hq1, h⟩ := it_c h
  refine r_t F X hl.1 (c_X_leaderOf l hst D cI ad z (v1) q1 hq1) (gX_0 cI ad z) rfl mt_208 mt_210 ms_7 mt_1 mt_211 ⟨rfl, hd_X_leaderOf⟩ ⟨by decide, by decide⟩ ⟨rfl, rfl⟩ ⟨by decide, by decide⟩ rfl (Nat.le_of_ble_eq_true rfl) d_X_join_2 rfl (fun hc H locs E ce q9 X hE hce hcv hcl => ?_) (fun hc H locs X => ?_)
  · have h := it_e hc h
    rw [← Option.some.inj h]
    exact r_out F X hno hE hce hcv hcl (by decide) (by decide)
  · have h := it_t hc h
    refine lv_istore_n F.x F.b d_X_join_5 rfl hl (by decide) (lv' := [(3, .int (q1.1.2)), (0, .ref (ad 0)), (1, .int (v1)), (2, .int (v2))]) rfl (fun ls hl => ?_)
    refine lv_aload_n F.x F.b d_X_join_6 rfl (lv_at hl 1 rfl) ?_
    refine lv_iload_n F.x F.b d_X_join_7 rfl (lv_at hl 3 rfl) ?_
    obtain ⟨q2, hq2, h⟩ := it_c h
    refine r_t F X hl.1 (c_X_leaderOf l hst D cI ad q1.2 (v2) q2 hq2) (gX_0 cI ad q1.2) rfl mt_208 mt_210 ms_7 mt_1 mt_211 ⟨rfl, hd_X_leaderOf⟩ ⟨by decide, by decide⟩ ⟨rfl, rfl⟩ ⟨by decide, by decide⟩ rfl (Nat.le_of_ble_eq_true rfl) d_X_join_8 rfl (fun hc H locs E ce q9 X hE hce hcv hcl => ?_) (fun hc H locs X => ?_)
    · have h := it_e hc h
      rw [← Option.some.inj h]
      exact r_out F X hno hE hce hcv hcl (by decide) (by decide)
    · have h := it_t hc h
      refine lv_istore F.x F.b d_X_join_11 hl (by decide) (lv' := [(4, .int (q2.1.2)), (3, .int (q1.1.2)), (0, .ref (ad 0)), (1, .int (v1)), (2, .int (v2))]) rfl (fun ls hl => ?_)
      refine lv_iload_n F.x F.b d_X_join_13 rfl (lv_at hl 1 rfl) ?_
      refine lv_iload F.x F.b d_X_join_14 (lv_at hl 0 rfl) ?_
      refine lv_icmp_ne (tgt := 21) F.x F.b d_X_join_16 (by decide) (fun hc => ?_) (fun hc => ?_)
      · have h := it_e hc h
        refine lv_aload_n F.x F.b d_X_join_21 rfl (lv_at hl 2 rfl) ?_
        refine lv_iload_n F.x F.b d_X_join_22 rfl (lv_at hl 1 rfl) ?_
        refine lv_iload F.x F.b d_X_join_23 (lv_at hl 0 rfl) ?_
        obtain ⟨q3, hq3, h⟩ := it_c h
        refine r_vi F X hl.1 (c_X_tryToLink l D cI ad q2.2 (q1.1.2) (q2.1.2) q3 hq3) (gX_0 cI ad q2.2) rfl mt_261 mt_263 ms_13 mt_1 mt_264 ⟨rfl, hd_X_tryToLink⟩ ⟨by decide, by decide⟩ ⟨rfl, rfl⟩ ⟨by decide, by decide⟩ rfl (Nat.le_of_ble_eq_true rfl) d_X_join_25 rfl (fun H locs X => ?_)
        refine lv_if_ne (tgt := 33) F.x F.b d_X_join_28 (by decide) (fun hc => ?_) (fun hc => ?_)
        · have h := it_e hc h
          refine lv_aload_n F.x F.b d_X_join_33 rfl (lv_at hl 2 rfl) ?_
          obtain ⟨q4, hq4, h⟩ := it_c h
          refine r_vv F X hl.1 (c_X_keepLinks l D cI ad q3.2 q4 hq4) (gX_0 cI ad q3.2) rfl mt_330 mt_332 ms_28 mt_1 mt_333 ⟨rfl, hd_X_keepLinks⟩ ⟨by decide, by decide⟩ ⟨rfl, rfl⟩ ⟨by decide, by decide⟩ rfl (Nat.le_of_ble_eq_true rfl) d_X_join_34 rfl (fun H locs X => ?_)
          refine lv_iconst (v := (1 : Int32)) F.x F.b d_X_join_37 (by decide) ?_
          rw [← Option.some.inj h]
          exact fin_tz F X hr ⟨rfl, rfl⟩ (Or.inr rfl) (by decide) (by decide) d_X_join_38
        · have h := it_t hc h
          refine lv_iconst (v := (0 : Int32)) F.x F.b d_X_join_31 (by decide) ?_
          rw [← Option.some.inj h]
          exact fin_tz F X hr ⟨rfl, rfl⟩ (Or.inl rfl) (by decide) (by decide) d_X_join_32
      · have h := it_t hc h
        refine lv_iconst (v := (1 : Int32)) F.x F.b d_X_join_19 (by decide) ?_
        rw [← Option.some.inj h]
        exact fin_tz F X hr ⟨rfl, rfl⟩ (Or.inr rfl) (by decide) (by decide) d_X_join_20
theorem hd_X_alike : y_X_alike.cls ≠ "java/lang/invoke/MethodHandle" ∧ y_X_alike.cls ≠ "java/lang/invoke/VarHandle" ∧ (parseMethodDescriptor y_X_alike.desc).map (fun d => d.parameters.length) = some 2 := ⟨by decide, by decide, by decide +kernel⟩
set_option maxRecDepth 100000 in
set_option maxHeartbeats 4000000 in
theorem c_X_alike (l : Launch) (hst : l.stackTraces = false) (D : Gd) (cI : ClassId) (ad : Nat → Nat) (z : St) (v1 v2 : Int32) (q : (Nat × Int32) × St) (h : f_X_alike z v1 v2 = some q) : CT l y_X_alike (.code y_X_alike b_X_alike 5 (some .boolean)) { frames := 7, cells := 2, slots := 12, locals := 131 } D [(cI, .int)] [.ref (ad 0), .int v1, .int v2] (cX cI ad z) q.1 (cX cI ad q.2) 2 12 := by
  refine mk_t (by decide) (Nat.le_of_ble_eq_true rfl) ?_
  intro p e s m args below meth c A ls F X hr hno hl
  have hl : lv_has ls 5 [(0, .ref (ad 0)), (1, .int (v1)), (2, .int (v2))] := hl
  unfold f_X_alike at h
  refine lv_aload_n F.x F.b d_X_alike_0 rfl (lv_at hl 0 rfl) ?_
  refine lv_iload_n F.x F.b d_X_alike_1 rfl (lv_at hl 1 rfl) ?_
  obtain ⟨q1, hq1, h⟩ := it_c h
  refine r_t F X hl.1 (c_X_leaderOf l hst D cI ad z (v1) q1 hq1) (gX_0 cI ad z) rfl mt_208 mt_210 ms_7 mt_1 mt_211 ⟨rfl, hd_X_leaderOf⟩ ⟨by decide, by decide⟩ ⟨rfl, rfl⟩ ⟨by decide, by decide⟩ rfl (Nat.le_of_ble_eq_true rfl) d_X_alike_2 rfl (fun hc H locs E ce q9 X hE hce hcv hcl => ?_) (fun hc H locs X => ?_)
  · have h := it_e hc h
    rw [← Option.some.inj h]
    exact r_out F X hno hE hce hcv hcl (by decide) (by decide)
  · have h := it_t hc h
    refine lv_istore_n F.x F.b d_X_alike_5 rfl hl (by decide) (lv' := [(3, .int (q1.1.2)), (0, .ref (ad 0)), (1, .int (v1)), (2, .int (v2))]) rfl (fun ls hl => ?_)
    refine lv_aload_n F.x F.b d_X_alike_6 rfl (lv_at hl 1 rfl) ?_
    refine lv_iload_n F.x F.b d_X_alike_7 rfl (lv_at hl 3 rfl) ?_
    obtain ⟨q2, hq2, h⟩ := it_c h
    refine r_t F X hl.1 (c_X_leaderOf l hst D cI ad q1.2 (v2) q2 hq2) (gX_0 cI ad q1.2) rfl mt_208 mt_210 ms_7 mt_1 mt_211 ⟨rfl, hd_X_leaderOf⟩ ⟨by decide, by decide⟩ ⟨rfl, rfl⟩ ⟨by decide, by decide⟩ rfl (Nat.le_of_ble_eq_true rfl) d_X_alike_8 rfl (fun hc H locs E ce q9 X hE hce hcv hcl => ?_) (fun hc H locs X => ?_)
    · have h := it_e hc h
      rw [← Option.some.inj h]
      exact r_out F X hno hE hce hcv hcl (by decide) (by decide)
    · have h := it_t hc h
      refine lv_istore F.x F.b d_X_alike_11 hl (by decide) (lv' := [(4, .int (q2.1.2)), (3, .int (q1.1.2)), (0, .ref (ad 0)), (1, .int (v1)), (2, .int (v2))]) rfl (fun ls hl => ?_)
      refine lv_iload_n F.x F.b d_X_alike_13 rfl (lv_at hl 1 rfl) ?_
      refine lv_iload F.x F.b d_X_alike_14 (lv_at hl 0 rfl) ?_
      refine lv_icmp_eq (tgt := 29) F.x F.b d_X_alike_16 (by decide) (fun hc => ?_) (fun hc => ?_)
      · have h := it_t hc h
        refine lv_iconst (v := (1 : Int32)) F.x F.b d_X_alike_29 (by decide) ?_
        refine lv_goto (tgt := 34) F.x F.b d_X_alike_30 (by decide) ?_
        rw [← Option.some.inj h]
        exact fin_tz F X hr ⟨rfl, rfl⟩ (Or.inr rfl) (by decide) (by decide) d_X_alike_34
      · have h := it_e hc h
        refine lv_aload_n F.x F.b d_X_alike_19 rfl (lv_at hl 2 rfl) ?_
        refine lv_iload_n F.x F.b d_X_alike_20 rfl (lv_at hl 1 rfl) ?_
        refine lv_iload F.x F.b d_X_alike_21 (lv_at hl 0 rfl) ?_
        obtain ⟨q3, hq3, h⟩ := it_c h
        refine r_vi F X hl.1 (c_X_tryToLink l D cI ad q2.2 (q1.1.2) (q2.1.2) q3 hq3) (gX_0 cI ad q2.2) rfl mt_261 mt_263 ms_13 mt_1 mt_264 ⟨rfl, hd_X_tryToLink⟩ ⟨by decide, by decide⟩ ⟨rfl, rfl⟩ ⟨by decide, by decide⟩ rfl (Nat.le_of_ble_eq_true rfl) d_X_alike_23 rfl (fun H locs X => ?_)
        refine lv_if_eq (tgt := 33) F.x F.b d_X_alike_26 (by decide) (fun hc => ?_) (fun hc => ?_)
        · have h := it_t hc h
          refine lv_iconst (v := (0 : Int32)) F.x F.b d_X_alike_33 (by decide) ?_
          rw [← Option.some.inj h]
          exact fin_tz F X hr ⟨rfl, rfl⟩ (Or.inl rfl) (by decide) (by decide) d_X_alike_34
        · have h := it_e hc h
          refine lv_iconst (v := (1 : Int32)) F.x F.b d_X_alike_29 (by decide) ?_
          refine lv_goto (tgt := 34) F.x F.b d_X_alike_30 (by decide) ?_
          rw [← Option.some.inj h]
          exact fin_tz F X hr ⟨rfl, rfl⟩ (Or.inr rfl) (by decide) (by decide) d_X_alike_34
theorem hd_X_same : y_X_same.cls ≠ "java/lang/invoke/MethodHandle" ∧ y_X_same.cls ≠ "java/lang/invoke/VarHandle" ∧ (parseMethodDescriptor y_X_same.desc).map (fun d => d.parameters.length) = some 2 := ⟨by decide, by decide, by decide +kernel⟩
set_option maxRecDepth 100000 in
set_option maxHeartbeats 4000000 in
theorem c_X_same (l : Launch) (hst : l.stackTraces = false) (D : Gd) (cI : ClassId) (ad : Nat → Nat) (z : St) (v1 v2 : Int32) (q : (Nat × Int32) × St) (h : f_X_same z v1 v2 = some q) : CT l y_X_same (.code y_X_same b_X_same 3 (some .boolean)) { frames := 7, cells := 2, slots := 12, locals := 131 } D [(cI, .int)] [.ref (ad 0), .int v1, .int v2] (cX cI ad z) q.1 (cX cI ad q.2) 2 12 := by
  refine mk_t (by decide) (Nat.le_of_ble_eq_true rfl) ?_
  intro p e s m args below meth c A ls F X hr hno hl
  have hl : lv_has ls 3 [(0, .ref (ad 0)), (1, .int (v1)), (2, .int (v2))] := hl
  unfold f_X_same at h
  refine lv_aload_n F.x F.b d_X_same_0 rfl (lv_at hl 0 rfl) ?_
  refine lv_iload_n F.x F.b d_X_same_1 rfl (lv_at hl 1 rfl) ?_
  obtain ⟨q1, hq1, h⟩ := it_c h
  refine r_t F X hl.1 (c_X_leaderOf l hst D cI ad z (v1) q1 hq1) (gX_0 cI ad z) rfl mt_208 mt_210 ms_7 mt_1 mt_211 ⟨rfl, hd_X_leaderOf⟩ ⟨by decide, by decide⟩ ⟨rfl, rfl⟩ ⟨by decide, by decide⟩ rfl (Nat.le_of_ble_eq_true rfl) d_X_same_2 rfl (fun hc H locs E ce q9 X hE hce hcv hcl => ?_) (fun hc H locs X => ?_)
  · have h := it_e hc h
    rw [← Option.some.inj h]
    exact r_out F X hno hE hce hcv hcl (by decide) (by decide)
  · have h := it_t hc h
    refine lv_aload_n F.x F.b d_X_same_5 rfl (lv_at hl 0 rfl) ?_
    refine lv_iload_n F.x F.b d_X_same_6 rfl (lv_at hl 2 rfl) ?_
    obtain ⟨q2, hq2, h⟩ := it_c h
    refine r_t F X hl.1 (c_X_leaderOf l hst D cI ad q1.2 (v2) q2 hq2) (gX_0 cI ad q1.2) rfl mt_208 mt_210 ms_7 mt_1 mt_211 ⟨rfl, hd_X_leaderOf⟩ ⟨by decide, by decide⟩ ⟨rfl, rfl⟩ ⟨by decide, by decide⟩ rfl (Nat.le_of_ble_eq_true rfl) d_X_same_7 rfl (fun hc H locs E ce q9 X hE hce hcv hcl => ?_) (fun hc H locs X => ?_)
    · have h := it_e hc h
      rw [← Option.some.inj h]
      exact r_out F X hno hE hce hcv hcl (by decide) (by decide)
    · have h := it_t hc h
      refine lv_icmp_ne (tgt := 17) F.x F.b d_X_same_10 (by decide) (fun hc => ?_) (fun hc => ?_)
      · have h := it_e hc h
        refine lv_iconst (v := (0 : Int32)) F.x F.b d_X_same_17 (by decide) ?_
        rw [← Option.some.inj h]
        exact fin_tz F X hr ⟨rfl, rfl⟩ (Or.inl rfl) (by decide) (by decide) d_X_same_18
      · have h := it_t hc h
        refine lv_iconst (v := (1 : Int32)) F.x F.b d_X_same_13 (by decide) ?_
        refine lv_goto (tgt := 18) F.x F.b d_X_same_14 (by decide) ?_
        rw [← Option.some.inj h]
        exact fin_tz F X hr ⟨rfl, rfl⟩ (Or.inr rfl) (by decide) (by decide) d_X_same_18
theorem hd_X_renamed : y_X_renamed.cls ≠ "java/lang/invoke/MethodHandle" ∧ y_X_renamed.cls ≠ "java/lang/invoke/VarHandle" ∧ (parseMethodDescriptor y_X_renamed.desc).map (fun d => d.parameters.length) = some 2 := ⟨by decide, by decide, by decide +kernel⟩
set_option maxRecDepth 100000 in
set_option maxHeartbeats 4000000 in
theorem c_X_renamed (l : Launch) (hst : l.stackTraces = false) (D : Gd) (cI : ClassId) (ad : Nat → Nat) (z : St) (v1 v2 : Int32) (q : (Nat × Int32) × St) (h : f_X_renamed z v1 v2 = some q) : CT l y_X_renamed (.code y_X_renamed b_X_renamed 5 (some .boolean)) { frames := 7, cells := 2, slots := 12, locals := 131 } D [(cI, .int)] [.ref (ad 0), .int v1, .int v2] (cX cI ad z) q.1 (cX cI ad q.2) 2 12 := by
  refine mk_t (by decide) (Nat.le_of_ble_eq_true rfl) ?_
  intro p e s m args below meth c A ls F X hr hno hl
  have hl : lv_has ls 5 [(0, .ref (ad 0)), (1, .int (v1)), (2, .int (v2))] := hl
  unfold f_X_renamed at h
  refine lv_aload_n F.x F.b d_X_renamed_0 rfl (lv_at hl 0 rfl) ?_
  refine lv_iload_n F.x F.b d_X_renamed_1 rfl (lv_at hl 1 rfl) ?_
  obtain ⟨q1, hq1, h⟩ := it_c h
  refine r_t F X hl.1 (c_X_leaderOf l hst D cI ad z (v1) q1 hq1) (gX_0 cI ad z) rfl mt_208 mt_210 ms_7 mt_1 mt_211 ⟨rfl, hd_X_leaderOf⟩ ⟨by decide, by decide⟩ ⟨rfl, rfl⟩ ⟨by decide, by decide⟩ rfl (Nat.le_of_ble_eq_true rfl) d_X_renamed_2 rfl (fun hc H locs E ce q9 X hE hce hcv hcl => ?_) (fun hc H locs X => ?_)
  · have h := it_e hc h
    rw [← Option.some.inj h]
    exact r_out F X hno hE hce hcv hcl (by decide) (by decide)
  · have h := it_t hc h
    refine lv_istore_n F.x F.b d_X_renamed_5 rfl hl (by decide) (lv' := [(3, .int (q1.1.2)), (0, .ref (ad 0)), (1, .int (v1)), (2, .int (v2))]) rfl (fun ls hl => ?_)
    refine lv_aload_n F.x F.b d_X_renamed_6 rfl (lv_at hl 1 rfl) ?_
    refine lv_iload_n F.x F.b d_X_renamed_7 rfl (lv_at hl 3 rfl) ?_
    obtain ⟨q2, hq2, h⟩ := it_c h
    refine r_t F X hl.1 (c_X_leaderOf l hst D cI ad q1.2 (v2) q2 hq2) (gX_0 cI ad q1.2) rfl mt_208 mt_210 ms_7 mt_1 mt_211 ⟨rfl, hd_X_leaderOf⟩ ⟨by decide, by decide⟩ ⟨rfl, rfl⟩ ⟨by decide, by decide⟩ rfl (Nat.le_of_ble_eq_true rfl) d_X_renamed_8 rfl (fun hc H locs E ce q9 X hE hce hcv hcl => ?_) (fun hc H locs X => ?_)
    · have h := it_e hc h
      rw [← Option.some.inj h]
      exact r_out F X hno hE hce hcv hcl (by decide) (by decide)
    · have h := it_t hc h
      refine lv_istore F.x F.b d_X_renamed_11 hl (by decide) (lv' := [(4, .int (q2.1.2)), (3, .int (q1.1.2)), (0, .ref (ad 0)), (1, .int (v1)), (2, .int (v2))]) rfl (fun ls hl => ?_)
      refine lv_aload_n F.x F.b d_X_renamed_13 rfl (lv_at hl 2 rfl) ?_
      refine lv_iload_n F.x F.b d_X_renamed_14 rfl (lv_at hl 1 rfl) ?_
      refine lv_iload F.x F.b d_X_renamed_15 (lv_at hl 0 rfl) ?_
      obtain ⟨q3, hq3, h⟩ := it_c h
      refine r_vi F X hl.1 (c_X_matchAll l D cI ad q2.2 (q1.1.2) (q2.1.2) q3 hq3) (gX_0 cI ad q2.2) rfl mt_359 mt_361 ms_30 mt_1 mt_362 ⟨rfl, hd_X_matchAll⟩ ⟨by decide, by decide⟩ ⟨rfl, rfl⟩ ⟨by decide, by decide⟩ rfl (Nat.le_of_ble_eq_true rfl) d_X_renamed_17 rfl (fun H locs X => ?_)
      obtain ⟨hb4, h⟩ := it_b h
      rw [← Option.some.inj h]
      exact fin_tz F X hr ⟨rfl, rfl⟩ (Decidable.not_not.mp hb4) (by decide) (by decide) d_X_renamed_20
theorem hd_X_kind : y_X_kind.cls ≠ "java/lang/invoke/MethodHandle" ∧ y_X_kind.cls ≠ "java/lang/invoke/VarHandle" ∧ (parseMethodDescriptor y_X_kind.desc).map (fun d => d.parameters.length) = some 1 := ⟨by decide, by decide, by decide +kernel⟩
set_option maxRecDepth 100000 in
set_option maxHeartbeats 4000000 in
theorem c_X_kind (l : Launch) (hst : l.stackTraces = false) (D : Gd) (cI : ClassId) (ad : Nat → Nat) (z : St) (v1 : Int32) (q : (Nat × Int32) × St) (h : f_X_kind z v1 = some q) : CT l y_X_kind (.code y_X_kind b_X_kind 2 (some .int)) { frames := 7, cells := 1, slots := 6, locals := 131 } D [(cI, .int)] [.ref (ad 0), .int v1] (cX cI ad z) q.1 (cX cI ad q.2) 1 6 := by
  refine mk_t (by decide) (Nat.le_of_ble_eq_true rfl) ?_
  intro p e s m args below meth c A ls F X hr hno hl
  have hl : lv_has ls 2 [(0, .ref (ad 0)), (1, .int (v1))] := hl
  unfold f_X_kind at h
  refine lv_aload_n F.x F.b d_X_kind_0 rfl (lv_at hl 0 rfl) ?_
  refine r_get F X in_X 0 1 (gX_0 cI ad z) rfl (by decide) mt_81 rfl d_X_kind_1 ?_
  refine r_getN F X in_S 1 0 (gX_1 cI ad z) rfl (by decide) (List.mem_of_getElem? (i := 1) rfl) rfl d_X_kind_4 ?_
  refine lv_aload_n F.x F.b d_X_kind_7 rfl (lv_at hl 0 rfl) ?_
  refine lv_iload_n F.x F.b d_X_kind_8 rfl (lv_at hl 1 rfl) ?_
  obtain ⟨q1, hq1, h⟩ := it_c h
  refine r_t F X hl.1 (c_X_leaderOf l hst D cI ad z (v1) q1 hq1) (gX_0 cI ad z) rfl mt_208 mt_210 ms_7 mt_1 mt_211 ⟨rfl, hd_X_leaderOf⟩ ⟨by decide, by decide⟩ ⟨rfl, rfl⟩ ⟨by decide, by decide⟩ rfl (Nat.le_of_ble_eq_true rfl) d_X_kind_9 rfl (fun hc H locs E ce q9 X hE hce hcv hcl => ?_) (fun hc H locs X => ?_)
  · have h := it_e hc h
    rw [← Option.some.inj h]
    exact r_out F X hno hE hce hcv hcl (by decide) (by decide)
  · have h := it_t hc h
    obtain ⟨hb2, h⟩ := it_b h
    refine r_ald F X 9 0 (gX_9 cI ad q1.2) rfl hb2 d_X_kind_12 ?_
    rw [← Option.some.inj h]
    exact fin_t F X hr ⟨rfl, rfl⟩ (by decide) (by decide) d_X_kind_13
theorem hd_X_part : y_X_part.cls ≠ "java/lang/invoke/MethodHandle" ∧ y_X_part.cls ≠ "java/lang/invoke/VarHandle" ∧ (parseMethodDescriptor y_X_part.desc).map (fun d => d.parameters.length) = some 2 := ⟨by decide, by decide, by decide +kernel⟩
set_option maxRecDepth 100000 in
set_option maxHeartbeats 4000000 in
theorem c_X_part (l : Launch) (hst : l.stackTraces = false) (D : Gd) (cI : ClassId) (ad : Nat → Nat) (z : St) (v1 v2 : Int32) (q : (Nat × Int32) × St) (h : f_X_part z v1 v2 = some q) : CT l y_X_part (.code y_X_part b_X_part 4 (some .int)) { frames := 7, cells := 2, slots := 12, locals := 131 } D [(cI, .int)] [.ref (ad 0), .int v1, .int v2] (cX cI ad z) q.1 (cX cI ad q.2) 2 12 := by
  refine mk_t (by decide) (Nat.le_of_ble_eq_true rfl) ?_
  intro p e s m args below meth c A ls F X hr hno hl
  have hl : lv_has ls 4 [(0, .ref (ad 0)), (1, .int (v1)), (2, .int (v2))] := hl
  unfold f_X_part at h
  refine lv_aload_n F.x F.b d_X_part_0 rfl (lv_at hl 0 rfl) ?_
  refine lv_iload_n F.x F.b d_X_part_1 rfl (lv_at hl 1 rfl) ?_
  obtain ⟨q1, hq1, h⟩ := it_c h
  refine r_t F X hl.1 (c_X_leaderOf l hst D cI ad z (v1) q1 hq1) (gX_0 cI ad z) rfl mt_208 mt_210 ms_7 mt_1 mt_211 ⟨rfl, hd_X_leaderOf⟩ ⟨by decide, by decide⟩ ⟨rfl, rfl⟩ ⟨by decide, by decide⟩ rfl (Nat.le_of_ble_eq_true rfl) d_X_part_2 rfl (fun hc H locs E ce q9 X hE hce hcv hcl => ?_) (fun hc H locs X => ?_)
  · have h := it_e hc h
    rw [← Option.some.inj h]
    exact r_out F X hno hE hce hcv hcl (by decide) (by decide)
  · have h := it_t hc h
    refine lv_istore_n F.x F.b d_X_part_5 rfl hl (by decide) (lv' := [(3, .int (q1.1.2)), (0, .ref (ad 0)), (1, .int (v1)), (2, .int (v2))]) rfl (fun ls hl => ?_)
    refine lv_aload_n F.x F.b d_X_part_6 rfl (lv_at hl 1 rfl) ?_
    refine r_get F X in_X 0 1 (gX_0 cI ad q1.2) rfl (by decide) mt_81 rfl d_X_part_7 ?_
    refine lv_iload_n F.x F.b d_X_part_10 rfl (lv_at hl 0 rfl) ?_
    obtain ⟨q2, hq2, h⟩ := it_c h
    refine r_ni F X hl.1 (c_S_hasParts l D cI ad q1.2 (q1.1.2) q2 hq2) (gX_1 cI ad q1.2) rfl (List.mem_of_getElem? (i := 12) rfl) mt_294 ms_20 mt_2 mt_295 hd_S_hasParts ⟨by decide, by decide⟩ ⟨rfl, rfl⟩ ⟨by decide, by decide⟩ rfl (Nat.le_of_ble_eq_true rfl) d_X_part_11 rfl (fun H locs X => ?_)
    refine lv_if_ne (tgt := 25) F.x F.b d_X_part_14 (by decide) (fun hc => ?_) (fun hc => ?_)
    · have h := it_e hc h
      refine lv_aload_n F.x F.b d_X_part_25 rfl (lv_at hl 1 rfl) ?_
      refine r_get F X in_X 0 3 (gX_0 cI ad q2.2) rfl (by decide) mt_83 rfl d_X_part_26 ?_
      refine lv_iload_n F.x F.b d_X_part_29 rfl (lv_at hl 3 rfl) ?_
      refine lv_if_eq (tgt := 45) F.x F.b d_X_part_30 (by decide) (fun hc => ?_) (fun hc => ?_)
      · have h := it_t hc h
        refine lv_aload_n F.x F.b d_X_part_45 rfl (lv_at hl 1 rfl) ?_
        refine r_get F X in_X 0 1 (gX_0 cI ad q2.2) rfl (by decide) mt_81 rfl d_X_part_46 ?_
        refine r_getN F X in_S 1 1 (gX_1 cI ad q2.2) rfl (by decide) (List.mem_of_getElem? (i := 2) rfl) rfl d_X_part_49 ?_
        refine lv_iload_n F.x F.b d_X_part_52 rfl (lv_at hl 0 rfl) ?_
        obtain ⟨hb4, h⟩ := it_b h
        refine r_ald F X 10 0 (gX_10 cI ad q2.2) rfl hb4 d_X_part_53 ?_
        obtain ⟨hb3, h⟩ := it_b h
        refine r_ald F X 4 0 (gX_4 cI ad q2.2) rfl hb3 d_X_part_54 ?_
        rw [← Option.some.inj h]
        exact fin_t F X hr ⟨rfl, rfl⟩ (by decide) (by decide) d_X_part_55
      · have h := it_e hc h
        refine lv_aload_n F.x F.b d_X_part_33 rfl (lv_at hl 1 rfl) ?_
        refine r_get F X in_X 0 1 (gX_0 cI ad q2.2) rfl (by decide) mt_81 rfl d_X_part_34 ?_
        refine r_getN F X in_S 1 2 (gX_1 cI ad q2.2) rfl (by decide) (List.mem_of_getElem? (i := 3) rfl) rfl d_X_part_37 ?_
        refine lv_iload_n F.x F.b d_X_part_40 rfl (lv_at hl 0 rfl) ?_
        obtain ⟨hb6, h⟩ := it_b h
        refine r_ald F X 11 0 (gX_11 cI ad q2.2) rfl hb6 d_X_part_41 ?_
        refine lv_goto (tgt := 54) F.x F.b d_X_part_42 (by decide) ?_
        obtain ⟨hb5, h⟩ := it_b h
        refine r_ald F X 4 0 (gX_4 cI ad q2.2) rfl hb5 d_X_part_54 ?_
        rw [← Option.some.inj h]
        exact fin_t F X hr ⟨rfl, rfl⟩ (by decide) (by decide) d_X_part_55
    · have h := it_t hc h
      rw [← Option.some.inj h]
      exact r_throw F X hl.1 hno hst (Or.inl ⟨rfl, rfl⟩) mt_212 mt_10 at_ok1 (by decide) d_X_part_17 d_X_part_20 d_X_part_21 d_X_part_24 (by decide) (Nat.le_of_ble_eq_true rfl) (by decide) (by decide) (by decide) (by decide)
theorem hd_X_size : y_X_size.cls ≠ "java/lang/invoke/MethodHandle" ∧ y_X_size.cls ≠ "java/lang/invoke/VarHandle" ∧ (parseMethodDescriptor y_X_size.desc).map (fun d => d.parameters.length) = some 1 := ⟨by decide, by decide, by decide +kernel⟩
set_option maxRecDepth 100000 in
set_option maxHeartbeats 4000000 in
theorem c_X_size (l : Launch) (hst : l.stackTraces = false) (D : Gd) (cI : ClassId) (ad : Nat → Nat) (z : St) (v1 : Int32) (q : (Nat × Int32) × St) (h : f_X_size z v1 = some q) : CT l y_X_size (.code y_X_size b_X_size 4 (some .int)) { frames := 7, cells := 1, slots := 6, locals := 131 } D [(cI, .int)] [.ref (ad 0), .int v1] (cX cI ad z) q.1 (cX cI ad q.2) 1 6 := by
  refine mk_t (by decide) (Nat.le_of_ble_eq_true rfl) ?_
  intro p e s m args below meth c A ls F X hr hno hl
  have hl : lv_has ls 4 [(0, .ref (ad 0)), (1, .int (v1))] := hl
  have L8 : ∀ (n : Nat) (z : St) (v3 : Int32) (v2 : Int32) (v1 : Int32) (H : Heap) (locs : List Loc) (ls : Array Slot), Wd D A s (cX cI ad z) H locs → lv_has ls 4 [(3, .int (v3)), (2, .int (v2)), (0, .ref (ad 0)), (1, .int (v1))] → f_X_size_l8 n z v3 v2 v1 = some q → W p l e { frames := 7, cells := 1, slots := 6, locals := 131 } s m args below meth c H locs (0 + 1) (0 + 6) (vx_MQ below (QT D [(cI, .int)] A q.1 (cX cI ad q.2)) (XT D [(cI, .int)] A q.1 (cX cI ad q.2)) args s 1 6 A) (F0 m 8 ls []) := by
    intro n
    induction n with
    | zero => intro z v3 v2 v1 H locs ls X hl h; cases h
    | succ n ih =>
      intro z v3 v2 v1 H locs ls X hl h
      rw [f_X_size_l8] at h
      refine lv_iload_n F.x F.b d_X_size_8 rfl (lv_at hl 0 rfl) ?_
      refine lv_aload_n F.x F.b d_X_size_9 rfl (lv_at hl 2 rfl) ?_
      refine r_get F X in_X 0 5 (gX_0 cI ad z) rfl (by decide) mt_85 rfl d_X_size_10 ?_
      refine lv_icmp_ge (tgt := 43) F.x F.b d_X_size_13 (by decide) (fun hc => ?_) (fun hc => ?_)
      · have h := it_t hc h
        refine lv_aload_n F.x F.b d_X_size_43 rfl (lv_at hl 2 rfl) ?_
        refine r_get F X in_X 0 7 (gX_0 cI ad z) rfl (by decide) mt_87 rfl d_X_size_44 ?_
        refine lv_iload_n F.x F.b d_X_size_47 rfl (lv_at hl 1 rfl) ?_
        obtain ⟨hb2, h⟩ := it_b h
        refine r_ald F X 7 0 (gX_7 cI ad z) rfl hb2 d_X_size_48 ?_
        rw [← Option.some.inj h]
        exact fin_t F X hr ⟨rfl, rfl⟩ (by decide) (by decide) d_X_size_49
      · have h := it_e hc h
        refine lv_aload_n F.x F.b d_X_size_16 rfl (lv_at hl 2 rfl) ?_
        refine r_get F X in_X 0 7 (gX_0 cI ad z) rfl (by decide) mt_87 rfl d_X_size_17 ?_
        refine lv_aload_n F.x F.b d_X_size_20 rfl (lv_at hl 2 rfl) ?_
        refine r_get F X in_X 0 4 (gX_0 cI ad z) rfl (by decide) mt_84 rfl d_X_size_21 ?_
        refine lv_iload_n F.x F.b d_X_size_24 rfl (lv_at hl 0 rfl) ?_
        obtain ⟨hb6, h⟩ := it_b h
        refine r_ald F X 5 0 (gX_5 cI ad z) rfl hb6 d_X_size_25 ?_
        refine lv_aload_n F.x F.b d_X_size_26 rfl (lv_at hl 2 rfl) ?_
        refine lv_aload_n F.x F.b d_X_size_27 rfl (lv_at hl 2 rfl) ?_
        refine r_get F X in_X 0 4 (gX_0 cI ad z) rfl (by decide) mt_84 rfl d_X_size_28 ?_
        refine lv_iload_n F.x F.b d_X_size_31 rfl (lv_at hl 0 rfl) ?_
        obtain ⟨hb5, h⟩ := it_b h
        refine r_ald F X 5 0 (gX_5 cI ad z) rfl hb5 d_X_size_32 ?_
        obtain ⟨q3, hq3, h⟩ := it_c h
        refine r_vi F X hl.1 (c_X_sizeByParts l D cI ad z (z.2 2 (v3).toNatClampNeg) q3 hq3) (gX_0 cI ad z) rfl mt_388 mt_390 ms_32 mt_1 mt_391 ⟨rfl, hd_X_sizeByParts⟩ ⟨by decide, by decide⟩ ⟨rfl, rfl⟩ ⟨by decide, by decide⟩ rfl (Nat.le_of_ble_eq_true rfl) d_X_size_33 rfl (fun H locs X => ?_)
        obtain ⟨hb4, h⟩ := it_b h
        refine r_ast F X 7 0 (gX_7 cI ad q3.2) rfl hb4 d_X_size_36 (sX_7 cI ad q3.2 _ _) (fun H locs X => ?_)
        refine lv_iinc (k := 0) (v := (v3) + 1) F.x F.b d_X_size_37 hl rfl (ii_1 _) (by decide) (lv' := [(3, .int ((v3) + 1)), (2, .int (v2)), (0, .ref (ad 0)), (1, .int (v1))]) rfl (fun ls hl => ?_)
        refine lv_goto (tgt := 8) F.x F.b d_X_size_40 (by decide) ?_
        exact ih (war q3.2 4 (z.2 2 (v3).toNatClampNeg).toNatClampNeg (q3.1)) ((v3) + 1) (v2) (v1) _ _ _ X (lv_sub hl [0, 1, 2, 3] rfl) h
  unfold f_X_size at h
  refine lv_aload_n F.x F.b d_X_size_0 rfl (lv_at hl 0 rfl) ?_
  refine lv_iload_n F.x F.b d_X_size_1 rfl (lv_at hl 1 rfl) ?_
  obtain ⟨q1, hq1, h⟩ := it_c h
  refine r_t F X hl.1 (c_X_leaderOf l hst D cI ad z (v1) q1 hq1) (gX_0 cI ad z) rfl mt_208 mt_210 ms_7 mt_1 mt_211 ⟨rfl, hd_X_leaderOf⟩ ⟨by decide, by decide⟩ ⟨rfl, rfl⟩ ⟨by decide, by decide⟩ rfl (Nat.le_of_ble_eq_true rfl) d_X_size_2 rfl (fun hc H locs E ce q9 X hE hce hcv hcl => ?_) (fun hc H locs X => ?_)
  · have h := it_e hc h
    rw [← Option.some.inj h]
    exact r_out F X hno hE hce hcv hcl (by decide) (by decide)
  · have h := it_t hc h
    refine lv_istore_n F.x F.b d_X_size_5 rfl hl (by decide) (lv' := [(2, .int (q1.1.2)), (0, .ref (ad 0)), (1, .int (v1))]) rfl (fun ls hl => ?_)
    refine lv_iconst (v := (0 : Int32)) F.x F.b d_X_size_6 (by decide) ?_
    refine lv_istore_n F.x F.b d_X_size_7 rfl hl (by decide) (lv' := [(3, .int ((0 : Int32))), (2, .int (q1.1.2)), (0, .ref (ad 0)), (1, .int (v1))]) rfl (fun ls hl => ?_)
    exact L8 FU q1.2 ((0 : Int32)) (q1.1.2) (v1) _ _ _ X (lv_sub hl [0, 1, 2, 3] rfl) h
theorem hd_X_values : y_X_values.cls ≠ "java/lang/invoke/MethodHandle" ∧ y_X_values.cls ≠ "java/lang/invoke/VarHandle" ∧ (parseMethodDescriptor y_X_values.desc).map (fun d => d.parameters.length) = some 1 := ⟨by decide, by decide, by decide +kernel⟩
set_option maxRecDepth 100000 in
set_option maxHeartbeats 4000000 in
theorem c_X_values (l : Launch) (hst : l.stackTraces = false) (D : Gd) (cI : ClassId) (ad : Nat → Nat) (z : St) (v1 : Int32) (q : (Nat × Int32) × St) (h : f_X_values z v1 = some q) : CT l y_X_values (.code y_X_values b_X_values 4 (some .int)) { frames := 7, cells := 1, slots := 6, locals := 131 } D [(cI, .int)] [.ref (ad 0), .int v1] (cX cI ad z) q.1 (cX cI ad q.2) 1 6 := by
  refine mk_t (by decide) (Nat.le_of_ble_eq_true rfl) ?_
  intro p e s m args below meth c A ls F X hr hno hl
  have hl : lv_has ls 4 [(0, .ref (ad 0)), (1, .int (v1))] := hl
  have L8 : ∀ (n : Nat) (z : St) (v3 : Int32) (v2 : Int32) (v1 : Int32) (H : Heap) (locs : List Loc) (ls : Array Slot), Wd D A s (cX cI ad z) H locs → lv_has ls 4 [(3, .int (v3)), (2, .int (v2)), (0, .ref (ad 0)), (1, .int (v1))] → f_X_values_l8 n z v3 v2 v1 = some q → W p l e { frames := 7, cells := 1, slots := 6, locals := 131 } s m args below meth c H locs (0 + 1) (0 + 6) (vx_MQ below (QT D [(cI, .int)] A q.1 (cX cI ad q.2)) (XT D [(cI, .int)] A q.1 (cX cI ad q.2)) args s 1 6 A) (F0 m 8 ls []) := by
    intro n
    induction n with
    | zero => intro z v3 v2 v1 H locs ls X hl h; cases h
    | succ n ih =>
      intro z v3 v2 v1 H locs ls X hl h
      rw [f_X_values_l8] at h
      refine lv_iload_n F.x F.b d_X_values_8 rfl (lv_at hl 0 rfl) ?_
      refine lv_aload_n F.x F.b d_X_values_9 rfl (lv_at hl 2 rfl) ?_
      refine r_get F X in_X 0 5 (gX_0 cI ad z) rfl (by decide) mt_85 rfl d_X_values_10 ?_
      refine lv_icmp_ge (tgt := 43) F.x F.b d_X_values_13 (by decide) (fun hc => ?_) (fun hc => ?_)
      · have h := it_t hc h
        refine lv_aload_n F.x F.b d_X_values_43 rfl (lv_at hl 2 rfl) ?_
        refine r_get F X in_X 0 7 (gX_0 cI ad z) rfl (by decide) mt_87 rfl d_X_values_44 ?_
        refine lv_iload_n F.x F.b d_X_values_47 rfl (lv_at hl 1 rfl) ?_
        obtain ⟨hb2, h⟩ := it_b h
        refine r_ald F X 7 0 (gX_7 cI ad z) rfl hb2 d_X_values_48 ?_
        rw [← Option.some.inj h]
        exact fin_t F X hr ⟨rfl, rfl⟩ (by decide) (by decide) d_X_values_49
      · have h := it_e hc h
        refine lv_aload_n F.x F.b d_X_values_16 rfl (lv_at hl 2 rfl) ?_
        refine r_get F X in_X 0 7 (gX_0 cI ad z) rfl (by decide) mt_87 rfl d_X_values_17 ?_
        refine lv_aload_n F.x F.b d_X_values_20 rfl (lv_at hl 2 rfl) ?_
        refine r_get F X in_X 0 4 (gX_0 cI ad z) rfl (by decide) mt_84 rfl d_X_values_21 ?_
        refine lv_iload_n F.x F.b d_X_values_24 rfl (lv_at hl 0 rfl) ?_
        obtain ⟨hb6, h⟩ := it_b h
        refine r_ald F X 5 0 (gX_5 cI ad z) rfl hb6 d_X_values_25 ?_
        refine lv_aload_n F.x F.b d_X_values_26 rfl (lv_at hl 2 rfl) ?_
        refine lv_aload_n F.x F.b d_X_values_27 rfl (lv_at hl 2 rfl) ?_
        refine r_get F X in_X 0 4 (gX_0 cI ad z) rfl (by decide) mt_84 rfl d_X_values_28 ?_
        refine lv_iload_n F.x F.b d_X_values_31 rfl (lv_at hl 0 rfl) ?_
        obtain ⟨hb5, h⟩ := it_b h
        refine r_ald F X 5 0 (gX_5 cI ad z) rfl hb5 d_X_values_32 ?_
        obtain ⟨q3, hq3, h⟩ := it_c h
        refine r_vi F X hl.1 (c_X_valuesByParts l D cI ad z (z.2 2 (v3).toNatClampNeg) q3 hq3) (gX_0 cI ad z) rfl mt_406 mt_408 ms_33 mt_1 mt_409 ⟨rfl, hd_X_valuesByParts⟩ ⟨by decide, by decide⟩ ⟨rfl, rfl⟩ ⟨by decide, by decide⟩ rfl (Nat.le_of_ble_eq_true rfl) d_X_values_33 rfl (fun H locs X => ?_)
        obtain ⟨hb4, h⟩ := it_b h
        refine r_ast F X 7 0 (gX_7 cI ad q3.2) rfl hb4 d_X_values_36 (sX_7 cI ad q3.2 _ _) (fun H locs X => ?_)
        refine lv_iinc (k := 0) (v := (v3) + 1) F.x F.b d_X_values_37 hl rfl (ii_1 _) (by decide) (lv' := [(3, .int ((v3) + 1)), (2, .int (v2)), (0, .ref (ad 0)), (1, .int (v1))]) rfl (fun ls hl => ?_)
        refine lv_goto (tgt := 8) F.x F.b d_X_values_40 (by decide) ?_
        exact ih (war q3.2 4 (z.2 2 (v3).toNatClampNeg).toNatClampNeg (q3.1)) ((v3) + 1) (v2) (v1) _ _ _ X (lv_sub hl [0, 1, 2, 3] rfl) h
  unfold f_X_values at h
  refine lv_aload_n F.x F.b d_X_values_0 rfl (lv_at hl 0 rfl) ?_
  refine lv_iload_n F.x F.b d_X_values_1 rfl (lv_at hl 1 rfl) ?_
  obtain ⟨q1, hq1, h⟩ := it_c h
  refine r_t F X hl.1 (c_X_leaderOf l hst D cI ad z (v1) q1 hq1) (gX_0 cI ad z) rfl mt_208 mt_210 ms_7 mt_1 mt_211 ⟨rfl, hd_X_leaderOf⟩ ⟨by decide, by decide⟩ ⟨rfl, rfl⟩ ⟨by decide, by decide⟩ rfl (Nat.le_of_ble_eq_true rfl) d_X_values_2 rfl (fun hc H locs E ce q9 X hE hce hcv hcl => ?_) (fun hc H locs X => ?_)
  · have h := it_e hc h
    rw [← Option.some.inj h]
    exact r_out F X hno hE hce hcv hcl (by decide) (by decide)
  · have h := it_t hc h
    refine lv_istore_n F.x F.b d_X_values_5 rfl hl (by decide) (lv' := [(2, .int (q1.1.2)), (0, .ref (ad 0)), (1, .int (v1))]) rfl (fun ls hl => ?_)
    refine lv_iconst (v := (0 : Int32)) F.x F.b d_X_values_6 (by decide) ?_
    refine lv_istore_n F.x F.b d_X_values_7 rfl hl (by decide) (lv' := [(3, .int ((0 : Int32))), (2, .int (q1.1.2)), (0, .ref (ad 0)), (1, .int (v1))]) rfl (fun ls hl => ?_)
    exact L8 FU q1.2 ((0 : Int32)) (q1.1.2) (v1) _ _ _ X (lv_sub hl [0, 1, 2, 3] rfl) h
theorem hd_X_frees : y_X_frees.cls ≠ "java/lang/invoke/MethodHandle" ∧ y_X_frees.cls ≠ "java/lang/invoke/VarHandle" ∧ (parseMethodDescriptor y_X_frees.desc).map (fun d => d.parameters.length) = some 1 := ⟨by decide, by decide, by decide +kernel⟩
set_option maxRecDepth 100000 in
set_option maxHeartbeats 4000000 in
theorem c_X_frees (l : Launch) (hst : l.stackTraces = false) (D : Gd) (cI : ClassId) (ad : Nat → Nat) (z : St) (v1 : Int32) (q : (Nat × Int32) × St) (h : f_X_frees z v1 = some q) : CT l y_X_frees (.code y_X_frees b_X_frees 6 (some .int)) { frames := 7, cells := 1, slots := 6, locals := 131 } D [(cI, .int)] [.ref (ad 0), .int v1] (cX cI ad z) q.1 (cX cI ad q.2) 1 6 := by
  refine mk_t (by decide) (Nat.le_of_ble_eq_true rfl) ?_
  intro p e s m args below meth c A ls F X hr hno hl
  have hl : lv_has ls 6 [(0, .ref (ad 0)), (1, .int (v1))] := hl
  have L36 : ∀ (n : Nat) (z : St) (v4 : Int32) (v3 : Int32) (v2 : Int32) (v1 : Int32) (H : Heap) (locs : List Loc) (ls : Array Slot), Wd D A s (cX cI ad z) H locs → lv_has ls 6 [(4, .int (v4)), (3, .int (v3)), (2, .int (v2)), (0, .ref (ad 0)), (1, .int (v1))] → f_X_frees_l36 n z v4 v3 v2 v1 = some q → W p l e { frames := 7, cells := 1, slots := 6, locals := 131 } s m args below meth c H locs (0 + 1) (0 + 6) (vx_MQ below (QT D [(cI, .int)] A q.1 (cX cI ad q.2)) (XT D [(cI, .int)] A q.1 (cX cI ad q.2)) args s 1 6 A) (F0 m 36 ls []) := by
    intro n
    induction n with
    | zero => intro z v4 v3 v2 v1 H locs ls X hl h; cases h
    | succ n ih =>
      intro z v4 v3 v2 v1 H locs ls X hl h
      rw [f_X_frees_l36] at h
      refine lv_iload F.x F.b d_X_frees_36 (lv_at hl 0 rfl) ?_
      refine lv_if_lt (tgt := 94) F.x F.b d_X_frees_38 (by decide) (fun hc => ?_) (fun hc => ?_)
      · have h := it_t hc h
        refine lv_iload_n F.x F.b d_X_frees_94 rfl (lv_at hl 1 rfl) ?_
        rw [← Option.some.inj h]
        exact fin_t F X hr ⟨rfl, rfl⟩ (by decide) (by decide) d_X_frees_95
      · have h := it_e hc h
        refine lv_aload_n F.x F.b d_X_frees_41 rfl (lv_at hl 3 rfl) ?_
        refine r_get F X in_X 0 4 (gX_0 cI ad z) rfl (by decide) mt_84 rfl d_X_frees_42 ?_
        refine lv_iload F.x F.b d_X_frees_45 (lv_at hl 0 rfl) ?_
        obtain ⟨hb7, h⟩ := it_b h
        refine r_ald F X 5 0 (gX_5 cI ad z) rfl hb7 d_X_frees_47 ?_
        refine lv_istore F.x F.b d_X_frees_48 hl (by decide) (lv' := [(5, .int (z.2 2 (v4).toNatClampNeg)), (4, .int (v4)), (3, .int (v3)), (2, .int (v2)), (0, .ref (ad 0)), (1, .int (v1))]) rfl (fun ls hl => ?_)
        refine lv_aload_n F.x F.b d_X_frees_50 rfl (lv_at hl 4 rfl) ?_
        refine r_get F X in_X 0 7 (gX_0 cI ad z) rfl (by decide) mt_87 rfl d_X_frees_51 ?_
        refine lv_iload F.x F.b d_X_frees_54 (lv_at hl 0 rfl) ?_
        obtain ⟨hb6, h⟩ := it_b h
        refine r_ald F X 7 0 (gX_7 cI ad z) rfl hb6 d_X_frees_56 ?_
        refine lv_iconst (v := (2 : Int32)) F.x F.b d_X_frees_57 (by decide) ?_
        refine lv_icmp_ne (tgt := 88) F.x F.b d_X_frees_58 (by decide) (fun hc => ?_) (fun hc => ?_)
        · have h := it_e hc h
          refine lv_iinc (k := 1) (v := (v4) + -1) F.x F.b d_X_frees_88 hl rfl (ii_m1 _) (by decide) (lv' := [(4, .int ((v4) + -1)), (5, .int (z.2 2 (v4).toNatClampNeg)), (3, .int (v3)), (2, .int (v2)), (0, .ref (ad 0)), (1, .int (v1))]) rfl (fun ls hl => ?_)
          refine lv_goto (tgt := 36) F.x F.b d_X_frees_91 (by decide) ?_
          exact ih z ((v4) + -1) (v3) (v2) (v1) _ _ _ X (lv_sub hl [0, 2, 3, 4, 5] rfl) h
        · have h := it_t hc h
          refine lv_iload_n F.x F.b d_X_frees_61 rfl (lv_at hl 2 rfl) ?_
          refine lv_aload_n F.x F.b d_X_frees_62 rfl (lv_at hl 4 rfl) ?_
          refine r_get F X in_X 0 1 (gX_0 cI ad z) rfl (by decide) mt_81 rfl d_X_frees_63 ?_
          refine r_getN F X in_S 1 0 (gX_1 cI ad z) rfl (by decide) (List.mem_of_getElem? (i := 1) rfl) rfl d_X_frees_66 ?_
          refine lv_iload F.x F.b d_X_frees_69 (lv_at hl 0 rfl) ?_
          obtain ⟨hb5, h⟩ := it_b h
          refine r_ald F X 9 0 (gX_9 cI ad z) rfl hb5 d_X_frees_71 ?_
          refine lv_if_ne (tgt := 79) F.x F.b d_X_frees_72 (by decide) (fun hc => ?_) (fun hc => ?_)
          · have h := it_e hc h
            refine lv_iconst (v := (0 : Int32)) F.x F.b d_X_frees_79 (by decide) ?_
            refine lv_iadd F.x F.b d_X_frees_80 ?_
            refine lv_istore_n F.x F.b d_X_frees_81 rfl hl (by decide) (lv' := [(3, .int ((v3) + ((0 : Int32)))), (5, .int (z.2 2 (v4).toNatClampNeg)), (4, .int (v4)), (2, .int (v2)), (0, .ref (ad 0)), (1, .int (v1))]) rfl (fun ls hl => ?_)
            refine lv_aload_n F.x F.b d_X_frees_82 rfl (lv_at hl 4 rfl) ?_
            refine lv_iload F.x F.b d_X_frees_83 (lv_at hl 1 rfl) ?_
            obtain ⟨q3, hq3, h⟩ := it_c h
            refine r_vv F X hl.1 (c_X_markParts l D cI ad z (z.2 2 (v4).toNatClampNeg) q3 hq3) (gX_0 cI ad z) rfl mt_421 mt_423 ms_34 mt_1 mt_424 ⟨rfl, hd_X_markParts⟩ ⟨by decide, by decide⟩ ⟨rfl, rfl⟩ ⟨by decide, by decide⟩ rfl (Nat.le_of_ble_eq_true rfl) d_X_frees_85 rfl (fun H locs X => ?_)
            refine lv_iinc (k := 2) (v := (v4) + -1) F.x F.b d_X_frees_88 hl rfl (ii_m1 _) (by decide) (lv' := [(4, .int ((v4) + -1)), (3, .int ((v3) + ((0 : Int32)))), (5, .int (z.2 2 (v4).toNatClampNeg)), (2, .int (v2)), (0, .ref (ad 0)), (1, .int (v1))]) rfl (fun ls hl => ?_)
            refine lv_goto (tgt := 36) F.x F.b d_X_frees_91 (by decide) ?_
            exact ih q3 ((v4) + -1) ((v3) + ((0 : Int32))) (v2) (v1) _ _ _ X (lv_sub hl [0, 1, 3, 4, 5] rfl) h
          · have h := it_t hc h
            refine lv_iconst (v := (1 : Int32)) F.x F.b d_X_frees_75 (by decide) ?_
            refine lv_goto (tgt := 80) F.x F.b d_X_frees_76 (by decide) ?_
            refine lv_iadd F.x F.b d_X_frees_80 ?_
            refine lv_istore_n F.x F.b d_X_frees_81 rfl hl (by decide) (lv' := [(3, .int ((v3) + ((1 : Int32)))), (5, .int (z.2 2 (v4).toNatClampNeg)), (4, .int (v4)), (2, .int (v2)), (0, .ref (ad 0)), (1, .int (v1))]) rfl (fun ls hl => ?_)
            refine lv_aload_n F.x F.b d_X_frees_82 rfl (lv_at hl 4 rfl) ?_
            refine lv_iload F.x F.b d_X_frees_83 (lv_at hl 1 rfl) ?_
            obtain ⟨q4, hq4, h⟩ := it_c h
            refine r_vv F X hl.1 (c_X_markParts l D cI ad z (z.2 2 (v4).toNatClampNeg) q4 hq4) (gX_0 cI ad z) rfl mt_421 mt_423 ms_34 mt_1 mt_424 ⟨rfl, hd_X_markParts⟩ ⟨by decide, by decide⟩ ⟨rfl, rfl⟩ ⟨by decide, by decide⟩ rfl (Nat.le_of_ble_eq_true rfl) d_X_frees_85 rfl (fun H locs X => ?_)
            refine lv_iinc (k := 2) (v := (v4) + -1) F.x F.b d_X_frees_88 hl rfl (ii_m1 _) (by decide) (lv' := [(4, .int ((v4) + -1)), (3, .int ((v3) + ((1 : Int32)))), (5, .int (z.2 2 (v4).toNatClampNeg)), (2, .int (v2)), (0, .ref (ad 0)), (1, .int (v1))]) rfl (fun ls hl => ?_)
            refine lv_goto (tgt := 36) F.x F.b d_X_frees_91 (by decide) ?_
            exact ih q4 ((v4) + -1) ((v3) + ((1 : Int32))) (v2) (v1) _ _ _ X (lv_sub hl [0, 1, 3, 4, 5] rfl) h
  unfold f_X_frees at h
  refine lv_aload_n F.x F.b d_X_frees_0 rfl (lv_at hl 0 rfl) ?_
  refine lv_iload_n F.x F.b d_X_frees_1 rfl (lv_at hl 1 rfl) ?_
  obtain ⟨q1, hq1, h⟩ := it_c h
  refine r_t F X hl.1 (c_X_leaderOf l hst D cI ad z (v1) q1 hq1) (gX_0 cI ad z) rfl mt_208 mt_210 ms_7 mt_1 mt_211 ⟨rfl, hd_X_leaderOf⟩ ⟨by decide, by decide⟩ ⟨rfl, rfl⟩ ⟨by decide, by decide⟩ rfl (Nat.le_of_ble_eq_true rfl) d_X_frees_2 rfl (fun hc H locs E ce q9 X hE hce hcv hcl => ?_) (fun hc H locs X => ?_)
  · have h := it_e hc h
    rw [← Option.some.inj h]
    exact r_out F X hno hE hce hcv hcl (by decide) (by decide)
  · have h := it_t hc h
    refine lv_istore_n F.x F.b d_X_frees_5 rfl hl (by decide) (lv' := [(2, .int (q1.1.2)), (0, .ref (ad 0)), (1, .int (v1))]) rfl (fun ls hl => ?_)
    refine lv_aload_n F.x F.b d_X_frees_6 rfl (lv_at hl 1 rfl) ?_
    refine r_get F X in_X 0 7 (gX_0 cI ad q1.2) rfl (by decide) mt_87 rfl d_X_frees_7 ?_
    refine lv_iconst (v := (0 : Int32)) F.x F.b d_X_frees_10 (by decide) ?_
    refine lv_aload_n F.x F.b d_X_frees_11 rfl (lv_at hl 1 rfl) ?_
    refine r_get F X in_X 0 0 (gX_0 cI ad q1.2) rfl (by decide) mt_80 rfl d_X_frees_12 ?_
    refine lv_iconst (v := (0 : Int32)) F.x F.b d_X_frees_15 (by decide) ?_
    obtain ⟨q2, hq2, h⟩ := it_c h
    refine r_sv F X hl.1 (c_J_fill4 l D _ 7 q2 (gX_7 cI ad q1.2) rfl hq2) mt_304 mt_305 mt_4 mt_306 hd_J_fill4 ⟨by decide, by decide⟩ ⟨rfl, rfl⟩ ⟨by decide, by decide⟩ rfl (Nat.le_of_ble_eq_true rfl) d_X_frees_16 rfl (fun H locs X => ?_)
    have X : Wd D A s (cX cI ad (wal q1.2 4 q2)) H locs := (aX_7 cI ad q1.2 q2) ▸ X
    refine lv_aload_n F.x F.b d_X_frees_19 rfl (lv_at hl 1 rfl) ?_
    refine r_get F X in_X 0 7 (gX_0 cI ad (wal q1.2 4 q2)) rfl (by decide) mt_87 rfl d_X_frees_20 ?_
    refine lv_iload_n F.x F.b d_X_frees_23 rfl (lv_at hl 0 rfl) ?_
    refine lv_iconst (v := (2 : Int32)) F.x F.b d_X_frees_24 (by decide) ?_
    obtain ⟨hb8, h⟩ := it_b h
    refine r_ast F X 7 0 (gX_7 cI ad (wal q1.2 4 q2)) rfl hb8 d_X_frees_25 (sX_7 cI ad (wal q1.2 4 q2) _ _) (fun H locs X => ?_)
    refine lv_iconst (v := (0 : Int32)) F.x F.b d_X_frees_26 (by decide) ?_
    refine lv_istore_n F.x F.b d_X_frees_27 rfl hl (by decide) (lv' := [(3, .int ((0 : Int32))), (2, .int (q1.1.2)), (0, .ref (ad 0)), (1, .int (v1))]) rfl (fun ls hl => ?_)
    refine lv_aload_n F.x F.b d_X_frees_28 rfl (lv_at hl 2 rfl) ?_
    refine r_get F X in_X 0 5 (gX_0 cI ad (war (wal q1.2 4 q2) 4 (q1.1.2).toNatClampNeg ((2 : Int32)))) rfl (by decide) mt_85 rfl d_X_frees_29 ?_
    refine lv_iconst (v := (1 : Int32)) F.x F.b d_X_frees_32 (by decide) ?_
    refine lv_isub F.x F.b d_X_frees_33 ?_
    refine lv_istore F.x F.b d_X_frees_34 hl (by decide) (lv' := [(4, .int (((war (wal q1.2 4 q2) 4 (q1.1.2).toNatClampNeg ((2 : Int32))).1 1) - ((1 : Int32)))), (3, .int ((0 : Int32))), (2, .int (q1.1.2)), (0, .ref (ad 0)), (1, .int (v1))]) rfl (fun ls hl => ?_)
    exact L36 FU (war (wal q1.2 4 q2) 4 (q1.1.2).toNatClampNeg ((2 : Int32))) (((war (wal q1.2 4 q2) 4 (q1.1.2).toNatClampNeg ((2 : Int32))).1 1) - ((1 : Int32))) ((0 : Int32)) (q1.1.2) (v1) _ _ _ X (lv_sub hl [0, 1, 2, 3, 4] rfl) h
