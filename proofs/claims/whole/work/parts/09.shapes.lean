theorem hd_P_startWith : y_P_startWith.cls ≠ "java/lang/invoke/MethodHandle" ∧ y_P_startWith.cls ≠ "java/lang/invoke/VarHandle" ∧ (parseMethodDescriptor y_P_startWith.desc).map (fun d => d.parameters.length) = some 2 := ⟨by decide, by decide, by decide +kernel⟩
set_option maxRecDepth 100000 in
set_option maxHeartbeats 4000000 in
theorem c_P_startWith (l : Launch) (D : Gd) (cI : ClassId) (ad : Nat → Nat) (z : St) (v1 v2 : Int32) (q : St) (h : f_P_startWith z v1 v2 = some q) : CV l y_P_startWith (.code y_P_startWith b_P_startWith 3 none) { frames := 0, cells := 0, slots := 0, locals := 0 } D [(cI, .int)] [.ref (ad 2), .int v1, .int v2] (cX cI ad z) (cX cI ad q) 0 0 := by
  refine mk_v (by decide) (Nat.le_of_ble_eq_true rfl) ?_
  intro p e s m args below meth c A ls F X hr hl
  have hl : lv_has ls 3 [(0, .ref (ad 2)), (1, .int (v1)), (2, .int (v2))] := hl
  unfold f_P_startWith at h
  refine lv_aload_n F.x F.b d_P_startWith_0 rfl (lv_at hl 0 rfl) ?_
  refine r_get F X in_P 2 0 (gX_2 cI ad z) rfl (by decide) mt_53 rfl d_P_startWith_1 ?_
  refine lv_iconst (v := (0 : Int32)) F.x F.b d_P_startWith_4 (by decide) ?_
  refine lv_iload_n F.x F.b d_P_startWith_5 rfl (lv_at hl 1 rfl) ?_
  obtain ⟨hb2, h⟩ := it_b h
  refine r_ast F X 14 0 (gX_14 cI ad z) rfl hb2 d_P_startWith_6 (sX_14 cI ad z _ _) (fun H locs X => ?_)
  refine lv_aload_n F.x F.b d_P_startWith_7 rfl (lv_at hl 0 rfl) ?_
  refine r_get F X in_P 2 0 (gX_2 cI ad (war z 11 ((0 : Int32)).toNatClampNeg (v1))) rfl (by decide) mt_53 rfl d_P_startWith_8 ?_
  refine lv_iconst (v := (1 : Int32)) F.x F.b d_P_startWith_11 (by decide) ?_
  refine lv_iload_n F.x F.b d_P_startWith_12 rfl (lv_at hl 2 rfl) ?_
  obtain ⟨hb1, h⟩ := it_b h
  refine r_ast F X 14 0 (gX_14 cI ad (war z 11 ((0 : Int32)).toNatClampNeg (v1))) rfl hb1 d_P_startWith_13 (sX_14 cI ad (war z 11 ((0 : Int32)).toNatClampNeg (v1)) _ _) (fun H locs X => ?_)
  refine lv_aload_n F.x F.b d_P_startWith_14 rfl (lv_at hl 0 rfl) ?_
  refine lv_iconst (v := (2 : Int32)) F.x F.b d_P_startWith_15 (by decide) ?_
  refine r_put F X in_P t_P t_P_ok n_P 2 1 (gX_2 cI ad (war (war z 11 ((0 : Int32)).toNatClampNeg (v1)) 11 ((1 : Int32)).toNatClampNeg (v2))) rfl (by decide) mt_54 rfl (t_P_ok 1 (by decide)) rfl rfl (Nat.le_of_ble_eq_true rfl) d_P_startWith_16 (pX_3 cI ad (war (war z 11 ((0 : Int32)).toNatClampNeg (v1)) 11 ((1 : Int32)).toNatClampNeg (v2)) _) (fun H locs X => ?_)
  rw [← Option.some.inj h]
  exact fin_v F X hr d_P_startWith_19
theorem hd_P_put : y_P_put.cls ≠ "java/lang/invoke/MethodHandle" ∧ y_P_put.cls ≠ "java/lang/invoke/VarHandle" ∧ (parseMethodDescriptor y_P_put.desc).map (fun d => d.parameters.length) = some 1 := ⟨by decide, by decide, by decide +kernel⟩
set_option maxRecDepth 100000 in
set_option maxHeartbeats 4000000 in
theorem c_P_put (l : Launch) (D : Gd) (cI : ClassId) (ad : Nat → Nat) (z : St) (v1 : Int32) (q : St) (h : f_P_put z v1 = some q) : CV l y_P_put (.code y_P_put b_P_put 2 none) { frames := 0, cells := 0, slots := 0, locals := 0 } D [(cI, .int)] [.ref (ad 2), .int v1] (cX cI ad z) (cX cI ad q) 0 0 := by
  refine mk_v (by decide) (Nat.le_of_ble_eq_true rfl) ?_
  intro p e s m args below meth c A ls F X hr hl
  have hl : lv_has ls 2 [(0, .ref (ad 2)), (1, .int (v1))] := hl
  unfold f_P_put at h
  refine lv_aload_n F.x F.b d_P_put_0 rfl (lv_at hl 0 rfl) ?_
  refine r_get F X in_P 2 0 (gX_2 cI ad z) rfl (by decide) mt_53 rfl d_P_put_1 ?_
  refine lv_aload_n F.x F.b d_P_put_4 rfl (lv_at hl 0 rfl) ?_
  refine r_get F X in_P 2 1 (gX_2 cI ad z) rfl (by decide) mt_54 rfl d_P_put_5 ?_
  refine lv_iload_n F.x F.b d_P_put_8 rfl (lv_at hl 1 rfl) ?_
  obtain ⟨hb1, h⟩ := it_b h
  refine r_ast F X 14 0 (gX_14 cI ad z) rfl hb1 d_P_put_9 (sX_14 cI ad z _ _) (fun H locs X => ?_)
  refine lv_aload_n F.x F.b d_P_put_10 rfl (lv_at hl 0 rfl) ?_
  refine lv_dup F.x F.b d_P_put_11 rfl ?_
  refine r_get F X in_P 2 1 (gX_2 cI ad (war z 11 (z.1 3).toNatClampNeg (v1))) rfl (by decide) mt_54 rfl d_P_put_12 ?_
  refine lv_iconst (v := (1 : Int32)) F.x F.b d_P_put_15 (by decide) ?_
  refine lv_iadd F.x F.b d_P_put_16 ?_
  refine r_put F X in_P t_P t_P_ok n_P 2 1 (gX_2 cI ad (war z 11 (z.1 3).toNatClampNeg (v1))) rfl (by decide) mt_54 rfl (t_P_ok 1 (by decide)) rfl rfl (Nat.le_of_ble_eq_true rfl) d_P_put_17 (pX_3 cI ad (war z 11 (z.1 3).toNatClampNeg (v1)) _) (fun H locs X => ?_)
  rw [← Option.some.inj h]
  exact fin_v F X hr d_P_put_20
theorem hd_P_take : y_P_take.cls ≠ "java/lang/invoke/MethodHandle" ∧ y_P_take.cls ≠ "java/lang/invoke/VarHandle" ∧ (parseMethodDescriptor y_P_take.desc).map (fun d => d.parameters.length) = some 0 := ⟨by decide, by decide, by decide +kernel⟩
set_option maxRecDepth 100000 in
set_option maxHeartbeats 4000000 in
theorem c_P_take (l : Launch) (D : Gd) (cI : ClassId) (ad : Nat → Nat) (z : St) (q : Int32 × St) (h : f_P_take z = some q) : CI l y_P_take (.code y_P_take b_P_take 1 (some .int)) { frames := 0, cells := 0, slots := 0, locals := 0 } D [(cI, .int)] [.ref (ad 2)] (cX cI ad z) q.1 (cX cI ad q.2) 0 0 := by
  refine mk_i (by decide) (Nat.le_of_ble_eq_true rfl) ?_
  intro p e s m args below meth c A ls F X hr hl
  have hl : lv_has ls 1 [(0, .ref (ad 2))] := hl
  unfold f_P_take at h
  refine lv_aload_n F.x F.b d_P_take_0 rfl (lv_at hl 0 rfl) ?_
  refine lv_dup F.x F.b d_P_take_1 rfl ?_
  refine r_get F X in_P 2 1 (gX_2 cI ad z) rfl (by decide) mt_54 rfl d_P_take_2 ?_
  refine lv_iconst (v := (1 : Int32)) F.x F.b d_P_take_5 (by decide) ?_
  refine lv_isub F.x F.b d_P_take_6 ?_
  refine r_put F X in_P t_P t_P_ok n_P 2 1 (gX_2 cI ad z) rfl (by decide) mt_54 rfl (t_P_ok 1 (by decide)) rfl rfl (Nat.le_of_ble_eq_true rfl) d_P_take_7 (pX_3 cI ad z _) (fun H locs X => ?_)
  refine lv_aload_n F.x F.b d_P_take_10 rfl (lv_at hl 0 rfl) ?_
  refine r_get F X in_P 2 0 (gX_2 cI ad (wsc z 3 ((z.1 3) - ((1 : Int32))))) rfl (by decide) mt_53 rfl d_P_take_11 ?_
  refine lv_aload_n F.x F.b d_P_take_14 rfl (lv_at hl 0 rfl) ?_
  refine r_get F X in_P 2 1 (gX_2 cI ad (wsc z 3 ((z.1 3) - ((1 : Int32))))) rfl (by decide) mt_54 rfl d_P_take_15 ?_
  obtain ⟨hb1, h⟩ := it_b h
  refine r_ald F X 14 0 (gX_14 cI ad (wsc z 3 ((z.1 3) - ((1 : Int32))))) rfl hb1 d_P_take_18 ?_
  rw [← Option.some.inj h]
  exact fin_i F X hr d_P_take_19
theorem hd_P_top : y_P_top.cls ≠ "java/lang/invoke/MethodHandle" ∧ y_P_top.cls ≠ "java/lang/invoke/VarHandle" ∧ (parseMethodDescriptor y_P_top.desc).map (fun d => d.parameters.length) = some 0 := ⟨by decide, by decide, by decide +kernel⟩
set_option maxRecDepth 100000 in
set_option maxHeartbeats 4000000 in
theorem c_P_top (l : Launch) (D : Gd) (cI : ClassId) (ad : Nat → Nat) (z : St) (q : Int32 × St) (h : f_P_top z = some q) : CI l y_P_top (.code y_P_top b_P_top 1 (some .int)) { frames := 0, cells := 0, slots := 0, locals := 0 } D [(cI, .int)] [.ref (ad 2)] (cX cI ad z) q.1 (cX cI ad q.2) 0 0 := by
  refine mk_i (by decide) (Nat.le_of_ble_eq_true rfl) ?_
  intro p e s m args below meth c A ls F X hr hl
  have hl : lv_has ls 1 [(0, .ref (ad 2))] := hl
  unfold f_P_top at h
  refine lv_aload_n F.x F.b d_P_top_0 rfl (lv_at hl 0 rfl) ?_
  refine r_get F X in_P 2 0 (gX_2 cI ad z) rfl (by decide) mt_53 rfl d_P_top_1 ?_
  refine lv_aload_n F.x F.b d_P_top_4 rfl (lv_at hl 0 rfl) ?_
  refine r_get F X in_P 2 1 (gX_2 cI ad z) rfl (by decide) mt_54 rfl d_P_top_5 ?_
  refine lv_iconst (v := (1 : Int32)) F.x F.b d_P_top_8 (by decide) ?_
  refine lv_isub F.x F.b d_P_top_9 ?_
  obtain ⟨hb1, h⟩ := it_b h
  refine r_ald F X 14 0 (gX_14 cI ad z) rfl hb1 d_P_top_10 ?_
  rw [← Option.some.inj h]
  exact fin_i F X hr d_P_top_11
theorem hd_S_write : y_S_write.cls ≠ "java/lang/invoke/MethodHandle" ∧ y_S_write.cls ≠ "java/lang/invoke/VarHandle" ∧ (parseMethodDescriptor y_S_write.desc).map (fun d => d.parameters.length) = some 4 := ⟨by decide, by decide, by decide +kernel⟩
set_option maxRecDepth 100000 in
set_option maxHeartbeats 4000000 in
theorem c_S_write (l : Launch) (D : Gd) (cI : ClassId) (ad : Nat → Nat) (z : St) (v1 v2 v3 v4 : Int32) (q : St) (h : f_S_write z v1 v2 v3 v4 = some q) : CV l y_S_write (.code y_S_write b_S_write 5 none) { frames := 0, cells := 0, slots := 0, locals := 0 } D [(cI, .int)] [.ref (ad 1), .int v1, .int v2, .int v3, .int v4] (cX cI ad z) (cX cI ad q) 0 0 := by
  refine mk_v (by decide) (Nat.le_of_ble_eq_true rfl) ?_
  intro p e s m args below meth c A ls F X hr hl
  have hl : lv_has ls 5 [(0, .ref (ad 1)), (1, .int (v1)), (2, .int (v2)), (3, .int (v3)), (4, .int (v4))] := hl
  unfold f_S_write at h
  refine lv_aload_n F.x F.b d_S_write_0 rfl (lv_at hl 0 rfl) ?_
  refine r_get F X in_S 1 0 (gX_1 cI ad z) rfl (by decide) mt_27 rfl d_S_write_1 ?_
  refine lv_iload_n F.x F.b d_S_write_4 rfl (lv_at hl 1 rfl) ?_
  refine lv_iload_n F.x F.b d_S_write_5 rfl (lv_at hl 2 rfl) ?_
  obtain ⟨hb3, h⟩ := it_b h
  refine r_ast F X 9 0 (gX_9 cI ad z) rfl hb3 d_S_write_6 (sX_9 cI ad z _ _) (fun H locs X => ?_)
  refine lv_aload_n F.x F.b d_S_write_7 rfl (lv_at hl 0 rfl) ?_
  refine r_get F X in_S 1 1 (gX_1 cI ad (war z 6 (v1).toNatClampNeg (v2))) rfl (by decide) mt_29 rfl d_S_write_8 ?_
  refine lv_iload_n F.x F.b d_S_write_11 rfl (lv_at hl 1 rfl) ?_
  refine lv_iload_n F.x F.b d_S_write_12 rfl (lv_at hl 3 rfl) ?_
  obtain ⟨hb2, h⟩ := it_b h
  refine r_ast F X 10 0 (gX_10 cI ad (war z 6 (v1).toNatClampNeg (v2))) rfl hb2 d_S_write_13 (sX_10 cI ad (war z 6 (v1).toNatClampNeg (v2)) _ _) (fun H locs X => ?_)
  refine lv_aload_n F.x F.b d_S_write_14 rfl (lv_at hl 0 rfl) ?_
  refine r_get F X in_S 1 2 (gX_1 cI ad (war (war z 6 (v1).toNatClampNeg (v2)) 7 (v1).toNatClampNeg (v3))) rfl (by decide) mt_31 rfl d_S_write_15 ?_
  refine lv_iload_n F.x F.b d_S_write_18 rfl (lv_at hl 1 rfl) ?_
  refine lv_iload F.x F.b d_S_write_19 (lv_at hl 4 rfl) ?_
  obtain ⟨hb1, h⟩ := it_b h
  refine r_ast F X 11 0 (gX_11 cI ad (war (war z 6 (v1).toNatClampNeg (v2)) 7 (v1).toNatClampNeg (v3))) rfl hb1 d_S_write_21 (sX_11 cI ad (war (war z 6 (v1).toNatClampNeg (v2)) 7 (v1).toNatClampNeg (v3)) _ _) (fun H locs X => ?_)
  rw [← Option.some.inj h]
  exact fin_v F X hr d_S_write_22
theorem hd_S_hasParts : y_S_hasParts.cls ≠ "java/lang/invoke/MethodHandle" ∧ y_S_hasParts.cls ≠ "java/lang/invoke/VarHandle" ∧ (parseMethodDescriptor y_S_hasParts.desc).map (fun d => d.parameters.length) = some 1 := ⟨by decide, by decide, by decide +kernel⟩
set_option maxRecDepth 100000 in
set_option maxHeartbeats 4000000 in
theorem c_S_hasParts (l : Launch) (D : Gd) (cI : ClassId) (ad : Nat → Nat) (z : St) (v1 : Int32) (q : Int32 × St) (h : f_S_hasParts z v1 = some q) : CI l y_S_hasParts (.code y_S_hasParts b_S_hasParts 2 (some .boolean)) { frames := 0, cells := 0, slots := 0, locals := 0 } D [(cI, .int)] [.ref (ad 1), .int v1] (cX cI ad z) q.1 (cX cI ad q.2) 0 0 := by
  refine mk_i (by decide) (Nat.le_of_ble_eq_true rfl) ?_
  intro p e s m args below meth c A ls F X hr hl
  have hl : lv_has ls 2 [(0, .ref (ad 1)), (1, .int (v1))] := hl
  unfold f_S_hasParts at h
  refine lv_aload_n F.x F.b d_S_hasParts_0 rfl (lv_at hl 0 rfl) ?_
  refine r_get F X in_S 1 0 (gX_1 cI ad z) rfl (by decide) mt_27 rfl d_S_hasParts_1 ?_
  refine lv_iload_n F.x F.b d_S_hasParts_4 rfl (lv_at hl 1 rfl) ?_
  obtain ⟨hb2, h⟩ := it_b h
  refine r_ald F X 9 0 (gX_9 cI ad z) rfl hb2 d_S_hasParts_5 ?_
  refine lv_iconst (v := (2 : Int32)) F.x F.b d_S_hasParts_6 (by decide) ?_
  refine lv_icmp_eq (tgt := 20) F.x F.b d_S_hasParts_7 (by decide) (fun hc => ?_) (fun hc => ?_)
  · have h := it_t hc h
    refine lv_iconst (v := (1 : Int32)) F.x F.b d_S_hasParts_20 (by decide) ?_
    refine lv_goto (tgt := 25) F.x F.b d_S_hasParts_21 (by decide) ?_
    rw [← Option.some.inj h]
    exact fin_z F X hr (Or.inr rfl) d_S_hasParts_25
  · have h := it_e hc h
    refine lv_aload_n F.x F.b d_S_hasParts_10 rfl (lv_at hl 0 rfl) ?_
    refine r_get F X in_S 1 0 (gX_1 cI ad z) rfl (by decide) mt_27 rfl d_S_hasParts_11 ?_
    refine lv_iload_n F.x F.b d_S_hasParts_14 rfl (lv_at hl 1 rfl) ?_
    obtain ⟨hb1, h⟩ := it_b h
    refine r_ald F X 9 0 (gX_9 cI ad z) rfl hb1 d_S_hasParts_15 ?_
    refine lv_iconst (v := (3 : Int32)) F.x F.b d_S_hasParts_16 (by decide) ?_
    refine lv_icmp_ne (tgt := 24) F.x F.b d_S_hasParts_17 (by decide) (fun hc => ?_) (fun hc => ?_)
    · have h := it_e hc h
      refine lv_iconst (v := (0 : Int32)) F.x F.b d_S_hasParts_24 (by decide) ?_
      rw [← Option.some.inj h]
      exact fin_z F X hr (Or.inl rfl) d_S_hasParts_25
    · have h := it_t hc h
      refine lv_iconst (v := (1 : Int32)) F.x F.b d_S_hasParts_20 (by decide) ?_
      refine lv_goto (tgt := 25) F.x F.b d_S_hasParts_21 (by decide) ?_
      rw [← Option.some.inj h]
      exact fin_z F X hr (Or.inr rfl) d_S_hasParts_25
theorem hd_S_slotOf : y_S_slotOf.cls ≠ "java/lang/invoke/MethodHandle" ∧ y_S_slotOf.cls ≠ "java/lang/invoke/VarHandle" ∧ (parseMethodDescriptor y_S_slotOf.desc).map (fun d => d.parameters.length) = some 1 := ⟨by decide, by decide, by decide +kernel⟩
set_option maxRecDepth 100000 in
set_option maxHeartbeats 4000000 in
theorem c_S_slotOf (l : Launch) (D : Gd) (cI : ClassId) (ad : Nat → Nat) (z : St) (v1 : Int32) (q : Int32 × St) (h : f_S_slotOf z v1 = some q) : CI l y_S_slotOf (.code y_S_slotOf b_S_slotOf 2 (some .int)) { frames := 0, cells := 0, slots := 0, locals := 0 } D [(cI, .int)] [.ref (ad 1), .int v1] (cX cI ad z) q.1 (cX cI ad q.2) 0 0 := by
  refine mk_i (by decide) (Nat.le_of_ble_eq_true rfl) ?_
  intro p e s m args below meth c A ls F X hr hl
  have hl : lv_has ls 2 [(0, .ref (ad 1)), (1, .int (v1))] := hl
  unfold f_S_slotOf at h
  refine lv_aload_n F.x F.b d_S_slotOf_0 rfl (lv_at hl 0 rfl) ?_
  refine r_get F X in_S 1 1 (gX_1 cI ad z) rfl (by decide) mt_29 rfl d_S_slotOf_1 ?_
  refine lv_iload_n F.x F.b d_S_slotOf_4 rfl (lv_at hl 1 rfl) ?_
  obtain ⟨hb3, h⟩ := it_b h
  refine r_ald F X 10 0 (gX_10 cI ad z) rfl hb3 d_S_slotOf_5 ?_
  refine lv_bipush (v := (31 : Int32)) F.x F.b d_S_slotOf_6 (by decide) ?_
  refine lv_imul F.x F.b d_S_slotOf_8 ?_
  refine lv_aload_n F.x F.b d_S_slotOf_9 rfl (lv_at hl 0 rfl) ?_
  refine r_get F X in_S 1 2 (gX_1 cI ad z) rfl (by decide) mt_31 rfl d_S_slotOf_10 ?_
  refine lv_iload_n F.x F.b d_S_slotOf_13 rfl (lv_at hl 1 rfl) ?_
  obtain ⟨hb2, h⟩ := it_b h
  refine r_ald F X 11 0 (gX_11 cI ad z) rfl hb2 d_S_slotOf_14 ?_
  refine lv_iadd F.x F.b d_S_slotOf_15 ?_
  refine lv_iconst (v := (2 : Int32)) F.x F.b d_S_slotOf_16 (by decide) ?_
  refine lv_imul F.x F.b d_S_slotOf_17 ?_
  refine lv_aload_n F.x F.b d_S_slotOf_18 rfl (lv_at hl 0 rfl) ?_
  refine r_get F X in_S 1 0 (gX_1 cI ad z) rfl (by decide) mt_27 rfl d_S_slotOf_19 ?_
  refine lv_iload_n F.x F.b d_S_slotOf_22 rfl (lv_at hl 1 rfl) ?_
  obtain ⟨hb1, h⟩ := it_b h
  refine r_ald F X 9 0 (gX_9 cI ad z) rfl hb1 d_S_slotOf_23 ?_
  refine lv_iadd F.x F.b d_S_slotOf_24 ?_
  refine lv_sipush (v := (251 : Int32)) F.x F.b d_S_slotOf_25 (by decide) ?_
  refine lv_irem F.x F.b d_S_slotOf_28 (by decide) ?_
  rw [← Option.some.inj h]
  exact fin_i F X hr d_S_slotOf_29
theorem hd_S_equalShapes : y_S_equalShapes.cls ≠ "java/lang/invoke/MethodHandle" ∧ y_S_equalShapes.cls ≠ "java/lang/invoke/VarHandle" ∧ (parseMethodDescriptor y_S_equalShapes.desc).map (fun d => d.parameters.length) = some 2 := ⟨by decide, by decide, by decide +kernel⟩
set_option maxRecDepth 100000 in
set_option maxHeartbeats 4000000 in
theorem c_S_equalShapes (l : Launch) (D : Gd) (cI : ClassId) (ad : Nat → Nat) (z : St) (v1 v2 : Int32) (q : Int32 × St) (h : f_S_equalShapes z v1 v2 = some q) : CI l y_S_equalShapes (.code y_S_equalShapes b_S_equalShapes 3 (some .boolean)) { frames := 0, cells := 0, slots := 0, locals := 0 } D [(cI, .int)] [.ref (ad 1), .int v1, .int v2] (cX cI ad z) q.1 (cX cI ad q.2) 0 0 := by
  refine mk_i (by decide) (Nat.le_of_ble_eq_true rfl) ?_
  intro p e s m args below meth c A ls F X hr hl
  have hl : lv_has ls 3 [(0, .ref (ad 1)), (1, .int (v1)), (2, .int (v2))] := hl
  unfold f_S_equalShapes at h
  refine lv_aload_n F.x F.b d_S_equalShapes_0 rfl (lv_at hl 0 rfl) ?_
  refine r_get F X in_S 1 0 (gX_1 cI ad z) rfl (by decide) mt_27 rfl d_S_equalShapes_1 ?_
  refine lv_iload_n F.x F.b d_S_equalShapes_4 rfl (lv_at hl 1 rfl) ?_
  obtain ⟨hb6, h⟩ := it_b h
  refine r_ald F X 9 0 (gX_9 cI ad z) rfl hb6 d_S_equalShapes_5 ?_
  refine lv_aload_n F.x F.b d_S_equalShapes_6 rfl (lv_at hl 0 rfl) ?_
  refine r_get F X in_S 1 0 (gX_1 cI ad z) rfl (by decide) mt_27 rfl d_S_equalShapes_7 ?_
  refine lv_iload_n F.x F.b d_S_equalShapes_10 rfl (lv_at hl 2 rfl) ?_
  obtain ⟨hb5, h⟩ := it_b h
  refine r_ald F X 9 0 (gX_9 cI ad z) rfl hb5 d_S_equalShapes_11 ?_
  refine lv_icmp_ne (tgt := 49) F.x F.b d_S_equalShapes_12 (by decide) (fun hc => ?_) (fun hc => ?_)
  · have h := it_e hc h
    refine lv_iconst (v := (0 : Int32)) F.x F.b d_S_equalShapes_49 (by decide) ?_
    rw [← Option.some.inj h]
    exact fin_z F X hr (Or.inl rfl) d_S_equalShapes_50
  · have h := it_t hc h
    refine lv_aload_n F.x F.b d_S_equalShapes_15 rfl (lv_at hl 0 rfl) ?_
    refine r_get F X in_S 1 1 (gX_1 cI ad z) rfl (by decide) mt_29 rfl d_S_equalShapes_16 ?_
    refine lv_iload_n F.x F.b d_S_equalShapes_19 rfl (lv_at hl 1 rfl) ?_
    obtain ⟨hb4, h⟩ := it_b h
    refine r_ald F X 10 0 (gX_10 cI ad z) rfl hb4 d_S_equalShapes_20 ?_
    refine lv_aload_n F.x F.b d_S_equalShapes_21 rfl (lv_at hl 0 rfl) ?_
    refine r_get F X in_S 1 1 (gX_1 cI ad z) rfl (by decide) mt_29 rfl d_S_equalShapes_22 ?_
    refine lv_iload_n F.x F.b d_S_equalShapes_25 rfl (lv_at hl 2 rfl) ?_
    obtain ⟨hb3, h⟩ := it_b h
    refine r_ald F X 10 0 (gX_10 cI ad z) rfl hb3 d_S_equalShapes_26 ?_
    refine lv_icmp_ne (tgt := 49) F.x F.b d_S_equalShapes_27 (by decide) (fun hc => ?_) (fun hc => ?_)
    · have h := it_e hc h
      refine lv_iconst (v := (0 : Int32)) F.x F.b d_S_equalShapes_49 (by decide) ?_
      rw [← Option.some.inj h]
      exact fin_z F X hr (Or.inl rfl) d_S_equalShapes_50
    · have h := it_t hc h
      refine lv_aload_n F.x F.b d_S_equalShapes_30 rfl (lv_at hl 0 rfl) ?_
      refine r_get F X in_S 1 2 (gX_1 cI ad z) rfl (by decide) mt_31 rfl d_S_equalShapes_31 ?_
      refine lv_iload_n F.x F.b d_S_equalShapes_34 rfl (lv_at hl 1 rfl) ?_
      obtain ⟨hb2, h⟩ := it_b h
      refine r_ald F X 11 0 (gX_11 cI ad z) rfl hb2 d_S_equalShapes_35 ?_
      refine lv_aload_n F.x F.b d_S_equalShapes_36 rfl (lv_at hl 0 rfl) ?_
      refine r_get F X in_S 1 2 (gX_1 cI ad z) rfl (by decide) mt_31 rfl d_S_equalShapes_37 ?_
      refine lv_iload_n F.x F.b d_S_equalShapes_40 rfl (lv_at hl 2 rfl) ?_
      obtain ⟨hb1, h⟩ := it_b h
      refine r_ald F X 11 0 (gX_11 cI ad z) rfl hb1 d_S_equalShapes_41 ?_
      refine lv_icmp_ne (tgt := 49) F.x F.b d_S_equalShapes_42 (by decide) (fun hc => ?_) (fun hc => ?_)
      · have h := it_e hc h
        refine lv_iconst (v := (0 : Int32)) F.x F.b d_S_equalShapes_49 (by decide) ?_
        rw [← Option.some.inj h]
        exact fin_z F X hr (Or.inl rfl) d_S_equalShapes_50
      · have h := it_t hc h
        refine lv_iconst (v := (1 : Int32)) F.x F.b d_S_equalShapes_45 (by decide) ?_
        refine lv_goto (tgt := 50) F.x F.b d_S_equalShapes_46 (by decide) ?_
        rw [← Option.some.inj h]
        exact fin_z F X hr (Or.inr rfl) d_S_equalShapes_50
theorem hd_S_enter : y_S_enter.cls ≠ "java/lang/invoke/MethodHandle" ∧ y_S_enter.cls ≠ "java/lang/invoke/VarHandle" ∧ (parseMethodDescriptor y_S_enter.desc).map (fun d => d.parameters.length) = some 1 := ⟨by decide, by decide, by decide +kernel⟩
set_option maxRecDepth 100000 in
set_option maxHeartbeats 4000000 in
theorem c_S_enter (l : Launch) (D : Gd) (cI : ClassId) (ad : Nat → Nat) (z : St) (v1 : Int32) (q : St) (h : f_S_enter z v1 = some q) : CV l y_S_enter (.code y_S_enter b_S_enter 3 none) { frames := 1, cells := 0, slots := 0, locals := 21 } D [(cI, .int)] [.ref (ad 1), .int v1] (cX cI ad z) (cX cI ad q) 0 0 := by
  refine mk_v (by decide) (Nat.le_of_ble_eq_true rfl) ?_
  intro p e s m args below meth c A ls F X hr hl
  have hl : lv_has ls 3 [(0, .ref (ad 1)), (1, .int (v1))] := hl
  unfold f_S_enter at h
  refine lv_aload_n F.x F.b d_S_enter_0 rfl (lv_at hl 0 rfl) ?_
  refine lv_iload_n F.x F.b d_S_enter_1 rfl (lv_at hl 1 rfl) ?_
  obtain ⟨q1, hq1, h⟩ := it_c h
  refine r_vi F X hl.1 (c_S_slotOf l D cI ad z (v1) q1 hq1) (gX_1 cI ad z) rfl mt_235 mt_237 ms_10 mt_2 mt_238 ⟨rfl, hd_S_slotOf⟩ ⟨by decide, by decide⟩ ⟨rfl, rfl⟩ ⟨Nat.zero_le _, Nat.zero_le _⟩ rfl (Nat.le_of_ble_eq_true rfl) d_S_enter_2 rfl (fun H locs X => ?_)
  refine lv_istore_n F.x F.b d_S_enter_5 rfl hl (by decide) (lv' := [(2, .int (q1.1)), (0, .ref (ad 1)), (1, .int (v1))]) rfl (fun ls hl => ?_)
  refine lv_aload_n F.x F.b d_S_enter_6 rfl (lv_at hl 1 rfl) ?_
  refine r_get F X in_S 1 4 (gX_1 cI ad q1.2) rfl (by decide) mt_34 rfl d_S_enter_7 ?_
  refine lv_iload_n F.x F.b d_S_enter_10 rfl (lv_at hl 2 rfl) ?_
  refine lv_aload_n F.x F.b d_S_enter_11 rfl (lv_at hl 1 rfl) ?_
  refine r_get F X in_S 1 3 (gX_1 cI ad q1.2) rfl (by decide) mt_33 rfl d_S_enter_12 ?_
  refine lv_iload_n F.x F.b d_S_enter_15 rfl (lv_at hl 0 rfl) ?_
  obtain ⟨hb4, h⟩ := it_b h
  refine r_ald F X 12 0 (gX_12 cI ad q1.2) rfl hb4 d_S_enter_16 ?_
  obtain ⟨hb3, h⟩ := it_b h
  refine r_ast F X 13 0 (gX_13 cI ad q1.2) rfl hb3 d_S_enter_17 (sX_13 cI ad q1.2 _ _) (fun H locs X => ?_)
  refine lv_aload_n F.x F.b d_S_enter_18 rfl (lv_at hl 1 rfl) ?_
  refine r_get F X in_S 1 3 (gX_1 cI ad (war q1.2 10 (v1).toNatClampNeg (q1.2.2 9 (q1.1).toNatClampNeg))) rfl (by decide) mt_33 rfl d_S_enter_19 ?_
  refine lv_iload_n F.x F.b d_S_enter_22 rfl (lv_at hl 0 rfl) ?_
  refine lv_iload_n F.x F.b d_S_enter_23 rfl (lv_at hl 2 rfl) ?_
  obtain ⟨hb2, h⟩ := it_b h
  refine r_ast F X 12 0 (gX_12 cI ad (war q1.2 10 (v1).toNatClampNeg (q1.2.2 9 (q1.1).toNatClampNeg))) rfl hb2 d_S_enter_24 (sX_12 cI ad (war q1.2 10 (v1).toNatClampNeg (q1.2.2 9 (q1.1).toNatClampNeg)) _ _) (fun H locs X => ?_)
  rw [← Option.some.inj h]
  exact fin_v F X hr d_S_enter_25
theorem hd_S_twinOf : y_S_twinOf.cls ≠ "java/lang/invoke/MethodHandle" ∧ y_S_twinOf.cls ≠ "java/lang/invoke/VarHandle" ∧ (parseMethodDescriptor y_S_twinOf.desc).map (fun d => d.parameters.length) = some 1 := ⟨by decide, by decide, by decide +kernel⟩
set_option maxRecDepth 100000 in
set_option maxHeartbeats 4000000 in
theorem c_S_twinOf (l : Launch) (D : Gd) (cI : ClassId) (ad : Nat → Nat) (z : St) (v1 : Int32) (q : Int32 × St) (h : f_S_twinOf z v1 = some q) : CI l y_S_twinOf (.code y_S_twinOf b_S_twinOf 4 (some .int)) { frames := 1, cells := 0, slots := 0, locals := 22 } D [(cI, .int)] [.ref (ad 1), .int v1] (cX cI ad z) q.1 (cX cI ad q.2) 0 0 := by
  refine mk_i (by decide) (Nat.le_of_ble_eq_true rfl) ?_
  intro p e s m args below meth c A ls F X hr hl
  have hl : lv_has ls 4 [(0, .ref (ad 1)), (1, .int (v1))] := hl
  have L13 : ∀ (n : Nat) (z : St) (v3 : Int32) (v2 : Int32) (v1 : Int32) (H : Heap) (locs : List Loc) (ls : Array Slot), Wd D A s (cX cI ad z) H locs → lv_has ls 4 [(3, .int (v3)), (2, .int (v2)), (0, .ref (ad 1)), (1, .int (v1))] → f_S_twinOf_l13 n z v3 v2 v1 = some q → W p l e { frames := 1, cells := 0, slots := 0, locals := 22 } s m args below meth c H locs 0 0 (MQ below (va_Qi (fun (r' : Int32) (u : va_W) => r' = q.1 ∧ u = cX cI ad q.2) (Po D [(cI, .int)] A) A) args s 0 0 A) (F0 m 13 ls []) := by
    intro n
    induction n with
    | zero => intro z v3 v2 v1 H locs ls X hl h; cases h
    | succ n ih =>
      intro z v3 v2 v1 H locs ls X hl h
      rw [f_S_twinOf_l13] at h
      refine lv_iload_n F.x F.b d_S_twinOf_13 rfl (lv_at hl 0 rfl) ?_
      refine lv_sipush (v := (1000 : Int32)) F.x F.b d_S_twinOf_14 (by decide) ?_
      refine lv_icmp_ge (tgt := 49) F.x F.b d_S_twinOf_17 (by decide) (fun hc => ?_) (fun hc => ?_)
      · have h := it_t hc h
        refine lv_iconst (v := (-1 : Int32)) F.x F.b d_S_twinOf_49 (by decide) ?_
        rw [← Option.some.inj h]
        exact fin_i F X hr d_S_twinOf_50
      · have h := it_e hc h
        refine lv_iload_n F.x F.b d_S_twinOf_20 rfl (lv_at hl 1 rfl) ?_
        refine lv_iconst (v := (-1 : Int32)) F.x F.b d_S_twinOf_21 (by decide) ?_
        refine lv_icmp_eq (tgt := 49) F.x F.b d_S_twinOf_22 (by decide) (fun hc => ?_) (fun hc => ?_)
        · have h := it_t hc h
          refine lv_iconst (v := (-1 : Int32)) F.x F.b d_S_twinOf_49 (by decide) ?_
          rw [← Option.some.inj h]
          exact fin_i F X hr d_S_twinOf_50
        · have h := it_e hc h
          refine lv_aload_n F.x F.b d_S_twinOf_25 rfl (lv_at hl 2 rfl) ?_
          refine lv_iload_n F.x F.b d_S_twinOf_26 rfl (lv_at hl 1 rfl) ?_
          refine lv_iload_n F.x F.b d_S_twinOf_27 rfl (lv_at hl 3 rfl) ?_
          obtain ⟨q2, hq2, h⟩ := it_c h
          refine r_vi F X hl.1 (c_S_equalShapes l D cI ad z (v2) (v1) q2 hq2) (gX_1 cI ad z) rfl mt_239 mt_241 ms_11 mt_2 mt_242 ⟨rfl, hd_S_equalShapes⟩ ⟨by decide, by decide⟩ ⟨rfl, rfl⟩ ⟨Nat.zero_le _, Nat.zero_le _⟩ rfl (Nat.le_of_ble_eq_true rfl) d_S_twinOf_28 rfl (fun H locs X => ?_)
          refine lv_if_eq (tgt := 36) F.x F.b d_S_twinOf_31 (by decide) (fun hc => ?_) (fun hc => ?_)
          · have h := it_t hc h
            refine lv_aload_n F.x F.b d_S_twinOf_36 rfl (lv_at hl 2 rfl) ?_
            refine r_get F X in_S 1 4 (gX_1 cI ad q2.2) rfl (by decide) mt_34 rfl d_S_twinOf_37 ?_
            refine lv_iload_n F.x F.b d_S_twinOf_40 rfl (lv_at hl 1 rfl) ?_
            obtain ⟨hb3, h⟩ := it_b h
            refine r_ald F X 13 0 (gX_13 cI ad q2.2) rfl hb3 d_S_twinOf_41 ?_
            refine lv_istore_n F.x F.b d_S_twinOf_42 rfl hl (by decide) (lv' := [(2, .int (q2.2.2 10 (v2).toNatClampNeg)), (3, .int (v3)), (0, .ref (ad 1)), (1, .int (v1))]) rfl (fun ls hl => ?_)
            refine lv_iinc (k := 1) (v := (v3) + 1) F.x F.b d_S_twinOf_43 hl rfl (ii_1 _) (by decide) (lv' := [(3, .int ((v3) + 1)), (2, .int (q2.2.2 10 (v2).toNatClampNeg)), (0, .ref (ad 1)), (1, .int (v1))]) rfl (fun ls hl => ?_)
            refine lv_goto (tgt := 13) F.x F.b d_S_twinOf_46 (by decide) ?_
            exact ih q2.2 ((v3) + 1) (q2.2.2 10 (v2).toNatClampNeg) (v1) _ _ _ X (lv_sub hl [0, 1, 2, 3] rfl) h
          · have h := it_e hc h
            refine lv_iload_n F.x F.b d_S_twinOf_34 rfl (lv_at hl 1 rfl) ?_
            rw [← Option.some.inj h]
            exact fin_i F X hr d_S_twinOf_35
  unfold f_S_twinOf at h
  refine lv_aload_n F.x F.b d_S_twinOf_0 rfl (lv_at hl 0 rfl) ?_
  refine r_get F X in_S 1 3 (gX_1 cI ad z) rfl (by decide) mt_33 rfl d_S_twinOf_1 ?_
  refine lv_aload_n F.x F.b d_S_twinOf_4 rfl (lv_at hl 0 rfl) ?_
  refine lv_iload_n F.x F.b d_S_twinOf_5 rfl (lv_at hl 1 rfl) ?_
  obtain ⟨q1, hq1, h⟩ := it_c h
  refine r_vi F X hl.1 (c_S_slotOf l D cI ad z (v1) q1 hq1) (gX_1 cI ad z) rfl mt_235 mt_237 ms_10 mt_2 mt_238 ⟨rfl, hd_S_slotOf⟩ ⟨by decide, by decide⟩ ⟨rfl, rfl⟩ ⟨Nat.zero_le _, Nat.zero_le _⟩ rfl (Nat.le_of_ble_eq_true rfl) d_S_twinOf_6 rfl (fun H locs X => ?_)
  obtain ⟨hb4, h⟩ := it_b h
  refine r_ald F X 12 0 (gX_12 cI ad q1.2) rfl hb4 d_S_twinOf_9 ?_
  refine lv_istore_n F.x F.b d_S_twinOf_10 rfl hl (by decide) (lv' := [(2, .int (q1.2.2 9 (q1.1).toNatClampNeg)), (0, .ref (ad 1)), (1, .int (v1))]) rfl (fun ls hl => ?_)
  refine lv_iconst (v := (0 : Int32)) F.x F.b d_S_twinOf_11 (by decide) ?_
  refine lv_istore_n F.x F.b d_S_twinOf_12 rfl hl (by decide) (lv' := [(3, .int ((0 : Int32))), (2, .int (q1.2.2 9 (q1.1).toNatClampNeg)), (0, .ref (ad 1)), (1, .int (v1))]) rfl (fun ls hl => ?_)
  exact L13 FU q1.2 ((0 : Int32)) (q1.2.2 9 (q1.1).toNatClampNeg) (v1) _ _ _ X (lv_sub hl [0, 1, 2, 3] rfl) h
theorem hd_S_forgetWholes : y_S_forgetWholes.cls ≠ "java/lang/invoke/MethodHandle" ∧ y_S_forgetWholes.cls ≠ "java/lang/invoke/VarHandle" ∧ (parseMethodDescriptor y_S_forgetWholes.desc).map (fun d => d.parameters.length) = some 0 := ⟨by decide, by decide, by decide +kernel⟩
set_option maxRecDepth 100000 in
set_option maxHeartbeats 4000000 in
theorem c_S_forgetWholes (l : Launch) (D : Gd) (cI : ClassId) (ad : Nat → Nat) (z : St) (q : St) (h : f_S_forgetWholes z = some q) : CV l y_S_forgetWholes (.code y_S_forgetWholes b_S_forgetWholes 1 none) { frames := 1, cells := 0, slots := 0, locals := 23 } D [(cI, .int)] [.ref (ad 1)] (cX cI ad z) (cX cI ad q) 0 0 := by
  refine mk_v (by decide) (Nat.le_of_ble_eq_true rfl) ?_
  intro p e s m args below meth c A ls F X hr hl
  have hl : lv_has ls 1 [(0, .ref (ad 1))] := hl
  unfold f_S_forgetWholes at h
  refine lv_aload_n F.x F.b d_S_forgetWholes_0 rfl (lv_at hl 0 rfl) ?_
  refine r_get F X in_S 1 3 (gX_1 cI ad z) rfl (by decide) mt_33 rfl d_S_forgetWholes_1 ?_
  refine lv_iconst (v := (-1 : Int32)) F.x F.b d_S_forgetWholes_4 (by decide) ?_
  obtain ⟨q1, hq1, h⟩ := it_c h
  refine r_sv F X hl.1 (c_J_fill2 l D _ 12 q1 (gX_12 cI ad z) rfl hq1) mt_69 mt_70 mt_4 mt_71 hd_J_fill2 ⟨by decide, by decide⟩ ⟨rfl, rfl⟩ ⟨Nat.zero_le _, Nat.zero_le _⟩ rfl (Nat.le_of_ble_eq_true rfl) d_S_forgetWholes_5 rfl (fun H locs X => ?_)
  have X : Wd D A s (cX cI ad (wal z 9 q1)) H locs := (aX_12 cI ad z q1) ▸ X
  rw [← Option.some.inj h]
  exact fin_v F X hr d_S_forgetWholes_8
