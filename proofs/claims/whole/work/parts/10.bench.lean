theorem hd_X_addLeader : y_X_addLeader.cls ≠ "java/lang/invoke/MethodHandle" ∧ y_X_addLeader.cls ≠ "java/lang/invoke/VarHandle" ∧ (parseMethodDescriptor y_X_addLeader.desc).map (fun d => d.parameters.length) = some 1 := ⟨by decide, by decide, by decide +kernel⟩
set_option maxRecDepth 100000 in
set_option maxHeartbeats 4000000 in
theorem c_X_addLeader (l : Launch) (D : Gd) (cI : ClassId) (ad : Nat → Nat) (z : St) (v1 : Int32) (q : St) (h : f_X_addLeader z v1 = some q) : CV l y_X_addLeader (.code y_X_addLeader b_X_addLeader 2 none) { frames := 0, cells := 0, slots := 0, locals := 0 } D [(cI, .int)] [.ref (ad 0), .int v1] (cX cI ad z) (cX cI ad q) 0 0 := by
  refine mk_v (by decide) (Nat.le_of_ble_eq_true rfl) ?_
  intro p e s m args below meth c A ls F X hr hl
  have hl : lv_has ls 2 [(0, .ref (ad 0)), (1, .int (v1))] := hl
  unfold f_X_addLeader at h
  refine lv_aload_n F.x F.b d_X_addLeader_0 rfl (lv_at hl 0 rfl) ?_
  refine r_get F X in_X 0 2 (gX_0 cI ad z) rfl (by decide) mt_82 rfl d_X_addLeader_1 ?_
  refine lv_iload_n F.x F.b d_X_addLeader_4 rfl (lv_at hl 1 rfl) ?_
  refine lv_iload_n F.x F.b d_X_addLeader_5 rfl (lv_at hl 1 rfl) ?_
  obtain ⟨hb3, h⟩ := it_b h
  refine r_ast F X 3 0 (gX_3 cI ad z) rfl hb3 d_X_addLeader_6 (sX_3 cI ad z _ _) (fun H locs X => ?_)
  refine lv_aload_n F.x F.b d_X_addLeader_7 rfl (lv_at hl 0 rfl) ?_
  refine r_get F X in_X 0 3 (gX_0 cI ad (war z 0 (v1).toNatClampNeg (v1))) rfl (by decide) mt_83 rfl d_X_addLeader_8 ?_
  refine lv_iload_n F.x F.b d_X_addLeader_11 rfl (lv_at hl 1 rfl) ?_
  refine lv_iload_n F.x F.b d_X_addLeader_12 rfl (lv_at hl 1 rfl) ?_
  obtain ⟨hb2, h⟩ := it_b h
  refine r_ast F X 4 0 (gX_4 cI ad (war z 0 (v1).toNatClampNeg (v1))) rfl hb2 d_X_addLeader_13 (sX_4 cI ad (war z 0 (v1).toNatClampNeg (v1)) _ _) (fun H locs X => ?_)
  refine lv_aload_n F.x F.b d_X_addLeader_14 rfl (lv_at hl 0 rfl) ?_
  refine r_get F X in_X 0 4 (gX_0 cI ad (war (war z 0 (v1).toNatClampNeg (v1)) 1 (v1).toNatClampNeg (v1))) rfl (by decide) mt_84 rfl d_X_addLeader_15 ?_
  refine lv_aload_n F.x F.b d_X_addLeader_18 rfl (lv_at hl 0 rfl) ?_
  refine r_get F X in_X 0 5 (gX_0 cI ad (war (war z 0 (v1).toNatClampNeg (v1)) 1 (v1).toNatClampNeg (v1))) rfl (by decide) mt_85 rfl d_X_addLeader_19 ?_
  refine lv_iload_n F.x F.b d_X_addLeader_22 rfl (lv_at hl 1 rfl) ?_
  obtain ⟨hb1, h⟩ := it_b h
  refine r_ast F X 5 0 (gX_5 cI ad (war (war z 0 (v1).toNatClampNeg (v1)) 1 (v1).toNatClampNeg (v1))) rfl hb1 d_X_addLeader_23 (sX_5 cI ad (war (war z 0 (v1).toNatClampNeg (v1)) 1 (v1).toNatClampNeg (v1)) _ _) (fun H locs X => ?_)
  refine lv_aload_n F.x F.b d_X_addLeader_24 rfl (lv_at hl 0 rfl) ?_
  refine lv_dup F.x F.b d_X_addLeader_25 rfl ?_
  refine r_get F X in_X 0 5 (gX_0 cI ad (war (war (war z 0 (v1).toNatClampNeg (v1)) 1 (v1).toNatClampNeg (v1)) 2 ((war (war z 0 (v1).toNatClampNeg (v1)) 1 (v1).toNatClampNeg (v1)).1 1).toNatClampNeg (v1))) rfl (by decide) mt_85 rfl d_X_addLeader_26 ?_
  refine lv_iconst (v := (1 : Int32)) F.x F.b d_X_addLeader_29 (by decide) ?_
  refine lv_iadd F.x F.b d_X_addLeader_30 ?_
  refine r_put F X in_X t_X t_X_ok n_X 0 5 (gX_0 cI ad (war (war (war z 0 (v1).toNatClampNeg (v1)) 1 (v1).toNatClampNeg (v1)) 2 ((war (war z 0 (v1).toNatClampNeg (v1)) 1 (v1).toNatClampNeg (v1)).1 1).toNatClampNeg (v1))) rfl (by decide) mt_85 rfl (t_X_ok 5 (by decide)) rfl rfl (Nat.le_of_ble_eq_true rfl) d_X_addLeader_31 (pX_1 cI ad (war (war (war z 0 (v1).toNatClampNeg (v1)) 1 (v1).toNatClampNeg (v1)) 2 ((war (war z 0 (v1).toNatClampNeg (v1)) 1 (v1).toNatClampNeg (v1)).1 1).toNatClampNeg (v1)) _) (fun H locs X => ?_)
  rw [← Option.some.inj h]
  exact fin_v F X hr d_X_addLeader_34
theorem hd_X_begin : y_X_begin.cls ≠ "java/lang/invoke/MethodHandle" ∧ y_X_begin.cls ≠ "java/lang/invoke/VarHandle" ∧ (parseMethodDescriptor y_X_begin.desc).map (fun d => d.parameters.length) = some 0 := ⟨by decide, by decide, by decide +kernel⟩
set_option maxRecDepth 100000 in
set_option maxHeartbeats 4000000 in
theorem c_X_begin (l : Launch) (D : Gd) (cI : ClassId) (ad : Nat → Nat) (z : St) (q : St) (h : f_X_begin z = some q) : CV l y_X_begin (.code y_X_begin b_X_begin 1 none) { frames := 2, cells := 0, slots := 0, locals := 43 } D [(cI, .int)] [.ref (ad 0)] (cX cI ad z) (cX cI ad q) 0 0 := by
  refine mk_v (by decide) (Nat.le_of_ble_eq_true rfl) ?_
  intro p e s m args below meth c A ls F X hr hl
  have hl : lv_has ls 1 [(0, .ref (ad 0))] := hl
  unfold f_X_begin at h
  refine lv_aload_n F.x F.b d_X_begin_0 rfl (lv_at hl 0 rfl) ?_
  refine lv_iconst (v := (1 : Int32)) F.x F.b d_X_begin_1 (by decide) ?_
  refine r_put F X in_X t_X t_X_ok n_X 0 0 (gX_0 cI ad z) rfl (by decide) mt_80 rfl (t_X_ok 0 (by decide)) rfl rfl (Nat.le_of_ble_eq_true rfl) d_X_begin_2 (pX_0 cI ad z _) (fun H locs X => ?_)
  refine lv_aload_n F.x F.b d_X_begin_5 rfl (lv_at hl 0 rfl) ?_
  refine lv_iconst (v := (0 : Int32)) F.x F.b d_X_begin_6 (by decide) ?_
  refine r_put F X in_X t_X t_X_ok n_X 0 5 (gX_0 cI ad (wsc z 0 ((1 : Int32)))) rfl (by decide) mt_85 rfl (t_X_ok 5 (by decide)) rfl rfl (Nat.le_of_ble_eq_true rfl) d_X_begin_7 (pX_1 cI ad (wsc z 0 ((1 : Int32))) _) (fun H locs X => ?_)
  refine lv_aload_n F.x F.b d_X_begin_10 rfl (lv_at hl 0 rfl) ?_
  refine r_get F X in_X 0 1 (gX_0 cI ad (wsc (wsc z 0 ((1 : Int32))) 1 ((0 : Int32)))) rfl (by decide) mt_81 rfl d_X_begin_11 ?_
  obtain ⟨q1, hq1, h⟩ := it_c h
  refine r_nv F X hl.1 (c_S_forgetWholes l D cI ad (wsc (wsc z 0 ((1 : Int32))) 1 ((0 : Int32))) q1 hq1) (gX_1 cI ad (wsc (wsc z 0 ((1 : Int32))) 1 ((0 : Int32)))) rfl (List.mem_of_getElem? (i := 6) rfl) mt_67 ms_1 mt_2 mt_68 hd_S_forgetWholes ⟨by decide, by decide⟩ ⟨rfl, rfl⟩ ⟨Nat.zero_le _, Nat.zero_le _⟩ rfl (Nat.le_of_ble_eq_true rfl) d_X_begin_14 rfl (fun H locs X => ?_)
  refine lv_aload_n F.x F.b d_X_begin_17 rfl (lv_at hl 0 rfl) ?_
  refine r_get F X in_X 0 1 (gX_0 cI ad q1) rfl (by decide) mt_81 rfl d_X_begin_18 ?_
  refine lv_iconst (v := (0 : Int32)) F.x F.b d_X_begin_21 (by decide) ?_
  refine lv_iconst (v := (1 : Int32)) F.x F.b d_X_begin_22 (by decide) ?_
  refine lv_iconst (v := (-1 : Int32)) F.x F.b d_X_begin_23 (by decide) ?_
  refine lv_iconst (v := (-1 : Int32)) F.x F.b d_X_begin_24 (by decide) ?_
  obtain ⟨q2, hq2, h⟩ := it_c h
  refine r_nv F X hl.1 (c_S_write l D cI ad q1 ((0 : Int32)) ((1 : Int32)) ((-1 : Int32)) ((-1 : Int32)) q2 hq2) (gX_1 cI ad q1) rfl (List.mem_of_getElem? (i := 7) rfl) mt_74 ms_2 mt_2 mt_75 hd_S_write ⟨by decide, by decide⟩ ⟨rfl, rfl⟩ ⟨Nat.zero_le _, Nat.zero_le _⟩ rfl (Nat.le_of_ble_eq_true rfl) d_X_begin_25 rfl (fun H locs X => ?_)
  refine lv_aload_n F.x F.b d_X_begin_28 rfl (lv_at hl 0 rfl) ?_
  refine lv_iconst (v := (0 : Int32)) F.x F.b d_X_begin_29 (by decide) ?_
  obtain ⟨q3, hq3, h⟩ := it_c h
  refine r_vv F X hl.1 (c_X_addLeader l D cI ad q2 ((0 : Int32)) q3 hq3) (gX_0 cI ad q2) rfl mt_76 mt_78 ms_3 mt_1 mt_79 ⟨rfl, hd_X_addLeader⟩ ⟨by decide, by decide⟩ ⟨rfl, rfl⟩ ⟨Nat.zero_le _, Nat.zero_le _⟩ rfl (Nat.le_of_ble_eq_true rfl) d_X_begin_30 rfl (fun H locs X => ?_)
  rw [← Option.some.inj h]
  exact fin_v F X hr d_X_begin_33
theorem hd_X_clear : y_X_clear.cls ≠ "java/lang/invoke/MethodHandle" ∧ y_X_clear.cls ≠ "java/lang/invoke/VarHandle" ∧ (parseMethodDescriptor y_X_clear.desc).map (fun d => d.parameters.length) = some 0 := ⟨by decide, by decide, by decide +kernel⟩
set_option maxRecDepth 100000 in
set_option maxHeartbeats 4000000 in
theorem c_X_clear (l : Launch) (D : Gd) (cI : ClassId) (ad : Nat → Nat) (z : St) (q : Int32 × St) (h : f_X_clear z = some q) : CI l y_X_clear (.code y_X_clear b_X_clear 2 (some .int)) { frames := 3, cells := 0, slots := 0, locals := 63 } D [(cI, .int)] [.ref (ad 0)] (cX cI ad z) q.1 (cX cI ad q.2) 0 0 := by
  refine mk_i (by decide) (Nat.le_of_ble_eq_true rfl) ?_
  intro p e s m args below meth c A ls F X hr hl
  have hl : lv_has ls 2 [(0, .ref (ad 0))] := hl
  unfold f_X_clear at h
  refine lv_aload_n F.x F.b d_X_clear_0 rfl (lv_at hl 0 rfl) ?_
  refine r_get F X in_X 0 0 (gX_0 cI ad z) rfl (by decide) mt_80 rfl d_X_clear_1 ?_
  refine lv_istore_n F.x F.b d_X_clear_4 rfl hl (by decide) (lv' := [(1, .int (z.1 0)), (0, .ref (ad 0))]) rfl (fun ls hl => ?_)
  refine lv_aload_n F.x F.b d_X_clear_5 rfl (lv_at hl 1 rfl) ?_
  obtain ⟨q1, hq1, h⟩ := it_c h
  refine r_vv F X hl.1 (c_X_begin l D cI ad z q1 hq1) (gX_0 cI ad z) rfl mt_61 mt_63 ms_0 mt_1 mt_64 ⟨rfl, hd_X_begin⟩ ⟨by decide, by decide⟩ ⟨rfl, rfl⟩ ⟨Nat.zero_le _, Nat.zero_le _⟩ rfl (Nat.le_of_ble_eq_true rfl) d_X_clear_6 rfl (fun H locs X => ?_)
  refine lv_iload_n F.x F.b d_X_clear_9 rfl (lv_at hl 0 rfl) ?_
  rw [← Option.some.inj h]
  exact fin_i F X hr d_X_clear_10
theorem hd_X_countFreeLeaders : y_X_countFreeLeaders.cls ≠ "java/lang/invoke/MethodHandle" ∧ y_X_countFreeLeaders.cls ≠ "java/lang/invoke/VarHandle" ∧ (parseMethodDescriptor y_X_countFreeLeaders.desc).map (fun d => d.parameters.length) = some 0 := ⟨by decide, by decide, by decide +kernel⟩
set_option maxRecDepth 100000 in
set_option maxHeartbeats 4000000 in
theorem c_X_countFreeLeaders (l : Launch) (D : Gd) (cI : ClassId) (ad : Nat → Nat) (z : St) (q : Int32 × St) (h : f_X_countFreeLeaders z = some q) : CI l y_X_countFreeLeaders (.code y_X_countFreeLeaders b_X_countFreeLeaders 3 (some .int)) { frames := 0, cells := 0, slots := 0, locals := 0 } D [(cI, .int)] [.ref (ad 0)] (cX cI ad z) q.1 (cX cI ad q.2) 0 0 := by
  refine mk_i (by decide) (Nat.le_of_ble_eq_true rfl) ?_
  intro p e s m args below meth c A ls F X hr hl
  have hl : lv_has ls 3 [(0, .ref (ad 0))] := hl
  have L4 : ∀ (n : Nat) (z : St) (v2 : Int32) (v1 : Int32) (H : Heap) (locs : List Loc) (ls : Array Slot), Wd D A s (cX cI ad z) H locs → lv_has ls 3 [(2, .int (v2)), (1, .int (v1)), (0, .ref (ad 0))] → f_X_countFreeLeaders_l4 n z v2 v1 = some q → W p l e { frames := 0, cells := 0, slots := 0, locals := 0 } s m args below meth c H locs 0 0 (MQ below (va_Qi (fun (r' : Int32) (u : va_W) => r' = q.1 ∧ u = cX cI ad q.2) (Po D [(cI, .int)] A) A) args s 0 0 A) (F0 m 4 ls []) := by
    intro n
    induction n with
    | zero => intro z v2 v1 H locs ls X hl h; cases h
    | succ n ih =>
      intro z v2 v1 H locs ls X hl h
      rw [f_X_countFreeLeaders_l4] at h
      refine lv_iload_n F.x F.b d_X_countFreeLeaders_4 rfl (lv_at hl 0 rfl) ?_
      refine lv_aload_n F.x F.b d_X_countFreeLeaders_5 rfl (lv_at hl 2 rfl) ?_
      refine r_get F X in_X 0 5 (gX_0 cI ad z) rfl (by decide) mt_85 rfl d_X_countFreeLeaders_6 ?_
      refine lv_icmp_ge (tgt := 43) F.x F.b d_X_countFreeLeaders_9 (by decide) (fun hc => ?_) (fun hc => ?_)
      · have h := it_t hc h
        refine lv_iload_n F.x F.b d_X_countFreeLeaders_43 rfl (lv_at hl 1 rfl) ?_
        rw [← Option.some.inj h]
        exact fin_i F X hr d_X_countFreeLeaders_44
      · have h := it_e hc h
        refine lv_iload_n F.x F.b d_X_countFreeLeaders_12 rfl (lv_at hl 1 rfl) ?_
        refine lv_aload_n F.x F.b d_X_countFreeLeaders_13 rfl (lv_at hl 2 rfl) ?_
        refine r_get F X in_X 0 1 (gX_0 cI ad z) rfl (by decide) mt_81 rfl d_X_countFreeLeaders_14 ?_
        refine r_getN F X in_S 1 0 (gX_1 cI ad z) rfl (by decide) (List.mem_of_getElem? (i := 1) rfl) rfl d_X_countFreeLeaders_17 ?_
        refine lv_aload_n F.x F.b d_X_countFreeLeaders_20 rfl (lv_at hl 2 rfl) ?_
        refine r_get F X in_X 0 4 (gX_0 cI ad z) rfl (by decide) mt_84 rfl d_X_countFreeLeaders_21 ?_
        refine lv_iload_n F.x F.b d_X_countFreeLeaders_24 rfl (lv_at hl 0 rfl) ?_
        obtain ⟨hb2, h⟩ := it_b h
        refine r_ald F X 5 0 (gX_5 cI ad z) rfl hb2 d_X_countFreeLeaders_25 ?_
        obtain ⟨hb1, h⟩ := it_b h
        refine r_ald F X 9 0 (gX_9 cI ad z) rfl hb1 d_X_countFreeLeaders_26 ?_
        refine lv_if_ne (tgt := 34) F.x F.b d_X_countFreeLeaders_27 (by decide) (fun hc => ?_) (fun hc => ?_)
        · have h := it_e hc h
          refine lv_iconst (v := (0 : Int32)) F.x F.b d_X_countFreeLeaders_34 (by decide) ?_
          refine lv_iadd F.x F.b d_X_countFreeLeaders_35 ?_
          refine lv_istore_n F.x F.b d_X_countFreeLeaders_36 rfl hl (by decide) (lv' := [(1, .int ((v1) + ((0 : Int32)))), (2, .int (v2)), (0, .ref (ad 0))]) rfl (fun ls hl => ?_)
          refine lv_iinc (k := 1) (v := (v2) + 1) F.x F.b d_X_countFreeLeaders_37 hl rfl (ii_1 _) (by decide) (lv' := [(2, .int ((v2) + 1)), (1, .int ((v1) + ((0 : Int32)))), (0, .ref (ad 0))]) rfl (fun ls hl => ?_)
          refine lv_goto (tgt := 4) F.x F.b d_X_countFreeLeaders_40 (by decide) ?_
          exact ih z ((v2) + 1) ((v1) + ((0 : Int32))) _ _ _ X (lv_sub hl [0, 1, 2] rfl) h
        · have h := it_t hc h
          refine lv_iconst (v := (1 : Int32)) F.x F.b d_X_countFreeLeaders_30 (by decide) ?_
          refine lv_goto (tgt := 35) F.x F.b d_X_countFreeLeaders_31 (by decide) ?_
          refine lv_iadd F.x F.b d_X_countFreeLeaders_35 ?_
          refine lv_istore_n F.x F.b d_X_countFreeLeaders_36 rfl hl (by decide) (lv' := [(1, .int ((v1) + ((1 : Int32)))), (2, .int (v2)), (0, .ref (ad 0))]) rfl (fun ls hl => ?_)
          refine lv_iinc (k := 1) (v := (v2) + 1) F.x F.b d_X_countFreeLeaders_37 hl rfl (ii_1 _) (by decide) (lv' := [(2, .int ((v2) + 1)), (1, .int ((v1) + ((1 : Int32)))), (0, .ref (ad 0))]) rfl (fun ls hl => ?_)
          refine lv_goto (tgt := 4) F.x F.b d_X_countFreeLeaders_40 (by decide) ?_
          exact ih z ((v2) + 1) ((v1) + ((1 : Int32))) _ _ _ X (lv_sub hl [0, 1, 2] rfl) h
  unfold f_X_countFreeLeaders at h
  refine lv_iconst (v := (0 : Int32)) F.x F.b d_X_countFreeLeaders_0 (by decide) ?_
  refine lv_istore_n F.x F.b d_X_countFreeLeaders_1 rfl hl (by decide) (lv' := [(1, .int ((0 : Int32))), (0, .ref (ad 0))]) rfl (fun ls hl => ?_)
  refine lv_iconst (v := (0 : Int32)) F.x F.b d_X_countFreeLeaders_2 (by decide) ?_
  refine lv_istore_n F.x F.b d_X_countFreeLeaders_3 rfl hl (by decide) (lv' := [(2, .int ((0 : Int32))), (1, .int ((0 : Int32))), (0, .ref (ad 0))]) rfl (fun ls hl => ?_)
  exact L4 FU z ((0 : Int32)) ((0 : Int32)) _ _ _ X (lv_sub hl [0, 1, 2] rfl) h
theorem hd_X_count : y_X_count.cls ≠ "java/lang/invoke/MethodHandle" ∧ y_X_count.cls ≠ "java/lang/invoke/VarHandle" ∧ (parseMethodDescriptor y_X_count.desc).map (fun d => d.parameters.length) = some 1 := ⟨by decide, by decide, by decide +kernel⟩
set_option maxRecDepth 100000 in
set_option maxHeartbeats 4000000 in
theorem c_X_count (l : Launch) (D : Gd) (cI : ClassId) (ad : Nat → Nat) (z : St) (v1 : Int32) (q : Int32 × St) (h : f_X_count z v1 = some q) : CI l y_X_count (.code y_X_count b_X_count 2 (some .int)) { frames := 1, cells := 0, slots := 0, locals := 22 } D [(cI, .int)] [.ref (ad 0), .int v1] (cX cI ad z) q.1 (cX cI ad q.2) 0 0 := by
  refine mk_i (by decide) (Nat.le_of_ble_eq_true rfl) ?_
  intro p e s m args below meth c A ls F X hr hl
  have hl : lv_has ls 2 [(0, .ref (ad 0)), (1, .int (v1))] := hl
  unfold f_X_count at h
  refine lv_iload_n F.x F.b d_X_count_0 rfl (lv_at hl 1 rfl) ?_
  by_cases hc0 : (v1) = (0 : Int32)
  · have h := it_t hc0 h
    refine lv_tableIn (off := 27) (tgt := 28) F.x F.b d_X_count_1 (by rw [hc0]; decide) (by rw [hc0]; decide) (by rw [hc0]; decide) (by decide) ?_
    refine lv_aload_n F.x F.b d_X_count_28 rfl (lv_at hl 0 rfl) ?_
    refine r_get F X in_X 0 0 (gX_0 cI ad z) rfl (by decide) mt_80 rfl d_X_count_29 ?_
    rw [← Option.some.inj h]
    exact fin_i F X hr d_X_count_32
  · have h := it_e hc0 h
    by_cases hc1 : (v1) = (1 : Int32)
    · have h := it_t hc1 h
      refine lv_tableIn (off := 32) (tgt := 33) F.x F.b d_X_count_1 (by rw [hc1]; decide) (by rw [hc1]; decide) (by rw [hc1]; decide) (by decide) ?_
      refine lv_aload_n F.x F.b d_X_count_33 rfl (lv_at hl 0 rfl) ?_
      refine r_get F X in_X 0 5 (gX_0 cI ad z) rfl (by decide) mt_85 rfl d_X_count_34 ?_
      rw [← Option.some.inj h]
      exact fin_i F X hr d_X_count_37
    · have h := it_e hc1 h
      by_cases hc2 : (v1) = (2 : Int32)
      · have h := it_t hc2 h
        refine lv_tableIn (off := 37) (tgt := 38) F.x F.b d_X_count_1 (by rw [hc2]; decide) (by rw [hc2]; decide) (by rw [hc2]; decide) (by decide) ?_
        refine lv_aload_n F.x F.b d_X_count_38 rfl (lv_at hl 0 rfl) ?_
        obtain ⟨q1, hq1, h⟩ := it_c h
        refine r_vi F X hl.1 (c_X_countFreeLeaders l D cI ad z q1 hq1) (gX_0 cI ad z) rfl mt_122 mt_124 ms_4 mt_1 mt_125 ⟨rfl, hd_X_countFreeLeaders⟩ ⟨by decide, by decide⟩ ⟨rfl, rfl⟩ ⟨Nat.zero_le _, Nat.zero_le _⟩ rfl (Nat.le_of_ble_eq_true rfl) d_X_count_39 rfl (fun H locs X => ?_)
        rw [← Option.some.inj h]
        exact fin_i F X hr d_X_count_42
      · have h := it_e hc2 h
        refine lv_tableOut (tgt := 43) F.x F.b d_X_count_1 (by have n0 := lv_neT hc0 (a := 0) (by decide); have n1 := lv_neT hc1 (a := 1) (by decide); have n2 := lv_neT hc2 (a := 2) (by decide); omega) (by decide) ?_
        refine lv_iconst (v := (-1 : Int32)) F.x F.b d_X_count_43 (by decide) ?_
        rw [← Option.some.inj h]
        exact fin_i F X hr d_X_count_44
theorem hd_X_sizeByParts : y_X_sizeByParts.cls ≠ "java/lang/invoke/MethodHandle" ∧ y_X_sizeByParts.cls ≠ "java/lang/invoke/VarHandle" ∧ (parseMethodDescriptor y_X_sizeByParts.desc).map (fun d => d.parameters.length) = some 1 := ⟨by decide, by decide, by decide +kernel⟩
set_option maxRecDepth 100000 in
set_option maxHeartbeats 4000000 in
theorem c_X_sizeByParts (l : Launch) (D : Gd) (cI : ClassId) (ad : Nat → Nat) (z : St) (v1 : Int32) (q : Int32 × St) (h : f_X_sizeByParts z v1 = some q) : CI l y_X_sizeByParts (.code y_X_sizeByParts b_X_sizeByParts 5 (some .int)) { frames := 1, cells := 0, slots := 0, locals := 40 } D [(cI, .int)] [.ref (ad 0), .int v1] (cX cI ad z) q.1 (cX cI ad q.2) 0 0 := by
  refine mk_i (by decide) (Nat.le_of_ble_eq_true rfl) ?_
  intro p e s m args below meth c A ls F X hr hl
  have hl : lv_has ls 5 [(0, .ref (ad 0)), (1, .int (v1))] := hl
  unfold f_X_sizeByParts at h
  refine lv_aload_n F.x F.b d_X_sizeByParts_0 rfl (lv_at hl 0 rfl) ?_
  refine r_get F X in_X 0 1 (gX_0 cI ad z) rfl (by decide) mt_81 rfl d_X_sizeByParts_1 ?_
  refine lv_iload_n F.x F.b d_X_sizeByParts_4 rfl (lv_at hl 1 rfl) ?_
  obtain ⟨q1, hq1, h⟩ := it_c h
  refine r_ni F X hl.1 (c_S_hasParts l D cI ad z (v1) q1 hq1) (gX_1 cI ad z) rfl (List.mem_of_getElem? (i := 12) rfl) mt_294 ms_20 mt_2 mt_295 hd_S_hasParts ⟨by decide, by decide⟩ ⟨rfl, rfl⟩ ⟨Nat.zero_le _, Nat.zero_le _⟩ rfl (Nat.le_of_ble_eq_true rfl) d_X_sizeByParts_5 rfl (fun H locs X => ?_)
  refine lv_if_ne (tgt := 13) F.x F.b d_X_sizeByParts_8 (by decide) (fun hc => ?_) (fun hc => ?_)
  · have h := it_e hc h
    refine lv_aload_n F.x F.b d_X_sizeByParts_13 rfl (lv_at hl 0 rfl) ?_
    refine r_get F X in_X 0 7 (gX_0 cI ad q1.2) rfl (by decide) mt_87 rfl d_X_sizeByParts_14 ?_
    refine lv_aload_n F.x F.b d_X_sizeByParts_17 rfl (lv_at hl 0 rfl) ?_
    refine r_get F X in_X 0 1 (gX_0 cI ad q1.2) rfl (by decide) mt_81 rfl d_X_sizeByParts_18 ?_
    refine r_getN F X in_S 1 1 (gX_1 cI ad q1.2) rfl (by decide) (List.mem_of_getElem? (i := 2) rfl) rfl d_X_sizeByParts_21 ?_
    refine lv_iload_n F.x F.b d_X_sizeByParts_24 rfl (lv_at hl 1 rfl) ?_
    obtain ⟨hb6, h⟩ := it_b h
    refine r_ald F X 10 0 (gX_10 cI ad q1.2) rfl hb6 d_X_sizeByParts_25 ?_
    obtain ⟨hb5, h⟩ := it_b h
    refine r_ald F X 7 0 (gX_7 cI ad q1.2) rfl hb5 d_X_sizeByParts_26 ?_
    refine lv_istore_n F.x F.b d_X_sizeByParts_27 rfl hl (by decide) (lv' := [(2, .int (q1.2.2 4 (q1.2.2 7 (v1).toNatClampNeg).toNatClampNeg)), (0, .ref (ad 0)), (1, .int (v1))]) rfl (fun ls hl => ?_)
    refine lv_aload_n F.x F.b d_X_sizeByParts_28 rfl (lv_at hl 1 rfl) ?_
    refine r_get F X in_X 0 7 (gX_0 cI ad q1.2) rfl (by decide) mt_87 rfl d_X_sizeByParts_29 ?_
    refine lv_aload_n F.x F.b d_X_sizeByParts_32 rfl (lv_at hl 1 rfl) ?_
    refine r_get F X in_X 0 1 (gX_0 cI ad q1.2) rfl (by decide) mt_81 rfl d_X_sizeByParts_33 ?_
    refine r_getN F X in_S 1 2 (gX_1 cI ad q1.2) rfl (by decide) (List.mem_of_getElem? (i := 3) rfl) rfl d_X_sizeByParts_36 ?_
    refine lv_iload_n F.x F.b d_X_sizeByParts_39 rfl (lv_at hl 2 rfl) ?_
    obtain ⟨hb4, h⟩ := it_b h
    refine r_ald F X 11 0 (gX_11 cI ad q1.2) rfl hb4 d_X_sizeByParts_40 ?_
    obtain ⟨hb3, h⟩ := it_b h
    refine r_ald F X 7 0 (gX_7 cI ad q1.2) rfl hb3 d_X_sizeByParts_41 ?_
    refine lv_istore_n F.x F.b d_X_sizeByParts_42 rfl hl (by decide) (lv' := [(3, .int (q1.2.2 4 (q1.2.2 8 (v1).toNatClampNeg).toNatClampNeg)), (2, .int (q1.2.2 4 (q1.2.2 7 (v1).toNatClampNeg).toNatClampNeg)), (0, .ref (ad 0)), (1, .int (v1))]) rfl (fun ls hl => ?_)
    refine lv_aload_n F.x F.b d_X_sizeByParts_43 rfl (lv_at hl 2 rfl) ?_
    refine r_get F X in_X 0 1 (gX_0 cI ad q1.2) rfl (by decide) mt_81 rfl d_X_sizeByParts_44 ?_
    refine r_getN F X in_S 1 0 (gX_1 cI ad q1.2) rfl (by decide) (List.mem_of_getElem? (i := 1) rfl) rfl d_X_sizeByParts_47 ?_
    refine lv_iload_n F.x F.b d_X_sizeByParts_50 rfl (lv_at hl 3 rfl) ?_
    obtain ⟨hb2, h⟩ := it_b h
    refine r_ald F X 9 0 (gX_9 cI ad q1.2) rfl hb2 d_X_sizeByParts_51 ?_
    refine lv_iconst (v := (2 : Int32)) F.x F.b d_X_sizeByParts_52 (by decide) ?_
    refine lv_icmp_ne (tgt := 66) F.x F.b d_X_sizeByParts_53 (by decide) (fun hc => ?_) (fun hc => ?_)
    · have h := it_e hc h
      refine lv_iload_n F.x F.b d_X_sizeByParts_66 rfl (lv_at hl 1 rfl) ?_
      refine lv_iload_n F.x F.b d_X_sizeByParts_67 rfl (lv_at hl 0 rfl) ?_
      refine lv_iadd F.x F.b d_X_sizeByParts_68 ?_
      refine lv_istore F.x F.b d_X_sizeByParts_69 hl (by decide) (lv' := [(4, .int ((q1.2.2 4 (q1.2.2 7 (v1).toNatClampNeg).toNatClampNeg) + (q1.2.2 4 (q1.2.2 8 (v1).toNatClampNeg).toNatClampNeg))), (3, .int (q1.2.2 4 (q1.2.2 8 (v1).toNatClampNeg).toNatClampNeg)), (2, .int (q1.2.2 4 (q1.2.2 7 (v1).toNatClampNeg).toNatClampNeg)), (0, .ref (ad 0)), (1, .int (v1))]) rfl (fun ls hl => ?_)
      refine lv_iload F.x F.b d_X_sizeByParts_71 (lv_at hl 0 rfl) ?_
      refine lv_ldc F.x F.b F.2.2.2.1 (F.2.2.2.2.1 _ mt_395) d_X_sizeByParts_73 ?_
      refine va_mmin F.x F.b (F.2.2.1.trans hl.1.symm) F.2.2.2.1 (F.2.2.2.2.1 _ mt_396) (F.2.2.2.2.1 _ mt_397) (F.2.2.2.2.1 _ mt_12) (F.2.2.2.2.1 _ mt_398) (by decide) (Nat.le_of_ble_eq_true rfl) (Nat.zero_le _) (Nat.zero_le _) d_X_sizeByParts_75 ?_
      rw [← Option.some.inj h]
      exact fin_i F X hr d_X_sizeByParts_78
    · have h := it_t hc h
      refine lv_iconst (v := (1 : Int32)) F.x F.b d_X_sizeByParts_56 (by decide) ?_
      refine lv_iload_n F.x F.b d_X_sizeByParts_57 rfl (lv_at hl 1 rfl) ?_
      refine lv_iload_n F.x F.b d_X_sizeByParts_58 rfl (lv_at hl 0 rfl) ?_
      refine va_mmax F.x F.b (F.2.2.1.trans hl.1.symm) F.2.2.2.1 (F.2.2.2.2.1 _ mt_392) (F.2.2.2.2.1 _ mt_393) (F.2.2.2.2.1 _ mt_12) (F.2.2.2.2.1 _ mt_394) (by decide) (Nat.le_of_ble_eq_true rfl) (Nat.zero_le _) (Nat.zero_le _) d_X_sizeByParts_59 ?_
      refine lv_iadd F.x F.b d_X_sizeByParts_62 ?_
      refine lv_goto (tgt := 69) F.x F.b d_X_sizeByParts_63 (by decide) ?_
      refine lv_istore F.x F.b d_X_sizeByParts_69 hl (by decide) (lv' := [(4, .int (((1 : Int32)) + ((if (q1.2.2 4 (q1.2.2 7 (v1).toNatClampNeg).toNatClampNeg) < (q1.2.2 4 (q1.2.2 8 (v1).toNatClampNeg).toNatClampNeg) then (q1.2.2 4 (q1.2.2 8 (v1).toNatClampNeg).toNatClampNeg) else (q1.2.2 4 (q1.2.2 7 (v1).toNatClampNeg).toNatClampNeg))))), (3, .int (q1.2.2 4 (q1.2.2 8 (v1).toNatClampNeg).toNatClampNeg)), (2, .int (q1.2.2 4 (q1.2.2 7 (v1).toNatClampNeg).toNatClampNeg)), (0, .ref (ad 0)), (1, .int (v1))]) rfl (fun ls hl => ?_)
      refine lv_iload F.x F.b d_X_sizeByParts_71 (lv_at hl 0 rfl) ?_
      refine lv_ldc F.x F.b F.2.2.2.1 (F.2.2.2.2.1 _ mt_395) d_X_sizeByParts_73 ?_
      refine va_mmin F.x F.b (F.2.2.1.trans hl.1.symm) F.2.2.2.1 (F.2.2.2.2.1 _ mt_396) (F.2.2.2.2.1 _ mt_397) (F.2.2.2.2.1 _ mt_12) (F.2.2.2.2.1 _ mt_398) (by decide) (Nat.le_of_ble_eq_true rfl) (Nat.zero_le _) (Nat.zero_le _) d_X_sizeByParts_75 ?_
      rw [← Option.some.inj h]
      exact fin_i F X hr d_X_sizeByParts_78
  · have h := it_t hc h
    refine lv_iconst (v := (0 : Int32)) F.x F.b d_X_sizeByParts_11 (by decide) ?_
    rw [← Option.some.inj h]
    exact fin_i F X hr d_X_sizeByParts_12
theorem hd_X_valuesByParts : y_X_valuesByParts.cls ≠ "java/lang/invoke/MethodHandle" ∧ y_X_valuesByParts.cls ≠ "java/lang/invoke/VarHandle" ∧ (parseMethodDescriptor y_X_valuesByParts.desc).map (fun d => d.parameters.length) = some 1 := ⟨by decide, by decide, by decide +kernel⟩
set_option maxRecDepth 100000 in
set_option maxHeartbeats 4000000 in
theorem c_X_valuesByParts (l : Launch) (D : Gd) (cI : ClassId) (ad : Nat → Nat) (z : St) (v1 : Int32) (q : Int32 × St) (h : f_X_valuesByParts z v1 = some q) : CI l y_X_valuesByParts (.code y_X_valuesByParts b_X_valuesByParts 8 (some .int)) { frames := 1, cells := 0, slots := 0, locals := 40 } D [(cI, .int)] [.ref (ad 0), .int v1] (cX cI ad z) q.1 (cX cI ad q.2) 0 0 := by
  refine mk_i (by decide) (Nat.le_of_ble_eq_true rfl) ?_
  intro p e s m args below meth c A ls F X hr hl
  have hl : lv_has ls 8 [(0, .ref (ad 0)), (1, .int (v1))] := hl
  unfold f_X_valuesByParts at h
  refine lv_aload_n F.x F.b d_X_valuesByParts_0 rfl (lv_at hl 0 rfl) ?_
  refine r_get F X in_X 0 1 (gX_0 cI ad z) rfl (by decide) mt_81 rfl d_X_valuesByParts_1 ?_
  refine lv_iload_n F.x F.b d_X_valuesByParts_4 rfl (lv_at hl 1 rfl) ?_
  obtain ⟨q1, hq1, h⟩ := it_c h
  refine r_ni F X hl.1 (c_S_hasParts l D cI ad z (v1) q1 hq1) (gX_1 cI ad z) rfl (List.mem_of_getElem? (i := 12) rfl) mt_294 ms_20 mt_2 mt_295 hd_S_hasParts ⟨by decide, by decide⟩ ⟨rfl, rfl⟩ ⟨Nat.zero_le _, Nat.zero_le _⟩ rfl (Nat.le_of_ble_eq_true rfl) d_X_valuesByParts_5 rfl (fun H locs X => ?_)
  refine lv_if_ne (tgt := 13) F.x F.b d_X_valuesByParts_8 (by decide) (fun hc => ?_) (fun hc => ?_)
  · have h := it_e hc h
    refine lv_aload_n F.x F.b d_X_valuesByParts_13 rfl (lv_at hl 0 rfl) ?_
    refine r_get F X in_X 0 7 (gX_0 cI ad q1.2) rfl (by decide) mt_87 rfl d_X_valuesByParts_14 ?_
    refine lv_aload_n F.x F.b d_X_valuesByParts_17 rfl (lv_at hl 0 rfl) ?_
    refine r_get F X in_X 0 1 (gX_0 cI ad q1.2) rfl (by decide) mt_81 rfl d_X_valuesByParts_18 ?_
    refine r_getN F X in_S 1 1 (gX_1 cI ad q1.2) rfl (by decide) (List.mem_of_getElem? (i := 2) rfl) rfl d_X_valuesByParts_21 ?_
    refine lv_iload_n F.x F.b d_X_valuesByParts_24 rfl (lv_at hl 1 rfl) ?_
    obtain ⟨hb6, h⟩ := it_b h
    refine r_ald F X 10 0 (gX_10 cI ad q1.2) rfl hb6 d_X_valuesByParts_25 ?_
    obtain ⟨hb5, h⟩ := it_b h
    refine r_ald F X 7 0 (gX_7 cI ad q1.2) rfl hb5 d_X_valuesByParts_26 ?_
    refine lv_i2l (v := (q1.2.2 4 (q1.2.2 7 (v1).toNatClampNeg).toNatClampNeg).toInt64) F.x F.b d_X_valuesByParts_27 rfl ?_
    refine lv_lstore_n F.x F.b d_X_valuesByParts_28 rfl hl (by decide) (lv' := [(2, .long ((q1.2.2 4 (q1.2.2 7 (v1).toNatClampNeg).toNatClampNeg).toInt64)), (0, .ref (ad 0)), (1, .int (v1))]) rfl (fun ls hl => ?_)
    refine lv_aload_n F.x F.b d_X_valuesByParts_29 rfl (lv_at hl 1 rfl) ?_
    refine r_get F X in_X 0 7 (gX_0 cI ad q1.2) rfl (by decide) mt_87 rfl d_X_valuesByParts_30 ?_
    refine lv_aload_n F.x F.b d_X_valuesByParts_33 rfl (lv_at hl 1 rfl) ?_
    refine r_get F X in_X 0 1 (gX_0 cI ad q1.2) rfl (by decide) mt_81 rfl d_X_valuesByParts_34 ?_
    refine r_getN F X in_S 1 2 (gX_1 cI ad q1.2) rfl (by decide) (List.mem_of_getElem? (i := 3) rfl) rfl d_X_valuesByParts_37 ?_
    refine lv_iload_n F.x F.b d_X_valuesByParts_40 rfl (lv_at hl 2 rfl) ?_
    obtain ⟨hb4, h⟩ := it_b h
    refine r_ald F X 11 0 (gX_11 cI ad q1.2) rfl hb4 d_X_valuesByParts_41 ?_
    obtain ⟨hb3, h⟩ := it_b h
    refine r_ald F X 7 0 (gX_7 cI ad q1.2) rfl hb3 d_X_valuesByParts_42 ?_
    refine lv_i2l (v := (q1.2.2 4 (q1.2.2 8 (v1).toNatClampNeg).toNatClampNeg).toInt64) F.x F.b d_X_valuesByParts_43 rfl ?_
    refine lv_lstore F.x F.b d_X_valuesByParts_44 hl (by decide) (lv' := [(4, .long ((q1.2.2 4 (q1.2.2 8 (v1).toNatClampNeg).toNatClampNeg).toInt64)), (2, .long ((q1.2.2 4 (q1.2.2 7 (v1).toNatClampNeg).toNatClampNeg).toInt64)), (0, .ref (ad 0)), (1, .int (v1))]) rfl (fun ls hl => ?_)
    refine lv_aload_n F.x F.b d_X_valuesByParts_46 rfl (lv_at hl 2 rfl) ?_
    refine r_get F X in_X 0 1 (gX_0 cI ad q1.2) rfl (by decide) mt_81 rfl d_X_valuesByParts_47 ?_
    refine r_getN F X in_S 1 0 (gX_1 cI ad q1.2) rfl (by decide) (List.mem_of_getElem? (i := 1) rfl) rfl d_X_valuesByParts_50 ?_
    refine lv_iload_n F.x F.b d_X_valuesByParts_53 rfl (lv_at hl 3 rfl) ?_
    obtain ⟨hb2, h⟩ := it_b h
    refine r_ald F X 9 0 (gX_9 cI ad q1.2) rfl hb2 d_X_valuesByParts_54 ?_
    refine lv_iconst (v := (2 : Int32)) F.x F.b d_X_valuesByParts_55 (by decide) ?_
    refine lv_icmp_ne (tgt := 66) F.x F.b d_X_valuesByParts_56 (by decide) (fun hc => ?_) (fun hc => ?_)
    · have h := it_e hc h
      refine lv_lload_n F.x F.b d_X_valuesByParts_66 rfl (lv_at hl 1 rfl) ?_
      refine lv_lload F.x F.b d_X_valuesByParts_67 (lv_at hl 0 rfl) ?_
      refine lv_lmul F.x F.b d_X_valuesByParts_69 ?_
      refine lv_lstore F.x F.b d_X_valuesByParts_70 hl (by decide) (lv' := [(6, .long (((q1.2.2 4 (q1.2.2 7 (v1).toNatClampNeg).toNatClampNeg).toInt64) * ((q1.2.2 4 (q1.2.2 8 (v1).toNatClampNeg).toNatClampNeg).toInt64))), (4, .long ((q1.2.2 4 (q1.2.2 8 (v1).toNatClampNeg).toNatClampNeg).toInt64)), (2, .long ((q1.2.2 4 (q1.2.2 7 (v1).toNatClampNeg).toNatClampNeg).toInt64)), (0, .ref (ad 0)), (1, .int (v1))]) rfl (fun ls hl => ?_)
      refine lv_lload F.x F.b d_X_valuesByParts_72 (lv_at hl 0 rfl) ?_
      refine lv_ldc2 F.x F.b F.2.2.2.1 (F.2.2.2.2.1 _ mt_410) d_X_valuesByParts_74 ?_
      refine va_mmin_long F.x F.b (F.2.2.1.trans hl.1.symm) F.2.2.2.1 (F.2.2.2.2.1 _ mt_411) (F.2.2.2.2.1 _ mt_412) (F.2.2.2.2.1 _ mt_12) (F.2.2.2.2.1 _ mt_413) (by decide) (Nat.le_of_ble_eq_true rfl) (Nat.zero_le _) (Nat.zero_le _) d_X_valuesByParts_77 ?_
      refine lv_l2i (v := ((if ((1073741824 : Int64)) < (((q1.2.2 4 (q1.2.2 7 (v1).toNatClampNeg).toNatClampNeg).toInt64) * ((q1.2.2 4 (q1.2.2 8 (v1).toNatClampNeg).toNatClampNeg).toInt64)) then ((1073741824 : Int64)) else (((q1.2.2 4 (q1.2.2 7 (v1).toNatClampNeg).toNatClampNeg).toInt64) * ((q1.2.2 4 (q1.2.2 8 (v1).toNatClampNeg).toNatClampNeg).toInt64)))).toInt32) F.x F.b d_X_valuesByParts_80 rfl ?_
      rw [← Option.some.inj h]
      exact fin_i F X hr d_X_valuesByParts_81
    · have h := it_t hc h
      refine lv_lload_n F.x F.b d_X_valuesByParts_59 rfl (lv_at hl 1 rfl) ?_
      refine lv_lload F.x F.b d_X_valuesByParts_60 (lv_at hl 0 rfl) ?_
      refine lv_ladd F.x F.b d_X_valuesByParts_62 ?_
      refine lv_goto (tgt := 70) F.x F.b d_X_valuesByParts_63 (by decide) ?_
      refine lv_lstore F.x F.b d_X_valuesByParts_70 hl (by decide) (lv' := [(6, .long (((q1.2.2 4 (q1.2.2 7 (v1).toNatClampNeg).toNatClampNeg).toInt64) + ((q1.2.2 4 (q1.2.2 8 (v1).toNatClampNeg).toNatClampNeg).toInt64))), (4, .long ((q1.2.2 4 (q1.2.2 8 (v1).toNatClampNeg).toNatClampNeg).toInt64)), (2, .long ((q1.2.2 4 (q1.2.2 7 (v1).toNatClampNeg).toNatClampNeg).toInt64)), (0, .ref (ad 0)), (1, .int (v1))]) rfl (fun ls hl => ?_)
      refine lv_lload F.x F.b d_X_valuesByParts_72 (lv_at hl 0 rfl) ?_
      refine lv_ldc2 F.x F.b F.2.2.2.1 (F.2.2.2.2.1 _ mt_410) d_X_valuesByParts_74 ?_
      refine va_mmin_long F.x F.b (F.2.2.1.trans hl.1.symm) F.2.2.2.1 (F.2.2.2.2.1 _ mt_411) (F.2.2.2.2.1 _ mt_412) (F.2.2.2.2.1 _ mt_12) (F.2.2.2.2.1 _ mt_413) (by decide) (Nat.le_of_ble_eq_true rfl) (Nat.zero_le _) (Nat.zero_le _) d_X_valuesByParts_77 ?_
      refine lv_l2i (v := ((if ((1073741824 : Int64)) < (((q1.2.2 4 (q1.2.2 7 (v1).toNatClampNeg).toNatClampNeg).toInt64) + ((q1.2.2 4 (q1.2.2 8 (v1).toNatClampNeg).toNatClampNeg).toInt64)) then ((1073741824 : Int64)) else (((q1.2.2 4 (q1.2.2 7 (v1).toNatClampNeg).toNatClampNeg).toInt64) + ((q1.2.2 4 (q1.2.2 8 (v1).toNatClampNeg).toNatClampNeg).toInt64)))).toInt32) F.x F.b d_X_valuesByParts_80 rfl ?_
      rw [← Option.some.inj h]
      exact fin_i F X hr d_X_valuesByParts_81
  · have h := it_t hc h
    refine lv_iconst (v := (1 : Int32)) F.x F.b d_X_valuesByParts_11 (by decide) ?_
    rw [← Option.some.inj h]
    exact fin_i F X hr d_X_valuesByParts_12
theorem hd_X_markParts : y_X_markParts.cls ≠ "java/lang/invoke/MethodHandle" ∧ y_X_markParts.cls ≠ "java/lang/invoke/VarHandle" ∧ (parseMethodDescriptor y_X_markParts.desc).map (fun d => d.parameters.length) = some 1 := ⟨by decide, by decide, by decide +kernel⟩
set_option maxRecDepth 100000 in
set_option maxHeartbeats 4000000 in
theorem c_X_markParts (l : Launch) (D : Gd) (cI : ClassId) (ad : Nat → Nat) (z : St) (v1 : Int32) (q : St) (h : f_X_markParts z v1 = some q) : CV l y_X_markParts (.code y_X_markParts b_X_markParts 2 none) { frames := 1, cells := 0, slots := 0, locals := 21 } D [(cI, .int)] [.ref (ad 0), .int v1] (cX cI ad z) (cX cI ad q) 0 0 := by
  refine mk_v (by decide) (Nat.le_of_ble_eq_true rfl) ?_
  intro p e s m args below meth c A ls F X hr hl
  have hl : lv_has ls 2 [(0, .ref (ad 0)), (1, .int (v1))] := hl
  unfold f_X_markParts at h
  refine lv_aload_n F.x F.b d_X_markParts_0 rfl (lv_at hl 0 rfl) ?_
  refine r_get F X in_X 0 1 (gX_0 cI ad z) rfl (by decide) mt_81 rfl d_X_markParts_1 ?_
  refine lv_iload_n F.x F.b d_X_markParts_4 rfl (lv_at hl 1 rfl) ?_
  obtain ⟨q1, hq1, h⟩ := it_c h
  refine r_ni F X hl.1 (c_S_hasParts l D cI ad z (v1) q1 hq1) (gX_1 cI ad z) rfl (List.mem_of_getElem? (i := 12) rfl) mt_294 ms_20 mt_2 mt_295 hd_S_hasParts ⟨by decide, by decide⟩ ⟨rfl, rfl⟩ ⟨Nat.zero_le _, Nat.zero_le _⟩ rfl (Nat.le_of_ble_eq_true rfl) d_X_markParts_5 rfl (fun H locs X => ?_)
  refine lv_if_eq (tgt := 41) F.x F.b d_X_markParts_8 (by decide) (fun hc => ?_) (fun hc => ?_)
  · have h := it_t hc h
    rw [← Option.some.inj h]
    exact fin_v F X hr d_X_markParts_41
  · have h := it_e hc h
    refine lv_aload_n F.x F.b d_X_markParts_11 rfl (lv_at hl 0 rfl) ?_
    refine r_get F X in_X 0 7 (gX_0 cI ad q1.2) rfl (by decide) mt_87 rfl d_X_markParts_12 ?_
    refine lv_aload_n F.x F.b d_X_markParts_15 rfl (lv_at hl 0 rfl) ?_
    refine r_get F X in_X 0 1 (gX_0 cI ad q1.2) rfl (by decide) mt_81 rfl d_X_markParts_16 ?_
    refine r_getN F X in_S 1 1 (gX_1 cI ad q1.2) rfl (by decide) (List.mem_of_getElem? (i := 2) rfl) rfl d_X_markParts_19 ?_
    refine lv_iload_n F.x F.b d_X_markParts_22 rfl (lv_at hl 1 rfl) ?_
    obtain ⟨hb5, h⟩ := it_b h
    refine r_ald F X 10 0 (gX_10 cI ad q1.2) rfl hb5 d_X_markParts_23 ?_
    refine lv_iconst (v := (2 : Int32)) F.x F.b d_X_markParts_24 (by decide) ?_
    obtain ⟨hb4, h⟩ := it_b h
    refine r_ast F X 7 0 (gX_7 cI ad q1.2) rfl hb4 d_X_markParts_25 (sX_7 cI ad q1.2 _ _) (fun H locs X => ?_)
    refine lv_aload_n F.x F.b d_X_markParts_26 rfl (lv_at hl 0 rfl) ?_
    refine r_get F X in_X 0 7 (gX_0 cI ad (war q1.2 4 (q1.2.2 7 (v1).toNatClampNeg).toNatClampNeg ((2 : Int32)))) rfl (by decide) mt_87 rfl d_X_markParts_27 ?_
    refine lv_aload_n F.x F.b d_X_markParts_30 rfl (lv_at hl 0 rfl) ?_
    refine r_get F X in_X 0 1 (gX_0 cI ad (war q1.2 4 (q1.2.2 7 (v1).toNatClampNeg).toNatClampNeg ((2 : Int32)))) rfl (by decide) mt_81 rfl d_X_markParts_31 ?_
    refine r_getN F X in_S 1 2 (gX_1 cI ad (war q1.2 4 (q1.2.2 7 (v1).toNatClampNeg).toNatClampNeg ((2 : Int32)))) rfl (by decide) (List.mem_of_getElem? (i := 3) rfl) rfl d_X_markParts_34 ?_
    refine lv_iload_n F.x F.b d_X_markParts_37 rfl (lv_at hl 1 rfl) ?_
    obtain ⟨hb3, h⟩ := it_b h
    refine r_ald F X 11 0 (gX_11 cI ad (war q1.2 4 (q1.2.2 7 (v1).toNatClampNeg).toNatClampNeg ((2 : Int32)))) rfl hb3 d_X_markParts_38 ?_
    refine lv_iconst (v := (2 : Int32)) F.x F.b d_X_markParts_39 (by decide) ?_
    obtain ⟨hb2, h⟩ := it_b h
    refine r_ast F X 7 0 (gX_7 cI ad (war q1.2 4 (q1.2.2 7 (v1).toNatClampNeg).toNatClampNeg ((2 : Int32)))) rfl hb2 d_X_markParts_40 (sX_7 cI ad (war q1.2 4 (q1.2.2 7 (v1).toNatClampNeg).toNatClampNeg ((2 : Int32))) _ _) (fun H locs X => ?_)
    rw [← Option.some.inj h]
    exact fin_v F X hr d_X_markParts_41
theorem hd_X_root : y_X_root.cls ≠ "java/lang/invoke/MethodHandle" ∧ y_X_root.cls ≠ "java/lang/invoke/VarHandle" ∧ (parseMethodDescriptor y_X_root.desc).map (fun d => d.parameters.length) = some 1 := ⟨by decide, by decide, by decide +kernel⟩
set_option maxRecDepth 100000 in
set_option maxHeartbeats 4000000 in
theorem c_X_root (l : Launch) (D : Gd) (cI : ClassId) (ad : Nat → Nat) (z : St) (v1 : Int32) (q : Int32 × St) (h : f_X_root z v1 = some q) : CI l y_X_root (.code y_X_root b_X_root 4 (some .int)) { frames := 0, cells := 0, slots := 0, locals := 0 } D [(cI, .int)] [.ref (ad 0), .int v1] (cX cI ad z) q.1 (cX cI ad q.2) 0 0 := by
  refine mk_i (by decide) (Nat.le_of_ble_eq_true rfl) ?_
  intro p e s m args below meth c A ls F X hr hl
  have hl : lv_has ls 4 [(0, .ref (ad 0)), (1, .int (v1))] := hl
  have L4 : ∀ (n : Nat) (z : St) (v3 : Int32) (v2 : Int32) (v1 : Int32) (H : Heap) (locs : List Loc) (ls : Array Slot), Wd D A s (cX cI ad z) H locs → lv_has ls 4 [(3, .int (v3)), (2, .int (v2)), (0, .ref (ad 0)), (1, .int (v1))] → f_X_root_l4 n z v3 v2 v1 = some q → W p l e { frames := 0, cells := 0, slots := 0, locals := 0 } s m args below meth c H locs 0 0 (MQ below (va_Qi (fun (r' : Int32) (u : va_W) => r' = q.1 ∧ u = cX cI ad q.2) (Po D [(cI, .int)] A) A) args s 0 0 A) (F0 m 4 ls []) := by
    intro n
    induction n with
    | zero => intro z v3 v2 v1 H locs ls X hl h; cases h
    | succ n ih =>
      intro z v3 v2 v1 H locs ls X hl h
      rw [f_X_root_l4] at h
      refine lv_iload_n F.x F.b d_X_root_4 rfl (lv_at hl 0 rfl) ?_
      refine lv_sipush (v := (1000 : Int32)) F.x F.b d_X_root_5 (by decide) ?_
      refine lv_icmp_ge (tgt := 51) F.x F.b d_X_root_8 (by decide) (fun hc => ?_) (fun hc => ?_)
      · have h := it_t hc h
        refine lv_iload_n F.x F.b d_X_root_51 rfl (lv_at hl 1 rfl) ?_
        rw [← Option.some.inj h]
        exact fin_i F X hr d_X_root_52
      · have h := it_e hc h
        refine lv_aload_n F.x F.b d_X_root_11 rfl (lv_at hl 2 rfl) ?_
        refine r_get F X in_X 0 6 (gX_0 cI ad z) rfl (by decide) mt_86 rfl d_X_root_12 ?_
        refine lv_iload_n F.x F.b d_X_root_15 rfl (lv_at hl 1 rfl) ?_
        obtain ⟨hb5, h⟩ := it_b h
        refine r_ald F X 6 0 (gX_6 cI ad z) rfl hb5 d_X_root_16 ?_
        refine lv_iload_n F.x F.b d_X_root_17 rfl (lv_at hl 1 rfl) ?_
        refine lv_icmp_eq (tgt := 51) F.x F.b d_X_root_18 (by decide) (fun hc => ?_) (fun hc => ?_)
        · have h := it_t hc h
          refine lv_iload_n F.x F.b d_X_root_51 rfl (lv_at hl 1 rfl) ?_
          rw [← Option.some.inj h]
          exact fin_i F X hr d_X_root_52
        · have h := it_e hc h
          refine lv_aload_n F.x F.b d_X_root_21 rfl (lv_at hl 2 rfl) ?_
          refine r_get F X in_X 0 6 (gX_0 cI ad z) rfl (by decide) mt_86 rfl d_X_root_22 ?_
          refine lv_iload_n F.x F.b d_X_root_25 rfl (lv_at hl 1 rfl) ?_
          refine lv_aload_n F.x F.b d_X_root_26 rfl (lv_at hl 2 rfl) ?_
          refine r_get F X in_X 0 6 (gX_0 cI ad z) rfl (by decide) mt_86 rfl d_X_root_27 ?_
          refine lv_aload_n F.x F.b d_X_root_30 rfl (lv_at hl 2 rfl) ?_
          refine r_get F X in_X 0 6 (gX_0 cI ad z) rfl (by decide) mt_86 rfl d_X_root_31 ?_
          refine lv_iload_n F.x F.b d_X_root_34 rfl (lv_at hl 1 rfl) ?_
          obtain ⟨hb4, h⟩ := it_b h
          refine r_ald F X 6 0 (gX_6 cI ad z) rfl hb4 d_X_root_35 ?_
          obtain ⟨hb3, h⟩ := it_b h
          refine r_ald F X 6 0 (gX_6 cI ad z) rfl hb3 d_X_root_36 ?_
          obtain ⟨hb2, h⟩ := it_b h
          refine r_ast F X 6 0 (gX_6 cI ad z) rfl hb2 d_X_root_37 (sX_6 cI ad z _ _) (fun H locs X => ?_)
          refine lv_aload_n F.x F.b d_X_root_38 rfl (lv_at hl 2 rfl) ?_
          refine r_get F X in_X 0 6 (gX_0 cI ad (war z 3 (v2).toNatClampNeg (z.2 3 (z.2 3 (v2).toNatClampNeg).toNatClampNeg))) rfl (by decide) mt_86 rfl d_X_root_39 ?_
          refine lv_iload_n F.x F.b d_X_root_42 rfl (lv_at hl 1 rfl) ?_
          obtain ⟨hb1, h⟩ := it_b h
          refine r_ald F X 6 0 (gX_6 cI ad (war z 3 (v2).toNatClampNeg (z.2 3 (z.2 3 (v2).toNatClampNeg).toNatClampNeg))) rfl hb1 d_X_root_43 ?_
          refine lv_istore_n F.x F.b d_X_root_44 rfl hl (by decide) (lv' := [(2, .int ((war z 3 (v2).toNatClampNeg (z.2 3 (z.2 3 (v2).toNatClampNeg).toNatClampNeg)).2 3 (v2).toNatClampNeg)), (3, .int (v3)), (0, .ref (ad 0)), (1, .int (v1))]) rfl (fun ls hl => ?_)
          refine lv_iinc (k := 1) (v := (v3) + 1) F.x F.b d_X_root_45 hl rfl (ii_1 _) (by decide) (lv' := [(3, .int ((v3) + 1)), (2, .int ((war z 3 (v2).toNatClampNeg (z.2 3 (z.2 3 (v2).toNatClampNeg).toNatClampNeg)).2 3 (v2).toNatClampNeg)), (0, .ref (ad 0)), (1, .int (v1))]) rfl (fun ls hl => ?_)
          refine lv_goto (tgt := 4) F.x F.b d_X_root_48 (by decide) ?_
          exact ih (war z 3 (v2).toNatClampNeg (z.2 3 (z.2 3 (v2).toNatClampNeg).toNatClampNeg)) ((v3) + 1) ((war z 3 (v2).toNatClampNeg (z.2 3 (z.2 3 (v2).toNatClampNeg).toNatClampNeg)).2 3 (v2).toNatClampNeg) (v1) _ _ _ X (lv_sub hl [0, 1, 2, 3] rfl) h
  unfold f_X_root at h
  refine lv_iload_n F.x F.b d_X_root_0 rfl (lv_at hl 1 rfl) ?_
  refine lv_istore_n F.x F.b d_X_root_1 rfl hl (by decide) (lv' := [(2, .int (v1)), (0, .ref (ad 0)), (1, .int (v1))]) rfl (fun ls hl => ?_)
  refine lv_iconst (v := (0 : Int32)) F.x F.b d_X_root_2 (by decide) ?_
  refine lv_istore_n F.x F.b d_X_root_3 rfl hl (by decide) (lv' := [(3, .int ((0 : Int32))), (2, .int (v1)), (0, .ref (ad 0)), (1, .int (v1))]) rfl (fun ls hl => ?_)
  exact L4 FU z ((0 : Int32)) (v1) (v1) _ _ _ X (lv_sub hl [0, 1, 2, 3] rfl) h
theorem hd_X_putPartsOfBoth : y_X_putPartsOfBoth.cls ≠ "java/lang/invoke/MethodHandle" ∧ y_X_putPartsOfBoth.cls ≠ "java/lang/invoke/VarHandle" ∧ (parseMethodDescriptor y_X_putPartsOfBoth.desc).map (fun d => d.parameters.length) = some 2 := ⟨by decide, by decide, by decide +kernel⟩
set_option maxRecDepth 100000 in
set_option maxHeartbeats 4000000 in
theorem c_X_putPartsOfBoth (l : Launch) (D : Gd) (cI : ClassId) (ad : Nat → Nat) (z : St) (v1 v2 : Int32) (q : St) (h : f_X_putPartsOfBoth z v1 v2 = some q) : CV l y_X_putPartsOfBoth (.code y_X_putPartsOfBoth b_X_putPartsOfBoth 3 none) { frames := 1, cells := 0, slots := 0, locals := 21 } D [(cI, .int)] [.ref (ad 0), .int v1, .int v2] (cX cI ad z) (cX cI ad q) 0 0 := by
  refine mk_v (by decide) (Nat.le_of_ble_eq_true rfl) ?_
  intro p e s m args below meth c A ls F X hr hl
  have hl : lv_has ls 3 [(0, .ref (ad 0)), (1, .int (v1)), (2, .int (v2))] := hl
  unfold f_X_putPartsOfBoth at h
  refine lv_aload_n F.x F.b d_X_putPartsOfBoth_0 rfl (lv_at hl 0 rfl) ?_
  refine r_get F X in_X 0 1 (gX_0 cI ad z) rfl (by decide) mt_81 rfl d_X_putPartsOfBoth_1 ?_
  refine lv_iload_n F.x F.b d_X_putPartsOfBoth_4 rfl (lv_at hl 1 rfl) ?_
  obtain ⟨q1, hq1, h⟩ := it_c h
  refine r_ni F X hl.1 (c_S_hasParts l D cI ad z (v1) q1 hq1) (gX_1 cI ad z) rfl (List.mem_of_getElem? (i := 12) rfl) mt_294 ms_20 mt_2 mt_295 hd_S_hasParts ⟨by decide, by decide⟩ ⟨rfl, rfl⟩ ⟨Nat.zero_le _, Nat.zero_le _⟩ rfl (Nat.le_of_ble_eq_true rfl) d_X_putPartsOfBoth_5 rfl (fun H locs X => ?_)
  refine lv_if_eq (tgt := 75) F.x F.b d_X_putPartsOfBoth_8 (by decide) (fun hc => ?_) (fun hc => ?_)
  · have h := it_t hc h
    rw [← Option.some.inj h]
    exact fin_v F X hr d_X_putPartsOfBoth_75
  · have h := it_e hc h
    refine lv_aload_n F.x F.b d_X_putPartsOfBoth_11 rfl (lv_at hl 0 rfl) ?_
    refine r_get F X in_X 0 8 (gX_0 cI ad q1.2) rfl (by decide) mt_88 rfl d_X_putPartsOfBoth_12 ?_
    refine lv_aload_n F.x F.b d_X_putPartsOfBoth_15 rfl (lv_at hl 0 rfl) ?_
    refine r_get F X in_X 0 1 (gX_0 cI ad q1.2) rfl (by decide) mt_81 rfl d_X_putPartsOfBoth_16 ?_
    refine r_getN F X in_S 1 1 (gX_1 cI ad q1.2) rfl (by decide) (List.mem_of_getElem? (i := 2) rfl) rfl d_X_putPartsOfBoth_19 ?_
    refine lv_iload_n F.x F.b d_X_putPartsOfBoth_22 rfl (lv_at hl 1 rfl) ?_
    obtain ⟨hb9, h⟩ := it_b h
    refine r_ald F X 10 0 (gX_10 cI ad q1.2) rfl hb9 d_X_putPartsOfBoth_23 ?_
    obtain ⟨q2, hq2, h⟩ := it_c h
    refine r_nv F X hl.1 (c_P_put l D cI ad q1.2 (q1.2.2 7 (v1).toNatClampNeg) q2 hq2) (gX_2 cI ad q1.2) rfl (List.mem_of_getElem? (i := 13) rfl) mt_298 ms_21 mt_3 mt_299 hd_P_put ⟨by decide, by decide⟩ ⟨rfl, rfl⟩ ⟨Nat.zero_le _, Nat.zero_le _⟩ rfl (Nat.le_of_ble_eq_true rfl) d_X_putPartsOfBoth_24 rfl (fun H locs X => ?_)
    refine lv_aload_n F.x F.b d_X_putPartsOfBoth_27 rfl (lv_at hl 0 rfl) ?_
    refine r_get F X in_X 0 8 (gX_0 cI ad q2) rfl (by decide) mt_88 rfl d_X_putPartsOfBoth_28 ?_
    refine lv_aload_n F.x F.b d_X_putPartsOfBoth_31 rfl (lv_at hl 0 rfl) ?_
    refine r_get F X in_X 0 1 (gX_0 cI ad q2) rfl (by decide) mt_81 rfl d_X_putPartsOfBoth_32 ?_
    refine r_getN F X in_S 1 1 (gX_1 cI ad q2) rfl (by decide) (List.mem_of_getElem? (i := 2) rfl) rfl d_X_putPartsOfBoth_35 ?_
    refine lv_iload_n F.x F.b d_X_putPartsOfBoth_38 rfl (lv_at hl 2 rfl) ?_
    obtain ⟨hb8, h⟩ := it_b h
    refine r_ald F X 10 0 (gX_10 cI ad q2) rfl hb8 d_X_putPartsOfBoth_39 ?_
    obtain ⟨q3, hq3, h⟩ := it_c h
    refine r_nv F X hl.1 (c_P_put l D cI ad q2 (q2.2 7 (v2).toNatClampNeg) q3 hq3) (gX_2 cI ad q2) rfl (List.mem_of_getElem? (i := 13) rfl) mt_298 ms_21 mt_3 mt_299 hd_P_put ⟨by decide, by decide⟩ ⟨rfl, rfl⟩ ⟨Nat.zero_le _, Nat.zero_le _⟩ rfl (Nat.le_of_ble_eq_true rfl) d_X_putPartsOfBoth_40 rfl (fun H locs X => ?_)
    refine lv_aload_n F.x F.b d_X_putPartsOfBoth_43 rfl (lv_at hl 0 rfl) ?_
    refine r_get F X in_X 0 8 (gX_0 cI ad q3) rfl (by decide) mt_88 rfl d_X_putPartsOfBoth_44 ?_
    refine lv_aload_n F.x F.b d_X_putPartsOfBoth_47 rfl (lv_at hl 0 rfl) ?_
    refine r_get F X in_X 0 1 (gX_0 cI ad q3) rfl (by decide) mt_81 rfl d_X_putPartsOfBoth_48 ?_
    refine r_getN F X in_S 1 2 (gX_1 cI ad q3) rfl (by decide) (List.mem_of_getElem? (i := 3) rfl) rfl d_X_putPartsOfBoth_51 ?_
    refine lv_iload_n F.x F.b d_X_putPartsOfBoth_54 rfl (lv_at hl 1 rfl) ?_
    obtain ⟨hb7, h⟩ := it_b h
    refine r_ald F X 11 0 (gX_11 cI ad q3) rfl hb7 d_X_putPartsOfBoth_55 ?_
    obtain ⟨q4, hq4, h⟩ := it_c h
    refine r_nv F X hl.1 (c_P_put l D cI ad q3 (q3.2 8 (v1).toNatClampNeg) q4 hq4) (gX_2 cI ad q3) rfl (List.mem_of_getElem? (i := 13) rfl) mt_298 ms_21 mt_3 mt_299 hd_P_put ⟨by decide, by decide⟩ ⟨rfl, rfl⟩ ⟨Nat.zero_le _, Nat.zero_le _⟩ rfl (Nat.le_of_ble_eq_true rfl) d_X_putPartsOfBoth_56 rfl (fun H locs X => ?_)
    refine lv_aload_n F.x F.b d_X_putPartsOfBoth_59 rfl (lv_at hl 0 rfl) ?_
    refine r_get F X in_X 0 8 (gX_0 cI ad q4) rfl (by decide) mt_88 rfl d_X_putPartsOfBoth_60 ?_
    refine lv_aload_n F.x F.b d_X_putPartsOfBoth_63 rfl (lv_at hl 0 rfl) ?_
    refine r_get F X in_X 0 1 (gX_0 cI ad q4) rfl (by decide) mt_81 rfl d_X_putPartsOfBoth_64 ?_
    refine r_getN F X in_S 1 2 (gX_1 cI ad q4) rfl (by decide) (List.mem_of_getElem? (i := 3) rfl) rfl d_X_putPartsOfBoth_67 ?_
    refine lv_iload_n F.x F.b d_X_putPartsOfBoth_70 rfl (lv_at hl 2 rfl) ?_
    obtain ⟨hb6, h⟩ := it_b h
    refine r_ald F X 11 0 (gX_11 cI ad q4) rfl hb6 d_X_putPartsOfBoth_71 ?_
    obtain ⟨q5, hq5, h⟩ := it_c h
    refine r_nv F X hl.1 (c_P_put l D cI ad q4 (q4.2 8 (v2).toNatClampNeg) q5 hq5) (gX_2 cI ad q4) rfl (List.mem_of_getElem? (i := 13) rfl) mt_298 ms_21 mt_3 mt_299 hd_P_put ⟨by decide, by decide⟩ ⟨rfl, rfl⟩ ⟨Nat.zero_le _, Nat.zero_le _⟩ rfl (Nat.le_of_ble_eq_true rfl) d_X_putPartsOfBoth_72 rfl (fun H locs X => ?_)
    rw [← Option.some.inj h]
    exact fin_v F X hr d_X_putPartsOfBoth_75
theorem hd_X_linkTwo : y_X_linkTwo.cls ≠ "java/lang/invoke/MethodHandle" ∧ y_X_linkTwo.cls ≠ "java/lang/invoke/VarHandle" ∧ (parseMethodDescriptor y_X_linkTwo.desc).map (fun d => d.parameters.length) = some 2 := ⟨by decide, by decide, by decide +kernel⟩
set_option maxRecDepth 100000 in
set_option maxHeartbeats 4000000 in
theorem c_X_linkTwo (l : Launch) (D : Gd) (cI : ClassId) (ad : Nat → Nat) (z : St) (v1 v2 : Int32) (q : Int32 × St) (h : f_X_linkTwo z v1 v2 = some q) : CI l y_X_linkTwo (.code y_X_linkTwo b_X_linkTwo 3 (some .boolean)) { frames := 2, cells := 0, slots := 0, locals := 43 } D [(cI, .int)] [.ref (ad 0), .int v1, .int v2] (cX cI ad z) q.1 (cX cI ad q.2) 0 0 := by
  refine mk_i (by decide) (Nat.le_of_ble_eq_true rfl) ?_
  intro p e s m args below meth c A ls F X hr hl
  have hl : lv_has ls 3 [(0, .ref (ad 0)), (1, .int (v1)), (2, .int (v2))] := hl
  unfold f_X_linkTwo at h
  refine lv_aload_n F.x F.b d_X_linkTwo_0 rfl (lv_at hl 0 rfl) ?_
  refine r_get F X in_X 0 1 (gX_0 cI ad z) rfl (by decide) mt_81 rfl d_X_linkTwo_1 ?_
  refine r_getN F X in_S 1 0 (gX_1 cI ad z) rfl (by decide) (List.mem_of_getElem? (i := 1) rfl) rfl d_X_linkTwo_4 ?_
  refine lv_iload_n F.x F.b d_X_linkTwo_7 rfl (lv_at hl 1 rfl) ?_
  obtain ⟨hb8, h⟩ := it_b h
  refine r_ald F X 9 0 (gX_9 cI ad z) rfl hb8 d_X_linkTwo_8 ?_
  refine lv_if_ne (tgt := 21) F.x F.b d_X_linkTwo_9 (by decide) (fun hc => ?_) (fun hc => ?_)
  · have h := it_e hc h
    refine lv_aload_n F.x F.b d_X_linkTwo_21 rfl (lv_at hl 0 rfl) ?_
    refine r_get F X in_X 0 1 (gX_0 cI ad z) rfl (by decide) mt_81 rfl d_X_linkTwo_22 ?_
    refine r_getN F X in_S 1 0 (gX_1 cI ad z) rfl (by decide) (List.mem_of_getElem? (i := 1) rfl) rfl d_X_linkTwo_25 ?_
    refine lv_iload_n F.x F.b d_X_linkTwo_28 rfl (lv_at hl 2 rfl) ?_
    obtain ⟨hb6, h⟩ := it_b h
    refine r_ald F X 9 0 (gX_9 cI ad z) rfl hb6 d_X_linkTwo_29 ?_
    refine lv_if_ne (tgt := 42) F.x F.b d_X_linkTwo_30 (by decide) (fun hc => ?_) (fun hc => ?_)
    · have h := it_e hc h
      refine lv_aload_n F.x F.b d_X_linkTwo_42 rfl (lv_at hl 0 rfl) ?_
      refine r_get F X in_X 0 1 (gX_0 cI ad z) rfl (by decide) mt_81 rfl d_X_linkTwo_43 ?_
      refine r_getN F X in_S 1 0 (gX_1 cI ad z) rfl (by decide) (List.mem_of_getElem? (i := 1) rfl) rfl d_X_linkTwo_46 ?_
      refine lv_iload_n F.x F.b d_X_linkTwo_49 rfl (lv_at hl 1 rfl) ?_
      obtain ⟨hb4, h⟩ := it_b h
      refine r_ald F X 9 0 (gX_9 cI ad z) rfl hb4 d_X_linkTwo_50 ?_
      refine lv_aload_n F.x F.b d_X_linkTwo_51 rfl (lv_at hl 0 rfl) ?_
      refine r_get F X in_X 0 1 (gX_0 cI ad z) rfl (by decide) mt_81 rfl d_X_linkTwo_52 ?_
      refine r_getN F X in_S 1 0 (gX_1 cI ad z) rfl (by decide) (List.mem_of_getElem? (i := 1) rfl) rfl d_X_linkTwo_55 ?_
      refine lv_iload_n F.x F.b d_X_linkTwo_58 rfl (lv_at hl 2 rfl) ?_
      obtain ⟨hb3, h⟩ := it_b h
      refine r_ald F X 9 0 (gX_9 cI ad z) rfl hb3 d_X_linkTwo_59 ?_
      refine lv_icmp_eq (tgt := 65) F.x F.b d_X_linkTwo_60 (by decide) (fun hc => ?_) (fun hc => ?_)
      · have h := it_t hc h
        refine lv_aload_n F.x F.b d_X_linkTwo_65 rfl (lv_at hl 0 rfl) ?_
        refine r_get F X in_X 0 6 (gX_0 cI ad z) rfl (by decide) mt_86 rfl d_X_linkTwo_66 ?_
        refine lv_iload_n F.x F.b d_X_linkTwo_69 rfl (lv_at hl 1 rfl) ?_
        refine lv_iload_n F.x F.b d_X_linkTwo_70 rfl (lv_at hl 2 rfl) ?_
        obtain ⟨hb2, h⟩ := it_b h
        refine r_ast F X 6 0 (gX_6 cI ad z) rfl hb2 d_X_linkTwo_71 (sX_6 cI ad z _ _) (fun H locs X => ?_)
        refine lv_aload_n F.x F.b d_X_linkTwo_72 rfl (lv_at hl 0 rfl) ?_
        refine lv_iload_n F.x F.b d_X_linkTwo_73 rfl (lv_at hl 1 rfl) ?_
        refine lv_iload_n F.x F.b d_X_linkTwo_74 rfl (lv_at hl 2 rfl) ?_
        obtain ⟨q1, hq1, h⟩ := it_c h
        refine r_vv F X hl.1 (c_X_putPartsOfBoth l D cI ad (war z 3 (v1).toNatClampNeg (v2)) (v1) (v2) q1 hq1) (gX_0 cI ad (war z 3 (v1).toNatClampNeg (v2))) rfl mt_288 mt_290 ms_19 mt_1 mt_291 ⟨rfl, hd_X_putPartsOfBoth⟩ ⟨by decide, by decide⟩ ⟨rfl, rfl⟩ ⟨Nat.zero_le _, Nat.zero_le _⟩ rfl (Nat.le_of_ble_eq_true rfl) d_X_linkTwo_75 rfl (fun H locs X => ?_)
        refine lv_iconst (v := (1 : Int32)) F.x F.b d_X_linkTwo_78 (by decide) ?_
        rw [← Option.some.inj h]
        exact fin_z F X hr (Or.inr rfl) d_X_linkTwo_79
      · have h := it_e hc h
        refine lv_iconst (v := (0 : Int32)) F.x F.b d_X_linkTwo_63 (by decide) ?_
        rw [← Option.some.inj h]
        exact fin_z F X hr (Or.inl rfl) d_X_linkTwo_64
    · have h := it_t hc h
      refine lv_aload_n F.x F.b d_X_linkTwo_33 rfl (lv_at hl 0 rfl) ?_
      refine r_get F X in_X 0 6 (gX_0 cI ad z) rfl (by decide) mt_86 rfl d_X_linkTwo_34 ?_
      refine lv_iload_n F.x F.b d_X_linkTwo_37 rfl (lv_at hl 2 rfl) ?_
      refine lv_iload_n F.x F.b d_X_linkTwo_38 rfl (lv_at hl 1 rfl) ?_
      obtain ⟨hb5, h⟩ := it_b h
      refine r_ast F X 6 0 (gX_6 cI ad z) rfl hb5 d_X_linkTwo_39 (sX_6 cI ad z _ _) (fun H locs X => ?_)
      refine lv_iconst (v := (1 : Int32)) F.x F.b d_X_linkTwo_40 (by decide) ?_
      rw [← Option.some.inj h]
      exact fin_z F X hr (Or.inr rfl) d_X_linkTwo_41
  · have h := it_t hc h
    refine lv_aload_n F.x F.b d_X_linkTwo_12 rfl (lv_at hl 0 rfl) ?_
    refine r_get F X in_X 0 6 (gX_0 cI ad z) rfl (by decide) mt_86 rfl d_X_linkTwo_13 ?_
    refine lv_iload_n F.x F.b d_X_linkTwo_16 rfl (lv_at hl 1 rfl) ?_
    refine lv_iload_n F.x F.b d_X_linkTwo_17 rfl (lv_at hl 2 rfl) ?_
    obtain ⟨hb7, h⟩ := it_b h
    refine r_ast F X 6 0 (gX_6 cI ad z) rfl hb7 d_X_linkTwo_18 (sX_6 cI ad z _ _) (fun H locs X => ?_)
    refine lv_iconst (v := (1 : Int32)) F.x F.b d_X_linkTwo_19 (by decide) ?_
    rw [← Option.some.inj h]
    exact fin_z F X hr (Or.inr rfl) d_X_linkTwo_20
theorem hd_X_linkAll : y_X_linkAll.cls ≠ "java/lang/invoke/MethodHandle" ∧ y_X_linkAll.cls ≠ "java/lang/invoke/VarHandle" ∧ (parseMethodDescriptor y_X_linkAll.desc).map (fun d => d.parameters.length) = some 2 := ⟨by decide, by decide, by decide +kernel⟩
set_option maxRecDepth 100000 in
set_option maxHeartbeats 4000000 in
theorem c_X_linkAll (l : Launch) (D : Gd) (cI : ClassId) (ad : Nat → Nat) (z : St) (v1 v2 : Int32) (q : Int32 × St) (h : f_X_linkAll z v1 v2 = some q) : CI l y_X_linkAll (.code y_X_linkAll b_X_linkAll 6 (some .boolean)) { frames := 3, cells := 0, slots := 0, locals := 65 } D [(cI, .int)] [.ref (ad 0), .int v1, .int v2] (cX cI ad z) q.1 (cX cI ad q.2) 0 0 := by
  refine mk_i (by decide) (Nat.le_of_ble_eq_true rfl) ?_
  intro p e s m args below meth c A ls F X hr hl
  have hl : lv_has ls 6 [(0, .ref (ad 0)), (1, .int (v1)), (2, .int (v2))] := hl
  have L28 : ∀ (n : Nat) (z : St) (v3 : Int32) (v1 : Int32) (v2 : Int32) (H : Heap) (locs : List Loc) (ls : Array Slot), Wd D A s (cX cI ad z) H locs → lv_has ls 6 [(3, .int (v3)), (0, .ref (ad 0)), (1, .int (v1)), (2, .int (v2))] → f_X_linkAll_l28 n z v3 v1 v2 = some q → W p l e { frames := 3, cells := 0, slots := 0, locals := 65 } s m args below meth c H locs 0 0 (MQ below (va_Qi (fun (r' : Int32) (u : va_W) => r' = q.1 ∧ u = cX cI ad q.2) (Po D [(cI, .int)] A) A) args s 0 0 A) (F0 m 28 ls []) := by
    intro n
    induction n with
    | zero => intro z v3 v1 v2 H locs ls X hl h; cases h
    | succ n ih =>
      intro z v3 v1 v2 H locs ls X hl h
      rw [f_X_linkAll_l28] at h
      refine lv_iload_n F.x F.b d_X_linkAll_28 rfl (lv_at hl 0 rfl) ?_
      refine lv_sipush (v := (2000 : Int32)) F.x F.b d_X_linkAll_29 (by decide) ?_
      refine lv_icmp_ge (tgt := 97) F.x F.b d_X_linkAll_32 (by decide) (fun hc => ?_) (fun hc => ?_)
      · have h := it_t hc h
        refine lv_iconst (v := (1 : Int32)) F.x F.b d_X_linkAll_97 (by decide) ?_
        rw [← Option.some.inj h]
        exact fin_z F X hr (Or.inr rfl) d_X_linkAll_98
      · have h := it_e hc h
        refine lv_aload_n F.x F.b d_X_linkAll_35 rfl (lv_at hl 1 rfl) ?_
        refine r_get F X in_X 0 8 (gX_0 cI ad z) rfl (by decide) mt_88 rfl d_X_linkAll_36 ?_
        refine r_getN F X in_P 2 1 (gX_2 cI ad z) rfl (by decide) (List.mem_of_getElem? (i := 5) rfl) rfl d_X_linkAll_39 ?_
        refine lv_if_le (tgt := 97) F.x F.b d_X_linkAll_42 (by decide) (fun hc => ?_) (fun hc => ?_)
        · have h := it_t hc h
          refine lv_iconst (v := (1 : Int32)) F.x F.b d_X_linkAll_97 (by decide) ?_
          rw [← Option.some.inj h]
          exact fin_z F X hr (Or.inr rfl) d_X_linkAll_98
        · have h := it_e hc h
          refine lv_aload_n F.x F.b d_X_linkAll_45 rfl (lv_at hl 1 rfl) ?_
          refine lv_aload_n F.x F.b d_X_linkAll_46 rfl (lv_at hl 1 rfl) ?_
          refine r_get F X in_X 0 8 (gX_0 cI ad z) rfl (by decide) mt_88 rfl d_X_linkAll_47 ?_
          obtain ⟨q2, hq2, h⟩ := it_c h
          refine r_ni F X hl.1 (c_P_take l D cI ad z q2 hq2) (gX_2 cI ad z) rfl (List.mem_of_getElem? (i := 11) rfl) mt_278 ms_16 mt_3 mt_279 hd_P_take ⟨by decide, by decide⟩ ⟨rfl, rfl⟩ ⟨Nat.zero_le _, Nat.zero_le _⟩ rfl (Nat.le_of_ble_eq_true rfl) d_X_linkAll_50 rfl (fun H locs X => ?_)
          obtain ⟨q3, hq3, h⟩ := it_c h
          refine r_vi F X hl.1 (c_X_root l D cI ad q2.2 (q2.1) q3 hq3) (gX_0 cI ad q2.2) rfl mt_280 mt_282 ms_17 mt_1 mt_283 ⟨rfl, hd_X_root⟩ ⟨by decide, by decide⟩ ⟨rfl, rfl⟩ ⟨Nat.zero_le _, Nat.zero_le _⟩ rfl (Nat.le_of_ble_eq_true rfl) d_X_linkAll_53 rfl (fun H locs X => ?_)
          refine lv_istore F.x F.b d_X_linkAll_56 hl (by decide) (lv' := [(4, .int (q3.1)), (3, .int (v3)), (0, .ref (ad 0)), (1, .int (v1)), (2, .int (v2))]) rfl (fun ls hl => ?_)
          refine lv_aload_n F.x F.b d_X_linkAll_58 rfl (lv_at hl 2 rfl) ?_
          refine lv_aload_n F.x F.b d_X_linkAll_59 rfl (lv_at hl 2 rfl) ?_
          refine r_get F X in_X 0 8 (gX_0 cI ad q3.2) rfl (by decide) mt_88 rfl d_X_linkAll_60 ?_
          obtain ⟨q4, hq4, h⟩ := it_c h
          refine r_ni F X hl.1 (c_P_take l D cI ad q3.2 q4 hq4) (gX_2 cI ad q3.2) rfl (List.mem_of_getElem? (i := 11) rfl) mt_278 ms_16 mt_3 mt_279 hd_P_take ⟨by decide, by decide⟩ ⟨rfl, rfl⟩ ⟨Nat.zero_le _, Nat.zero_le _⟩ rfl (Nat.le_of_ble_eq_true rfl) d_X_linkAll_63 rfl (fun H locs X => ?_)
          obtain ⟨q5, hq5, h⟩ := it_c h
          refine r_vi F X hl.1 (c_X_root l D cI ad q4.2 (q4.1) q5 hq5) (gX_0 cI ad q4.2) rfl mt_280 mt_282 ms_17 mt_1 mt_283 ⟨rfl, hd_X_root⟩ ⟨by decide, by decide⟩ ⟨rfl, rfl⟩ ⟨Nat.zero_le _, Nat.zero_le _⟩ rfl (Nat.le_of_ble_eq_true rfl) d_X_linkAll_66 rfl (fun H locs X => ?_)
          refine lv_istore F.x F.b d_X_linkAll_69 hl (by decide) (lv' := [(5, .int (q5.1)), (4, .int (q3.1)), (3, .int (v3)), (0, .ref (ad 0)), (1, .int (v1)), (2, .int (v2))]) rfl (fun ls hl => ?_)
          refine lv_iload F.x F.b d_X_linkAll_71 (lv_at hl 0 rfl) ?_
          refine lv_iload F.x F.b d_X_linkAll_73 (lv_at hl 1 rfl) ?_
          refine lv_icmp_eq (tgt := 91) F.x F.b d_X_linkAll_75 (by decide) (fun hc => ?_) (fun hc => ?_)
          · have h := it_t hc h
            refine lv_iinc (k := 2) (v := (v3) + 1) F.x F.b d_X_linkAll_91 hl rfl (ii_1 _) (by decide) (lv' := [(3, .int ((v3) + 1)), (5, .int (q5.1)), (4, .int (q3.1)), (0, .ref (ad 0)), (1, .int (v1)), (2, .int (v2))]) rfl (fun ls hl => ?_)
            refine lv_goto (tgt := 28) F.x F.b d_X_linkAll_94 (by decide) ?_
            exact ih q5.2 ((v3) + 1) (v1) (v2) _ _ _ X (lv_sub hl [0, 3, 4, 5] rfl) h
          · have h := it_e hc h
            refine lv_aload_n F.x F.b d_X_linkAll_78 rfl (lv_at hl 3 rfl) ?_
            refine lv_iload F.x F.b d_X_linkAll_79 (lv_at hl 0 rfl) ?_
            refine lv_iload F.x F.b d_X_linkAll_81 (lv_at hl 1 rfl) ?_
            obtain ⟨q6, hq6, h⟩ := it_c h
            refine r_vi F X hl.1 (c_X_linkTwo l D cI ad q5.2 (q5.1) (q3.1) q6 hq6) (gX_0 cI ad q5.2) rfl mt_284 mt_286 ms_18 mt_1 mt_287 ⟨rfl, hd_X_linkTwo⟩ ⟨by decide, by decide⟩ ⟨rfl, rfl⟩ ⟨Nat.zero_le _, Nat.zero_le _⟩ rfl (Nat.le_of_ble_eq_true rfl) d_X_linkAll_83 rfl (fun H locs X => ?_)
            refine lv_if_ne (tgt := 91) F.x F.b d_X_linkAll_86 (by decide) (fun hc => ?_) (fun hc => ?_)
            · have h := it_e hc h
              refine lv_iinc (k := 2) (v := (v3) + 1) F.x F.b d_X_linkAll_91 hl rfl (ii_1 _) (by decide) (lv' := [(3, .int ((v3) + 1)), (5, .int (q5.1)), (4, .int (q3.1)), (0, .ref (ad 0)), (1, .int (v1)), (2, .int (v2))]) rfl (fun ls hl => ?_)
              refine lv_goto (tgt := 28) F.x F.b d_X_linkAll_94 (by decide) ?_
              exact ih q6.2 ((v3) + 1) (v1) (v2) _ _ _ X (lv_sub hl [0, 3, 4, 5] rfl) h
            · have h := it_t hc h
              refine lv_iconst (v := (0 : Int32)) F.x F.b d_X_linkAll_89 (by decide) ?_
              rw [← Option.some.inj h]
              exact fin_z F X hr (Or.inl rfl) d_X_linkAll_90
  unfold f_X_linkAll at h
  refine lv_aload_n F.x F.b d_X_linkAll_0 rfl (lv_at hl 0 rfl) ?_
  refine r_get F X in_X 0 2 (gX_0 cI ad z) rfl (by decide) mt_82 rfl d_X_linkAll_1 ?_
  refine lv_iconst (v := (0 : Int32)) F.x F.b d_X_linkAll_4 (by decide) ?_
  refine lv_aload_n F.x F.b d_X_linkAll_5 rfl (lv_at hl 0 rfl) ?_
  refine r_get F X in_X 0 6 (gX_0 cI ad z) rfl (by decide) mt_86 rfl d_X_linkAll_6 ?_
  refine lv_iconst (v := (0 : Int32)) F.x F.b d_X_linkAll_9 (by decide) ?_
  refine lv_aload_n F.x F.b d_X_linkAll_10 rfl (lv_at hl 0 rfl) ?_
  refine r_get F X in_X 0 0 (gX_0 cI ad z) rfl (by decide) mt_80 rfl d_X_linkAll_11 ?_
  obtain ⟨hb7, h⟩ := it_b h
  refine va_copyi F.x F.b (F.2.2.1.trans hl.1.symm) F.2.2.2.1 (F.2.2.2.2.1 _ mt_269) (F.2.2.2.2.1 _ mt_271) (F.2.2.2.2.1 _ mt_270) (F.2.2.2.2.1 _ mt_11) F.2.2.2.2.2.1 X.1 X.2.1 X.2.2 3 6 0 0 (ty := .int) (gX_3 cI ad z) (gX_6 cI ad z) rfl rfl rfl (fun z9 => hb7 (Or.inl (Or.inl z9))) (fun z9 => hb7 (Or.inl (Or.inr (Or.inl z9)))) (fun z9 => hb7 (Or.inl (Or.inr (Or.inr z9)))) (Nat.le_of_not_lt fun z9 => hb7 (Or.inr (Or.inl z9))) (Nat.le_of_not_lt fun z9 => hb7 (Or.inr (Or.inr z9))) (fun _ _ => rfl) (by decide) (Nat.le_of_ble_eq_true rfl) d_X_linkAll_14 (fun H locs h1 h2 h3 => ?_)
  have X : Wd D A s (cX cI ad (wal z 3 (va_cpy (z.2 0) (z.2 3) ((0 : Int32)).toNatClampNeg ((0 : Int32)).toNatClampNeg (z.1 0).toNatClampNeg))) H locs := (aX_6 cI ad z _) ▸ (⟨h1, h2, h3⟩ : Wd D A s _ H locs)
  refine lv_aload_n F.x F.b d_X_linkAll_17 rfl (lv_at hl 0 rfl) ?_
  refine r_get F X in_X 0 8 (gX_0 cI ad (wal z 3 (va_cpy (z.2 0) (z.2 3) ((0 : Int32)).toNatClampNeg ((0 : Int32)).toNatClampNeg (z.1 0).toNatClampNeg))) rfl (by decide) mt_88 rfl d_X_linkAll_18 ?_
  refine lv_iload_n F.x F.b d_X_linkAll_21 rfl (lv_at hl 1 rfl) ?_
  refine lv_iload_n F.x F.b d_X_linkAll_22 rfl (lv_at hl 2 rfl) ?_
  obtain ⟨q1, hq1, h⟩ := it_c h
  refine r_nv F X hl.1 (c_P_startWith l D cI ad (wal z 3 (va_cpy (z.2 0) (z.2 3) ((0 : Int32)).toNatClampNeg ((0 : Int32)).toNatClampNeg (z.1 0).toNatClampNeg)) (v1) (v2) q1 hq1) (gX_2 cI ad (wal z 3 (va_cpy (z.2 0) (z.2 3) ((0 : Int32)).toNatClampNeg ((0 : Int32)).toNatClampNeg (z.1 0).toNatClampNeg))) rfl (List.mem_of_getElem? (i := 10) rfl) mt_274 ms_15 mt_3 mt_275 hd_P_startWith ⟨by decide, by decide⟩ ⟨rfl, rfl⟩ ⟨Nat.zero_le _, Nat.zero_le _⟩ rfl (Nat.le_of_ble_eq_true rfl) d_X_linkAll_23 rfl (fun H locs X => ?_)
  refine lv_iconst (v := (0 : Int32)) F.x F.b d_X_linkAll_26 (by decide) ?_
  refine lv_istore_n F.x F.b d_X_linkAll_27 rfl hl (by decide) (lv' := [(3, .int ((0 : Int32))), (0, .ref (ad 0)), (1, .int (v1)), (2, .int (v2))]) rfl (fun ls hl => ?_)
  exact L28 FU q1 ((0 : Int32)) (v1) (v2) _ _ _ X (lv_sub hl [0, 1, 2, 3] rfl) h
theorem hd_X_layDown : y_X_layDown.cls ≠ "java/lang/invoke/MethodHandle" ∧ y_X_layDown.cls ≠ "java/lang/invoke/VarHandle" ∧ (parseMethodDescriptor y_X_layDown.desc).map (fun d => d.parameters.length) = some 1 := ⟨by decide, by decide, by decide +kernel⟩
set_option maxRecDepth 100000 in
set_option maxHeartbeats 4000000 in
theorem c_X_layDown (l : Launch) (D : Gd) (cI : ClassId) (ad : Nat → Nat) (z : St) (v1 : Int32) (q : St) (h : f_X_layDown z v1 = some q) : CV l y_X_layDown (.code y_X_layDown b_X_layDown 2 none) { frames := 0, cells := 0, slots := 0, locals := 0 } D [(cI, .int)] [.ref (ad 0), .int v1] (cX cI ad z) (cX cI ad q) 0 0 := by
  refine mk_v (by decide) (Nat.le_of_ble_eq_true rfl) ?_
  intro p e s m args below meth c A ls F X hr hl
  have hl : lv_has ls 2 [(0, .ref (ad 0)), (1, .int (v1))] := hl
  unfold f_X_layDown at h
  refine lv_aload_n F.x F.b d_X_layDown_0 rfl (lv_at hl 0 rfl) ?_
  refine r_get F X in_X 0 7 (gX_0 cI ad z) rfl (by decide) mt_87 rfl d_X_layDown_1 ?_
  refine lv_iload_n F.x F.b d_X_layDown_4 rfl (lv_at hl 1 rfl) ?_
  obtain ⟨hb3, h⟩ := it_b h
  refine r_ald F X 7 0 (gX_7 cI ad z) rfl hb3 d_X_layDown_5 ?_
  refine lv_iconst (v := (1 : Int32)) F.x F.b d_X_layDown_6 (by decide) ?_
  refine lv_icmp_ne (tgt := 37) F.x F.b d_X_layDown_7 (by decide) (fun hc => ?_) (fun hc => ?_)
  · have h := it_e hc h
    rw [← Option.some.inj h]
    exact fin_v F X hr d_X_layDown_37
  · have h := it_t hc h
    refine lv_aload_n F.x F.b d_X_layDown_10 rfl (lv_at hl 0 rfl) ?_
    refine r_get F X in_X 0 7 (gX_0 cI ad z) rfl (by decide) mt_87 rfl d_X_layDown_11 ?_
    refine lv_iload_n F.x F.b d_X_layDown_14 rfl (lv_at hl 1 rfl) ?_
    refine lv_iconst (v := (2 : Int32)) F.x F.b d_X_layDown_15 (by decide) ?_
    obtain ⟨hb2, h⟩ := it_b h
    refine r_ast F X 7 0 (gX_7 cI ad z) rfl hb2 d_X_layDown_16 (sX_7 cI ad z _ _) (fun H locs X => ?_)
    refine lv_aload_n F.x F.b d_X_layDown_17 rfl (lv_at hl 0 rfl) ?_
    refine r_get F X in_X 0 9 (gX_0 cI ad (war z 4 (v1).toNatClampNeg ((2 : Int32)))) rfl (by decide) mt_89 rfl d_X_layDown_18 ?_
    refine lv_aload_n F.x F.b d_X_layDown_21 rfl (lv_at hl 0 rfl) ?_
    refine r_get F X in_X 0 10 (gX_0 cI ad (war z 4 (v1).toNatClampNeg ((2 : Int32)))) rfl (by decide) mt_90 rfl d_X_layDown_22 ?_
    refine lv_iload_n F.x F.b d_X_layDown_25 rfl (lv_at hl 1 rfl) ?_
    obtain ⟨hb1, h⟩ := it_b h
    refine r_ast F X 8 0 (gX_8 cI ad (war z 4 (v1).toNatClampNeg ((2 : Int32)))) rfl hb1 d_X_layDown_26 (sX_8 cI ad (war z 4 (v1).toNatClampNeg ((2 : Int32))) _ _) (fun H locs X => ?_)
    refine lv_aload_n F.x F.b d_X_layDown_27 rfl (lv_at hl 0 rfl) ?_
    refine lv_dup F.x F.b d_X_layDown_28 rfl ?_
    refine r_get F X in_X 0 10 (gX_0 cI ad (war (war z 4 (v1).toNatClampNeg ((2 : Int32))) 5 ((war z 4 (v1).toNatClampNeg ((2 : Int32))).1 2).toNatClampNeg (v1))) rfl (by decide) mt_90 rfl d_X_layDown_29 ?_
    refine lv_iconst (v := (1 : Int32)) F.x F.b d_X_layDown_32 (by decide) ?_
    refine lv_iadd F.x F.b d_X_layDown_33 ?_
    refine r_put F X in_X t_X t_X_ok n_X 0 10 (gX_0 cI ad (war (war z 4 (v1).toNatClampNeg ((2 : Int32))) 5 ((war z 4 (v1).toNatClampNeg ((2 : Int32))).1 2).toNatClampNeg (v1))) rfl (by decide) mt_90 rfl (t_X_ok 10 (by decide)) rfl rfl (Nat.le_of_ble_eq_true rfl) d_X_layDown_34 (pX_2 cI ad (war (war z 4 (v1).toNatClampNeg ((2 : Int32))) 5 ((war z 4 (v1).toNatClampNeg ((2 : Int32))).1 2).toNatClampNeg (v1)) _) (fun H locs X => ?_)
    rw [← Option.some.inj h]
    exact fin_v F X hr d_X_layDown_37
theorem hd_X_putUnseen : y_X_putUnseen.cls ≠ "java/lang/invoke/MethodHandle" ∧ y_X_putUnseen.cls ≠ "java/lang/invoke/VarHandle" ∧ (parseMethodDescriptor y_X_putUnseen.desc).map (fun d => d.parameters.length) = some 1 := ⟨by decide, by decide, by decide +kernel⟩
set_option maxRecDepth 100000 in
set_option maxHeartbeats 4000000 in
theorem c_X_putUnseen (l : Launch) (D : Gd) (cI : ClassId) (ad : Nat → Nat) (z : St) (v1 : Int32) (q : Int32 × St) (h : f_X_putUnseen z v1 = some q) : CI l y_X_putUnseen (.code y_X_putUnseen b_X_putUnseen 2 (some .boolean)) { frames := 1, cells := 0, slots := 0, locals := 21 } D [(cI, .int)] [.ref (ad 0), .int v1] (cX cI ad z) q.1 (cX cI ad q.2) 0 0 := by
  refine mk_i (by decide) (Nat.le_of_ble_eq_true rfl) ?_
  intro p e s m args below meth c A ls F X hr hl
  have hl : lv_has ls 2 [(0, .ref (ad 0)), (1, .int (v1))] := hl
  unfold f_X_putUnseen at h
  refine lv_aload_n F.x F.b d_X_putUnseen_0 rfl (lv_at hl 0 rfl) ?_
  refine r_get F X in_X 0 7 (gX_0 cI ad z) rfl (by decide) mt_87 rfl d_X_putUnseen_1 ?_
  refine lv_iload_n F.x F.b d_X_putUnseen_4 rfl (lv_at hl 1 rfl) ?_
  obtain ⟨hb4, h⟩ := it_b h
  refine r_ald F X 7 0 (gX_7 cI ad z) rfl hb4 d_X_putUnseen_5 ?_
  refine lv_if_ne (tgt := 17) F.x F.b d_X_putUnseen_6 (by decide) (fun hc => ?_) (fun hc => ?_)
  · have h := it_e hc h
    refine lv_aload_n F.x F.b d_X_putUnseen_17 rfl (lv_at hl 0 rfl) ?_
    refine r_get F X in_X 0 7 (gX_0 cI ad z) rfl (by decide) mt_87 rfl d_X_putUnseen_18 ?_
    refine lv_iload_n F.x F.b d_X_putUnseen_21 rfl (lv_at hl 1 rfl) ?_
    obtain ⟨hb1, h⟩ := it_b h
    refine r_ald F X 7 0 (gX_7 cI ad z) rfl hb1 d_X_putUnseen_22 ?_
    refine lv_iconst (v := (1 : Int32)) F.x F.b d_X_putUnseen_23 (by decide) ?_
    refine lv_icmp_eq (tgt := 31) F.x F.b d_X_putUnseen_24 (by decide) (fun hc => ?_) (fun hc => ?_)
    · have h := it_t hc h
      refine lv_iconst (v := (0 : Int32)) F.x F.b d_X_putUnseen_31 (by decide) ?_
      rw [← Option.some.inj h]
      exact fin_z F X hr (Or.inl rfl) d_X_putUnseen_32
    · have h := it_e hc h
      refine lv_iconst (v := (1 : Int32)) F.x F.b d_X_putUnseen_27 (by decide) ?_
      refine lv_goto (tgt := 32) F.x F.b d_X_putUnseen_28 (by decide) ?_
      rw [← Option.some.inj h]
      exact fin_z F X hr (Or.inr rfl) d_X_putUnseen_32
  · have h := it_t hc h
    refine lv_aload_n F.x F.b d_X_putUnseen_9 rfl (lv_at hl 0 rfl) ?_
    refine r_get F X in_X 0 8 (gX_0 cI ad z) rfl (by decide) mt_88 rfl d_X_putUnseen_10 ?_
    refine lv_iload_n F.x F.b d_X_putUnseen_13 rfl (lv_at hl 1 rfl) ?_
    obtain ⟨q2, hq2, h⟩ := it_c h
    refine r_nv F X hl.1 (c_P_put l D cI ad z (v1) q2 hq2) (gX_2 cI ad z) rfl (List.mem_of_getElem? (i := 13) rfl) mt_298 ms_21 mt_3 mt_299 hd_P_put ⟨by decide, by decide⟩ ⟨rfl, rfl⟩ ⟨Nat.zero_le _, Nat.zero_le _⟩ rfl (Nat.le_of_ble_eq_true rfl) d_X_putUnseen_14 rfl (fun H locs X => ?_)
    refine lv_aload_n F.x F.b d_X_putUnseen_17 rfl (lv_at hl 0 rfl) ?_
    refine r_get F X in_X 0 7 (gX_0 cI ad q2) rfl (by decide) mt_87 rfl d_X_putUnseen_18 ?_
    refine lv_iload_n F.x F.b d_X_putUnseen_21 rfl (lv_at hl 1 rfl) ?_
    obtain ⟨hb3, h⟩ := it_b h
    refine r_ald F X 7 0 (gX_7 cI ad q2) rfl hb3 d_X_putUnseen_22 ?_
    refine lv_iconst (v := (1 : Int32)) F.x F.b d_X_putUnseen_23 (by decide) ?_
    refine lv_icmp_eq (tgt := 31) F.x F.b d_X_putUnseen_24 (by decide) (fun hc => ?_) (fun hc => ?_)
    · have h := it_t hc h
      refine lv_iconst (v := (0 : Int32)) F.x F.b d_X_putUnseen_31 (by decide) ?_
      rw [← Option.some.inj h]
      exact fin_z F X hr (Or.inl rfl) d_X_putUnseen_32
    · have h := it_e hc h
      refine lv_iconst (v := (1 : Int32)) F.x F.b d_X_putUnseen_27 (by decide) ?_
      refine lv_goto (tgt := 32) F.x F.b d_X_putUnseen_28 (by decide) ?_
      rw [← Option.some.inj h]
      exact fin_z F X hr (Or.inr rfl) d_X_putUnseen_32
theorem hd_X_putUnseenParts : y_X_putUnseenParts.cls ≠ "java/lang/invoke/MethodHandle" ∧ y_X_putUnseenParts.cls ≠ "java/lang/invoke/VarHandle" ∧ (parseMethodDescriptor y_X_putUnseenParts.desc).map (fun d => d.parameters.length) = some 1 := ⟨by decide, by decide, by decide +kernel⟩
set_option maxRecDepth 100000 in
set_option maxHeartbeats 4000000 in
theorem c_X_putUnseenParts (l : Launch) (D : Gd) (cI : ClassId) (ad : Nat → Nat) (z : St) (v1 : Int32) (q : Int32 × St) (h : f_X_putUnseenParts z v1 = some q) : CI l y_X_putUnseenParts (.code y_X_putUnseenParts b_X_putUnseenParts 2 (some .boolean)) { frames := 2, cells := 0, slots := 0, locals := 42 } D [(cI, .int)] [.ref (ad 0), .int v1] (cX cI ad z) q.1 (cX cI ad q.2) 0 0 := by
  refine mk_i (by decide) (Nat.le_of_ble_eq_true rfl) ?_
  intro p e s m args below meth c A ls F X hr hl
  have hl : lv_has ls 2 [(0, .ref (ad 0)), (1, .int (v1))] := hl
  unfold f_X_putUnseenParts at h
  refine lv_aload_n F.x F.b d_X_putUnseenParts_0 rfl (lv_at hl 0 rfl) ?_
  refine r_get F X in_X 0 1 (gX_0 cI ad z) rfl (by decide) mt_81 rfl d_X_putUnseenParts_1 ?_
  refine lv_iload_n F.x F.b d_X_putUnseenParts_4 rfl (lv_at hl 1 rfl) ?_
  obtain ⟨q1, hq1, h⟩ := it_c h
  refine r_ni F X hl.1 (c_S_hasParts l D cI ad z (v1) q1 hq1) (gX_1 cI ad z) rfl (List.mem_of_getElem? (i := 12) rfl) mt_294 ms_20 mt_2 mt_295 hd_S_hasParts ⟨by decide, by decide⟩ ⟨rfl, rfl⟩ ⟨Nat.zero_le _, Nat.zero_le _⟩ rfl (Nat.le_of_ble_eq_true rfl) d_X_putUnseenParts_5 rfl (fun H locs X => ?_)
  refine lv_if_eq (tgt := 51) F.x F.b d_X_putUnseenParts_8 (by decide) (fun hc => ?_) (fun hc => ?_)
  · have h := it_t hc h
    refine lv_iconst (v := (1 : Int32)) F.x F.b d_X_putUnseenParts_51 (by decide) ?_
    refine lv_goto (tgt := 56) F.x F.b d_X_putUnseenParts_52 (by decide) ?_
    rw [← Option.some.inj h]
    exact fin_z F X hr (Or.inr rfl) d_X_putUnseenParts_56
  · have h := it_e hc h
    refine lv_aload_n F.x F.b d_X_putUnseenParts_11 rfl (lv_at hl 0 rfl) ?_
    refine lv_aload_n F.x F.b d_X_putUnseenParts_12 rfl (lv_at hl 0 rfl) ?_
    refine lv_aload_n F.x F.b d_X_putUnseenParts_13 rfl (lv_at hl 0 rfl) ?_
    refine r_get F X in_X 0 1 (gX_0 cI ad q1.2) rfl (by decide) mt_81 rfl d_X_putUnseenParts_14 ?_
    refine r_getN F X in_S 1 1 (gX_1 cI ad q1.2) rfl (by decide) (List.mem_of_getElem? (i := 2) rfl) rfl d_X_putUnseenParts_17 ?_
    refine lv_iload_n F.x F.b d_X_putUnseenParts_20 rfl (lv_at hl 1 rfl) ?_
    obtain ⟨hb7, h⟩ := it_b h
    refine r_ald F X 10 0 (gX_10 cI ad q1.2) rfl hb7 d_X_putUnseenParts_21 ?_
    obtain ⟨q2, hq2, h⟩ := it_c h
    refine r_vi F X hl.1 (c_X_root l D cI ad q1.2 (q1.2.2 7 (v1).toNatClampNeg) q2 hq2) (gX_0 cI ad q1.2) rfl mt_280 mt_282 ms_17 mt_1 mt_283 ⟨rfl, hd_X_root⟩ ⟨by decide, by decide⟩ ⟨rfl, rfl⟩ ⟨Nat.zero_le _, Nat.zero_le _⟩ rfl (Nat.le_of_ble_eq_true rfl) d_X_putUnseenParts_22 rfl (fun H locs X => ?_)
    obtain ⟨q3, hq3, h⟩ := it_c h
    refine r_vi F X hl.1 (c_X_putUnseen l D cI ad q2.2 (q2.1) q3 hq3) (gX_0 cI ad q2.2) rfl mt_322 mt_324 ms_26 mt_1 mt_325 ⟨rfl, hd_X_putUnseen⟩ ⟨by decide, by decide⟩ ⟨rfl, rfl⟩ ⟨Nat.zero_le _, Nat.zero_le _⟩ rfl (Nat.le_of_ble_eq_true rfl) d_X_putUnseenParts_25 rfl (fun H locs X => ?_)
    refine lv_if_eq (tgt := 55) F.x F.b d_X_putUnseenParts_28 (by decide) (fun hc => ?_) (fun hc => ?_)
    · have h := it_t hc h
      refine lv_iconst (v := (0 : Int32)) F.x F.b d_X_putUnseenParts_55 (by decide) ?_
      rw [← Option.some.inj h]
      exact fin_z F X hr (Or.inl rfl) d_X_putUnseenParts_56
    · have h := it_e hc h
      refine lv_aload_n F.x F.b d_X_putUnseenParts_31 rfl (lv_at hl 0 rfl) ?_
      refine lv_aload_n F.x F.b d_X_putUnseenParts_32 rfl (lv_at hl 0 rfl) ?_
      refine lv_aload_n F.x F.b d_X_putUnseenParts_33 rfl (lv_at hl 0 rfl) ?_
      refine r_get F X in_X 0 1 (gX_0 cI ad q3.2) rfl (by decide) mt_81 rfl d_X_putUnseenParts_34 ?_
      refine r_getN F X in_S 1 2 (gX_1 cI ad q3.2) rfl (by decide) (List.mem_of_getElem? (i := 3) rfl) rfl d_X_putUnseenParts_37 ?_
      refine lv_iload_n F.x F.b d_X_putUnseenParts_40 rfl (lv_at hl 1 rfl) ?_
      obtain ⟨hb6, h⟩ := it_b h
      refine r_ald F X 11 0 (gX_11 cI ad q3.2) rfl hb6 d_X_putUnseenParts_41 ?_
      obtain ⟨q4, hq4, h⟩ := it_c h
      refine r_vi F X hl.1 (c_X_root l D cI ad q3.2 (q3.2.2 8 (v1).toNatClampNeg) q4 hq4) (gX_0 cI ad q3.2) rfl mt_280 mt_282 ms_17 mt_1 mt_283 ⟨rfl, hd_X_root⟩ ⟨by decide, by decide⟩ ⟨rfl, rfl⟩ ⟨Nat.zero_le _, Nat.zero_le _⟩ rfl (Nat.le_of_ble_eq_true rfl) d_X_putUnseenParts_42 rfl (fun H locs X => ?_)
      obtain ⟨q5, hq5, h⟩ := it_c h
      refine r_vi F X hl.1 (c_X_putUnseen l D cI ad q4.2 (q4.1) q5 hq5) (gX_0 cI ad q4.2) rfl mt_322 mt_324 ms_26 mt_1 mt_325 ⟨rfl, hd_X_putUnseen⟩ ⟨by decide, by decide⟩ ⟨rfl, rfl⟩ ⟨Nat.zero_le _, Nat.zero_le _⟩ rfl (Nat.le_of_ble_eq_true rfl) d_X_putUnseenParts_45 rfl (fun H locs X => ?_)
      refine lv_if_eq (tgt := 55) F.x F.b d_X_putUnseenParts_48 (by decide) (fun hc => ?_) (fun hc => ?_)
      · have h := it_t hc h
        refine lv_iconst (v := (0 : Int32)) F.x F.b d_X_putUnseenParts_55 (by decide) ?_
        rw [← Option.some.inj h]
        exact fin_z F X hr (Or.inl rfl) d_X_putUnseenParts_56
      · have h := it_e hc h
        refine lv_iconst (v := (1 : Int32)) F.x F.b d_X_putUnseenParts_51 (by decide) ?_
        refine lv_goto (tgt := 56) F.x F.b d_X_putUnseenParts_52 (by decide) ?_
        rw [← Option.some.inj h]
        exact fin_z F X hr (Or.inr rfl) d_X_putUnseenParts_56
theorem hd_X_layOutFrom : y_X_layOutFrom.cls ≠ "java/lang/invoke/MethodHandle" ∧ y_X_layOutFrom.cls ≠ "java/lang/invoke/VarHandle" ∧ (parseMethodDescriptor y_X_layOutFrom.desc).map (fun d => d.parameters.length) = some 1 := ⟨by decide, by decide, by decide +kernel⟩
set_option maxRecDepth 100000 in
set_option maxHeartbeats 4000000 in
theorem c_X_layOutFrom (l : Launch) (D : Gd) (cI : ClassId) (ad : Nat → Nat) (z : St) (v1 : Int32) (q : Int32 × St) (h : f_X_layOutFrom z v1 = some q) : CI l y_X_layOutFrom (.code y_X_layOutFrom b_X_layOutFrom 4 (some .boolean)) { frames := 3, cells := 0, slots := 0, locals := 63 } D [(cI, .int)] [.ref (ad 0), .int v1] (cX cI ad z) q.1 (cX cI ad q.2) 0 0 := by
  refine mk_i (by decide) (Nat.le_of_ble_eq_true rfl) ?_
  intro p e s m args below meth c A ls F X hr hl
  have hl : lv_has ls 4 [(0, .ref (ad 0)), (1, .int (v1))] := hl
  have L18 : ∀ (n : Nat) (z : St) (v2 : Int32) (v1 : Int32) (H : Heap) (locs : List Loc) (ls : Array Slot), Wd D A s (cX cI ad z) H locs → lv_has ls 4 [(2, .int (v2)), (0, .ref (ad 0)), (1, .int (v1))] → f_X_layOutFrom_l18 n z v2 v1 = some q → W p l e { frames := 3, cells := 0, slots := 0, locals := 63 } s m args below meth c H locs 0 0 (MQ below (va_Qi (fun (r' : Int32) (u : va_W) => r' = q.1 ∧ u = cX cI ad q.2) (Po D [(cI, .int)] A) A) args s 0 0 A) (F0 m 18 ls []) := by
    intro n
    induction n with
    | zero => intro z v2 v1 H locs ls X hl h; cases h
    | succ n ih =>
      intro z v2 v1 H locs ls X hl h
      rw [f_X_layOutFrom_l18] at h
      refine lv_iload_n F.x F.b d_X_layOutFrom_18 rfl (lv_at hl 0 rfl) ?_
      refine lv_sipush (v := (4000 : Int32)) F.x F.b d_X_layOutFrom_19 (by decide) ?_
      refine lv_icmp_ge (tgt := 88) F.x F.b d_X_layOutFrom_22 (by decide) (fun hc => ?_) (fun hc => ?_)
      · have h := it_t hc h
        refine lv_iconst (v := (1 : Int32)) F.x F.b d_X_layOutFrom_88 (by decide) ?_
        rw [← Option.some.inj h]
        exact fin_z F X hr (Or.inr rfl) d_X_layOutFrom_89
      · have h := it_e hc h
        refine lv_aload_n F.x F.b d_X_layOutFrom_25 rfl (lv_at hl 1 rfl) ?_
        refine r_get F X in_X 0 8 (gX_0 cI ad z) rfl (by decide) mt_88 rfl d_X_layOutFrom_26 ?_
        refine r_getN F X in_P 2 1 (gX_2 cI ad z) rfl (by decide) (List.mem_of_getElem? (i := 5) rfl) rfl d_X_layOutFrom_29 ?_
        refine lv_if_le (tgt := 88) F.x F.b d_X_layOutFrom_32 (by decide) (fun hc => ?_) (fun hc => ?_)
        · have h := it_t hc h
          refine lv_iconst (v := (1 : Int32)) F.x F.b d_X_layOutFrom_88 (by decide) ?_
          rw [← Option.some.inj h]
          exact fin_z F X hr (Or.inr rfl) d_X_layOutFrom_89
        · have h := it_e hc h
          refine lv_aload_n F.x F.b d_X_layOutFrom_35 rfl (lv_at hl 1 rfl) ?_
          refine r_get F X in_X 0 8 (gX_0 cI ad z) rfl (by decide) mt_88 rfl d_X_layOutFrom_36 ?_
          obtain ⟨q2, hq2, h⟩ := it_c h
          refine r_ni F X hl.1 (c_P_top l D cI ad z q2 hq2) (gX_2 cI ad z) rfl (List.mem_of_getElem? (i := 14) rfl) mt_316 ms_24 mt_3 mt_317 hd_P_top ⟨by decide, by decide⟩ ⟨rfl, rfl⟩ ⟨Nat.zero_le _, Nat.zero_le _⟩ rfl (Nat.le_of_ble_eq_true rfl) d_X_layOutFrom_39 rfl (fun H locs X => ?_)
          refine lv_istore_n F.x F.b d_X_layOutFrom_42 rfl hl (by decide) (lv' := [(3, .int (q2.1)), (2, .int (v2)), (0, .ref (ad 0)), (1, .int (v1))]) rfl (fun ls hl => ?_)
          refine lv_aload_n F.x F.b d_X_layOutFrom_43 rfl (lv_at hl 2 rfl) ?_
          refine r_get F X in_X 0 7 (gX_0 cI ad q2.2) rfl (by decide) mt_87 rfl d_X_layOutFrom_44 ?_
          refine lv_iload_n F.x F.b d_X_layOutFrom_47 rfl (lv_at hl 0 rfl) ?_
          obtain ⟨hb7, h⟩ := it_b h
          refine r_ald F X 7 0 (gX_7 cI ad q2.2) rfl hb7 d_X_layOutFrom_48 ?_
          refine lv_if_ne (tgt := 69) F.x F.b d_X_layOutFrom_49 (by decide) (fun hc => ?_) (fun hc => ?_)
          · have h := it_e hc h
            refine lv_aload_n F.x F.b d_X_layOutFrom_69 rfl (lv_at hl 2 rfl) ?_
            refine r_get F X in_X 0 8 (gX_0 cI ad q2.2) rfl (by decide) mt_88 rfl d_X_layOutFrom_70 ?_
            obtain ⟨q3, hq3, h⟩ := it_c h
            refine r_ni F X hl.1 (c_P_take l D cI ad q2.2 q3 hq3) (gX_2 cI ad q2.2) rfl (List.mem_of_getElem? (i := 11) rfl) mt_278 ms_16 mt_3 mt_279 hd_P_take ⟨by decide, by decide⟩ ⟨rfl, rfl⟩ ⟨Nat.zero_le _, Nat.zero_le _⟩ rfl (Nat.le_of_ble_eq_true rfl) d_X_layOutFrom_73 rfl (fun H locs X => ?_)
            refine lv_pop F.x F.b d_X_layOutFrom_76 rfl ?_
            refine lv_aload_n F.x F.b d_X_layOutFrom_77 rfl (lv_at hl 2 rfl) ?_
            refine lv_iload_n F.x F.b d_X_layOutFrom_78 rfl (lv_at hl 0 rfl) ?_
            obtain ⟨q4, hq4, h⟩ := it_c h
            refine r_vv F X hl.1 (c_X_layDown l D cI ad q3.2 (q2.1) q4 hq4) (gX_0 cI ad q3.2) rfl mt_326 mt_328 ms_27 mt_1 mt_329 ⟨rfl, hd_X_layDown⟩ ⟨by decide, by decide⟩ ⟨rfl, rfl⟩ ⟨Nat.zero_le _, Nat.zero_le _⟩ rfl (Nat.le_of_ble_eq_true rfl) d_X_layOutFrom_79 rfl (fun H locs X => ?_)
            refine lv_iinc (k := 1) (v := (v2) + 1) F.x F.b d_X_layOutFrom_82 hl rfl (ii_1 _) (by decide) (lv' := [(2, .int ((v2) + 1)), (3, .int (q2.1)), (0, .ref (ad 0)), (1, .int (v1))]) rfl (fun ls hl => ?_)
            refine lv_goto (tgt := 18) F.x F.b d_X_layOutFrom_85 (by decide) ?_
            exact ih q4 ((v2) + 1) (v1) _ _ _ X (lv_sub hl [0, 2, 3] rfl) h
          · have h := it_t hc h
            refine lv_aload_n F.x F.b d_X_layOutFrom_52 rfl (lv_at hl 2 rfl) ?_
            refine r_get F X in_X 0 7 (gX_0 cI ad q2.2) rfl (by decide) mt_87 rfl d_X_layOutFrom_53 ?_
            refine lv_iload_n F.x F.b d_X_layOutFrom_56 rfl (lv_at hl 0 rfl) ?_
            refine lv_iconst (v := (1 : Int32)) F.x F.b d_X_layOutFrom_57 (by decide) ?_
            obtain ⟨hb6, h⟩ := it_b h
            refine r_ast F X 7 0 (gX_7 cI ad q2.2) rfl hb6 d_X_layOutFrom_58 (sX_7 cI ad q2.2 _ _) (fun H locs X => ?_)
            refine lv_aload_n F.x F.b d_X_layOutFrom_59 rfl (lv_at hl 2 rfl) ?_
            refine lv_iload_n F.x F.b d_X_layOutFrom_60 rfl (lv_at hl 0 rfl) ?_
            obtain ⟨q5, hq5, h⟩ := it_c h
            refine r_vi F X hl.1 (c_X_putUnseenParts l D cI ad (war q2.2 4 (q2.1).toNatClampNeg ((1 : Int32))) (q2.1) q5 hq5) (gX_0 cI ad (war q2.2 4 (q2.1).toNatClampNeg ((1 : Int32)))) rfl mt_318 mt_320 ms_25 mt_1 mt_321 ⟨rfl, hd_X_putUnseenParts⟩ ⟨by decide, by decide⟩ ⟨rfl, rfl⟩ ⟨Nat.zero_le _, Nat.zero_le _⟩ rfl (Nat.le_of_ble_eq_true rfl) d_X_layOutFrom_61 rfl (fun H locs X => ?_)
            refine lv_if_ne (tgt := 82) F.x F.b d_X_layOutFrom_64 (by decide) (fun hc => ?_) (fun hc => ?_)
            · have h := it_e hc h
              refine lv_iinc (k := 1) (v := (v2) + 1) F.x F.b d_X_layOutFrom_82 hl rfl (ii_1 _) (by decide) (lv' := [(2, .int ((v2) + 1)), (3, .int (q2.1)), (0, .ref (ad 0)), (1, .int (v1))]) rfl (fun ls hl => ?_)
              refine lv_goto (tgt := 18) F.x F.b d_X_layOutFrom_85 (by decide) ?_
              exact ih q5.2 ((v2) + 1) (v1) _ _ _ X (lv_sub hl [0, 2, 3] rfl) h
            · have h := it_t hc h
              refine lv_iconst (v := (0 : Int32)) F.x F.b d_X_layOutFrom_67 (by decide) ?_
              rw [← Option.some.inj h]
              exact fin_z F X hr (Or.inl rfl) d_X_layOutFrom_68
  unfold f_X_layOutFrom at h
  refine lv_aload_n F.x F.b d_X_layOutFrom_0 rfl (lv_at hl 0 rfl) ?_
  refine r_get F X in_X 0 8 (gX_0 cI ad z) rfl (by decide) mt_88 rfl d_X_layOutFrom_1 ?_
  refine lv_iconst (v := (0 : Int32)) F.x F.b d_X_layOutFrom_4 (by decide) ?_
  refine r_putN F X in_P t_P t_P_ok n_P 2 1 (gX_2 cI ad z) rfl (by decide) (List.mem_of_getElem? (i := 5) rfl) rfl (t_P_ok 1 (by decide)) rfl rfl (Nat.le_of_ble_eq_true rfl) d_X_layOutFrom_5 (pX_3 cI ad z _) (fun H locs X => ?_)
  refine lv_aload_n F.x F.b d_X_layOutFrom_8 rfl (lv_at hl 0 rfl) ?_
  refine r_get F X in_X 0 8 (gX_0 cI ad (wsc z 3 ((0 : Int32)))) rfl (by decide) mt_88 rfl d_X_layOutFrom_9 ?_
  refine lv_iload_n F.x F.b d_X_layOutFrom_12 rfl (lv_at hl 1 rfl) ?_
  obtain ⟨q1, hq1, h⟩ := it_c h
  refine r_nv F X hl.1 (c_P_put l D cI ad (wsc z 3 ((0 : Int32))) (v1) q1 hq1) (gX_2 cI ad (wsc z 3 ((0 : Int32)))) rfl (List.mem_of_getElem? (i := 13) rfl) mt_298 ms_21 mt_3 mt_299 hd_P_put ⟨by decide, by decide⟩ ⟨rfl, rfl⟩ ⟨Nat.zero_le _, Nat.zero_le _⟩ rfl (Nat.le_of_ble_eq_true rfl) d_X_layOutFrom_13 rfl (fun H locs X => ?_)
  refine lv_iconst (v := (0 : Int32)) F.x F.b d_X_layOutFrom_16 (by decide) ?_
  refine lv_istore_n F.x F.b d_X_layOutFrom_17 rfl hl (by decide) (lv' := [(2, .int ((0 : Int32))), (0, .ref (ad 0)), (1, .int (v1))]) rfl (fun ls hl => ?_)
  exact L18 FU q1 ((0 : Int32)) (v1) _ _ _ X (lv_sub hl [0, 1, 2] rfl) h
theorem hd_X_layOut : y_X_layOut.cls ≠ "java/lang/invoke/MethodHandle" ∧ y_X_layOut.cls ≠ "java/lang/invoke/VarHandle" ∧ (parseMethodDescriptor y_X_layOut.desc).map (fun d => d.parameters.length) = some 0 := ⟨by decide, by decide, by decide +kernel⟩
set_option maxRecDepth 100000 in
set_option maxHeartbeats 4000000 in
theorem c_X_layOut (l : Launch) (D : Gd) (cI : ClassId) (ad : Nat → Nat) (z : St) (q : Int32 × St) (h : f_X_layOut z = some q) : CI l y_X_layOut (.code y_X_layOut b_X_layOut 2 (some .boolean)) { frames := 4, cells := 0, slots := 0, locals := 86 } D [(cI, .int)] [.ref (ad 0)] (cX cI ad z) q.1 (cX cI ad q.2) 0 0 := by
  refine mk_i (by decide) (Nat.le_of_ble_eq_true rfl) ?_
  intro p e s m args below meth c A ls F X hr hl
  have hl : lv_has ls 2 [(0, .ref (ad 0))] := hl
  have L20 : ∀ (n : Nat) (z : St) (v1 : Int32) (H : Heap) (locs : List Loc) (ls : Array Slot), Wd D A s (cX cI ad z) H locs → lv_has ls 2 [(1, .int (v1)), (0, .ref (ad 0))] → f_X_layOut_l20 n z v1 = some q → W p l e { frames := 4, cells := 0, slots := 0, locals := 86 } s m args below meth c H locs 0 0 (MQ below (va_Qi (fun (r' : Int32) (u : va_W) => r' = q.1 ∧ u = cX cI ad q.2) (Po D [(cI, .int)] A) A) args s 0 0 A) (F0 m 20 ls []) := by
    intro n
    induction n with
    | zero => intro z v1 H locs ls X hl h; cases h
    | succ n ih =>
      intro z v1 H locs ls X hl h
      rw [f_X_layOut_l20] at h
      refine lv_iload_n F.x F.b d_X_layOut_20 rfl (lv_at hl 0 rfl) ?_
      refine lv_aload_n F.x F.b d_X_layOut_21 rfl (lv_at hl 1 rfl) ?_
      refine r_get F X in_X 0 0 (gX_0 cI ad z) rfl (by decide) mt_80 rfl d_X_layOut_22 ?_
      refine lv_icmp_ge (tgt := 63) F.x F.b d_X_layOut_25 (by decide) (fun hc => ?_) (fun hc => ?_)
      · have h := it_t hc h
        refine lv_iconst (v := (1 : Int32)) F.x F.b d_X_layOut_63 (by decide) ?_
        rw [← Option.some.inj h]
        exact fin_z F X hr (Or.inr rfl) d_X_layOut_64
      · have h := it_e hc h
        refine lv_aload_n F.x F.b d_X_layOut_28 rfl (lv_at hl 1 rfl) ?_
        refine r_get F X in_X 0 6 (gX_0 cI ad z) rfl (by decide) mt_86 rfl d_X_layOut_29 ?_
        refine lv_iload_n F.x F.b d_X_layOut_32 rfl (lv_at hl 0 rfl) ?_
        obtain ⟨hb4, h⟩ := it_b h
        refine r_ald F X 6 0 (gX_6 cI ad z) rfl hb4 d_X_layOut_33 ?_
        refine lv_iload_n F.x F.b d_X_layOut_34 rfl (lv_at hl 0 rfl) ?_
        refine lv_icmp_ne (tgt := 57) F.x F.b d_X_layOut_35 (by decide) (fun hc => ?_) (fun hc => ?_)
        · have h := it_e hc h
          refine lv_iinc (k := 0) (v := (v1) + 1) F.x F.b d_X_layOut_57 hl rfl (ii_1 _) (by decide) (lv' := [(1, .int ((v1) + 1)), (0, .ref (ad 0))]) rfl (fun ls hl => ?_)
          refine lv_goto (tgt := 20) F.x F.b d_X_layOut_60 (by decide) ?_
          exact ih z ((v1) + 1) _ _ _ X (lv_sub hl [0, 1] rfl) h
        · have h := it_t hc h
          refine lv_aload_n F.x F.b d_X_layOut_38 rfl (lv_at hl 1 rfl) ?_
          refine r_get F X in_X 0 7 (gX_0 cI ad z) rfl (by decide) mt_87 rfl d_X_layOut_39 ?_
          refine lv_iload_n F.x F.b d_X_layOut_42 rfl (lv_at hl 0 rfl) ?_
          obtain ⟨hb3, h⟩ := it_b h
          refine r_ald F X 7 0 (gX_7 cI ad z) rfl hb3 d_X_layOut_43 ?_
          refine lv_if_ne (tgt := 57) F.x F.b d_X_layOut_44 (by decide) (fun hc => ?_) (fun hc => ?_)
          · have h := it_e hc h
            refine lv_iinc (k := 0) (v := (v1) + 1) F.x F.b d_X_layOut_57 hl rfl (ii_1 _) (by decide) (lv' := [(1, .int ((v1) + 1)), (0, .ref (ad 0))]) rfl (fun ls hl => ?_)
            refine lv_goto (tgt := 20) F.x F.b d_X_layOut_60 (by decide) ?_
            exact ih z ((v1) + 1) _ _ _ X (lv_sub hl [0, 1] rfl) h
          · have h := it_t hc h
            refine lv_aload_n F.x F.b d_X_layOut_47 rfl (lv_at hl 1 rfl) ?_
            refine lv_iload_n F.x F.b d_X_layOut_48 rfl (lv_at hl 0 rfl) ?_
            obtain ⟨q2, hq2, h⟩ := it_c h
            refine r_vi F X hl.1 (c_X_layOutFrom l D cI ad z (v1) q2 hq2) (gX_0 cI ad z) rfl mt_310 mt_312 ms_23 mt_1 mt_313 ⟨rfl, hd_X_layOutFrom⟩ ⟨by decide, by decide⟩ ⟨rfl, rfl⟩ ⟨Nat.zero_le _, Nat.zero_le _⟩ rfl (Nat.le_of_ble_eq_true rfl) d_X_layOut_49 rfl (fun H locs X => ?_)
            refine lv_if_ne (tgt := 57) F.x F.b d_X_layOut_52 (by decide) (fun hc => ?_) (fun hc => ?_)
            · have h := it_e hc h
              refine lv_iinc (k := 0) (v := (v1) + 1) F.x F.b d_X_layOut_57 hl rfl (ii_1 _) (by decide) (lv' := [(1, .int ((v1) + 1)), (0, .ref (ad 0))]) rfl (fun ls hl => ?_)
              refine lv_goto (tgt := 20) F.x F.b d_X_layOut_60 (by decide) ?_
              exact ih q2.2 ((v1) + 1) _ _ _ X (lv_sub hl [0, 1] rfl) h
            · have h := it_t hc h
              refine lv_iconst (v := (0 : Int32)) F.x F.b d_X_layOut_55 (by decide) ?_
              rw [← Option.some.inj h]
              exact fin_z F X hr (Or.inl rfl) d_X_layOut_56
  unfold f_X_layOut at h
  refine lv_aload_n F.x F.b d_X_layOut_0 rfl (lv_at hl 0 rfl) ?_
  refine r_get F X in_X 0 7 (gX_0 cI ad z) rfl (by decide) mt_87 rfl d_X_layOut_1 ?_
  refine lv_iconst (v := (0 : Int32)) F.x F.b d_X_layOut_4 (by decide) ?_
  refine lv_aload_n F.x F.b d_X_layOut_5 rfl (lv_at hl 0 rfl) ?_
  refine r_get F X in_X 0 0 (gX_0 cI ad z) rfl (by decide) mt_80 rfl d_X_layOut_6 ?_
  refine lv_iconst (v := (0 : Int32)) F.x F.b d_X_layOut_9 (by decide) ?_
  obtain ⟨q1, hq1, h⟩ := it_c h
  refine r_sv F X hl.1 (c_J_fill4 l D _ 7 q1 (gX_7 cI ad z) rfl hq1) mt_304 mt_305 mt_4 mt_306 hd_J_fill4 ⟨by decide, by decide⟩ ⟨rfl, rfl⟩ ⟨Nat.zero_le _, Nat.zero_le _⟩ rfl (Nat.le_of_ble_eq_true rfl) d_X_layOut_10 rfl (fun H locs X => ?_)
  have X : Wd D A s (cX cI ad (wal z 4 q1)) H locs := (aX_7 cI ad z q1) ▸ X
  refine lv_aload_n F.x F.b d_X_layOut_13 rfl (lv_at hl 0 rfl) ?_
  refine lv_iconst (v := (0 : Int32)) F.x F.b d_X_layOut_14 (by decide) ?_
  refine r_put F X in_X t_X t_X_ok n_X 0 10 (gX_0 cI ad (wal z 4 q1)) rfl (by decide) mt_90 rfl (t_X_ok 10 (by decide)) rfl rfl (Nat.le_of_ble_eq_true rfl) d_X_layOut_15 (pX_2 cI ad (wal z 4 q1) _) (fun H locs X => ?_)
  refine lv_iconst (v := (0 : Int32)) F.x F.b d_X_layOut_18 (by decide) ?_
  refine lv_istore_n F.x F.b d_X_layOut_19 rfl hl (by decide) (lv' := [(1, .int ((0 : Int32))), (0, .ref (ad 0))]) rfl (fun ls hl => ?_)
  exact L20 FU (wsc (wal z 4 q1) 2 ((0 : Int32))) ((0 : Int32)) _ _ _ X (lv_sub hl [0, 1] rfl) h
theorem hd_X_tryToLink : y_X_tryToLink.cls ≠ "java/lang/invoke/MethodHandle" ∧ y_X_tryToLink.cls ≠ "java/lang/invoke/VarHandle" ∧ (parseMethodDescriptor y_X_tryToLink.desc).map (fun d => d.parameters.length) = some 2 := ⟨by decide, by decide, by decide +kernel⟩
set_option maxRecDepth 100000 in
set_option maxHeartbeats 4000000 in
theorem c_X_tryToLink (l : Launch) (D : Gd) (cI : ClassId) (ad : Nat → Nat) (z : St) (v1 v2 : Int32) (q : Int32 × St) (h : f_X_tryToLink z v1 v2 = some q) : CI l y_X_tryToLink (.code y_X_tryToLink b_X_tryToLink 3 (some .boolean)) { frames := 5, cells := 0, slots := 0, locals := 107 } D [(cI, .int)] [.ref (ad 0), .int v1, .int v2] (cX cI ad z) q.1 (cX cI ad q.2) 0 0 := by
  refine mk_i (by decide) (Nat.le_of_ble_eq_true rfl) ?_
  intro p e s m args below meth c A ls F X hr hl
  have hl : lv_has ls 3 [(0, .ref (ad 0)), (1, .int (v1)), (2, .int (v2))] := hl
  unfold f_X_tryToLink at h
  refine lv_aload_n F.x F.b d_X_tryToLink_0 rfl (lv_at hl 0 rfl) ?_
  refine lv_iload_n F.x F.b d_X_tryToLink_1 rfl (lv_at hl 1 rfl) ?_
  refine lv_iload_n F.x F.b d_X_tryToLink_2 rfl (lv_at hl 2 rfl) ?_
  obtain ⟨q1, hq1, h⟩ := it_c h
  refine r_vi F X hl.1 (c_X_linkAll l D cI ad z (v1) (v2) q1 hq1) (gX_0 cI ad z) rfl mt_265 mt_267 ms_14 mt_1 mt_268 ⟨rfl, hd_X_linkAll⟩ ⟨by decide, by decide⟩ ⟨rfl, rfl⟩ ⟨Nat.zero_le _, Nat.zero_le _⟩ rfl (Nat.le_of_ble_eq_true rfl) d_X_tryToLink_3 rfl (fun H locs X => ?_)
  refine lv_if_eq (tgt := 20) F.x F.b d_X_tryToLink_6 (by decide) (fun hc => ?_) (fun hc => ?_)
  · have h := it_t hc h
    refine lv_iconst (v := (0 : Int32)) F.x F.b d_X_tryToLink_20 (by decide) ?_
    rw [← Option.some.inj h]
    exact fin_z F X hr (Or.inl rfl) d_X_tryToLink_21
  · have h := it_e hc h
    refine lv_aload_n F.x F.b d_X_tryToLink_9 rfl (lv_at hl 0 rfl) ?_
    obtain ⟨q2, hq2, h⟩ := it_c h
    refine r_vi F X hl.1 (c_X_layOut l D cI ad q1.2 q2 hq2) (gX_0 cI ad q1.2) rfl mt_300 mt_302 ms_22 mt_1 mt_303 ⟨rfl, hd_X_layOut⟩ ⟨by decide, by decide⟩ ⟨rfl, rfl⟩ ⟨Nat.zero_le _, Nat.zero_le _⟩ rfl (Nat.le_of_ble_eq_true rfl) d_X_tryToLink_10 rfl (fun H locs X => ?_)
    refine lv_if_eq (tgt := 20) F.x F.b d_X_tryToLink_13 (by decide) (fun hc => ?_) (fun hc => ?_)
    · have h := it_t hc h
      refine lv_iconst (v := (0 : Int32)) F.x F.b d_X_tryToLink_20 (by decide) ?_
      rw [← Option.some.inj h]
      exact fin_z F X hr (Or.inl rfl) d_X_tryToLink_21
    · have h := it_e hc h
      refine lv_iconst (v := (1 : Int32)) F.x F.b d_X_tryToLink_16 (by decide) ?_
      refine lv_goto (tgt := 21) F.x F.b d_X_tryToLink_17 (by decide) ?_
      rw [← Option.some.inj h]
      exact fin_z F X hr (Or.inr rfl) d_X_tryToLink_21
theorem hd_X_keepRoot : y_X_keepRoot.cls ≠ "java/lang/invoke/MethodHandle" ∧ y_X_keepRoot.cls ≠ "java/lang/invoke/VarHandle" ∧ (parseMethodDescriptor y_X_keepRoot.desc).map (fun d => d.parameters.length) = some 1 := ⟨by decide, by decide, by decide +kernel⟩
set_option maxRecDepth 100000 in
set_option maxHeartbeats 4000000 in
theorem c_X_keepRoot (l : Launch) (D : Gd) (cI : ClassId) (ad : Nat → Nat) (z : St) (v1 : Int32) (q : St) (h : f_X_keepRoot z v1 = some q) : CV l y_X_keepRoot (.code y_X_keepRoot b_X_keepRoot 3 none) { frames := 2, cells := 0, slots := 0, locals := 45 } D [(cI, .int)] [.ref (ad 0), .int v1] (cX cI ad z) (cX cI ad q) 0 0 := by
  refine mk_v (by decide) (Nat.le_of_ble_eq_true rfl) ?_
  intro p e s m args below meth c A ls F X hr hl
  have hl : lv_has ls 3 [(0, .ref (ad 0)), (1, .int (v1))] := hl
  unfold f_X_keepRoot at h
  refine lv_aload_n F.x F.b d_X_keepRoot_0 rfl (lv_at hl 0 rfl) ?_
  refine r_get F X in_X 0 1 (gX_0 cI ad z) rfl (by decide) mt_81 rfl d_X_keepRoot_1 ?_
  refine lv_iload_n F.x F.b d_X_keepRoot_4 rfl (lv_at hl 1 rfl) ?_
  obtain ⟨q1, hq1, h⟩ := it_c h
  refine r_ni F X hl.1 (c_S_hasParts l D cI ad z (v1) q1 hq1) (gX_1 cI ad z) rfl (List.mem_of_getElem? (i := 12) rfl) mt_294 ms_20 mt_2 mt_295 hd_S_hasParts ⟨by decide, by decide⟩ ⟨rfl, rfl⟩ ⟨Nat.zero_le _, Nat.zero_le _⟩ rfl (Nat.le_of_ble_eq_true rfl) d_X_keepRoot_5 rfl (fun H locs X => ?_)
  refine lv_if_eq (tgt := 84) F.x F.b d_X_keepRoot_8 (by decide) (fun hc => ?_) (fun hc => ?_)
  · have h := it_t hc h
    refine lv_aload_n F.x F.b d_X_keepRoot_84 rfl (lv_at hl 0 rfl) ?_
    refine r_get F X in_X 0 4 (gX_0 cI ad q1.2) rfl (by decide) mt_84 rfl d_X_keepRoot_85 ?_
    refine lv_aload_n F.x F.b d_X_keepRoot_88 rfl (lv_at hl 0 rfl) ?_
    refine r_get F X in_X 0 5 (gX_0 cI ad q1.2) rfl (by decide) mt_85 rfl d_X_keepRoot_89 ?_
    refine lv_iload_n F.x F.b d_X_keepRoot_92 rfl (lv_at hl 1 rfl) ?_
    obtain ⟨hb2, h⟩ := it_b h
    refine r_ast F X 5 0 (gX_5 cI ad q1.2) rfl hb2 d_X_keepRoot_93 (sX_5 cI ad q1.2 _ _) (fun H locs X => ?_)
    refine lv_aload_n F.x F.b d_X_keepRoot_94 rfl (lv_at hl 0 rfl) ?_
    refine lv_dup F.x F.b d_X_keepRoot_95 rfl ?_
    refine r_get F X in_X 0 5 (gX_0 cI ad (war q1.2 2 (q1.2.1 1).toNatClampNeg (v1))) rfl (by decide) mt_85 rfl d_X_keepRoot_96 ?_
    refine lv_iconst (v := (1 : Int32)) F.x F.b d_X_keepRoot_99 (by decide) ?_
    refine lv_iadd F.x F.b d_X_keepRoot_100 ?_
    refine r_put F X in_X t_X t_X_ok n_X 0 5 (gX_0 cI ad (war q1.2 2 (q1.2.1 1).toNatClampNeg (v1))) rfl (by decide) mt_85 rfl (t_X_ok 5 (by decide)) rfl rfl (Nat.le_of_ble_eq_true rfl) d_X_keepRoot_101 (pX_1 cI ad (war q1.2 2 (q1.2.1 1).toNatClampNeg (v1)) _) (fun H locs X => ?_)
    rw [← Option.some.inj h]
    exact fin_v F X hr d_X_keepRoot_104
  · have h := it_e hc h
    refine lv_aload_n F.x F.b d_X_keepRoot_11 rfl (lv_at hl 0 rfl) ?_
    refine r_get F X in_X 0 1 (gX_0 cI ad q1.2) rfl (by decide) mt_81 rfl d_X_keepRoot_12 ?_
    refine lv_iload_n F.x F.b d_X_keepRoot_15 rfl (lv_at hl 1 rfl) ?_
    refine lv_aload_n F.x F.b d_X_keepRoot_16 rfl (lv_at hl 0 rfl) ?_
    refine r_get F X in_X 0 1 (gX_0 cI ad q1.2) rfl (by decide) mt_81 rfl d_X_keepRoot_17 ?_
    refine r_getN F X in_S 1 0 (gX_1 cI ad q1.2) rfl (by decide) (List.mem_of_getElem? (i := 1) rfl) rfl d_X_keepRoot_20 ?_
    refine lv_iload_n F.x F.b d_X_keepRoot_23 rfl (lv_at hl 1 rfl) ?_
    obtain ⟨hb12, h⟩ := it_b h
    refine r_ald F X 9 0 (gX_9 cI ad q1.2) rfl hb12 d_X_keepRoot_24 ?_
    refine lv_aload_n F.x F.b d_X_keepRoot_25 rfl (lv_at hl 0 rfl) ?_
    refine lv_aload_n F.x F.b d_X_keepRoot_26 rfl (lv_at hl 0 rfl) ?_
    refine r_get F X in_X 0 1 (gX_0 cI ad q1.2) rfl (by decide) mt_81 rfl d_X_keepRoot_27 ?_
    refine r_getN F X in_S 1 1 (gX_1 cI ad q1.2) rfl (by decide) (List.mem_of_getElem? (i := 2) rfl) rfl d_X_keepRoot_30 ?_
    refine lv_iload_n F.x F.b d_X_keepRoot_33 rfl (lv_at hl 1 rfl) ?_
    obtain ⟨hb11, h⟩ := it_b h
    refine r_ald F X 10 0 (gX_10 cI ad q1.2) rfl hb11 d_X_keepRoot_34 ?_
    obtain ⟨q3, hq3, h⟩ := it_c h
    refine r_vi F X hl.1 (c_X_root l D cI ad q1.2 (q1.2.2 7 (v1).toNatClampNeg) q3 hq3) (gX_0 cI ad q1.2) rfl mt_280 mt_282 ms_17 mt_1 mt_283 ⟨rfl, hd_X_root⟩ ⟨by decide, by decide⟩ ⟨rfl, rfl⟩ ⟨Nat.zero_le _, Nat.zero_le _⟩ rfl (Nat.le_of_ble_eq_true rfl) d_X_keepRoot_35 rfl (fun H locs X => ?_)
    refine lv_aload_n F.x F.b d_X_keepRoot_38 rfl (lv_at hl 0 rfl) ?_
    refine lv_aload_n F.x F.b d_X_keepRoot_39 rfl (lv_at hl 0 rfl) ?_
    refine r_get F X in_X 0 1 (gX_0 cI ad q3.2) rfl (by decide) mt_81 rfl d_X_keepRoot_40 ?_
    refine r_getN F X in_S 1 2 (gX_1 cI ad q3.2) rfl (by decide) (List.mem_of_getElem? (i := 3) rfl) rfl d_X_keepRoot_43 ?_
    refine lv_iload_n F.x F.b d_X_keepRoot_46 rfl (lv_at hl 1 rfl) ?_
    obtain ⟨hb10, h⟩ := it_b h
    refine r_ald F X 11 0 (gX_11 cI ad q3.2) rfl hb10 d_X_keepRoot_47 ?_
    obtain ⟨q4, hq4, h⟩ := it_c h
    refine r_vi F X hl.1 (c_X_root l D cI ad q3.2 (q3.2.2 8 (v1).toNatClampNeg) q4 hq4) (gX_0 cI ad q3.2) rfl mt_280 mt_282 ms_17 mt_1 mt_283 ⟨rfl, hd_X_root⟩ ⟨by decide, by decide⟩ ⟨rfl, rfl⟩ ⟨Nat.zero_le _, Nat.zero_le _⟩ rfl (Nat.le_of_ble_eq_true rfl) d_X_keepRoot_48 rfl (fun H locs X => ?_)
    obtain ⟨q5, hq5, h⟩ := it_c h
    refine r_nv F X hl.1 (c_S_write l D cI ad q4.2 (v1) (q1.2.2 6 (v1).toNatClampNeg) (q3.1) (q4.1) q5 hq5) (gX_1 cI ad q4.2) rfl (List.mem_of_getElem? (i := 7) rfl) mt_74 ms_2 mt_2 mt_75 hd_S_write ⟨by decide, by decide⟩ ⟨rfl, rfl⟩ ⟨Nat.zero_le _, Nat.zero_le _⟩ rfl (Nat.le_of_ble_eq_true rfl) d_X_keepRoot_51 rfl (fun H locs X => ?_)
    refine lv_aload_n F.x F.b d_X_keepRoot_54 rfl (lv_at hl 0 rfl) ?_
    refine r_get F X in_X 0 1 (gX_0 cI ad q5) rfl (by decide) mt_81 rfl d_X_keepRoot_55 ?_
    refine lv_iload_n F.x F.b d_X_keepRoot_58 rfl (lv_at hl 1 rfl) ?_
    obtain ⟨q6, hq6, h⟩ := it_c h
    refine r_ni F X hl.1 (c_S_twinOf l D cI ad q5 (v1) q6 hq6) (gX_1 cI ad q5) rfl (List.mem_of_getElem? (i := 8) rfl) mt_233 ms_9 mt_2 mt_234 hd_S_twinOf ⟨by decide, by decide⟩ ⟨rfl, rfl⟩ ⟨Nat.zero_le _, Nat.zero_le _⟩ rfl (Nat.le_of_ble_eq_true rfl) d_X_keepRoot_59 rfl (fun H locs X => ?_)
    refine lv_istore_n F.x F.b d_X_keepRoot_62 rfl hl (by decide) (lv' := [(2, .int (q6.1)), (0, .ref (ad 0)), (1, .int (v1))]) rfl (fun ls hl => ?_)
    refine lv_iload_n F.x F.b d_X_keepRoot_63 rfl (lv_at hl 0 rfl) ?_
    refine lv_iconst (v := (-1 : Int32)) F.x F.b d_X_keepRoot_64 (by decide) ?_
    refine lv_icmp_eq (tgt := 76) F.x F.b d_X_keepRoot_65 (by decide) (fun hc => ?_) (fun hc => ?_)
    · have h := it_t hc h
      refine lv_aload_n F.x F.b d_X_keepRoot_76 rfl (lv_at hl 1 rfl) ?_
      refine r_get F X in_X 0 1 (gX_0 cI ad q6.2) rfl (by decide) mt_81 rfl d_X_keepRoot_77 ?_
      refine lv_iload_n F.x F.b d_X_keepRoot_80 rfl (lv_at hl 2 rfl) ?_
      obtain ⟨q7, hq7, h⟩ := it_c h
      refine r_nv F X hl.1 (c_S_enter l D cI ad q6.2 (v1) q7 hq7) (gX_1 cI ad q6.2) rfl (List.mem_of_getElem? (i := 9) rfl) mt_245 ms_12 mt_2 mt_246 hd_S_enter ⟨by decide, by decide⟩ ⟨rfl, rfl⟩ ⟨Nat.zero_le _, Nat.zero_le _⟩ rfl (Nat.le_of_ble_eq_true rfl) d_X_keepRoot_81 rfl (fun H locs X => ?_)
      refine lv_aload_n F.x F.b d_X_keepRoot_84 rfl (lv_at hl 1 rfl) ?_
      refine r_get F X in_X 0 4 (gX_0 cI ad q7) rfl (by decide) mt_84 rfl d_X_keepRoot_85 ?_
      refine lv_aload_n F.x F.b d_X_keepRoot_88 rfl (lv_at hl 1 rfl) ?_
      refine r_get F X in_X 0 5 (gX_0 cI ad q7) rfl (by decide) mt_85 rfl d_X_keepRoot_89 ?_
      refine lv_iload_n F.x F.b d_X_keepRoot_92 rfl (lv_at hl 2 rfl) ?_
      obtain ⟨hb8, h⟩ := it_b h
      refine r_ast F X 5 0 (gX_5 cI ad q7) rfl hb8 d_X_keepRoot_93 (sX_5 cI ad q7 _ _) (fun H locs X => ?_)
      refine lv_aload_n F.x F.b d_X_keepRoot_94 rfl (lv_at hl 1 rfl) ?_
      refine lv_dup F.x F.b d_X_keepRoot_95 rfl ?_
      refine r_get F X in_X 0 5 (gX_0 cI ad (war q7 2 (q7.1 1).toNatClampNeg (v1))) rfl (by decide) mt_85 rfl d_X_keepRoot_96 ?_
      refine lv_iconst (v := (1 : Int32)) F.x F.b d_X_keepRoot_99 (by decide) ?_
      refine lv_iadd F.x F.b d_X_keepRoot_100 ?_
      refine r_put F X in_X t_X t_X_ok n_X 0 5 (gX_0 cI ad (war q7 2 (q7.1 1).toNatClampNeg (v1))) rfl (by decide) mt_85 rfl (t_X_ok 5 (by decide)) rfl rfl (Nat.le_of_ble_eq_true rfl) d_X_keepRoot_101 (pX_1 cI ad (war q7 2 (q7.1 1).toNatClampNeg (v1)) _) (fun H locs X => ?_)
      rw [← Option.some.inj h]
      exact fin_v F X hr d_X_keepRoot_104
    · have h := it_e hc h
      refine lv_aload_n F.x F.b d_X_keepRoot_68 rfl (lv_at hl 1 rfl) ?_
      refine r_get F X in_X 0 6 (gX_0 cI ad q6.2) rfl (by decide) mt_86 rfl d_X_keepRoot_69 ?_
      refine lv_iload_n F.x F.b d_X_keepRoot_72 rfl (lv_at hl 2 rfl) ?_
      refine lv_iload_n F.x F.b d_X_keepRoot_73 rfl (lv_at hl 0 rfl) ?_
      obtain ⟨hb9, h⟩ := it_b h
      refine r_ast F X 6 0 (gX_6 cI ad q6.2) rfl hb9 d_X_keepRoot_74 (sX_6 cI ad q6.2 _ _) (fun H locs X => ?_)
      rw [← Option.some.inj h]
      exact fin_v F X hr d_X_keepRoot_75
theorem hd_X_keepLinks : y_X_keepLinks.cls ≠ "java/lang/invoke/MethodHandle" ∧ y_X_keepLinks.cls ≠ "java/lang/invoke/VarHandle" ∧ (parseMethodDescriptor y_X_keepLinks.desc).map (fun d => d.parameters.length) = some 0 := ⟨by decide, by decide, by decide +kernel⟩
set_option maxRecDepth 100000 in
set_option maxHeartbeats 4000000 in
theorem c_X_keepLinks (l : Launch) (D : Gd) (cI : ClassId) (ad : Nat → Nat) (z : St) (q : St) (h : f_X_keepLinks z = some q) : CV l y_X_keepLinks (.code y_X_keepLinks b_X_keepLinks 2 none) { frames := 3, cells := 0, slots := 0, locals := 67 } D [(cI, .int)] [.ref (ad 0)] (cX cI ad z) (cX cI ad q) 0 0 := by
  refine mk_v (by decide) (Nat.le_of_ble_eq_true rfl) ?_
  intro p e s m args below meth c A ls F X hr hl
  have hl : lv_has ls 2 [(0, .ref (ad 0))] := hl
  have L72 : ∀ (n : Nat) (z : St) (v1 : Int32) (H : Heap) (locs : List Loc) (ls : Array Slot), Wd D A s (cX cI ad z) H locs → lv_has ls 2 [(1, .int (v1)), (0, .ref (ad 0))] → f_X_keepLinks_l72 n z v1 = some q → W p l e { frames := 3, cells := 0, slots := 0, locals := 67 } s m args below meth c H locs 0 0 (MQ below (va_Qv (fun (u : va_W) => u = cX cI ad q) (Po D [(cI, .int)] A) A) args s 0 0 A) (F0 m 72 ls []) := by
    intro n
    induction n with
    | zero => intro z v1 H locs ls X hl h; cases h
    | succ n ih =>
      intro z v1 H locs ls X hl h
      rw [f_X_keepLinks_l72] at h
      refine lv_iload_n F.x F.b d_X_keepLinks_72 rfl (lv_at hl 0 rfl) ?_
      refine lv_if_lt (tgt := 94) F.x F.b d_X_keepLinks_73 (by decide) (fun hc => ?_) (fun hc => ?_)
      · have h := it_t hc h
        rw [← Option.some.inj h]
        exact fin_v F X hr d_X_keepLinks_94
      · have h := it_e hc h
        refine lv_aload_n F.x F.b d_X_keepLinks_76 rfl (lv_at hl 1 rfl) ?_
        refine r_get F X in_X 0 3 (gX_0 cI ad z) rfl (by decide) mt_83 rfl d_X_keepLinks_77 ?_
        refine lv_aload_n F.x F.b d_X_keepLinks_80 rfl (lv_at hl 1 rfl) ?_
        refine r_get F X in_X 0 2 (gX_0 cI ad z) rfl (by decide) mt_82 rfl d_X_keepLinks_81 ?_
        refine lv_iload_n F.x F.b d_X_keepLinks_84 rfl (lv_at hl 0 rfl) ?_
        obtain ⟨hb3, h⟩ := it_b h
        refine r_ald F X 3 0 (gX_3 cI ad z) rfl hb3 d_X_keepLinks_85 ?_
        refine lv_iload_n F.x F.b d_X_keepLinks_86 rfl (lv_at hl 0 rfl) ?_
        obtain ⟨hb2, h⟩ := it_b h
        refine r_ast F X 4 0 (gX_4 cI ad z) rfl hb2 d_X_keepLinks_87 (sX_4 cI ad z _ _) (fun H locs X => ?_)
        refine lv_iinc (k := 0) (v := (v1) + -1) F.x F.b d_X_keepLinks_88 hl rfl (ii_m1 _) (by decide) (lv' := [(1, .int ((v1) + -1)), (0, .ref (ad 0))]) rfl (fun ls hl => ?_)
        refine lv_goto (tgt := 72) F.x F.b d_X_keepLinks_91 (by decide) ?_
        exact ih (war z 1 (z.2 0 (v1).toNatClampNeg).toNatClampNeg (v1)) ((v1) + -1) _ _ _ X (lv_sub hl [0, 1] rfl) h
  have L40 : ∀ (n : Nat) (z : St) (v1 : Int32) (H : Heap) (locs : List Loc) (ls : Array Slot), Wd D A s (cX cI ad z) H locs → lv_has ls 2 [(1, .int (v1)), (0, .ref (ad 0))] → f_X_keepLinks_l40 n z v1 = some q → W p l e { frames := 3, cells := 0, slots := 0, locals := 67 } s m args below meth c H locs 0 0 (MQ below (va_Qv (fun (u : va_W) => u = cX cI ad q) (Po D [(cI, .int)] A) A) args s 0 0 A) (F0 m 40 ls []) := by
    intro n
    induction n with
    | zero => intro z v1 H locs ls X hl h; cases h
    | succ n ih =>
      intro z v1 H locs ls X hl h
      rw [f_X_keepLinks_l40] at h
      refine lv_iload_n F.x F.b d_X_keepLinks_40 rfl (lv_at hl 0 rfl) ?_
      refine lv_aload_n F.x F.b d_X_keepLinks_41 rfl (lv_at hl 1 rfl) ?_
      refine r_get F X in_X 0 0 (gX_0 cI ad z) rfl (by decide) mt_80 rfl d_X_keepLinks_42 ?_
      refine lv_icmp_ge (tgt := 65) F.x F.b d_X_keepLinks_45 (by decide) (fun hc => ?_) (fun hc => ?_)
      · have h := it_t hc h
        refine lv_aload_n F.x F.b d_X_keepLinks_65 rfl (lv_at hl 1 rfl) ?_
        refine r_get F X in_X 0 0 (gX_0 cI ad z) rfl (by decide) mt_80 rfl d_X_keepLinks_66 ?_
        refine lv_iconst (v := (1 : Int32)) F.x F.b d_X_keepLinks_69 (by decide) ?_
        refine lv_isub F.x F.b d_X_keepLinks_70 ?_
        refine lv_istore_n F.x F.b d_X_keepLinks_71 rfl hl (by decide) (lv' := [(1, .int ((z.1 0) - ((1 : Int32)))), (0, .ref (ad 0))]) rfl (fun ls hl => ?_)
        exact L72 FU z ((z.1 0) - ((1 : Int32))) _ _ _ X (lv_sub hl [0, 1] rfl) h
      · have h := it_e hc h
        refine lv_aload_n F.x F.b d_X_keepLinks_48 rfl (lv_at hl 1 rfl) ?_
        refine r_get F X in_X 0 2 (gX_0 cI ad z) rfl (by decide) mt_82 rfl d_X_keepLinks_49 ?_
        refine lv_iload_n F.x F.b d_X_keepLinks_52 rfl (lv_at hl 0 rfl) ?_
        refine lv_aload_n F.x F.b d_X_keepLinks_53 rfl (lv_at hl 1 rfl) ?_
        refine lv_iload_n F.x F.b d_X_keepLinks_54 rfl (lv_at hl 0 rfl) ?_
        obtain ⟨q4, hq4, h⟩ := it_c h
        refine r_vi F X hl.1 (c_X_root l D cI ad z (v1) q4 hq4) (gX_0 cI ad z) rfl mt_280 mt_282 ms_17 mt_1 mt_283 ⟨rfl, hd_X_root⟩ ⟨by decide, by decide⟩ ⟨rfl, rfl⟩ ⟨Nat.zero_le _, Nat.zero_le _⟩ rfl (Nat.le_of_ble_eq_true rfl) d_X_keepLinks_55 rfl (fun H locs X => ?_)
        obtain ⟨hb5, h⟩ := it_b h
        refine r_ast F X 3 0 (gX_3 cI ad q4.2) rfl hb5 d_X_keepLinks_58 (sX_3 cI ad q4.2 _ _) (fun H locs X => ?_)
        refine lv_iinc (k := 0) (v := (v1) + 1) F.x F.b d_X_keepLinks_59 hl rfl (ii_1 _) (by decide) (lv' := [(1, .int ((v1) + 1)), (0, .ref (ad 0))]) rfl (fun ls hl => ?_)
        refine lv_goto (tgt := 40) F.x F.b d_X_keepLinks_62 (by decide) ?_
        exact ih (war q4.2 0 (v1).toNatClampNeg (q4.1)) ((v1) + 1) _ _ _ X (lv_sub hl [0, 1] rfl) h
  have L14 : ∀ (n : Nat) (z : St) (v1 : Int32) (H : Heap) (locs : List Loc) (ls : Array Slot), Wd D A s (cX cI ad z) H locs → lv_has ls 2 [(1, .int (v1)), (0, .ref (ad 0))] → f_X_keepLinks_l14 n z v1 = some q → W p l e { frames := 3, cells := 0, slots := 0, locals := 67 } s m args below meth c H locs 0 0 (MQ below (va_Qv (fun (u : va_W) => u = cX cI ad q) (Po D [(cI, .int)] A) A) args s 0 0 A) (F0 m 14 ls []) := by
    intro n
    induction n with
    | zero => intro z v1 H locs ls X hl h; cases h
    | succ n ih =>
      intro z v1 H locs ls X hl h
      rw [f_X_keepLinks_l14] at h
      refine lv_iload_n F.x F.b d_X_keepLinks_14 rfl (lv_at hl 0 rfl) ?_
      refine lv_aload_n F.x F.b d_X_keepLinks_15 rfl (lv_at hl 1 rfl) ?_
      refine r_get F X in_X 0 10 (gX_0 cI ad z) rfl (by decide) mt_90 rfl d_X_keepLinks_16 ?_
      refine lv_icmp_ge (tgt := 38) F.x F.b d_X_keepLinks_19 (by decide) (fun hc => ?_) (fun hc => ?_)
      · have h := it_t hc h
        refine lv_iconst (v := (0 : Int32)) F.x F.b d_X_keepLinks_38 (by decide) ?_
        refine lv_istore_n F.x F.b d_X_keepLinks_39 rfl hl (by decide) (lv' := [(1, .int ((0 : Int32))), (0, .ref (ad 0))]) rfl (fun ls hl => ?_)
        exact L40 FU z ((0 : Int32)) _ _ _ X (lv_sub hl [0, 1] rfl) h
      · have h := it_e hc h
        refine lv_aload_n F.x F.b d_X_keepLinks_22 rfl (lv_at hl 1 rfl) ?_
        refine lv_aload_n F.x F.b d_X_keepLinks_23 rfl (lv_at hl 1 rfl) ?_
        refine r_get F X in_X 0 9 (gX_0 cI ad z) rfl (by decide) mt_89 rfl d_X_keepLinks_24 ?_
        refine lv_iload_n F.x F.b d_X_keepLinks_27 rfl (lv_at hl 0 rfl) ?_
        obtain ⟨hb7, h⟩ := it_b h
        refine r_ald F X 8 0 (gX_8 cI ad z) rfl hb7 d_X_keepLinks_28 ?_
        obtain ⟨q6, hq6, h⟩ := it_c h
        refine r_vv F X hl.1 (c_X_keepRoot l D cI ad z (z.2 5 (v1).toNatClampNeg) q6 hq6) (gX_0 cI ad z) rfl mt_334 mt_336 ms_29 mt_1 mt_337 ⟨rfl, hd_X_keepRoot⟩ ⟨by decide, by decide⟩ ⟨rfl, rfl⟩ ⟨Nat.zero_le _, Nat.zero_le _⟩ rfl (Nat.le_of_ble_eq_true rfl) d_X_keepLinks_29 rfl (fun H locs X => ?_)
        refine lv_iinc (k := 0) (v := (v1) + 1) F.x F.b d_X_keepLinks_32 hl rfl (ii_1 _) (by decide) (lv' := [(1, .int ((v1) + 1)), (0, .ref (ad 0))]) rfl (fun ls hl => ?_)
        refine lv_goto (tgt := 14) F.x F.b d_X_keepLinks_35 (by decide) ?_
        exact ih q6 ((v1) + 1) _ _ _ X (lv_sub hl [0, 1] rfl) h
  unfold f_X_keepLinks at h
  refine lv_aload_n F.x F.b d_X_keepLinks_0 rfl (lv_at hl 0 rfl) ?_
  refine r_get F X in_X 0 1 (gX_0 cI ad z) rfl (by decide) mt_81 rfl d_X_keepLinks_1 ?_
  obtain ⟨q1, hq1, h⟩ := it_c h
  refine r_nv F X hl.1 (c_S_forgetWholes l D cI ad z q1 hq1) (gX_1 cI ad z) rfl (List.mem_of_getElem? (i := 6) rfl) mt_67 ms_1 mt_2 mt_68 hd_S_forgetWholes ⟨by decide, by decide⟩ ⟨rfl, rfl⟩ ⟨Nat.zero_le _, Nat.zero_le _⟩ rfl (Nat.le_of_ble_eq_true rfl) d_X_keepLinks_4 rfl (fun H locs X => ?_)
  refine lv_aload_n F.x F.b d_X_keepLinks_7 rfl (lv_at hl 0 rfl) ?_
  refine lv_iconst (v := (0 : Int32)) F.x F.b d_X_keepLinks_8 (by decide) ?_
  refine r_put F X in_X t_X t_X_ok n_X 0 5 (gX_0 cI ad q1) rfl (by decide) mt_85 rfl (t_X_ok 5 (by decide)) rfl rfl (Nat.le_of_ble_eq_true rfl) d_X_keepLinks_9 (pX_1 cI ad q1 _) (fun H locs X => ?_)
  refine lv_iconst (v := (0 : Int32)) F.x F.b d_X_keepLinks_12 (by decide) ?_
  refine lv_istore_n F.x F.b d_X_keepLinks_13 rfl hl (by decide) (lv' := [(1, .int ((0 : Int32))), (0, .ref (ad 0))]) rfl (fun ls hl => ?_)
  exact L14 FU (wsc q1 1 ((0 : Int32))) ((0 : Int32)) _ _ _ X (lv_sub hl [0, 1] rfl) h
theorem hd_X_matchTwo : y_X_matchTwo.cls ≠ "java/lang/invoke/MethodHandle" ∧ y_X_matchTwo.cls ≠ "java/lang/invoke/VarHandle" ∧ (parseMethodDescriptor y_X_matchTwo.desc).map (fun d => d.parameters.length) = some 2 := ⟨by decide, by decide, by decide +kernel⟩
set_option maxRecDepth 100000 in
set_option maxHeartbeats 4000000 in
theorem c_X_matchTwo (l : Launch) (D : Gd) (cI : ClassId) (ad : Nat → Nat) (z : St) (v1 v2 : Int32) (q : Int32 × St) (h : f_X_matchTwo z v1 v2 = some q) : CI l y_X_matchTwo (.code y_X_matchTwo b_X_matchTwo 3 (some .boolean)) { frames := 2, cells := 0, slots := 0, locals := 43 } D [(cI, .int)] [.ref (ad 0), .int v1, .int v2] (cX cI ad z) q.1 (cX cI ad q.2) 0 0 := by
  refine mk_i (by decide) (Nat.le_of_ble_eq_true rfl) ?_
  intro p e s m args below meth c A ls F X hr hl
  have hl : lv_has ls 3 [(0, .ref (ad 0)), (1, .int (v1)), (2, .int (v2))] := hl
  unfold f_X_matchTwo at h
  refine lv_aload_n F.x F.b d_X_matchTwo_0 rfl (lv_at hl 0 rfl) ?_
  refine r_get F X in_X 0 6 (gX_0 cI ad z) rfl (by decide) mt_86 rfl d_X_matchTwo_1 ?_
  refine lv_iload_n F.x F.b d_X_matchTwo_4 rfl (lv_at hl 1 rfl) ?_
  obtain ⟨hb7, h⟩ := it_b h
  refine r_ald F X 6 0 (gX_6 cI ad z) rfl hb7 d_X_matchTwo_5 ?_
  refine lv_iconst (v := (-1 : Int32)) F.x F.b d_X_matchTwo_6 (by decide) ?_
  refine lv_icmp_ne (tgt := 41) F.x F.b d_X_matchTwo_7 (by decide) (fun hc => ?_) (fun hc => ?_)
  · have h := it_e hc h
    refine lv_iconst (v := (0 : Int32)) F.x F.b d_X_matchTwo_41 (by decide) ?_
    rw [← Option.some.inj h]
    exact fin_z F X hr (Or.inl rfl) d_X_matchTwo_42
  · have h := it_t hc h
    refine lv_aload_n F.x F.b d_X_matchTwo_10 rfl (lv_at hl 0 rfl) ?_
    refine r_get F X in_X 0 7 (gX_0 cI ad z) rfl (by decide) mt_87 rfl d_X_matchTwo_11 ?_
    refine lv_iload_n F.x F.b d_X_matchTwo_14 rfl (lv_at hl 2 rfl) ?_
    obtain ⟨hb6, h⟩ := it_b h
    refine r_ald F X 7 0 (gX_7 cI ad z) rfl hb6 d_X_matchTwo_15 ?_
    refine lv_iconst (v := (-1 : Int32)) F.x F.b d_X_matchTwo_16 (by decide) ?_
    refine lv_icmp_ne (tgt := 41) F.x F.b d_X_matchTwo_17 (by decide) (fun hc => ?_) (fun hc => ?_)
    · have h := it_e hc h
      refine lv_iconst (v := (0 : Int32)) F.x F.b d_X_matchTwo_41 (by decide) ?_
      rw [← Option.some.inj h]
      exact fin_z F X hr (Or.inl rfl) d_X_matchTwo_42
    · have h := it_t hc h
      refine lv_aload_n F.x F.b d_X_matchTwo_20 rfl (lv_at hl 0 rfl) ?_
      refine r_get F X in_X 0 1 (gX_0 cI ad z) rfl (by decide) mt_81 rfl d_X_matchTwo_21 ?_
      refine r_getN F X in_S 1 0 (gX_1 cI ad z) rfl (by decide) (List.mem_of_getElem? (i := 1) rfl) rfl d_X_matchTwo_24 ?_
      refine lv_iload_n F.x F.b d_X_matchTwo_27 rfl (lv_at hl 1 rfl) ?_
      obtain ⟨hb5, h⟩ := it_b h
      refine r_ald F X 9 0 (gX_9 cI ad z) rfl hb5 d_X_matchTwo_28 ?_
      refine lv_aload_n F.x F.b d_X_matchTwo_29 rfl (lv_at hl 0 rfl) ?_
      refine r_get F X in_X 0 1 (gX_0 cI ad z) rfl (by decide) mt_81 rfl d_X_matchTwo_30 ?_
      refine r_getN F X in_S 1 0 (gX_1 cI ad z) rfl (by decide) (List.mem_of_getElem? (i := 1) rfl) rfl d_X_matchTwo_33 ?_
      refine lv_iload_n F.x F.b d_X_matchTwo_36 rfl (lv_at hl 2 rfl) ?_
      obtain ⟨hb4, h⟩ := it_b h
      refine r_ald F X 9 0 (gX_9 cI ad z) rfl hb4 d_X_matchTwo_37 ?_
      refine lv_icmp_eq (tgt := 43) F.x F.b d_X_matchTwo_38 (by decide) (fun hc => ?_) (fun hc => ?_)
      · have h := it_t hc h
        refine lv_aload_n F.x F.b d_X_matchTwo_43 rfl (lv_at hl 0 rfl) ?_
        refine r_get F X in_X 0 6 (gX_0 cI ad z) rfl (by decide) mt_86 rfl d_X_matchTwo_44 ?_
        refine lv_iload_n F.x F.b d_X_matchTwo_47 rfl (lv_at hl 1 rfl) ?_
        refine lv_iload_n F.x F.b d_X_matchTwo_48 rfl (lv_at hl 2 rfl) ?_
        obtain ⟨hb3, h⟩ := it_b h
        refine r_ast F X 6 0 (gX_6 cI ad z) rfl hb3 d_X_matchTwo_49 (sX_6 cI ad z _ _) (fun H locs X => ?_)
        refine lv_aload_n F.x F.b d_X_matchTwo_50 rfl (lv_at hl 0 rfl) ?_
        refine r_get F X in_X 0 7 (gX_0 cI ad (war z 3 (v1).toNatClampNeg (v2))) rfl (by decide) mt_87 rfl d_X_matchTwo_51 ?_
        refine lv_iload_n F.x F.b d_X_matchTwo_54 rfl (lv_at hl 2 rfl) ?_
        refine lv_iload_n F.x F.b d_X_matchTwo_55 rfl (lv_at hl 1 rfl) ?_
        obtain ⟨hb2, h⟩ := it_b h
        refine r_ast F X 7 0 (gX_7 cI ad (war z 3 (v1).toNatClampNeg (v2))) rfl hb2 d_X_matchTwo_56 (sX_7 cI ad (war z 3 (v1).toNatClampNeg (v2)) _ _) (fun H locs X => ?_)
        refine lv_aload_n F.x F.b d_X_matchTwo_57 rfl (lv_at hl 0 rfl) ?_
        refine lv_iload_n F.x F.b d_X_matchTwo_58 rfl (lv_at hl 1 rfl) ?_
        refine lv_iload_n F.x F.b d_X_matchTwo_59 rfl (lv_at hl 2 rfl) ?_
        obtain ⟨q1, hq1, h⟩ := it_c h
        refine r_vv F X hl.1 (c_X_putPartsOfBoth l D cI ad (war (war z 3 (v1).toNatClampNeg (v2)) 4 (v2).toNatClampNeg (v1)) (v1) (v2) q1 hq1) (gX_0 cI ad (war (war z 3 (v1).toNatClampNeg (v2)) 4 (v2).toNatClampNeg (v1))) rfl mt_288 mt_290 ms_19 mt_1 mt_291 ⟨rfl, hd_X_putPartsOfBoth⟩ ⟨by decide, by decide⟩ ⟨rfl, rfl⟩ ⟨Nat.zero_le _, Nat.zero_le _⟩ rfl (Nat.le_of_ble_eq_true rfl) d_X_matchTwo_60 rfl (fun H locs X => ?_)
        refine lv_iconst (v := (1 : Int32)) F.x F.b d_X_matchTwo_63 (by decide) ?_
        rw [← Option.some.inj h]
        exact fin_z F X hr (Or.inr rfl) d_X_matchTwo_64
      · have h := it_e hc h
        refine lv_iconst (v := (0 : Int32)) F.x F.b d_X_matchTwo_41 (by decide) ?_
        rw [← Option.some.inj h]
        exact fin_z F X hr (Or.inl rfl) d_X_matchTwo_42
theorem hd_X_matchAll : y_X_matchAll.cls ≠ "java/lang/invoke/MethodHandle" ∧ y_X_matchAll.cls ≠ "java/lang/invoke/VarHandle" ∧ (parseMethodDescriptor y_X_matchAll.desc).map (fun d => d.parameters.length) = some 2 := ⟨by decide, by decide, by decide +kernel⟩
set_option maxRecDepth 100000 in
set_option maxHeartbeats 4000000 in
theorem c_X_matchAll (l : Launch) (D : Gd) (cI : ClassId) (ad : Nat → Nat) (z : St) (v1 v2 : Int32) (q : Int32 × St) (h : f_X_matchAll z v1 v2 = some q) : CI l y_X_matchAll (.code y_X_matchAll b_X_matchAll 6 (some .boolean)) { frames := 3, cells := 0, slots := 0, locals := 65 } D [(cI, .int)] [.ref (ad 0), .int v1, .int v2] (cX cI ad z) q.1 (cX cI ad q.2) 0 0 := by
  refine mk_i (by decide) (Nat.le_of_ble_eq_true rfl) ?_
  intro p e s m args below meth c A ls F X hr hl
  have hl : lv_has ls 6 [(0, .ref (ad 0)), (1, .int (v1)), (2, .int (v2))] := hl
  have L37 : ∀ (n : Nat) (z : St) (v3 : Int32) (v1 : Int32) (v2 : Int32) (H : Heap) (locs : List Loc) (ls : Array Slot), Wd D A s (cX cI ad z) H locs → lv_has ls 6 [(3, .int (v3)), (0, .ref (ad 0)), (1, .int (v1)), (2, .int (v2))] → f_X_matchAll_l37 n z v3 v1 v2 = some q → W p l e { frames := 3, cells := 0, slots := 0, locals := 65 } s m args below meth c H locs 0 0 (MQ below (va_Qi (fun (r' : Int32) (u : va_W) => r' = q.1 ∧ u = cX cI ad q.2) (Po D [(cI, .int)] A) A) args s 0 0 A) (F0 m 37 ls []) := by
    intro n
    induction n with
    | zero => intro z v3 v1 v2 H locs ls X hl h; cases h
    | succ n ih =>
      intro z v3 v1 v2 H locs ls X hl h
      rw [f_X_matchAll_l37] at h
      refine lv_iload_n F.x F.b d_X_matchAll_37 rfl (lv_at hl 0 rfl) ?_
      refine lv_sipush (v := (2000 : Int32)) F.x F.b d_X_matchAll_38 (by decide) ?_
      refine lv_icmp_gt (tgt := 103) F.x F.b d_X_matchAll_41 (by decide) (fun hc => ?_) (fun hc => ?_)
      · have h := it_t hc h
        refine lv_iconst (v := (1 : Int32)) F.x F.b d_X_matchAll_103 (by decide) ?_
        rw [← Option.some.inj h]
        exact fin_z F X hr (Or.inr rfl) d_X_matchAll_104
      · have h := it_e hc h
        refine lv_aload_n F.x F.b d_X_matchAll_44 rfl (lv_at hl 1 rfl) ?_
        refine r_get F X in_X 0 8 (gX_0 cI ad z) rfl (by decide) mt_88 rfl d_X_matchAll_45 ?_
        refine r_getN F X in_P 2 1 (gX_2 cI ad z) rfl (by decide) (List.mem_of_getElem? (i := 5) rfl) rfl d_X_matchAll_48 ?_
        refine lv_if_le (tgt := 103) F.x F.b d_X_matchAll_51 (by decide) (fun hc => ?_) (fun hc => ?_)
        · have h := it_t hc h
          refine lv_iconst (v := (1 : Int32)) F.x F.b d_X_matchAll_103 (by decide) ?_
          rw [← Option.some.inj h]
          exact fin_z F X hr (Or.inr rfl) d_X_matchAll_104
        · have h := it_e hc h
          refine lv_aload_n F.x F.b d_X_matchAll_54 rfl (lv_at hl 1 rfl) ?_
          refine r_get F X in_X 0 8 (gX_0 cI ad z) rfl (by decide) mt_88 rfl d_X_matchAll_55 ?_
          obtain ⟨q4, hq4, h⟩ := it_c h
          refine r_ni F X hl.1 (c_P_take l D cI ad z q4 hq4) (gX_2 cI ad z) rfl (List.mem_of_getElem? (i := 11) rfl) mt_278 ms_16 mt_3 mt_279 hd_P_take ⟨by decide, by decide⟩ ⟨rfl, rfl⟩ ⟨Nat.zero_le _, Nat.zero_le _⟩ rfl (Nat.le_of_ble_eq_true rfl) d_X_matchAll_58 rfl (fun H locs X => ?_)
          refine lv_istore F.x F.b d_X_matchAll_61 hl (by decide) (lv' := [(4, .int (q4.1)), (3, .int (v3)), (0, .ref (ad 0)), (1, .int (v1)), (2, .int (v2))]) rfl (fun ls hl => ?_)
          refine lv_aload_n F.x F.b d_X_matchAll_63 rfl (lv_at hl 2 rfl) ?_
          refine r_get F X in_X 0 8 (gX_0 cI ad q4.2) rfl (by decide) mt_88 rfl d_X_matchAll_64 ?_
          obtain ⟨q5, hq5, h⟩ := it_c h
          refine r_ni F X hl.1 (c_P_take l D cI ad q4.2 q5 hq5) (gX_2 cI ad q4.2) rfl (List.mem_of_getElem? (i := 11) rfl) mt_278 ms_16 mt_3 mt_279 hd_P_take ⟨by decide, by decide⟩ ⟨rfl, rfl⟩ ⟨Nat.zero_le _, Nat.zero_le _⟩ rfl (Nat.le_of_ble_eq_true rfl) d_X_matchAll_67 rfl (fun H locs X => ?_)
          refine lv_istore F.x F.b d_X_matchAll_70 hl (by decide) (lv' := [(5, .int (q5.1)), (4, .int (q4.1)), (3, .int (v3)), (0, .ref (ad 0)), (1, .int (v1)), (2, .int (v2))]) rfl (fun ls hl => ?_)
          refine lv_aload_n F.x F.b d_X_matchAll_72 rfl (lv_at hl 3 rfl) ?_
          refine r_get F X in_X 0 6 (gX_0 cI ad q5.2) rfl (by decide) mt_86 rfl d_X_matchAll_73 ?_
          refine lv_iload F.x F.b d_X_matchAll_76 (lv_at hl 0 rfl) ?_
          obtain ⟨hb7, h⟩ := it_b h
          refine r_ald F X 6 0 (gX_6 cI ad q5.2) rfl hb7 d_X_matchAll_78 ?_
          refine lv_iload F.x F.b d_X_matchAll_79 (lv_at hl 1 rfl) ?_
          refine lv_icmp_eq (tgt := 97) F.x F.b d_X_matchAll_81 (by decide) (fun hc => ?_) (fun hc => ?_)
          · have h := it_t hc h
            refine lv_iinc (k := 2) (v := (v3) + 1) F.x F.b d_X_matchAll_97 hl rfl (ii_1 _) (by decide) (lv' := [(3, .int ((v3) + 1)), (5, .int (q5.1)), (4, .int (q4.1)), (0, .ref (ad 0)), (1, .int (v1)), (2, .int (v2))]) rfl (fun ls hl => ?_)
            refine lv_goto (tgt := 37) F.x F.b d_X_matchAll_100 (by decide) ?_
            exact ih q5.2 ((v3) + 1) (v1) (v2) _ _ _ X (lv_sub hl [0, 3, 4, 5] rfl) h
          · have h := it_e hc h
            refine lv_aload_n F.x F.b d_X_matchAll_84 rfl (lv_at hl 3 rfl) ?_
            refine lv_iload F.x F.b d_X_matchAll_85 (lv_at hl 0 rfl) ?_
            refine lv_iload F.x F.b d_X_matchAll_87 (lv_at hl 1 rfl) ?_
            obtain ⟨q6, hq6, h⟩ := it_c h
            refine r_vi F X hl.1 (c_X_matchTwo l D cI ad q5.2 (q5.1) (q4.1) q6 hq6) (gX_0 cI ad q5.2) rfl mt_363 mt_365 ms_31 mt_1 mt_366 ⟨rfl, hd_X_matchTwo⟩ ⟨by decide, by decide⟩ ⟨rfl, rfl⟩ ⟨Nat.zero_le _, Nat.zero_le _⟩ rfl (Nat.le_of_ble_eq_true rfl) d_X_matchAll_89 rfl (fun H locs X => ?_)
            refine lv_if_ne (tgt := 97) F.x F.b d_X_matchAll_92 (by decide) (fun hc => ?_) (fun hc => ?_)
            · have h := it_e hc h
              refine lv_iinc (k := 2) (v := (v3) + 1) F.x F.b d_X_matchAll_97 hl rfl (ii_1 _) (by decide) (lv' := [(3, .int ((v3) + 1)), (5, .int (q5.1)), (4, .int (q4.1)), (0, .ref (ad 0)), (1, .int (v1)), (2, .int (v2))]) rfl (fun ls hl => ?_)
              refine lv_goto (tgt := 37) F.x F.b d_X_matchAll_100 (by decide) ?_
              exact ih q6.2 ((v3) + 1) (v1) (v2) _ _ _ X (lv_sub hl [0, 3, 4, 5] rfl) h
            · have h := it_t hc h
              refine lv_iconst (v := (0 : Int32)) F.x F.b d_X_matchAll_95 (by decide) ?_
              rw [← Option.some.inj h]
              exact fin_z F X hr (Or.inl rfl) d_X_matchAll_96
  unfold f_X_matchAll at h
  refine lv_aload_n F.x F.b d_X_matchAll_0 rfl (lv_at hl 0 rfl) ?_
  refine r_get F X in_X 0 6 (gX_0 cI ad z) rfl (by decide) mt_86 rfl d_X_matchAll_1 ?_
  refine lv_iconst (v := (0 : Int32)) F.x F.b d_X_matchAll_4 (by decide) ?_
  refine lv_aload_n F.x F.b d_X_matchAll_5 rfl (lv_at hl 0 rfl) ?_
  refine r_get F X in_X 0 0 (gX_0 cI ad z) rfl (by decide) mt_80 rfl d_X_matchAll_6 ?_
  refine lv_iconst (v := (-1 : Int32)) F.x F.b d_X_matchAll_9 (by decide) ?_
  obtain ⟨q1, hq1, h⟩ := it_c h
  refine r_sv F X hl.1 (c_J_fill4 l D _ 6 q1 (gX_6 cI ad z) rfl hq1) mt_304 mt_305 mt_4 mt_306 hd_J_fill4 ⟨by decide, by decide⟩ ⟨rfl, rfl⟩ ⟨Nat.zero_le _, Nat.zero_le _⟩ rfl (Nat.le_of_ble_eq_true rfl) d_X_matchAll_10 rfl (fun H locs X => ?_)
  have X : Wd D A s (cX cI ad (wal z 3 q1)) H locs := (aX_6 cI ad z q1) ▸ X
  refine lv_aload_n F.x F.b d_X_matchAll_13 rfl (lv_at hl 0 rfl) ?_
  refine r_get F X in_X 0 7 (gX_0 cI ad (wal z 3 q1)) rfl (by decide) mt_87 rfl d_X_matchAll_14 ?_
  refine lv_iconst (v := (0 : Int32)) F.x F.b d_X_matchAll_17 (by decide) ?_
  refine lv_aload_n F.x F.b d_X_matchAll_18 rfl (lv_at hl 0 rfl) ?_
  refine r_get F X in_X 0 0 (gX_0 cI ad (wal z 3 q1)) rfl (by decide) mt_80 rfl d_X_matchAll_19 ?_
  refine lv_iconst (v := (-1 : Int32)) F.x F.b d_X_matchAll_22 (by decide) ?_
  obtain ⟨q2, hq2, h⟩ := it_c h
  refine r_sv F X hl.1 (c_J_fill4 l D _ 7 q2 (gX_7 cI ad (wal z 3 q1)) rfl hq2) mt_304 mt_305 mt_4 mt_306 hd_J_fill4 ⟨by decide, by decide⟩ ⟨rfl, rfl⟩ ⟨Nat.zero_le _, Nat.zero_le _⟩ rfl (Nat.le_of_ble_eq_true rfl) d_X_matchAll_23 rfl (fun H locs X => ?_)
  have X : Wd D A s (cX cI ad (wal (wal z 3 q1) 4 q2)) H locs := (aX_7 cI ad (wal z 3 q1) q2) ▸ X
  refine lv_aload_n F.x F.b d_X_matchAll_26 rfl (lv_at hl 0 rfl) ?_
  refine r_get F X in_X 0 8 (gX_0 cI ad (wal (wal z 3 q1) 4 q2)) rfl (by decide) mt_88 rfl d_X_matchAll_27 ?_
  refine lv_iload_n F.x F.b d_X_matchAll_30 rfl (lv_at hl 1 rfl) ?_
  refine lv_iload_n F.x F.b d_X_matchAll_31 rfl (lv_at hl 2 rfl) ?_
  obtain ⟨q3, hq3, h⟩ := it_c h
  refine r_nv F X hl.1 (c_P_startWith l D cI ad (wal (wal z 3 q1) 4 q2) (v1) (v2) q3 hq3) (gX_2 cI ad (wal (wal z 3 q1) 4 q2)) rfl (List.mem_of_getElem? (i := 10) rfl) mt_274 ms_15 mt_3 mt_275 hd_P_startWith ⟨by decide, by decide⟩ ⟨rfl, rfl⟩ ⟨Nat.zero_le _, Nat.zero_le _⟩ rfl (Nat.le_of_ble_eq_true rfl) d_X_matchAll_32 rfl (fun H locs X => ?_)
  refine lv_iconst (v := (0 : Int32)) F.x F.b d_X_matchAll_35 (by decide) ?_
  refine lv_istore_n F.x F.b d_X_matchAll_36 rfl hl (by decide) (lv' := [(3, .int ((0 : Int32))), (0, .ref (ad 0)), (1, .int (v1)), (2, .int (v2))]) rfl (fun ls hl => ?_)
  exact L37 FU q3 ((0 : Int32)) (v1) (v2) _ _ _ X (lv_sub hl [0, 1, 2, 3] rfl) h
