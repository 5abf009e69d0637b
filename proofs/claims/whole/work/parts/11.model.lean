theorem hd_M_make : y_M_make.cls ≠ "java/lang/invoke/MethodHandle" ∧ y_M_make.cls ≠ "java/lang/invoke/VarHandle" ∧ (parseMethodDescriptor y_M_make.desc).map (fun d => d.parameters.length) = some 3 := ⟨by decide, by decide, by decide +kernel⟩
set_option maxRecDepth 100000 in
set_option maxHeartbeats 4000000 in
theorem c_M_make (l : Launch) (D : Gd) (cI : ClassId) (ad : Nat → Nat) (z : St) (v1 v2 v3 : Int32) (q : Int32 × St) (h : f_M_make z v1 v2 v3 = some q) : CI l y_M_make (.code y_M_make b_M_make 4 (some .int)) { frames := 0, cells := 0, slots := 0, locals := 0 } D [(cI, .int)] [.ref (ad 0), .int v1, .int v2, .int v3] (cM cI ad z) q.1 (cM cI ad q.2) 0 0 := by
  refine mk_i (by decide) (Nat.le_of_ble_eq_true rfl) ?_
  intro p e s m args below meth c A ls F X hr hl
  have hl : lv_has ls 4 [(0, .ref (ad 0)), (1, .int (v1)), (2, .int (v2)), (3, .int (v3))] := hl
  unfold f_M_make at h
  refine lv_aload_n F.x F.b d_M_make_0 rfl (lv_at hl 0 rfl) ?_
  refine r_get F X in_M 0 1 (gM_0 cI ad z) rfl (by decide) mt_440 rfl d_M_make_1 ?_
  refine lv_aload_n F.x F.b d_M_make_4 rfl (lv_at hl 0 rfl) ?_
  refine r_get F X in_M 0 6 (gM_0 cI ad z) rfl (by decide) mt_445 rfl d_M_make_5 ?_
  refine lv_iload_n F.x F.b d_M_make_8 rfl (lv_at hl 1 rfl) ?_
  obtain ⟨hb4, h⟩ := it_b h
  refine r_ast F X 1 0 (gM_1 cI ad z) rfl hb4 d_M_make_9 (sM_1 cI ad z _ _) (fun H locs X => ?_)
  refine lv_aload_n F.x F.b d_M_make_10 rfl (lv_at hl 0 rfl) ?_
  refine r_get F X in_M 0 2 (gM_0 cI ad (war z 0 (z.1 1).toNatClampNeg (v1))) rfl (by decide) mt_441 rfl d_M_make_11 ?_
  refine lv_aload_n F.x F.b d_M_make_14 rfl (lv_at hl 0 rfl) ?_
  refine r_get F X in_M 0 6 (gM_0 cI ad (war z 0 (z.1 1).toNatClampNeg (v1))) rfl (by decide) mt_445 rfl d_M_make_15 ?_
  refine lv_iload_n F.x F.b d_M_make_18 rfl (lv_at hl 2 rfl) ?_
  obtain ⟨hb3, h⟩ := it_b h
  refine r_ast F X 2 0 (gM_2 cI ad (war z 0 (z.1 1).toNatClampNeg (v1))) rfl hb3 d_M_make_19 (sM_2 cI ad (war z 0 (z.1 1).toNatClampNeg (v1)) _ _) (fun H locs X => ?_)
  refine lv_aload_n F.x F.b d_M_make_20 rfl (lv_at hl 0 rfl) ?_
  refine r_get F X in_M 0 3 (gM_0 cI ad (war (war z 0 (z.1 1).toNatClampNeg (v1)) 1 ((war z 0 (z.1 1).toNatClampNeg (v1)).1 1).toNatClampNeg (v2))) rfl (by decide) mt_442 rfl d_M_make_21 ?_
  refine lv_aload_n F.x F.b d_M_make_24 rfl (lv_at hl 0 rfl) ?_
  refine r_get F X in_M 0 6 (gM_0 cI ad (war (war z 0 (z.1 1).toNatClampNeg (v1)) 1 ((war z 0 (z.1 1).toNatClampNeg (v1)).1 1).toNatClampNeg (v2))) rfl (by decide) mt_445 rfl d_M_make_25 ?_
  refine lv_iload_n F.x F.b d_M_make_28 rfl (lv_at hl 3 rfl) ?_
  obtain ⟨hb2, h⟩ := it_b h
  refine r_ast F X 3 0 (gM_3 cI ad (war (war z 0 (z.1 1).toNatClampNeg (v1)) 1 ((war z 0 (z.1 1).toNatClampNeg (v1)).1 1).toNatClampNeg (v2))) rfl hb2 d_M_make_29 (sM_3 cI ad (war (war z 0 (z.1 1).toNatClampNeg (v1)) 1 ((war z 0 (z.1 1).toNatClampNeg (v1)).1 1).toNatClampNeg (v2)) _ _) (fun H locs X => ?_)
  refine lv_aload_n F.x F.b d_M_make_30 rfl (lv_at hl 0 rfl) ?_
  refine r_get F X in_M 0 4 (gM_0 cI ad (war (war (war z 0 (z.1 1).toNatClampNeg (v1)) 1 ((war z 0 (z.1 1).toNatClampNeg (v1)).1 1).toNatClampNeg (v2)) 2 ((war (war z 0 (z.1 1).toNatClampNeg (v1)) 1 ((war z 0 (z.1 1).toNatClampNeg (v1)).1 1).toNatClampNeg (v2)).1 1).toNatClampNeg (v3))) rfl (by decide) mt_443 rfl d_M_make_31 ?_
  refine lv_aload_n F.x F.b d_M_make_34 rfl (lv_at hl 0 rfl) ?_
  refine r_get F X in_M 0 6 (gM_0 cI ad (war (war (war z 0 (z.1 1).toNatClampNeg (v1)) 1 ((war z 0 (z.1 1).toNatClampNeg (v1)).1 1).toNatClampNeg (v2)) 2 ((war (war z 0 (z.1 1).toNatClampNeg (v1)) 1 ((war z 0 (z.1 1).toNatClampNeg (v1)).1 1).toNatClampNeg (v2)).1 1).toNatClampNeg (v3))) rfl (by decide) mt_445 rfl d_M_make_35 ?_
  refine lv_aload_n F.x F.b d_M_make_38 rfl (lv_at hl 0 rfl) ?_
  refine r_get F X in_M 0 6 (gM_0 cI ad (war (war (war z 0 (z.1 1).toNatClampNeg (v1)) 1 ((war z 0 (z.1 1).toNatClampNeg (v1)).1 1).toNatClampNeg (v2)) 2 ((war (war z 0 (z.1 1).toNatClampNeg (v1)) 1 ((war z 0 (z.1 1).toNatClampNeg (v1)).1 1).toNatClampNeg (v2)).1 1).toNatClampNeg (v3))) rfl (by decide) mt_445 rfl d_M_make_39 ?_
  obtain ⟨hb1, h⟩ := it_b h
  refine r_ast F X 4 0 (gM_4 cI ad (war (war (war z 0 (z.1 1).toNatClampNeg (v1)) 1 ((war z 0 (z.1 1).toNatClampNeg (v1)).1 1).toNatClampNeg (v2)) 2 ((war (war z 0 (z.1 1).toNatClampNeg (v1)) 1 ((war z 0 (z.1 1).toNatClampNeg (v1)).1 1).toNatClampNeg (v2)).1 1).toNatClampNeg (v3))) rfl hb1 d_M_make_42 (sM_4 cI ad (war (war (war z 0 (z.1 1).toNatClampNeg (v1)) 1 ((war z 0 (z.1 1).toNatClampNeg (v1)).1 1).toNatClampNeg (v2)) 2 ((war (war z 0 (z.1 1).toNatClampNeg (v1)) 1 ((war z 0 (z.1 1).toNatClampNeg (v1)).1 1).toNatClampNeg (v2)).1 1).toNatClampNeg (v3)) _ _) (fun H locs X => ?_)
  refine lv_aload_n F.x F.b d_M_make_43 rfl (lv_at hl 0 rfl) ?_
  refine lv_dup F.x F.b d_M_make_44 rfl ?_
  refine r_get F X in_M 0 6 (gM_0 cI ad (war (war (war (war z 0 (z.1 1).toNatClampNeg (v1)) 1 ((war z 0 (z.1 1).toNatClampNeg (v1)).1 1).toNatClampNeg (v2)) 2 ((war (war z 0 (z.1 1).toNatClampNeg (v1)) 1 ((war z 0 (z.1 1).toNatClampNeg (v1)).1 1).toNatClampNeg (v2)).1 1).toNatClampNeg (v3)) 3 ((war (war (war z 0 (z.1 1).toNatClampNeg (v1)) 1 ((war z 0 (z.1 1).toNatClampNeg (v1)).1 1).toNatClampNeg (v2)) 2 ((war (war z 0 (z.1 1).toNatClampNeg (v1)) 1 ((war z 0 (z.1 1).toNatClampNeg (v1)).1 1).toNatClampNeg (v2)).1 1).toNatClampNeg (v3)).1 1).toNatClampNeg ((war (war (war z 0 (z.1 1).toNatClampNeg (v1)) 1 ((war z 0 (z.1 1).toNatClampNeg (v1)).1 1).toNatClampNeg (v2)) 2 ((war (war z 0 (z.1 1).toNatClampNeg (v1)) 1 ((war z 0 (z.1 1).toNatClampNeg (v1)).1 1).toNatClampNeg (v2)).1 1).toNatClampNeg (v3)).1 1))) rfl (by decide) mt_445 rfl d_M_make_45 ?_
  refine lv_iconst (v := (1 : Int32)) F.x F.b d_M_make_48 (by decide) ?_
  refine lv_iadd F.x F.b d_M_make_49 ?_
  refine r_put F X in_M t_M t_M_ok n_M 0 6 (gM_0 cI ad (war (war (war (war z 0 (z.1 1).toNatClampNeg (v1)) 1 ((war z 0 (z.1 1).toNatClampNeg (v1)).1 1).toNatClampNeg (v2)) 2 ((war (war z 0 (z.1 1).toNatClampNeg (v1)) 1 ((war z 0 (z.1 1).toNatClampNeg (v1)).1 1).toNatClampNeg (v2)).1 1).toNatClampNeg (v3)) 3 ((war (war (war z 0 (z.1 1).toNatClampNeg (v1)) 1 ((war z 0 (z.1 1).toNatClampNeg (v1)).1 1).toNatClampNeg (v2)) 2 ((war (war z 0 (z.1 1).toNatClampNeg (v1)) 1 ((war z 0 (z.1 1).toNatClampNeg (v1)).1 1).toNatClampNeg (v2)).1 1).toNatClampNeg (v3)).1 1).toNatClampNeg ((war (war (war z 0 (z.1 1).toNatClampNeg (v1)) 1 ((war z 0 (z.1 1).toNatClampNeg (v1)).1 1).toNatClampNeg (v2)) 2 ((war (war z 0 (z.1 1).toNatClampNeg (v1)) 1 ((war z 0 (z.1 1).toNatClampNeg (v1)).1 1).toNatClampNeg (v2)).1 1).toNatClampNeg (v3)).1 1))) rfl (by decide) mt_445 rfl (t_M_ok 6 (by decide)) rfl rfl (Nat.le_of_ble_eq_true rfl) d_M_make_50 (pM_1 cI ad (war (war (war (war z 0 (z.1 1).toNatClampNeg (v1)) 1 ((war z 0 (z.1 1).toNatClampNeg (v1)).1 1).toNatClampNeg (v2)) 2 ((war (war z 0 (z.1 1).toNatClampNeg (v1)) 1 ((war z 0 (z.1 1).toNatClampNeg (v1)).1 1).toNatClampNeg (v2)).1 1).toNatClampNeg (v3)) 3 ((war (war (war z 0 (z.1 1).toNatClampNeg (v1)) 1 ((war z 0 (z.1 1).toNatClampNeg (v1)).1 1).toNatClampNeg (v2)) 2 ((war (war z 0 (z.1 1).toNatClampNeg (v1)) 1 ((war z 0 (z.1 1).toNatClampNeg (v1)).1 1).toNatClampNeg (v2)).1 1).toNatClampNeg (v3)).1 1).toNatClampNeg ((war (war (war z 0 (z.1 1).toNatClampNeg (v1)) 1 ((war z 0 (z.1 1).toNatClampNeg (v1)).1 1).toNatClampNeg (v2)) 2 ((war (war z 0 (z.1 1).toNatClampNeg (v1)) 1 ((war z 0 (z.1 1).toNatClampNeg (v1)).1 1).toNatClampNeg (v2)).1 1).toNatClampNeg (v3)).1 1)) _) (fun H locs X => ?_)
  refine lv_aload_n F.x F.b d_M_make_53 rfl (lv_at hl 0 rfl) ?_
  refine lv_iconst (v := (0 : Int32)) F.x F.b d_M_make_54 (by decide) ?_
  refine r_put F X in_M t_M t_M_ok n_M 0 13 (gM_0 cI ad (wsc (war (war (war (war z 0 (z.1 1).toNatClampNeg (v1)) 1 ((war z 0 (z.1 1).toNatClampNeg (v1)).1 1).toNatClampNeg (v2)) 2 ((war (war z 0 (z.1 1).toNatClampNeg (v1)) 1 ((war z 0 (z.1 1).toNatClampNeg (v1)).1 1).toNatClampNeg (v2)).1 1).toNatClampNeg (v3)) 3 ((war (war (war z 0 (z.1 1).toNatClampNeg (v1)) 1 ((war z 0 (z.1 1).toNatClampNeg (v1)).1 1).toNatClampNeg (v2)) 2 ((war (war z 0 (z.1 1).toNatClampNeg (v1)) 1 ((war z 0 (z.1 1).toNatClampNeg (v1)).1 1).toNatClampNeg (v2)).1 1).toNatClampNeg (v3)).1 1).toNatClampNeg ((war (war (war z 0 (z.1 1).toNatClampNeg (v1)) 1 ((war z 0 (z.1 1).toNatClampNeg (v1)).1 1).toNatClampNeg (v2)) 2 ((war (war z 0 (z.1 1).toNatClampNeg (v1)) 1 ((war z 0 (z.1 1).toNatClampNeg (v1)).1 1).toNatClampNeg (v2)).1 1).toNatClampNeg (v3)).1 1)) 1 (((war (war (war (war z 0 (z.1 1).toNatClampNeg (v1)) 1 ((war z 0 (z.1 1).toNatClampNeg (v1)).1 1).toNatClampNeg (v2)) 2 ((war (war z 0 (z.1 1).toNatClampNeg (v1)) 1 ((war z 0 (z.1 1).toNatClampNeg (v1)).1 1).toNatClampNeg (v2)).1 1).toNatClampNeg (v3)) 3 ((war (war (war z 0 (z.1 1).toNatClampNeg (v1)) 1 ((war z 0 (z.1 1).toNatClampNeg (v1)).1 1).toNatClampNeg (v2)) 2 ((war (war z 0 (z.1 1).toNatClampNeg (v1)) 1 ((war z 0 (z.1 1).toNatClampNeg (v1)).1 1).toNatClampNeg (v2)).1 1).toNatClampNeg (v3)).1 1).toNatClampNeg ((war (war (war z 0 (z.1 1).toNatClampNeg (v1)) 1 ((war z 0 (z.1 1).toNatClampNeg (v1)).1 1).toNatClampNeg (v2)) 2 ((war (war z 0 (z.1 1).toNatClampNeg (v1)) 1 ((war z 0 (z.1 1).toNatClampNeg (v1)).1 1).toNatClampNeg (v2)).1 1).toNatClampNeg (v3)).1 1)).1 1) + ((1 : Int32))))) rfl (by decide) mt_452 rfl (t_M_ok 13 (by decide)) rfl rfl (Nat.le_of_ble_eq_true rfl) d_M_make_55 (pM_3 cI ad (wsc (war (war (war (war z 0 (z.1 1).toNatClampNeg (v1)) 1 ((war z 0 (z.1 1).toNatClampNeg (v1)).1 1).toNatClampNeg (v2)) 2 ((war (war z 0 (z.1 1).toNatClampNeg (v1)) 1 ((war z 0 (z.1 1).toNatClampNeg (v1)).1 1).toNatClampNeg (v2)).1 1).toNatClampNeg (v3)) 3 ((war (war (war z 0 (z.1 1).toNatClampNeg (v1)) 1 ((war z 0 (z.1 1).toNatClampNeg (v1)).1 1).toNatClampNeg (v2)) 2 ((war (war z 0 (z.1 1).toNatClampNeg (v1)) 1 ((war z 0 (z.1 1).toNatClampNeg (v1)).1 1).toNatClampNeg (v2)).1 1).toNatClampNeg (v3)).1 1).toNatClampNeg ((war (war (war z 0 (z.1 1).toNatClampNeg (v1)) 1 ((war z 0 (z.1 1).toNatClampNeg (v1)).1 1).toNatClampNeg (v2)) 2 ((war (war z 0 (z.1 1).toNatClampNeg (v1)) 1 ((war z 0 (z.1 1).toNatClampNeg (v1)).1 1).toNatClampNeg (v2)).1 1).toNatClampNeg (v3)).1 1)) 1 (((war (war (war (war z 0 (z.1 1).toNatClampNeg (v1)) 1 ((war z 0 (z.1 1).toNatClampNeg (v1)).1 1).toNatClampNeg (v2)) 2 ((war (war z 0 (z.1 1).toNatClampNeg (v1)) 1 ((war z 0 (z.1 1).toNatClampNeg (v1)).1 1).toNatClampNeg (v2)).1 1).toNatClampNeg (v3)) 3 ((war (war (war z 0 (z.1 1).toNatClampNeg (v1)) 1 ((war z 0 (z.1 1).toNatClampNeg (v1)).1 1).toNatClampNeg (v2)) 2 ((war (war z 0 (z.1 1).toNatClampNeg (v1)) 1 ((war z 0 (z.1 1).toNatClampNeg (v1)).1 1).toNatClampNeg (v2)).1 1).toNatClampNeg (v3)).1 1).toNatClampNeg ((war (war (war z 0 (z.1 1).toNatClampNeg (v1)) 1 ((war z 0 (z.1 1).toNatClampNeg (v1)).1 1).toNatClampNeg (v2)) 2 ((war (war z 0 (z.1 1).toNatClampNeg (v1)) 1 ((war z 0 (z.1 1).toNatClampNeg (v1)).1 1).toNatClampNeg (v2)).1 1).toNatClampNeg (v3)).1 1)).1 1) + ((1 : Int32)))) _) (fun H locs X => ?_)
  refine lv_aload_n F.x F.b d_M_make_58 rfl (lv_at hl 0 rfl) ?_
  refine r_get F X in_M 0 6 (gM_0 cI ad (wsc (wsc (war (war (war (war z 0 (z.1 1).toNatClampNeg (v1)) 1 ((war z 0 (z.1 1).toNatClampNeg (v1)).1 1).toNatClampNeg (v2)) 2 ((war (war z 0 (z.1 1).toNatClampNeg (v1)) 1 ((war z 0 (z.1 1).toNatClampNeg (v1)).1 1).toNatClampNeg (v2)).1 1).toNatClampNeg (v3)) 3 ((war (war (war z 0 (z.1 1).toNatClampNeg (v1)) 1 ((war z 0 (z.1 1).toNatClampNeg (v1)).1 1).toNatClampNeg (v2)) 2 ((war (war z 0 (z.1 1).toNatClampNeg (v1)) 1 ((war z 0 (z.1 1).toNatClampNeg (v1)).1 1).toNatClampNeg (v2)).1 1).toNatClampNeg (v3)).1 1).toNatClampNeg ((war (war (war z 0 (z.1 1).toNatClampNeg (v1)) 1 ((war z 0 (z.1 1).toNatClampNeg (v1)).1 1).toNatClampNeg (v2)) 2 ((war (war z 0 (z.1 1).toNatClampNeg (v1)) 1 ((war z 0 (z.1 1).toNatClampNeg (v1)).1 1).toNatClampNeg (v2)).1 1).toNatClampNeg (v3)).1 1)) 1 (((war (war (war (war z 0 (z.1 1).toNatClampNeg (v1)) 1 ((war z 0 (z.1 1).toNatClampNeg (v1)).1 1).toNatClampNeg (v2)) 2 ((war (war z 0 (z.1 1).toNatClampNeg (v1)) 1 ((war z 0 (z.1 1).toNatClampNeg (v1)).1 1).toNatClampNeg (v2)).1 1).toNatClampNeg (v3)) 3 ((war (war (war z 0 (z.1 1).toNatClampNeg (v1)) 1 ((war z 0 (z.1 1).toNatClampNeg (v1)).1 1).toNatClampNeg (v2)) 2 ((war (war z 0 (z.1 1).toNatClampNeg (v1)) 1 ((war z 0 (z.1 1).toNatClampNeg (v1)).1 1).toNatClampNeg (v2)).1 1).toNatClampNeg (v3)).1 1).toNatClampNeg ((war (war (war z 0 (z.1 1).toNatClampNeg (v1)) 1 ((war z 0 (z.1 1).toNatClampNeg (v1)).1 1).toNatClampNeg (v2)) 2 ((war (war z 0 (z.1 1).toNatClampNeg (v1)) 1 ((war z 0 (z.1 1).toNatClampNeg (v1)).1 1).toNatClampNeg (v2)).1 1).toNatClampNeg (v3)).1 1)).1 1) + ((1 : Int32)))) 3 ((0 : Int32)))) rfl (by decide) mt_445 rfl d_M_make_59 ?_
  refine lv_iconst (v := (1 : Int32)) F.x F.b d_M_make_62 (by decide) ?_
  refine lv_isub F.x F.b d_M_make_63 ?_
  rw [← Option.some.inj h]
  exact fin_i F X hr d_M_make_64
theorem hd_M_begin : y_M_begin.cls ≠ "java/lang/invoke/MethodHandle" ∧ y_M_begin.cls ≠ "java/lang/invoke/VarHandle" ∧ (parseMethodDescriptor y_M_begin.desc).map (fun d => d.parameters.length) = some 0 := ⟨by decide, by decide, by decide +kernel⟩
set_option maxRecDepth 100000 in
set_option maxHeartbeats 4000000 in
theorem c_M_begin (l : Launch) (D : Gd) (cI : ClassId) (ad : Nat → Nat) (z : St) (q : St) (h : f_M_begin z = some q) : CV l y_M_begin (.code y_M_begin b_M_begin 1 none) { frames := 1, cells := 0, slots := 0, locals := 23 } D [(cI, .int)] [.ref (ad 0)] (cM cI ad z) (cM cI ad q) 0 0 := by
  refine mk_v (by decide) (Nat.le_of_ble_eq_true rfl) ?_
  intro p e s m args below meth c A ls F X hr hl
  have hl : lv_has ls 1 [(0, .ref (ad 0))] := hl
  unfold f_M_begin at h
  refine lv_aload_n F.x F.b d_M_begin_0 rfl (lv_at hl 0 rfl) ?_
  refine lv_iconst (v := (0 : Int32)) F.x F.b d_M_begin_1 (by decide) ?_
  refine r_put F X in_M t_M t_M_ok n_M 0 6 (gM_0 cI ad z) rfl (by decide) mt_445 rfl (t_M_ok 6 (by decide)) rfl rfl (Nat.le_of_ble_eq_true rfl) d_M_begin_2 (pM_1 cI ad z _) (fun H locs X => ?_)
  refine lv_aload_n F.x F.b d_M_begin_5 rfl (lv_at hl 0 rfl) ?_
  refine lv_iconst (v := (1 : Int32)) F.x F.b d_M_begin_6 (by decide) ?_
  refine lv_iconst (v := (-1 : Int32)) F.x F.b d_M_begin_7 (by decide) ?_
  refine lv_iconst (v := (-1 : Int32)) F.x F.b d_M_begin_8 (by decide) ?_
  obtain ⟨q1, hq1, h⟩ := it_c h
  refine r_vi F X hl.1 (c_M_make l D cI ad (wsc z 1 ((0 : Int32))) ((1 : Int32)) ((-1 : Int32)) ((-1 : Int32)) q1 hq1) (gM_0 cI ad (wsc z 1 ((0 : Int32)))) rfl mt_435 mt_437 ms_36 mt_5 mt_438 ⟨rfl, hd_M_make⟩ ⟨by decide, by decide⟩ ⟨rfl, rfl⟩ ⟨Nat.zero_le _, Nat.zero_le _⟩ rfl (Nat.le_of_ble_eq_true rfl) d_M_begin_9 rfl (fun H locs X => ?_)
  refine lv_pop F.x F.b d_M_begin_12 rfl ?_
  rw [← Option.some.inj h]
  exact fin_v F X hr d_M_begin_13
theorem hd_M_thrown : y_M_thrown.cls ≠ "java/lang/invoke/MethodHandle" ∧ y_M_thrown.cls ≠ "java/lang/invoke/VarHandle" ∧ (parseMethodDescriptor y_M_thrown.desc).map (fun d => d.parameters.length) = some 0 := ⟨by decide, by decide, by decide +kernel⟩
set_option maxRecDepth 100000 in
set_option maxHeartbeats 4000000 in
theorem c_M_thrown (l : Launch) (D : Gd) (cI : ClassId) (ad : Nat → Nat) (z : St) (q : Int32 × St) (h : f_M_thrown z = some q) : CI l y_M_thrown (.code y_M_thrown b_M_thrown 1 (some .int)) { frames := 0, cells := 0, slots := 0, locals := 0 } D [(cI, .int)] [.ref (ad 0)] (cM cI ad z) q.1 (cM cI ad q.2) 0 0 := by
  refine mk_i (by decide) (Nat.le_of_ble_eq_true rfl) ?_
  intro p e s m args below meth c A ls F X hr hl
  have hl : lv_has ls 1 [(0, .ref (ad 0))] := hl
  unfold f_M_thrown at h
  refine lv_aload_n F.x F.b d_M_thrown_0 rfl (lv_at hl 0 rfl) ?_
  refine r_get F X in_M 0 0 (gM_0 cI ad z) rfl (by decide) mt_439 rfl d_M_thrown_1 ?_
  rw [← Option.some.inj h]
  exact fin_i F X hr d_M_thrown_4
theorem hd_M_refuse : y_M_refuse.cls ≠ "java/lang/invoke/MethodHandle" ∧ y_M_refuse.cls ≠ "java/lang/invoke/VarHandle" ∧ (parseMethodDescriptor y_M_refuse.desc).map (fun d => d.parameters.length) = some 2 := ⟨by decide, by decide, by decide +kernel⟩
set_option maxRecDepth 100000 in
set_option maxHeartbeats 4000000 in
theorem c_M_refuse (l : Launch) (D : Gd) (cI : ClassId) (ad : Nat → Nat) (z : St) (v1 v2 : Int32) (q : Int32 × St) (h : f_M_refuse z v1 v2 = some q) : CI l y_M_refuse (.code y_M_refuse b_M_refuse 3 (some .boolean)) { frames := 0, cells := 0, slots := 0, locals := 0 } D [(cI, .int)] [.ref (ad 0), .int v1, .int v2] (cM cI ad z) q.1 (cM cI ad q.2) 0 0 := by
  refine mk_i (by decide) (Nat.le_of_ble_eq_true rfl) ?_
  intro p e s m args below meth c A ls F X hr hl
  have hl : lv_has ls 3 [(0, .ref (ad 0)), (1, .int (v1)), (2, .int (v2))] := hl
  unfold f_M_refuse at h
  refine lv_iload_n F.x F.b d_M_refuse_0 rfl (lv_at hl 2 rfl) ?_
  refine lv_if_eq (tgt := 9) F.x F.b d_M_refuse_1 (by decide) (fun hc => ?_) (fun hc => ?_)
  · have h := it_t hc h
    refine lv_iload_n F.x F.b d_M_refuse_9 rfl (lv_at hl 2 rfl) ?_
    obtain ⟨hb1, h⟩ := it_b h
    rw [← Option.some.inj h]
    exact fin_z F X hr (Decidable.not_not.mp hb1) d_M_refuse_10
  · have h := it_e hc h
    refine lv_aload_n F.x F.b d_M_refuse_4 rfl (lv_at hl 0 rfl) ?_
    refine lv_iload_n F.x F.b d_M_refuse_5 rfl (lv_at hl 1 rfl) ?_
    refine r_put F X in_M t_M t_M_ok n_M 0 0 (gM_0 cI ad z) rfl (by decide) mt_439 rfl (t_M_ok 0 (by decide)) rfl rfl (Nat.le_of_ble_eq_true rfl) d_M_refuse_6 (pM_0 cI ad z _) (fun H locs X => ?_)
    refine lv_iload_n F.x F.b d_M_refuse_9 rfl (lv_at hl 2 rfl) ?_
    obtain ⟨hb2, h⟩ := it_b h
    rw [← Option.some.inj h]
    exact fin_z F X hr (Decidable.not_not.mp hb2) d_M_refuse_10
theorem hd_M_none : y_M_none.cls ≠ "java/lang/invoke/MethodHandle" ∧ y_M_none.cls ≠ "java/lang/invoke/VarHandle" ∧ (parseMethodDescriptor y_M_none.desc).map (fun d => d.parameters.length) = some 1 := ⟨by decide, by decide, by decide +kernel⟩
set_option maxRecDepth 100000 in
set_option maxHeartbeats 4000000 in
theorem c_M_none (l : Launch) (D : Gd) (cI : ClassId) (ad : Nat → Nat) (z : St) (v1 : Int32) (q : Int32 × St) (h : f_M_none z v1 = some q) : CI l y_M_none (.code y_M_none b_M_none 2 (some .boolean)) { frames := 1, cells := 0, slots := 0, locals := 22 } D [(cI, .int)] [.ref (ad 0), .int v1] (cM cI ad z) q.1 (cM cI ad q.2) 0 0 := by
  refine mk_i (by decide) (Nat.le_of_ble_eq_true rfl) ?_
  intro p e s m args below meth c A ls F X hr hl
  have hl : lv_has ls 2 [(0, .ref (ad 0)), (1, .int (v1))] := hl
  unfold f_M_none at h
  refine lv_aload_n F.x F.b d_M_none_0 rfl (lv_at hl 0 rfl) ?_
  refine lv_iconst (v := (0 : Int32)) F.x F.b d_M_none_1 (by decide) ?_
  refine r_put F X in_M t_M t_M_ok n_M 0 0 (gM_0 cI ad z) rfl (by decide) mt_439 rfl (t_M_ok 0 (by decide)) rfl rfl (Nat.le_of_ble_eq_true rfl) d_M_none_2 (pM_0 cI ad z _) (fun H locs X => ?_)
  refine lv_aload_n F.x F.b d_M_none_5 rfl (lv_at hl 0 rfl) ?_
  refine lv_iconst (v := (1 : Int32)) F.x F.b d_M_none_6 (by decide) ?_
  refine lv_iload_n F.x F.b d_M_none_7 rfl (lv_at hl 1 rfl) ?_
  refine lv_if_lt (tgt := 19) F.x F.b d_M_none_8 (by decide) (fun hc => ?_) (fun hc => ?_)
  · have h := it_t hc h
    refine lv_iconst (v := (1 : Int32)) F.x F.b d_M_none_19 (by decide) ?_
    refine lv_goto (tgt := 24) F.x F.b d_M_none_20 (by decide) ?_
    obtain ⟨q1, hq1, h⟩ := it_c h
    refine r_vi F X hl.1 (c_M_refuse l D cI ad (wsc z 0 ((0 : Int32))) ((1 : Int32)) ((1 : Int32)) q1 hq1) (gM_0 cI ad (wsc z 0 ((0 : Int32)))) rfl mt_502 mt_504 ms_37 mt_5 mt_505 ⟨rfl, hd_M_refuse⟩ ⟨by decide, by decide⟩ ⟨rfl, rfl⟩ ⟨Nat.zero_le _, Nat.zero_le _⟩ rfl (Nat.le_of_ble_eq_true rfl) d_M_none_24 rfl (fun H locs X => ?_)
    obtain ⟨hb2, h⟩ := it_b h
    rw [← Option.some.inj h]
    exact fin_z F X hr (Decidable.not_not.mp hb2) d_M_none_27
  · have h := it_e hc h
    refine lv_iload_n F.x F.b d_M_none_11 rfl (lv_at hl 1 rfl) ?_
    refine lv_aload_n F.x F.b d_M_none_12 rfl (lv_at hl 0 rfl) ?_
    refine r_get F X in_M 0 6 (gM_0 cI ad (wsc z 0 ((0 : Int32)))) rfl (by decide) mt_445 rfl d_M_none_13 ?_
    refine lv_icmp_lt (tgt := 23) F.x F.b d_M_none_16 (by decide) (fun hc => ?_) (fun hc => ?_)
    · have h := it_t hc h
      refine lv_iconst (v := (0 : Int32)) F.x F.b d_M_none_23 (by decide) ?_
      obtain ⟨q3, hq3, h⟩ := it_c h
      refine r_vi F X hl.1 (c_M_refuse l D cI ad (wsc z 0 ((0 : Int32))) ((1 : Int32)) ((0 : Int32)) q3 hq3) (gM_0 cI ad (wsc z 0 ((0 : Int32)))) rfl mt_502 mt_504 ms_37 mt_5 mt_505 ⟨rfl, hd_M_refuse⟩ ⟨by decide, by decide⟩ ⟨rfl, rfl⟩ ⟨Nat.zero_le _, Nat.zero_le _⟩ rfl (Nat.le_of_ble_eq_true rfl) d_M_none_24 rfl (fun H locs X => ?_)
      obtain ⟨hb4, h⟩ := it_b h
      rw [← Option.some.inj h]
      exact fin_z F X hr (Decidable.not_not.mp hb4) d_M_none_27
    · have h := it_e hc h
      refine lv_iconst (v := (1 : Int32)) F.x F.b d_M_none_19 (by decide) ?_
      refine lv_goto (tgt := 24) F.x F.b d_M_none_20 (by decide) ?_
      obtain ⟨q5, hq5, h⟩ := it_c h
      refine r_vi F X hl.1 (c_M_refuse l D cI ad (wsc z 0 ((0 : Int32))) ((1 : Int32)) ((1 : Int32)) q5 hq5) (gM_0 cI ad (wsc z 0 ((0 : Int32)))) rfl mt_502 mt_504 ms_37 mt_5 mt_505 ⟨rfl, hd_M_refuse⟩ ⟨by decide, by decide⟩ ⟨rfl, rfl⟩ ⟨Nat.zero_le _, Nat.zero_le _⟩ rfl (Nat.le_of_ble_eq_true rfl) d_M_none_24 rfl (fun H locs X => ?_)
      obtain ⟨hb6, h⟩ := it_b h
      rw [← Option.some.inj h]
      exact fin_z F X hr (Decidable.not_not.mp hb6) d_M_none_27
theorem hd_M_is : y_M_is.cls ≠ "java/lang/invoke/MethodHandle" ∧ y_M_is.cls ≠ "java/lang/invoke/VarHandle" ∧ (parseMethodDescriptor y_M_is.desc).map (fun d => d.parameters.length) = some 1 := ⟨by decide, by decide, by decide +kernel⟩
set_option maxRecDepth 100000 in
set_option maxHeartbeats 4000000 in
theorem c_M_is (l : Launch) (D : Gd) (cI : ClassId) (ad : Nat → Nat) (z : St) (v1 : Int32) (q : Int32 × St) (h : f_M_is z v1 = some q) : CI l y_M_is (.code y_M_is b_M_is 3 (some .int)) { frames := 0, cells := 0, slots := 0, locals := 0 } D [(cI, .int)] [.ref (ad 0), .int v1] (cM cI ad z) q.1 (cM cI ad q.2) 0 0 := by
  refine mk_i (by decide) (Nat.le_of_ble_eq_true rfl) ?_
  intro p e s m args below meth c A ls F X hr hl
  have hl : lv_has ls 3 [(0, .ref (ad 0)), (1, .int (v1))] := hl
  have L2 : ∀ (n : Nat) (z : St) (v2 : Int32) (v1 : Int32) (H : Heap) (locs : List Loc) (ls : Array Slot), Wd D A s (cM cI ad z) H locs → lv_has ls 3 [(2, .int (v2)), (0, .ref (ad 0)), (1, .int (v1))] → f_M_is_l2 n z v2 v1 = some q → W p l e { frames := 0, cells := 0, slots := 0, locals := 0 } s m args below meth c H locs 0 0 (MQ below (va_Qi (fun (r' : Int32) (u : va_W) => r' = q.1 ∧ u = cM cI ad q.2) (Po D [(cI, .int)] A) A) args s 0 0 A) (F0 m 2 ls []) := by
    intro n
    induction n with
    | zero => intro z v2 v1 H locs ls X hl h; cases h
    | succ n ih =>
      intro z v2 v1 H locs ls X hl h
      rw [f_M_is_l2] at h
      refine lv_aload_n F.x F.b d_M_is_2 rfl (lv_at hl 1 rfl) ?_
      refine r_get F X in_M 0 4 (gM_0 cI ad z) rfl (by decide) mt_443 rfl d_M_is_3 ?_
      refine lv_iload_n F.x F.b d_M_is_6 rfl (lv_at hl 0 rfl) ?_
      obtain ⟨hb2, h⟩ := it_b h
      refine r_ald F X 4 0 (gM_4 cI ad z) rfl hb2 d_M_is_7 ?_
      refine lv_iload_n F.x F.b d_M_is_8 rfl (lv_at hl 0 rfl) ?_
      refine lv_icmp_eq (tgt := 22) F.x F.b d_M_is_9 (by decide) (fun hc => ?_) (fun hc => ?_)
      · have h := it_t hc h
        refine lv_iload_n F.x F.b d_M_is_22 rfl (lv_at hl 0 rfl) ?_
        rw [← Option.some.inj h]
        exact fin_i F X hr d_M_is_23
      · have h := it_e hc h
        refine lv_aload_n F.x F.b d_M_is_12 rfl (lv_at hl 1 rfl) ?_
        refine r_get F X in_M 0 4 (gM_0 cI ad z) rfl (by decide) mt_443 rfl d_M_is_13 ?_
        refine lv_iload_n F.x F.b d_M_is_16 rfl (lv_at hl 0 rfl) ?_
        obtain ⟨hb1, h⟩ := it_b h
        refine r_ald F X 4 0 (gM_4 cI ad z) rfl hb1 d_M_is_17 ?_
        refine lv_istore_n F.x F.b d_M_is_18 rfl hl (by decide) (lv' := [(2, .int (z.2 3 (v2).toNatClampNeg)), (0, .ref (ad 0)), (1, .int (v1))]) rfl (fun ls hl => ?_)
        refine lv_goto (tgt := 2) F.x F.b d_M_is_19 (by decide) ?_
        exact ih z (z.2 3 (v2).toNatClampNeg) (v1) _ _ _ X (lv_sub hl [0, 1, 2] rfl) h
  unfold f_M_is at h
  refine lv_iload_n F.x F.b d_M_is_0 rfl (lv_at hl 1 rfl) ?_
  refine lv_istore_n F.x F.b d_M_is_1 rfl hl (by decide) (lv' := [(2, .int (v1)), (0, .ref (ad 0)), (1, .int (v1))]) rfl (fun ls hl => ?_)
  exact L2 FU z (v1) (v1) _ _ _ X (lv_sub hl [0, 1, 2] rfl) h
theorem hd_M_numbered : y_M_numbered.cls ≠ "java/lang/invoke/MethodHandle" ∧ y_M_numbered.cls ≠ "java/lang/invoke/VarHandle" ∧ (parseMethodDescriptor y_M_numbered.desc).map (fun d => d.parameters.length) = some 1 := ⟨by decide, by decide, by decide +kernel⟩
set_option maxRecDepth 100000 in
set_option maxHeartbeats 4000000 in
theorem c_M_numbered (l : Launch) (D : Gd) (cI : ClassId) (ad : Nat → Nat) : ∀ (d : Nat) (z : St) (v1 : Int32) (q : Int32 × St) (h : f_M_numbered d z v1 = some q), CI l y_M_numbered (.code y_M_numbered b_M_numbered 6 (some .int)) { frames := d + 1, cells := 0, slots := 0, locals := (d) * 25 + 22 } D [(cI, .int)] [.ref (ad 0), .int v1] (cM cI ad z) q.1 (cM cI ad q.2) 0 0 := by
  intro d
  induction d with
  | zero => intro z v1 q h; cases h
  | succ d IH =>
  intro z v1 q h
  refine mk_i (by decide) (Nat.le_of_ble_eq_true rfl) ?_
  intro p e s m args below meth c A ls F X hr hl
  have hl : lv_has ls 6 [(0, .ref (ad 0)), (1, .int (v1))] := hl
  have L91 : ∀ (n : Nat) (z : St) (v5 : Int32) (v4 : Int32) (v3 : Int32) (v2 : Int32) (v1 : Int32) (H : Heap) (locs : List Loc) (ls : Array Slot), Wd D A s (cM cI ad z) H locs → lv_has ls 6 [(5, .int (v5)), (4, .int (v4)), (3, .int (v3)), (2, .int (v2)), (0, .ref (ad 0)), (1, .int (v1))] → f_M_numbered_l91 n z v5 v4 v3 v2 v1 = some q → W p l e { frames := d + 1 + 1, cells := 0, slots := 0, locals := (d + 1) * 25 + 22 } s m args below meth c H locs 0 0 (MQ below (va_Qi (fun (r' : Int32) (u : va_W) => r' = q.1 ∧ u = cM cI ad q.2) (Po D [(cI, .int)] A) A) args s 0 0 A) (F0 m 91 ls []) := by
    intro n
    induction n with
    | zero => intro z v5 v4 v3 v2 v1 H locs ls X hl h; cases h
    | succ n ih =>
      intro z v5 v4 v3 v2 v1 H locs ls X hl h
      rw [f_M_numbered_l91] at h
      refine lv_iload F.x F.b d_M_numbered_91 (lv_at hl 0 rfl) ?_
      refine lv_aload_n F.x F.b d_M_numbered_93 rfl (lv_at hl 4 rfl) ?_
      refine r_get F X in_M 0 12 (gM_0 cI ad z) rfl (by decide) mt_451 rfl d_M_numbered_94 ?_
      refine lv_icmp_ge (tgt := 145) F.x F.b d_M_numbered_97 (by decide) (fun hc => ?_) (fun hc => ?_)
      · have h := it_t hc h
        refine lv_iload F.x F.b d_M_numbered_145 (lv_at hl 0 rfl) ?_
        refine lv_aload_n F.x F.b d_M_numbered_147 rfl (lv_at hl 4 rfl) ?_
        refine r_get F X in_M 0 12 (gM_0 cI ad z) rfl (by decide) mt_451 rfl d_M_numbered_148 ?_
        refine lv_icmp_ne (tgt := 202) F.x F.b d_M_numbered_151 (by decide) (fun hc => ?_) (fun hc => ?_)
        · have h := it_e hc h
          refine lv_aload_n F.x F.b d_M_numbered_202 rfl (lv_at hl 4 rfl) ?_
          refine r_get F X in_M 0 7 (gM_0 cI ad z) rfl (by decide) mt_446 rfl d_M_numbered_203 ?_
          refine lv_iload_n F.x F.b d_M_numbered_206 rfl (lv_at hl 3 rfl) ?_
          refine lv_iload F.x F.b d_M_numbered_207 (lv_at hl 0 rfl) ?_
          obtain ⟨hb9, h⟩ := it_b h
          refine r_ast F X 6 0 (gM_6 cI ad z) rfl hb9 d_M_numbered_209 (sM_6 cI ad z _ _) (fun H locs X => ?_)
          refine lv_aload_n F.x F.b d_M_numbered_210 rfl (lv_at hl 4 rfl) ?_
          refine r_get F X in_M 0 7 (gM_0 cI ad (war z 5 (v2).toNatClampNeg (v5))) rfl (by decide) mt_446 rfl d_M_numbered_211 ?_
          refine lv_iload_n F.x F.b d_M_numbered_214 rfl (lv_at hl 5 rfl) ?_
          refine lv_aload_n F.x F.b d_M_numbered_215 rfl (lv_at hl 4 rfl) ?_
          refine r_get F X in_M 0 7 (gM_0 cI ad (war z 5 (v2).toNatClampNeg (v5))) rfl (by decide) mt_446 rfl d_M_numbered_216 ?_
          refine lv_iload_n F.x F.b d_M_numbered_219 rfl (lv_at hl 3 rfl) ?_
          obtain ⟨hb8, h⟩ := it_b h
          refine r_ald F X 6 0 (gM_6 cI ad (war z 5 (v2).toNatClampNeg (v5))) rfl hb8 d_M_numbered_220 ?_
          obtain ⟨hb7, h⟩ := it_b h
          refine r_ast F X 6 0 (gM_6 cI ad (war z 5 (v2).toNatClampNeg (v5))) rfl hb7 d_M_numbered_221 (sM_6 cI ad (war z 5 (v2).toNatClampNeg (v5)) _ _) (fun H locs X => ?_)
          refine lv_aload_n F.x F.b d_M_numbered_222 rfl (lv_at hl 4 rfl) ?_
          refine r_get F X in_M 0 7 (gM_0 cI ad (war (war z 5 (v2).toNatClampNeg (v5)) 5 (v1).toNatClampNeg ((war z 5 (v2).toNatClampNeg (v5)).2 5 (v2).toNatClampNeg))) rfl (by decide) mt_446 rfl d_M_numbered_223 ?_
          refine lv_iload_n F.x F.b d_M_numbered_226 rfl (lv_at hl 5 rfl) ?_
          obtain ⟨hb6, h⟩ := it_b h
          refine r_ald F X 6 0 (gM_6 cI ad (war (war z 5 (v2).toNatClampNeg (v5)) 5 (v1).toNatClampNeg ((war z 5 (v2).toNatClampNeg (v5)).2 5 (v2).toNatClampNeg))) rfl hb6 d_M_numbered_227 ?_
          rw [← Option.some.inj h]
          exact fin_i F X hr d_M_numbered_228
        · have h := it_t hc h
          refine lv_aload_n F.x F.b d_M_numbered_154 rfl (lv_at hl 4 rfl) ?_
          refine r_get F X in_M 0 8 (gM_0 cI ad z) rfl (by decide) mt_447 rfl d_M_numbered_155 ?_
          refine lv_iload F.x F.b d_M_numbered_158 (lv_at hl 0 rfl) ?_
          refine lv_aload_n F.x F.b d_M_numbered_160 rfl (lv_at hl 4 rfl) ?_
          refine r_get F X in_M 0 1 (gM_0 cI ad z) rfl (by decide) mt_440 rfl d_M_numbered_161 ?_
          refine lv_iload_n F.x F.b d_M_numbered_164 rfl (lv_at hl 3 rfl) ?_
          obtain ⟨hb18, h⟩ := it_b h
          refine r_ald F X 1 0 (gM_1 cI ad z) rfl hb18 d_M_numbered_165 ?_
          obtain ⟨hb17, h⟩ := it_b h
          refine r_ast F X 7 0 (gM_7 cI ad z) rfl hb17 d_M_numbered_166 (sM_7 cI ad z _ _) (fun H locs X => ?_)
          refine lv_aload_n F.x F.b d_M_numbered_167 rfl (lv_at hl 4 rfl) ?_
          refine r_get F X in_M 0 9 (gM_0 cI ad (war z 6 (v5).toNatClampNeg (z.2 0 (v2).toNatClampNeg))) rfl (by decide) mt_448 rfl d_M_numbered_168 ?_
          refine lv_iload F.x F.b d_M_numbered_171 (lv_at hl 0 rfl) ?_
          refine lv_iload_n F.x F.b d_M_numbered_173 rfl (lv_at hl 2 rfl) ?_
          obtain ⟨hb16, h⟩ := it_b h
          refine r_ast F X 8 0 (gM_8 cI ad (war z 6 (v5).toNatClampNeg (z.2 0 (v2).toNatClampNeg))) rfl hb16 d_M_numbered_174 (sM_8 cI ad (war z 6 (v5).toNatClampNeg (z.2 0 (v2).toNatClampNeg)) _ _) (fun H locs X => ?_)
          refine lv_aload_n F.x F.b d_M_numbered_175 rfl (lv_at hl 4 rfl) ?_
          refine r_get F X in_M 0 10 (gM_0 cI ad (war (war z 6 (v5).toNatClampNeg (z.2 0 (v2).toNatClampNeg)) 7 (v5).toNatClampNeg (v3))) rfl (by decide) mt_449 rfl d_M_numbered_176 ?_
          refine lv_iload F.x F.b d_M_numbered_179 (lv_at hl 0 rfl) ?_
          refine lv_iload F.x F.b d_M_numbered_181 (lv_at hl 1 rfl) ?_
          obtain ⟨hb15, h⟩ := it_b h
          refine r_ast F X 9 0 (gM_9 cI ad (war (war z 6 (v5).toNatClampNeg (z.2 0 (v2).toNatClampNeg)) 7 (v5).toNatClampNeg (v3))) rfl hb15 d_M_numbered_183 (sM_9 cI ad (war (war z 6 (v5).toNatClampNeg (z.2 0 (v2).toNatClampNeg)) 7 (v5).toNatClampNeg (v3)) _ _) (fun H locs X => ?_)
          refine lv_aload_n F.x F.b d_M_numbered_184 rfl (lv_at hl 4 rfl) ?_
          refine r_get F X in_M 0 11 (gM_0 cI ad (war (war (war z 6 (v5).toNatClampNeg (z.2 0 (v2).toNatClampNeg)) 7 (v5).toNatClampNeg (v3)) 8 (v5).toNatClampNeg (v4))) rfl (by decide) mt_450 rfl d_M_numbered_185 ?_
          refine lv_iload F.x F.b d_M_numbered_188 (lv_at hl 0 rfl) ?_
          refine lv_iconst (v := (-1 : Int32)) F.x F.b d_M_numbered_190 (by decide) ?_
          obtain ⟨hb14, h⟩ := it_b h
          refine r_ast F X 10 0 (gM_10 cI ad (war (war (war z 6 (v5).toNatClampNeg (z.2 0 (v2).toNatClampNeg)) 7 (v5).toNatClampNeg (v3)) 8 (v5).toNatClampNeg (v4))) rfl hb14 d_M_numbered_191 (sM_10 cI ad (war (war (war z 6 (v5).toNatClampNeg (z.2 0 (v2).toNatClampNeg)) 7 (v5).toNatClampNeg (v3)) 8 (v5).toNatClampNeg (v4)) _ _) (fun H locs X => ?_)
          refine lv_aload_n F.x F.b d_M_numbered_192 rfl (lv_at hl 4 rfl) ?_
          refine lv_dup F.x F.b d_M_numbered_193 rfl ?_
          refine r_get F X in_M 0 12 (gM_0 cI ad (war (war (war (war z 6 (v5).toNatClampNeg (z.2 0 (v2).toNatClampNeg)) 7 (v5).toNatClampNeg (v3)) 8 (v5).toNatClampNeg (v4)) 9 (v5).toNatClampNeg ((-1 : Int32)))) rfl (by decide) mt_451 rfl d_M_numbered_194 ?_
          refine lv_iconst (v := (1 : Int32)) F.x F.b d_M_numbered_197 (by decide) ?_
          refine lv_iadd F.x F.b d_M_numbered_198 ?_
          refine r_put F X in_M t_M t_M_ok n_M 0 12 (gM_0 cI ad (war (war (war (war z 6 (v5).toNatClampNeg (z.2 0 (v2).toNatClampNeg)) 7 (v5).toNatClampNeg (v3)) 8 (v5).toNatClampNeg (v4)) 9 (v5).toNatClampNeg ((-1 : Int32)))) rfl (by decide) mt_451 rfl (t_M_ok 12 (by decide)) rfl rfl (Nat.le_of_ble_eq_true rfl) d_M_numbered_199 (pM_2 cI ad (war (war (war (war z 6 (v5).toNatClampNeg (z.2 0 (v2).toNatClampNeg)) 7 (v5).toNatClampNeg (v3)) 8 (v5).toNatClampNeg (v4)) 9 (v5).toNatClampNeg ((-1 : Int32))) _) (fun H locs X => ?_)
          refine lv_aload_n F.x F.b d_M_numbered_202 rfl (lv_at hl 4 rfl) ?_
          refine r_get F X in_M 0 7 (gM_0 cI ad (wsc (war (war (war (war z 6 (v5).toNatClampNeg (z.2 0 (v2).toNatClampNeg)) 7 (v5).toNatClampNeg (v3)) 8 (v5).toNatClampNeg (v4)) 9 (v5).toNatClampNeg ((-1 : Int32))) 2 (((war (war (war (war z 6 (v5).toNatClampNeg (z.2 0 (v2).toNatClampNeg)) 7 (v5).toNatClampNeg (v3)) 8 (v5).toNatClampNeg (v4)) 9 (v5).toNatClampNeg ((-1 : Int32))).1 2) + ((1 : Int32))))) rfl (by decide) mt_446 rfl d_M_numbered_203 ?_
          refine lv_iload_n F.x F.b d_M_numbered_206 rfl (lv_at hl 3 rfl) ?_
          refine lv_iload F.x F.b d_M_numbered_207 (lv_at hl 0 rfl) ?_
          obtain ⟨hb13, h⟩ := it_b h
          refine r_ast F X 6 0 (gM_6 cI ad (wsc (war (war (war (war z 6 (v5).toNatClampNeg (z.2 0 (v2).toNatClampNeg)) 7 (v5).toNatClampNeg (v3)) 8 (v5).toNatClampNeg (v4)) 9 (v5).toNatClampNeg ((-1 : Int32))) 2 (((war (war (war (war z 6 (v5).toNatClampNeg (z.2 0 (v2).toNatClampNeg)) 7 (v5).toNatClampNeg (v3)) 8 (v5).toNatClampNeg (v4)) 9 (v5).toNatClampNeg ((-1 : Int32))).1 2) + ((1 : Int32))))) rfl hb13 d_M_numbered_209 (sM_6 cI ad (wsc (war (war (war (war z 6 (v5).toNatClampNeg (z.2 0 (v2).toNatClampNeg)) 7 (v5).toNatClampNeg (v3)) 8 (v5).toNatClampNeg (v4)) 9 (v5).toNatClampNeg ((-1 : Int32))) 2 (((war (war (war (war z 6 (v5).toNatClampNeg (z.2 0 (v2).toNatClampNeg)) 7 (v5).toNatClampNeg (v3)) 8 (v5).toNatClampNeg (v4)) 9 (v5).toNatClampNeg ((-1 : Int32))).1 2) + ((1 : Int32)))) _ _) (fun H locs X => ?_)
          refine lv_aload_n F.x F.b d_M_numbered_210 rfl (lv_at hl 4 rfl) ?_
          refine r_get F X in_M 0 7 (gM_0 cI ad (war (wsc (war (war (war (war z 6 (v5).toNatClampNeg (z.2 0 (v2).toNatClampNeg)) 7 (v5).toNatClampNeg (v3)) 8 (v5).toNatClampNeg (v4)) 9 (v5).toNatClampNeg ((-1 : Int32))) 2 (((war (war (war (war z 6 (v5).toNatClampNeg (z.2 0 (v2).toNatClampNeg)) 7 (v5).toNatClampNeg (v3)) 8 (v5).toNatClampNeg (v4)) 9 (v5).toNatClampNeg ((-1 : Int32))).1 2) + ((1 : Int32)))) 5 (v2).toNatClampNeg (v5))) rfl (by decide) mt_446 rfl d_M_numbered_211 ?_
          refine lv_iload_n F.x F.b d_M_numbered_214 rfl (lv_at hl 5 rfl) ?_
          refine lv_aload_n F.x F.b d_M_numbered_215 rfl (lv_at hl 4 rfl) ?_
          refine r_get F X in_M 0 7 (gM_0 cI ad (war (wsc (war (war (war (war z 6 (v5).toNatClampNeg (z.2 0 (v2).toNatClampNeg)) 7 (v5).toNatClampNeg (v3)) 8 (v5).toNatClampNeg (v4)) 9 (v5).toNatClampNeg ((-1 : Int32))) 2 (((war (war (war (war z 6 (v5).toNatClampNeg (z.2 0 (v2).toNatClampNeg)) 7 (v5).toNatClampNeg (v3)) 8 (v5).toNatClampNeg (v4)) 9 (v5).toNatClampNeg ((-1 : Int32))).1 2) + ((1 : Int32)))) 5 (v2).toNatClampNeg (v5))) rfl (by decide) mt_446 rfl d_M_numbered_216 ?_
          refine lv_iload_n F.x F.b d_M_numbered_219 rfl (lv_at hl 3 rfl) ?_
          obtain ⟨hb12, h⟩ := it_b h
          refine r_ald F X 6 0 (gM_6 cI ad (war (wsc (war (war (war (war z 6 (v5).toNatClampNeg (z.2 0 (v2).toNatClampNeg)) 7 (v5).toNatClampNeg (v3)) 8 (v5).toNatClampNeg (v4)) 9 (v5).toNatClampNeg ((-1 : Int32))) 2 (((war (war (war (war z 6 (v5).toNatClampNeg (z.2 0 (v2).toNatClampNeg)) 7 (v5).toNatClampNeg (v3)) 8 (v5).toNatClampNeg (v4)) 9 (v5).toNatClampNeg ((-1 : Int32))).1 2) + ((1 : Int32)))) 5 (v2).toNatClampNeg (v5))) rfl hb12 d_M_numbered_220 ?_
          obtain ⟨hb11, h⟩ := it_b h
          refine r_ast F X 6 0 (gM_6 cI ad (war (wsc (war (war (war (war z 6 (v5).toNatClampNeg (z.2 0 (v2).toNatClampNeg)) 7 (v5).toNatClampNeg (v3)) 8 (v5).toNatClampNeg (v4)) 9 (v5).toNatClampNeg ((-1 : Int32))) 2 (((war (war (war (war z 6 (v5).toNatClampNeg (z.2 0 (v2).toNatClampNeg)) 7 (v5).toNatClampNeg (v3)) 8 (v5).toNatClampNeg (v4)) 9 (v5).toNatClampNeg ((-1 : Int32))).1 2) + ((1 : Int32)))) 5 (v2).toNatClampNeg (v5))) rfl hb11 d_M_numbered_221 (sM_6 cI ad (war (wsc (war (war (war (war z 6 (v5).toNatClampNeg (z.2 0 (v2).toNatClampNeg)) 7 (v5).toNatClampNeg (v3)) 8 (v5).toNatClampNeg (v4)) 9 (v5).toNatClampNeg ((-1 : Int32))) 2 (((war (war (war (war z 6 (v5).toNatClampNeg (z.2 0 (v2).toNatClampNeg)) 7 (v5).toNatClampNeg (v3)) 8 (v5).toNatClampNeg (v4)) 9 (v5).toNatClampNeg ((-1 : Int32))).1 2) + ((1 : Int32)))) 5 (v2).toNatClampNeg (v5)) _ _) (fun H locs X => ?_)
          refine lv_aload_n F.x F.b d_M_numbered_222 rfl (lv_at hl 4 rfl) ?_
          refine r_get F X in_M 0 7 (gM_0 cI ad (war (war (wsc (war (war (war (war z 6 (v5).toNatClampNeg (z.2 0 (v2).toNatClampNeg)) 7 (v5).toNatClampNeg (v3)) 8 (v5).toNatClampNeg (v4)) 9 (v5).toNatClampNeg ((-1 : Int32))) 2 (((war (war (war (war z 6 (v5).toNatClampNeg (z.2 0 (v2).toNatClampNeg)) 7 (v5).toNatClampNeg (v3)) 8 (v5).toNatClampNeg (v4)) 9 (v5).toNatClampNeg ((-1 : Int32))).1 2) + ((1 : Int32)))) 5 (v2).toNatClampNeg (v5)) 5 (v1).toNatClampNeg ((war (wsc (war (war (war (war z 6 (v5).toNatClampNeg (z.2 0 (v2).toNatClampNeg)) 7 (v5).toNatClampNeg (v3)) 8 (v5).toNatClampNeg (v4)) 9 (v5).toNatClampNeg ((-1 : Int32))) 2 (((war (war (war (war z 6 (v5).toNatClampNeg (z.2 0 (v2).toNatClampNeg)) 7 (v5).toNatClampNeg (v3)) 8 (v5).toNatClampNeg (v4)) 9 (v5).toNatClampNeg ((-1 : Int32))).1 2) + ((1 : Int32)))) 5 (v2).toNatClampNeg (v5)).2 5 (v2).toNatClampNeg))) rfl (by decide) mt_446 rfl d_M_numbered_223 ?_
          refine lv_iload_n F.x F.b d_M_numbered_226 rfl (lv_at hl 5 rfl) ?_
          obtain ⟨hb10, h⟩ := it_b h
          refine r_ald F X 6 0 (gM_6 cI ad (war (war (wsc (war (war (war (war z 6 (v5).toNatClampNeg (z.2 0 (v2).toNatClampNeg)) 7 (v5).toNatClampNeg (v3)) 8 (v5).toNatClampNeg (v4)) 9 (v5).toNatClampNeg ((-1 : Int32))) 2 (((war (war (war (war z 6 (v5).toNatClampNeg (z.2 0 (v2).toNatClampNeg)) 7 (v5).toNatClampNeg (v3)) 8 (v5).toNatClampNeg (v4)) 9 (v5).toNatClampNeg ((-1 : Int32))).1 2) + ((1 : Int32)))) 5 (v2).toNatClampNeg (v5)) 5 (v1).toNatClampNeg ((war (wsc (war (war (war (war z 6 (v5).toNatClampNeg (z.2 0 (v2).toNatClampNeg)) 7 (v5).toNatClampNeg (v3)) 8 (v5).toNatClampNeg (v4)) 9 (v5).toNatClampNeg ((-1 : Int32))) 2 (((war (war (war (war z 6 (v5).toNatClampNeg (z.2 0 (v2).toNatClampNeg)) 7 (v5).toNatClampNeg (v3)) 8 (v5).toNatClampNeg (v4)) 9 (v5).toNatClampNeg ((-1 : Int32))).1 2) + ((1 : Int32)))) 5 (v2).toNatClampNeg (v5)).2 5 (v2).toNatClampNeg))) rfl hb10 d_M_numbered_227 ?_
          rw [← Option.some.inj h]
          exact fin_i F X hr d_M_numbered_228
      · have h := it_e hc h
        refine lv_aload_n F.x F.b d_M_numbered_100 rfl (lv_at hl 4 rfl) ?_
        refine r_get F X in_M 0 8 (gM_0 cI ad z) rfl (by decide) mt_447 rfl d_M_numbered_101 ?_
        refine lv_iload F.x F.b d_M_numbered_104 (lv_at hl 0 rfl) ?_
        obtain ⟨hb35, h⟩ := it_b h
        refine r_ald F X 7 0 (gM_7 cI ad z) rfl hb35 d_M_numbered_106 ?_
        refine lv_aload_n F.x F.b d_M_numbered_107 rfl (lv_at hl 4 rfl) ?_
        refine r_get F X in_M 0 1 (gM_0 cI ad z) rfl (by decide) mt_440 rfl d_M_numbered_108 ?_
        refine lv_iload_n F.x F.b d_M_numbered_111 rfl (lv_at hl 3 rfl) ?_
        obtain ⟨hb34, h⟩ := it_b h
        refine r_ald F X 1 0 (gM_1 cI ad z) rfl hb34 d_M_numbered_112 ?_
        refine lv_icmp_ne (tgt := 139) F.x F.b d_M_numbered_113 (by decide) (fun hc => ?_) (fun hc => ?_)
        · have h := it_e hc h
          refine lv_iinc (k := 0) (v := (v5) + 1) F.x F.b d_M_numbered_139 hl rfl (ii_1 _) (by decide) (lv' := [(5, .int ((v5) + 1)), (4, .int (v4)), (3, .int (v3)), (2, .int (v2)), (0, .ref (ad 0)), (1, .int (v1))]) rfl (fun ls hl => ?_)
          refine lv_goto (tgt := 91) F.x F.b d_M_numbered_142 (by decide) ?_
          exact ih z ((v5) + 1) (v4) (v3) (v2) (v1) _ _ _ X (lv_sub hl [0, 1, 2, 3, 4, 5] rfl) h
        · have h := it_t hc h
          refine lv_aload_n F.x F.b d_M_numbered_116 rfl (lv_at hl 4 rfl) ?_
          refine r_get F X in_M 0 9 (gM_0 cI ad z) rfl (by decide) mt_448 rfl d_M_numbered_117 ?_
          refine lv_iload F.x F.b d_M_numbered_120 (lv_at hl 0 rfl) ?_
          obtain ⟨hb33, h⟩ := it_b h
          refine r_ald F X 8 0 (gM_8 cI ad z) rfl hb33 d_M_numbered_122 ?_
          refine lv_iload_n F.x F.b d_M_numbered_123 rfl (lv_at hl 2 rfl) ?_
          refine lv_icmp_ne (tgt := 139) F.x F.b d_M_numbered_124 (by decide) (fun hc => ?_) (fun hc => ?_)
          · have h := it_e hc h
            refine lv_iinc (k := 0) (v := (v5) + 1) F.x F.b d_M_numbered_139 hl rfl (ii_1 _) (by decide) (lv' := [(5, .int ((v5) + 1)), (4, .int (v4)), (3, .int (v3)), (2, .int (v2)), (0, .ref (ad 0)), (1, .int (v1))]) rfl (fun ls hl => ?_)
            refine lv_goto (tgt := 91) F.x F.b d_M_numbered_142 (by decide) ?_
            exact ih z ((v5) + 1) (v4) (v3) (v2) (v1) _ _ _ X (lv_sub hl [0, 1, 2, 3, 4, 5] rfl) h
          · have h := it_t hc h
            refine lv_aload_n F.x F.b d_M_numbered_127 rfl (lv_at hl 4 rfl) ?_
            refine r_get F X in_M 0 10 (gM_0 cI ad z) rfl (by decide) mt_449 rfl d_M_numbered_128 ?_
            refine lv_iload F.x F.b d_M_numbered_131 (lv_at hl 0 rfl) ?_
            obtain ⟨hb32, h⟩ := it_b h
            refine r_ald F X 9 0 (gM_9 cI ad z) rfl hb32 d_M_numbered_133 ?_
            refine lv_iload F.x F.b d_M_numbered_134 (lv_at hl 1 rfl) ?_
            refine lv_icmp_eq (tgt := 145) F.x F.b d_M_numbered_136 (by decide) (fun hc => ?_) (fun hc => ?_)
            · have h := it_t hc h
              refine lv_iload F.x F.b d_M_numbered_145 (lv_at hl 0 rfl) ?_
              refine lv_aload_n F.x F.b d_M_numbered_147 rfl (lv_at hl 4 rfl) ?_
              refine r_get F X in_M 0 12 (gM_0 cI ad z) rfl (by decide) mt_451 rfl d_M_numbered_148 ?_
              refine lv_icmp_ne (tgt := 202) F.x F.b d_M_numbered_151 (by decide) (fun hc => ?_) (fun hc => ?_)
              · have h := it_e hc h
                refine lv_aload_n F.x F.b d_M_numbered_202 rfl (lv_at hl 4 rfl) ?_
                refine r_get F X in_M 0 7 (gM_0 cI ad z) rfl (by decide) mt_446 rfl d_M_numbered_203 ?_
                refine lv_iload_n F.x F.b d_M_numbered_206 rfl (lv_at hl 3 rfl) ?_
                refine lv_iload F.x F.b d_M_numbered_207 (lv_at hl 0 rfl) ?_
                obtain ⟨hb22, h⟩ := it_b h
                refine r_ast F X 6 0 (gM_6 cI ad z) rfl hb22 d_M_numbered_209 (sM_6 cI ad z _ _) (fun H locs X => ?_)
                refine lv_aload_n F.x F.b d_M_numbered_210 rfl (lv_at hl 4 rfl) ?_
                refine r_get F X in_M 0 7 (gM_0 cI ad (war z 5 (v2).toNatClampNeg (v5))) rfl (by decide) mt_446 rfl d_M_numbered_211 ?_
                refine lv_iload_n F.x F.b d_M_numbered_214 rfl (lv_at hl 5 rfl) ?_
                refine lv_aload_n F.x F.b d_M_numbered_215 rfl (lv_at hl 4 rfl) ?_
                refine r_get F X in_M 0 7 (gM_0 cI ad (war z 5 (v2).toNatClampNeg (v5))) rfl (by decide) mt_446 rfl d_M_numbered_216 ?_
                refine lv_iload_n F.x F.b d_M_numbered_219 rfl (lv_at hl 3 rfl) ?_
                obtain ⟨hb21, h⟩ := it_b h
                refine r_ald F X 6 0 (gM_6 cI ad (war z 5 (v2).toNatClampNeg (v5))) rfl hb21 d_M_numbered_220 ?_
                obtain ⟨hb20, h⟩ := it_b h
                refine r_ast F X 6 0 (gM_6 cI ad (war z 5 (v2).toNatClampNeg (v5))) rfl hb20 d_M_numbered_221 (sM_6 cI ad (war z 5 (v2).toNatClampNeg (v5)) _ _) (fun H locs X => ?_)
                refine lv_aload_n F.x F.b d_M_numbered_222 rfl (lv_at hl 4 rfl) ?_
                refine r_get F X in_M 0 7 (gM_0 cI ad (war (war z 5 (v2).toNatClampNeg (v5)) 5 (v1).toNatClampNeg ((war z 5 (v2).toNatClampNeg (v5)).2 5 (v2).toNatClampNeg))) rfl (by decide) mt_446 rfl d_M_numbered_223 ?_
                refine lv_iload_n F.x F.b d_M_numbered_226 rfl (lv_at hl 5 rfl) ?_
                obtain ⟨hb19, h⟩ := it_b h
                refine r_ald F X 6 0 (gM_6 cI ad (war (war z 5 (v2).toNatClampNeg (v5)) 5 (v1).toNatClampNeg ((war z 5 (v2).toNatClampNeg (v5)).2 5 (v2).toNatClampNeg))) rfl hb19 d_M_numbered_227 ?_
                rw [← Option.some.inj h]
                exact fin_i F X hr d_M_numbered_228
              · have h := it_t hc h
                refine lv_aload_n F.x F.b d_M_numbered_154 rfl (lv_at hl 4 rfl) ?_
                refine r_get F X in_M 0 8 (gM_0 cI ad z) rfl (by decide) mt_447 rfl d_M_numbered_155 ?_
                refine lv_iload F.x F.b d_M_numbered_158 (lv_at hl 0 rfl) ?_
                refine lv_aload_n F.x F.b d_M_numbered_160 rfl (lv_at hl 4 rfl) ?_
                refine r_get F X in_M 0 1 (gM_0 cI ad z) rfl (by decide) mt_440 rfl d_M_numbered_161 ?_
                refine lv_iload_n F.x F.b d_M_numbered_164 rfl (lv_at hl 3 rfl) ?_
                obtain ⟨hb31, h⟩ := it_b h
                refine r_ald F X 1 0 (gM_1 cI ad z) rfl hb31 d_M_numbered_165 ?_
                obtain ⟨hb30, h⟩ := it_b h
                refine r_ast F X 7 0 (gM_7 cI ad z) rfl hb30 d_M_numbered_166 (sM_7 cI ad z _ _) (fun H locs X => ?_)
                refine lv_aload_n F.x F.b d_M_numbered_167 rfl (lv_at hl 4 rfl) ?_
                refine r_get F X in_M 0 9 (gM_0 cI ad (war z 6 (v5).toNatClampNeg (z.2 0 (v2).toNatClampNeg))) rfl (by decide) mt_448 rfl d_M_numbered_168 ?_
                refine lv_iload F.x F.b d_M_numbered_171 (lv_at hl 0 rfl) ?_
                refine lv_iload_n F.x F.b d_M_numbered_173 rfl (lv_at hl 2 rfl) ?_
                obtain ⟨hb29, h⟩ := it_b h
                refine r_ast F X 8 0 (gM_8 cI ad (war z 6 (v5).toNatClampNeg (z.2 0 (v2).toNatClampNeg))) rfl hb29 d_M_numbered_174 (sM_8 cI ad (war z 6 (v5).toNatClampNeg (z.2 0 (v2).toNatClampNeg)) _ _) (fun H locs X => ?_)
                refine lv_aload_n F.x F.b d_M_numbered_175 rfl (lv_at hl 4 rfl) ?_
                refine r_get F X in_M 0 10 (gM_0 cI ad (war (war z 6 (v5).toNatClampNeg (z.2 0 (v2).toNatClampNeg)) 7 (v5).toNatClampNeg (v3))) rfl (by decide) mt_449 rfl d_M_numbered_176 ?_
                refine lv_iload F.x F.b d_M_numbered_179 (lv_at hl 0 rfl) ?_
                refine lv_iload F.x F.b d_M_numbered_181 (lv_at hl 1 rfl) ?_
                obtain ⟨hb28, h⟩ := it_b h
                refine r_ast F X 9 0 (gM_9 cI ad (war (war z 6 (v5).toNatClampNeg (z.2 0 (v2).toNatClampNeg)) 7 (v5).toNatClampNeg (v3))) rfl hb28 d_M_numbered_183 (sM_9 cI ad (war (war z 6 (v5).toNatClampNeg (z.2 0 (v2).toNatClampNeg)) 7 (v5).toNatClampNeg (v3)) _ _) (fun H locs X => ?_)
                refine lv_aload_n F.x F.b d_M_numbered_184 rfl (lv_at hl 4 rfl) ?_
                refine r_get F X in_M 0 11 (gM_0 cI ad (war (war (war z 6 (v5).toNatClampNeg (z.2 0 (v2).toNatClampNeg)) 7 (v5).toNatClampNeg (v3)) 8 (v5).toNatClampNeg (v4))) rfl (by decide) mt_450 rfl d_M_numbered_185 ?_
                refine lv_iload F.x F.b d_M_numbered_188 (lv_at hl 0 rfl) ?_
                refine lv_iconst (v := (-1 : Int32)) F.x F.b d_M_numbered_190 (by decide) ?_
                obtain ⟨hb27, h⟩ := it_b h
                refine r_ast F X 10 0 (gM_10 cI ad (war (war (war z 6 (v5).toNatClampNeg (z.2 0 (v2).toNatClampNeg)) 7 (v5).toNatClampNeg (v3)) 8 (v5).toNatClampNeg (v4))) rfl hb27 d_M_numbered_191 (sM_10 cI ad (war (war (war z 6 (v5).toNatClampNeg (z.2 0 (v2).toNatClampNeg)) 7 (v5).toNatClampNeg (v3)) 8 (v5).toNatClampNeg (v4)) _ _) (fun H locs X => ?_)
                refine lv_aload_n F.x F.b d_M_numbered_192 rfl (lv_at hl 4 rfl) ?_
                refine lv_dup F.x F.b d_M_numbered_193 rfl ?_
                refine r_get F X in_M 0 12 (gM_0 cI ad (war (war (war (war z 6 (v5).toNatClampNeg (z.2 0 (v2).toNatClampNeg)) 7 (v5).toNatClampNeg (v3)) 8 (v5).toNatClampNeg (v4)) 9 (v5).toNatClampNeg ((-1 : Int32)))) rfl (by decide) mt_451 rfl d_M_numbered_194 ?_
                refine lv_iconst (v := (1 : Int32)) F.x F.b d_M_numbered_197 (by decide) ?_
                refine lv_iadd F.x F.b d_M_numbered_198 ?_
                refine r_put F X in_M t_M t_M_ok n_M 0 12 (gM_0 cI ad (war (war (war (war z 6 (v5).toNatClampNeg (z.2 0 (v2).toNatClampNeg)) 7 (v5).toNatClampNeg (v3)) 8 (v5).toNatClampNeg (v4)) 9 (v5).toNatClampNeg ((-1 : Int32)))) rfl (by decide) mt_451 rfl (t_M_ok 12 (by decide)) rfl rfl (Nat.le_of_ble_eq_true rfl) d_M_numbered_199 (pM_2 cI ad (war (war (war (war z 6 (v5).toNatClampNeg (z.2 0 (v2).toNatClampNeg)) 7 (v5).toNatClampNeg (v3)) 8 (v5).toNatClampNeg (v4)) 9 (v5).toNatClampNeg ((-1 : Int32))) _) (fun H locs X => ?_)
                refine lv_aload_n F.x F.b d_M_numbered_202 rfl (lv_at hl 4 rfl) ?_
                refine r_get F X in_M 0 7 (gM_0 cI ad (wsc (war (war (war (war z 6 (v5).toNatClampNeg (z.2 0 (v2).toNatClampNeg)) 7 (v5).toNatClampNeg (v3)) 8 (v5).toNatClampNeg (v4)) 9 (v5).toNatClampNeg ((-1 : Int32))) 2 (((war (war (war (war z 6 (v5).toNatClampNeg (z.2 0 (v2).toNatClampNeg)) 7 (v5).toNatClampNeg (v3)) 8 (v5).toNatClampNeg (v4)) 9 (v5).toNatClampNeg ((-1 : Int32))).1 2) + ((1 : Int32))))) rfl (by decide) mt_446 rfl d_M_numbered_203 ?_
                refine lv_iload_n F.x F.b d_M_numbered_206 rfl (lv_at hl 3 rfl) ?_
                refine lv_iload F.x F.b d_M_numbered_207 (lv_at hl 0 rfl) ?_
                obtain ⟨hb26, h⟩ := it_b h
                refine r_ast F X 6 0 (gM_6 cI ad (wsc (war (war (war (war z 6 (v5).toNatClampNeg (z.2 0 (v2).toNatClampNeg)) 7 (v5).toNatClampNeg (v3)) 8 (v5).toNatClampNeg (v4)) 9 (v5).toNatClampNeg ((-1 : Int32))) 2 (((war (war (war (war z 6 (v5).toNatClampNeg (z.2 0 (v2).toNatClampNeg)) 7 (v5).toNatClampNeg (v3)) 8 (v5).toNatClampNeg (v4)) 9 (v5).toNatClampNeg ((-1 : Int32))).1 2) + ((1 : Int32))))) rfl hb26 d_M_numbered_209 (sM_6 cI ad (wsc (war (war (war (war z 6 (v5).toNatClampNeg (z.2 0 (v2).toNatClampNeg)) 7 (v5).toNatClampNeg (v3)) 8 (v5).toNatClampNeg (v4)) 9 (v5).toNatClampNeg ((-1 : Int32))) 2 (((war (war (war (war z 6 (v5).toNatClampNeg (z.2 0 (v2).toNatClampNeg)) 7 (v5).toNatClampNeg (v3)) 8 (v5).toNatClampNeg (v4)) 9 (v5).toNatClampNeg ((-1 : Int32))).1 2) + ((1 : Int32)))) _ _) (fun H locs X => ?_)
                refine lv_aload_n F.x F.b d_M_numbered_210 rfl (lv_at hl 4 rfl) ?_
                refine r_get F X in_M 0 7 (gM_0 cI ad (war (wsc (war (war (war (war z 6 (v5).toNatClampNeg (z.2 0 (v2).toNatClampNeg)) 7 (v5).toNatClampNeg (v3)) 8 (v5).toNatClampNeg (v4)) 9 (v5).toNatClampNeg ((-1 : Int32))) 2 (((war (war (war (war z 6 (v5).toNatClampNeg (z.2 0 (v2).toNatClampNeg)) 7 (v5).toNatClampNeg (v3)) 8 (v5).toNatClampNeg (v4)) 9 (v5).toNatClampNeg ((-1 : Int32))).1 2) + ((1 : Int32)))) 5 (v2).toNatClampNeg (v5))) rfl (by decide) mt_446 rfl d_M_numbered_211 ?_
                refine lv_iload_n F.x F.b d_M_numbered_214 rfl (lv_at hl 5 rfl) ?_
                refine lv_aload_n F.x F.b d_M_numbered_215 rfl (lv_at hl 4 rfl) ?_
                refine r_get F X in_M 0 7 (gM_0 cI ad (war (wsc (war (war (war (war z 6 (v5).toNatClampNeg (z.2 0 (v2).toNatClampNeg)) 7 (v5).toNatClampNeg (v3)) 8 (v5).toNatClampNeg (v4)) 9 (v5).toNatClampNeg ((-1 : Int32))) 2 (((war (war (war (war z 6 (v5).toNatClampNeg (z.2 0 (v2).toNatClampNeg)) 7 (v5).toNatClampNeg (v3)) 8 (v5).toNatClampNeg (v4)) 9 (v5).toNatClampNeg ((-1 : Int32))).1 2) + ((1 : Int32)))) 5 (v2).toNatClampNeg (v5))) rfl (by decide) mt_446 rfl d_M_numbered_216 ?_
                refine lv_iload_n F.x F.b d_M_numbered_219 rfl (lv_at hl 3 rfl) ?_
                obtain ⟨hb25, h⟩ := it_b h
                refine r_ald F X 6 0 (gM_6 cI ad (war (wsc (war (war (war (war z 6 (v5).toNatClampNeg (z.2 0 (v2).toNatClampNeg)) 7 (v5).toNatClampNeg (v3)) 8 (v5).toNatClampNeg (v4)) 9 (v5).toNatClampNeg ((-1 : Int32))) 2 (((war (war (war (war z 6 (v5).toNatClampNeg (z.2 0 (v2).toNatClampNeg)) 7 (v5).toNatClampNeg (v3)) 8 (v5).toNatClampNeg (v4)) 9 (v5).toNatClampNeg ((-1 : Int32))).1 2) + ((1 : Int32)))) 5 (v2).toNatClampNeg (v5))) rfl hb25 d_M_numbered_220 ?_
                obtain ⟨hb24, h⟩ := it_b h
                refine r_ast F X 6 0 (gM_6 cI ad (war (wsc (war (war (war (war z 6 (v5).toNatClampNeg (z.2 0 (v2).toNatClampNeg)) 7 (v5).toNatClampNeg (v3)) 8 (v5).toNatClampNeg (v4)) 9 (v5).toNatClampNeg ((-1 : Int32))) 2 (((war (war (war (war z 6 (v5).toNatClampNeg (z.2 0 (v2).toNatClampNeg)) 7 (v5).toNatClampNeg (v3)) 8 (v5).toNatClampNeg (v4)) 9 (v5).toNatClampNeg ((-1 : Int32))).1 2) + ((1 : Int32)))) 5 (v2).toNatClampNeg (v5))) rfl hb24 d_M_numbered_221 (sM_6 cI ad (war (wsc (war (war (war (war z 6 (v5).toNatClampNeg (z.2 0 (v2).toNatClampNeg)) 7 (v5).toNatClampNeg (v3)) 8 (v5).toNatClampNeg (v4)) 9 (v5).toNatClampNeg ((-1 : Int32))) 2 (((war (war (war (war z 6 (v5).toNatClampNeg (z.2 0 (v2).toNatClampNeg)) 7 (v5).toNatClampNeg (v3)) 8 (v5).toNatClampNeg (v4)) 9 (v5).toNatClampNeg ((-1 : Int32))).1 2) + ((1 : Int32)))) 5 (v2).toNatClampNeg (v5)) _ _) (fun H locs X => ?_)
                refine lv_aload_n F.x F.b d_M_numbered_222 rfl (lv_at hl 4 rfl) ?_
                refine r_get F X in_M 0 7 (gM_0 cI ad (war (war (wsc (war (war (war (war z 6 (v5).toNatClampNeg (z.2 0 (v2).toNatClampNeg)) 7 (v5).toNatClampNeg (v3)) 8 (v5).toNatClampNeg (v4)) 9 (v5).toNatClampNeg ((-1 : Int32))) 2 (((war (war (war (war z 6 (v5).toNatClampNeg (z.2 0 (v2).toNatClampNeg)) 7 (v5).toNatClampNeg (v3)) 8 (v5).toNatClampNeg (v4)) 9 (v5).toNatClampNeg ((-1 : Int32))).1 2) + ((1 : Int32)))) 5 (v2).toNatClampNeg (v5)) 5 (v1).toNatClampNeg ((war (wsc (war (war (war (war z 6 (v5).toNatClampNeg (z.2 0 (v2).toNatClampNeg)) 7 (v5).toNatClampNeg (v3)) 8 (v5).toNatClampNeg (v4)) 9 (v5).toNatClampNeg ((-1 : Int32))) 2 (((war (war (war (war z 6 (v5).toNatClampNeg (z.2 0 (v2).toNatClampNeg)) 7 (v5).toNatClampNeg (v3)) 8 (v5).toNatClampNeg (v4)) 9 (v5).toNatClampNeg ((-1 : Int32))).1 2) + ((1 : Int32)))) 5 (v2).toNatClampNeg (v5)).2 5 (v2).toNatClampNeg))) rfl (by decide) mt_446 rfl d_M_numbered_223 ?_
                refine lv_iload_n F.x F.b d_M_numbered_226 rfl (lv_at hl 5 rfl) ?_
                obtain ⟨hb23, h⟩ := it_b h
                refine r_ald F X 6 0 (gM_6 cI ad (war (war (wsc (war (war (war (war z 6 (v5).toNatClampNeg (z.2 0 (v2).toNatClampNeg)) 7 (v5).toNatClampNeg (v3)) 8 (v5).toNatClampNeg (v4)) 9 (v5).toNatClampNeg ((-1 : Int32))) 2 (((war (war (war (war z 6 (v5).toNatClampNeg (z.2 0 (v2).toNatClampNeg)) 7 (v5).toNatClampNeg (v3)) 8 (v5).toNatClampNeg (v4)) 9 (v5).toNatClampNeg ((-1 : Int32))).1 2) + ((1 : Int32)))) 5 (v2).toNatClampNeg (v5)) 5 (v1).toNatClampNeg ((war (wsc (war (war (war (war z 6 (v5).toNatClampNeg (z.2 0 (v2).toNatClampNeg)) 7 (v5).toNatClampNeg (v3)) 8 (v5).toNatClampNeg (v4)) 9 (v5).toNatClampNeg ((-1 : Int32))) 2 (((war (war (war (war z 6 (v5).toNatClampNeg (z.2 0 (v2).toNatClampNeg)) 7 (v5).toNatClampNeg (v3)) 8 (v5).toNatClampNeg (v4)) 9 (v5).toNatClampNeg ((-1 : Int32))).1 2) + ((1 : Int32)))) 5 (v2).toNatClampNeg (v5)).2 5 (v2).toNatClampNeg))) rfl hb23 d_M_numbered_227 ?_
                rw [← Option.some.inj h]
                exact fin_i F X hr d_M_numbered_228
            · have h := it_e hc h
              refine lv_iinc (k := 0) (v := (v5) + 1) F.x F.b d_M_numbered_139 hl rfl (ii_1 _) (by decide) (lv' := [(5, .int ((v5) + 1)), (4, .int (v4)), (3, .int (v3)), (2, .int (v2)), (0, .ref (ad 0)), (1, .int (v1))]) rfl (fun ls hl => ?_)
              refine lv_goto (tgt := 91) F.x F.b d_M_numbered_142 (by decide) ?_
              exact ih z ((v5) + 1) (v4) (v3) (v2) (v1) _ _ _ X (lv_sub hl [0, 1, 2, 3, 4, 5] rfl) h
  rw [ f_M_numbered] at h
  refine lv_aload_n F.x F.b d_M_numbered_0 rfl (lv_at hl 0 rfl) ?_
  refine lv_iload_n F.x F.b d_M_numbered_1 rfl (lv_at hl 1 rfl) ?_
  obtain ⟨q1, hq1, h⟩ := it_c h
  refine r_vi F X hl.1 (c_M_is l D cI ad z (v1) q1 hq1) (gM_0 cI ad z) rfl mt_535 mt_537 ms_42 mt_5 mt_538 ⟨rfl, hd_M_is⟩ ⟨(by show 0 + 1 ≤ d + 1 + 1; omega), (by show 8 + (3 + 11) + 0 ≤ (d + 1) * 25 + 22; omega)⟩ ⟨rfl, rfl⟩ ⟨Nat.zero_le _, Nat.zero_le _⟩ rfl (Nat.le_of_ble_eq_true rfl) d_M_numbered_2 rfl (fun H locs X => ?_)
  refine lv_istore_n F.x F.b d_M_numbered_5 rfl hl (by decide) (lv' := [(2, .int (q1.1)), (0, .ref (ad 0)), (1, .int (v1))]) rfl (fun ls hl => ?_)
  refine lv_aload_n F.x F.b d_M_numbered_6 rfl (lv_at hl 1 rfl) ?_
  refine r_get F X in_M 0 7 (gM_0 cI ad q1.2) rfl (by decide) mt_446 rfl d_M_numbered_7 ?_
  refine lv_iload_n F.x F.b d_M_numbered_10 rfl (lv_at hl 0 rfl) ?_
  obtain ⟨hb51, h⟩ := it_b h
  refine r_ald F X 6 0 (gM_6 cI ad q1.2) rfl hb51 d_M_numbered_11 ?_
  refine lv_if_ge (tgt := 210) F.x F.b d_M_numbered_12 (by decide) (fun hc => ?_) (fun hc => ?_)
  · have h := it_t hc h
    refine lv_aload_n F.x F.b d_M_numbered_210 rfl (lv_at hl 1 rfl) ?_
    refine r_get F X in_M 0 7 (gM_0 cI ad q1.2) rfl (by decide) mt_446 rfl d_M_numbered_211 ?_
    refine lv_iload_n F.x F.b d_M_numbered_214 rfl (lv_at hl 2 rfl) ?_
    refine lv_aload_n F.x F.b d_M_numbered_215 rfl (lv_at hl 1 rfl) ?_
    refine r_get F X in_M 0 7 (gM_0 cI ad q1.2) rfl (by decide) mt_446 rfl d_M_numbered_216 ?_
    refine lv_iload_n F.x F.b d_M_numbered_219 rfl (lv_at hl 0 rfl) ?_
    obtain ⟨hb4, h⟩ := it_b h
    refine r_ald F X 6 0 (gM_6 cI ad q1.2) rfl hb4 d_M_numbered_220 ?_
    obtain ⟨hb3, h⟩ := it_b h
    refine r_ast F X 6 0 (gM_6 cI ad q1.2) rfl hb3 d_M_numbered_221 (sM_6 cI ad q1.2 _ _) (fun H locs X => ?_)
    refine lv_aload_n F.x F.b d_M_numbered_222 rfl (lv_at hl 1 rfl) ?_
    refine r_get F X in_M 0 7 (gM_0 cI ad (war q1.2 5 (v1).toNatClampNeg (q1.2.2 5 (q1.1).toNatClampNeg))) rfl (by decide) mt_446 rfl d_M_numbered_223 ?_
    refine lv_iload_n F.x F.b d_M_numbered_226 rfl (lv_at hl 2 rfl) ?_
    obtain ⟨hb2, h⟩ := it_b h
    refine r_ald F X 6 0 (gM_6 cI ad (war q1.2 5 (v1).toNatClampNeg (q1.2.2 5 (q1.1).toNatClampNeg))) rfl hb2 d_M_numbered_227 ?_
    rw [← Option.some.inj h]
    exact fin_i F X hr d_M_numbered_228
  · have h := it_e hc h
    refine lv_aload_n F.x F.b d_M_numbered_15 rfl (lv_at hl 1 rfl) ?_
    refine r_get F X in_M 0 1 (gM_0 cI ad q1.2) rfl (by decide) mt_440 rfl d_M_numbered_16 ?_
    refine lv_iload_n F.x F.b d_M_numbered_19 rfl (lv_at hl 0 rfl) ?_
    obtain ⟨hb50, h⟩ := it_b h
    refine r_ald F X 1 0 (gM_1 cI ad q1.2) rfl hb50 d_M_numbered_20 ?_
    refine lv_if_ne (tgt := 28) F.x F.b d_M_numbered_21 (by decide) (fun hc => ?_) (fun hc => ?_)
    · have h := it_e hc h
      refine lv_aload_n F.x F.b d_M_numbered_28 rfl (lv_at hl 1 rfl) ?_
      refine r_get F X in_M 0 1 (gM_0 cI ad q1.2) rfl (by decide) mt_440 rfl d_M_numbered_29 ?_
      refine lv_iload_n F.x F.b d_M_numbered_32 rfl (lv_at hl 0 rfl) ?_
      obtain ⟨hb45, h⟩ := it_b h
      refine r_ald F X 1 0 (gM_1 cI ad q1.2) rfl hb45 d_M_numbered_33 ?_
      refine lv_iconst (v := (1 : Int32)) F.x F.b d_M_numbered_34 (by decide) ?_
      refine lv_icmp_ne (tgt := 42) F.x F.b d_M_numbered_35 (by decide) (fun hc => ?_) (fun hc => ?_)
      · have h := it_e hc h
        refine lv_aload_n F.x F.b d_M_numbered_42 rfl (lv_at hl 1 rfl) ?_
        refine lv_aload_n F.x F.b d_M_numbered_43 rfl (lv_at hl 1 rfl) ?_
        refine r_get F X in_M 0 2 (gM_0 cI ad q1.2) rfl (by decide) mt_441 rfl d_M_numbered_44 ?_
        refine lv_iload_n F.x F.b d_M_numbered_47 rfl (lv_at hl 0 rfl) ?_
        obtain ⟨hb40, h⟩ := it_b h
        refine r_ald F X 2 0 (gM_2 cI ad q1.2) rfl hb40 d_M_numbered_48 ?_
        obtain ⟨q5, hq5, h⟩ := it_c h
        refine r_vi F X hl.1 (IH q1.2 (q1.2.2 1 (q1.1).toNatClampNeg) q5 hq5) (gM_0 cI ad q1.2) rfl mt_563 mt_565 ms_47 mt_5 mt_566 ⟨rfl, hd_M_numbered⟩ ⟨(by show d + 1 + 1 ≤ d + 1 + 1; omega), (by show 8 + (6 + 11) + (d * 25 + 22) ≤ (d + 1) * 25 + 22; omega)⟩ ⟨rfl, rfl⟩ ⟨Nat.zero_le _, Nat.zero_le _⟩ rfl (Nat.le_of_ble_eq_true rfl) d_M_numbered_49 rfl (fun H locs X => ?_)
        refine lv_istore_n F.x F.b d_M_numbered_52 rfl hl (by decide) (lv' := [(3, .int (q5.1)), (2, .int (q1.1)), (0, .ref (ad 0)), (1, .int (v1))]) rfl (fun ls hl => ?_)
        refine lv_aload_n F.x F.b d_M_numbered_53 rfl (lv_at hl 2 rfl) ?_
        refine r_get F X in_M 0 1 (gM_0 cI ad q5.2) rfl (by decide) mt_440 rfl d_M_numbered_54 ?_
        refine lv_iload_n F.x F.b d_M_numbered_57 rfl (lv_at hl 1 rfl) ?_
        obtain ⟨hb39, h⟩ := it_b h
        refine r_ald F X 1 0 (gM_1 cI ad q5.2) rfl hb39 d_M_numbered_58 ?_
        refine lv_if_eq (tgt := 72) F.x F.b d_M_numbered_59 (by decide) (fun hc => ?_) (fun hc => ?_)
        · have h := it_t hc h
          refine lv_iconst (v := (-1 : Int32)) F.x F.b d_M_numbered_72 (by decide) ?_
          refine lv_goto (tgt := 86) F.x F.b d_M_numbered_73 (by decide) ?_
          refine lv_istore F.x F.b d_M_numbered_86 hl (by decide) (lv' := [(4, .int ((-1 : Int32))), (3, .int (q5.1)), (2, .int (q1.1)), (0, .ref (ad 0)), (1, .int (v1))]) rfl (fun ls hl => ?_)
          refine lv_iconst (v := (0 : Int32)) F.x F.b d_M_numbered_88 (by decide) ?_
          refine lv_istore F.x F.b d_M_numbered_89 hl (by decide) (lv' := [(5, .int ((0 : Int32))), (4, .int ((-1 : Int32))), (3, .int (q5.1)), (2, .int (q1.1)), (0, .ref (ad 0)), (1, .int (v1))]) rfl (fun ls hl => ?_)
          exact L91 FU q5.2 ((0 : Int32)) ((-1 : Int32)) (q5.1) (q1.1) (v1) _ _ _ X (lv_sub hl [0, 1, 2, 3, 4, 5] rfl) h
        · have h := it_e hc h
          refine lv_aload_n F.x F.b d_M_numbered_62 rfl (lv_at hl 2 rfl) ?_
          refine r_get F X in_M 0 1 (gM_0 cI ad q5.2) rfl (by decide) mt_440 rfl d_M_numbered_63 ?_
          refine lv_iload_n F.x F.b d_M_numbered_66 rfl (lv_at hl 1 rfl) ?_
          obtain ⟨hb38, h⟩ := it_b h
          refine r_ald F X 1 0 (gM_1 cI ad q5.2) rfl hb38 d_M_numbered_67 ?_
          refine lv_iconst (v := (1 : Int32)) F.x F.b d_M_numbered_68 (by decide) ?_
          refine lv_icmp_ne (tgt := 76) F.x F.b d_M_numbered_69 (by decide) (fun hc => ?_) (fun hc => ?_)
          · have h := it_e hc h
            refine lv_aload_n F.x F.b d_M_numbered_76 rfl (lv_at hl 2 rfl) ?_
            refine lv_aload_n F.x F.b d_M_numbered_77 rfl (lv_at hl 2 rfl) ?_
            refine r_get F X in_M 0 3 (gM_0 cI ad q5.2) rfl (by decide) mt_442 rfl d_M_numbered_78 ?_
            refine lv_iload_n F.x F.b d_M_numbered_81 rfl (lv_at hl 1 rfl) ?_
            obtain ⟨hb37, h⟩ := it_b h
            refine r_ald F X 3 0 (gM_3 cI ad q5.2) rfl hb37 d_M_numbered_82 ?_
            obtain ⟨q36, hq36, h⟩ := it_c h
            refine r_vi F X hl.1 (IH q5.2 (q5.2.2 2 (q1.1).toNatClampNeg) q36 hq36) (gM_0 cI ad q5.2) rfl mt_563 mt_565 ms_47 mt_5 mt_566 ⟨rfl, hd_M_numbered⟩ ⟨(by show d + 1 + 1 ≤ d + 1 + 1; omega), (by show 8 + (6 + 11) + (d * 25 + 22) ≤ (d + 1) * 25 + 22; omega)⟩ ⟨rfl, rfl⟩ ⟨Nat.zero_le _, Nat.zero_le _⟩ rfl (Nat.le_of_ble_eq_true rfl) d_M_numbered_83 rfl (fun H locs X => ?_)
            refine lv_istore F.x F.b d_M_numbered_86 hl (by decide) (lv' := [(4, .int (q36.1)), (3, .int (q5.1)), (2, .int (q1.1)), (0, .ref (ad 0)), (1, .int (v1))]) rfl (fun ls hl => ?_)
            refine lv_iconst (v := (0 : Int32)) F.x F.b d_M_numbered_88 (by decide) ?_
            refine lv_istore F.x F.b d_M_numbered_89 hl (by decide) (lv' := [(5, .int ((0 : Int32))), (4, .int (q36.1)), (3, .int (q5.1)), (2, .int (q1.1)), (0, .ref (ad 0)), (1, .int (v1))]) rfl (fun ls hl => ?_)
            exact L91 FU q36.2 ((0 : Int32)) (q36.1) (q5.1) (q1.1) (v1) _ _ _ X (lv_sub hl [0, 1, 2, 3, 4, 5] rfl) h
          · have h := it_t hc h
            refine lv_iconst (v := (-1 : Int32)) F.x F.b d_M_numbered_72 (by decide) ?_
            refine lv_goto (tgt := 86) F.x F.b d_M_numbered_73 (by decide) ?_
            refine lv_istore F.x F.b d_M_numbered_86 hl (by decide) (lv' := [(4, .int ((-1 : Int32))), (3, .int (q5.1)), (2, .int (q1.1)), (0, .ref (ad 0)), (1, .int (v1))]) rfl (fun ls hl => ?_)
            refine lv_iconst (v := (0 : Int32)) F.x F.b d_M_numbered_88 (by decide) ?_
            refine lv_istore F.x F.b d_M_numbered_89 hl (by decide) (lv' := [(5, .int ((0 : Int32))), (4, .int ((-1 : Int32))), (3, .int (q5.1)), (2, .int (q1.1)), (0, .ref (ad 0)), (1, .int (v1))]) rfl (fun ls hl => ?_)
            exact L91 FU q5.2 ((0 : Int32)) ((-1 : Int32)) (q5.1) (q1.1) (v1) _ _ _ X (lv_sub hl [0, 1, 2, 3, 4, 5] rfl) h
      · have h := it_t hc h
        refine lv_iconst (v := (-1 : Int32)) F.x F.b d_M_numbered_38 (by decide) ?_
        refine lv_goto (tgt := 52) F.x F.b d_M_numbered_39 (by decide) ?_
        refine lv_istore_n F.x F.b d_M_numbered_52 rfl hl (by decide) (lv' := [(3, .int ((-1 : Int32))), (2, .int (q1.1)), (0, .ref (ad 0)), (1, .int (v1))]) rfl (fun ls hl => ?_)
        refine lv_aload_n F.x F.b d_M_numbered_53 rfl (lv_at hl 2 rfl) ?_
        refine r_get F X in_M 0 1 (gM_0 cI ad q1.2) rfl (by decide) mt_440 rfl d_M_numbered_54 ?_
        refine lv_iload_n F.x F.b d_M_numbered_57 rfl (lv_at hl 1 rfl) ?_
        obtain ⟨hb44, h⟩ := it_b h
        refine r_ald F X 1 0 (gM_1 cI ad q1.2) rfl hb44 d_M_numbered_58 ?_
        refine lv_if_eq (tgt := 72) F.x F.b d_M_numbered_59 (by decide) (fun hc => ?_) (fun hc => ?_)
        · have h := it_t hc h
          refine lv_iconst (v := (-1 : Int32)) F.x F.b d_M_numbered_72 (by decide) ?_
          refine lv_goto (tgt := 86) F.x F.b d_M_numbered_73 (by decide) ?_
          refine lv_istore F.x F.b d_M_numbered_86 hl (by decide) (lv' := [(4, .int ((-1 : Int32))), (3, .int ((-1 : Int32))), (2, .int (q1.1)), (0, .ref (ad 0)), (1, .int (v1))]) rfl (fun ls hl => ?_)
          refine lv_iconst (v := (0 : Int32)) F.x F.b d_M_numbered_88 (by decide) ?_
          refine lv_istore F.x F.b d_M_numbered_89 hl (by decide) (lv' := [(5, .int ((0 : Int32))), (4, .int ((-1 : Int32))), (3, .int ((-1 : Int32))), (2, .int (q1.1)), (0, .ref (ad 0)), (1, .int (v1))]) rfl (fun ls hl => ?_)
          exact L91 FU q1.2 ((0 : Int32)) ((-1 : Int32)) ((-1 : Int32)) (q1.1) (v1) _ _ _ X (lv_sub hl [0, 1, 2, 3, 4, 5] rfl) h
        · have h := it_e hc h
          refine lv_aload_n F.x F.b d_M_numbered_62 rfl (lv_at hl 2 rfl) ?_
          refine r_get F X in_M 0 1 (gM_0 cI ad q1.2) rfl (by decide) mt_440 rfl d_M_numbered_63 ?_
          refine lv_iload_n F.x F.b d_M_numbered_66 rfl (lv_at hl 1 rfl) ?_
          obtain ⟨hb43, h⟩ := it_b h
          refine r_ald F X 1 0 (gM_1 cI ad q1.2) rfl hb43 d_M_numbered_67 ?_
          refine lv_iconst (v := (1 : Int32)) F.x F.b d_M_numbered_68 (by decide) ?_
          refine lv_icmp_ne (tgt := 76) F.x F.b d_M_numbered_69 (by decide) (fun hc => ?_) (fun hc => ?_)
          · have h := it_e hc h
            refine lv_aload_n F.x F.b d_M_numbered_76 rfl (lv_at hl 2 rfl) ?_
            refine lv_aload_n F.x F.b d_M_numbered_77 rfl (lv_at hl 2 rfl) ?_
            refine r_get F X in_M 0 3 (gM_0 cI ad q1.2) rfl (by decide) mt_442 rfl d_M_numbered_78 ?_
            refine lv_iload_n F.x F.b d_M_numbered_81 rfl (lv_at hl 1 rfl) ?_
            obtain ⟨hb42, h⟩ := it_b h
            refine r_ald F X 3 0 (gM_3 cI ad q1.2) rfl hb42 d_M_numbered_82 ?_
            obtain ⟨q41, hq41, h⟩ := it_c h
            refine r_vi F X hl.1 (IH q1.2 (q1.2.2 2 (q1.1).toNatClampNeg) q41 hq41) (gM_0 cI ad q1.2) rfl mt_563 mt_565 ms_47 mt_5 mt_566 ⟨rfl, hd_M_numbered⟩ ⟨(by show d + 1 + 1 ≤ d + 1 + 1; omega), (by show 8 + (6 + 11) + (d * 25 + 22) ≤ (d + 1) * 25 + 22; omega)⟩ ⟨rfl, rfl⟩ ⟨Nat.zero_le _, Nat.zero_le _⟩ rfl (Nat.le_of_ble_eq_true rfl) d_M_numbered_83 rfl (fun H locs X => ?_)
            refine lv_istore F.x F.b d_M_numbered_86 hl (by decide) (lv' := [(4, .int (q41.1)), (3, .int ((-1 : Int32))), (2, .int (q1.1)), (0, .ref (ad 0)), (1, .int (v1))]) rfl (fun ls hl => ?_)
            refine lv_iconst (v := (0 : Int32)) F.x F.b d_M_numbered_88 (by decide) ?_
            refine lv_istore F.x F.b d_M_numbered_89 hl (by decide) (lv' := [(5, .int ((0 : Int32))), (4, .int (q41.1)), (3, .int ((-1 : Int32))), (2, .int (q1.1)), (0, .ref (ad 0)), (1, .int (v1))]) rfl (fun ls hl => ?_)
            exact L91 FU q41.2 ((0 : Int32)) (q41.1) ((-1 : Int32)) (q1.1) (v1) _ _ _ X (lv_sub hl [0, 1, 2, 3, 4, 5] rfl) h
          · have h := it_t hc h
            refine lv_iconst (v := (-1 : Int32)) F.x F.b d_M_numbered_72 (by decide) ?_
            refine lv_goto (tgt := 86) F.x F.b d_M_numbered_73 (by decide) ?_
            refine lv_istore F.x F.b d_M_numbered_86 hl (by decide) (lv' := [(4, .int ((-1 : Int32))), (3, .int ((-1 : Int32))), (2, .int (q1.1)), (0, .ref (ad 0)), (1, .int (v1))]) rfl (fun ls hl => ?_)
            refine lv_iconst (v := (0 : Int32)) F.x F.b d_M_numbered_88 (by decide) ?_
            refine lv_istore F.x F.b d_M_numbered_89 hl (by decide) (lv' := [(5, .int ((0 : Int32))), (4, .int ((-1 : Int32))), (3, .int ((-1 : Int32))), (2, .int (q1.1)), (0, .ref (ad 0)), (1, .int (v1))]) rfl (fun ls hl => ?_)
            exact L91 FU q1.2 ((0 : Int32)) ((-1 : Int32)) ((-1 : Int32)) (q1.1) (v1) _ _ _ X (lv_sub hl [0, 1, 2, 3, 4, 5] rfl) h
    · have h := it_t hc h
      refine lv_iload_n F.x F.b d_M_numbered_24 rfl (lv_at hl 0 rfl) ?_
      refine lv_goto (tgt := 52) F.x F.b d_M_numbered_25 (by decide) ?_
      refine lv_istore_n F.x F.b d_M_numbered_52 rfl hl (by decide) (lv' := [(3, .int (q1.1)), (2, .int (q1.1)), (0, .ref (ad 0)), (1, .int (v1))]) rfl (fun ls hl => ?_)
      refine lv_aload_n F.x F.b d_M_numbered_53 rfl (lv_at hl 2 rfl) ?_
      refine r_get F X in_M 0 1 (gM_0 cI ad q1.2) rfl (by decide) mt_440 rfl d_M_numbered_54 ?_
      refine lv_iload_n F.x F.b d_M_numbered_57 rfl (lv_at hl 1 rfl) ?_
      obtain ⟨hb49, h⟩ := it_b h
      refine r_ald F X 1 0 (gM_1 cI ad q1.2) rfl hb49 d_M_numbered_58 ?_
      refine lv_if_eq (tgt := 72) F.x F.b d_M_numbered_59 (by decide) (fun hc => ?_) (fun hc => ?_)
      · have h := it_t hc h
        refine lv_iconst (v := (-1 : Int32)) F.x F.b d_M_numbered_72 (by decide) ?_
        refine lv_goto (tgt := 86) F.x F.b d_M_numbered_73 (by decide) ?_
        refine lv_istore F.x F.b d_M_numbered_86 hl (by decide) (lv' := [(4, .int ((-1 : Int32))), (3, .int (q1.1)), (2, .int (q1.1)), (0, .ref (ad 0)), (1, .int (v1))]) rfl (fun ls hl => ?_)
        refine lv_iconst (v := (0 : Int32)) F.x F.b d_M_numbered_88 (by decide) ?_
        refine lv_istore F.x F.b d_M_numbered_89 hl (by decide) (lv' := [(5, .int ((0 : Int32))), (4, .int ((-1 : Int32))), (3, .int (q1.1)), (2, .int (q1.1)), (0, .ref (ad 0)), (1, .int (v1))]) rfl (fun ls hl => ?_)
        exact L91 FU q1.2 ((0 : Int32)) ((-1 : Int32)) (q1.1) (q1.1) (v1) _ _ _ X (lv_sub hl [0, 1, 2, 3, 4, 5] rfl) h
      · have h := it_e hc h
        refine lv_aload_n F.x F.b d_M_numbered_62 rfl (lv_at hl 2 rfl) ?_
        refine r_get F X in_M 0 1 (gM_0 cI ad q1.2) rfl (by decide) mt_440 rfl d_M_numbered_63 ?_
        refine lv_iload_n F.x F.b d_M_numbered_66 rfl (lv_at hl 1 rfl) ?_
        obtain ⟨hb48, h⟩ := it_b h
        refine r_ald F X 1 0 (gM_1 cI ad q1.2) rfl hb48 d_M_numbered_67 ?_
        refine lv_iconst (v := (1 : Int32)) F.x F.b d_M_numbered_68 (by decide) ?_
        refine lv_icmp_ne (tgt := 76) F.x F.b d_M_numbered_69 (by decide) (fun hc => ?_) (fun hc => ?_)
        · have h := it_e hc h
          refine lv_aload_n F.x F.b d_M_numbered_76 rfl (lv_at hl 2 rfl) ?_
          refine lv_aload_n F.x F.b d_M_numbered_77 rfl (lv_at hl 2 rfl) ?_
          refine r_get F X in_M 0 3 (gM_0 cI ad q1.2) rfl (by decide) mt_442 rfl d_M_numbered_78 ?_
          refine lv_iload_n F.x F.b d_M_numbered_81 rfl (lv_at hl 1 rfl) ?_
          obtain ⟨hb47, h⟩ := it_b h
          refine r_ald F X 3 0 (gM_3 cI ad q1.2) rfl hb47 d_M_numbered_82 ?_
          obtain ⟨q46, hq46, h⟩ := it_c h
          refine r_vi F X hl.1 (IH q1.2 (q1.2.2 2 (q1.1).toNatClampNeg) q46 hq46) (gM_0 cI ad q1.2) rfl mt_563 mt_565 ms_47 mt_5 mt_566 ⟨rfl, hd_M_numbered⟩ ⟨(by show d + 1 + 1 ≤ d + 1 + 1; omega), (by show 8 + (6 + 11) + (d * 25 + 22) ≤ (d + 1) * 25 + 22; omega)⟩ ⟨rfl, rfl⟩ ⟨Nat.zero_le _, Nat.zero_le _⟩ rfl (Nat.le_of_ble_eq_true rfl) d_M_numbered_83 rfl (fun H locs X => ?_)
          refine lv_istore F.x F.b d_M_numbered_86 hl (by decide) (lv' := [(4, .int (q46.1)), (3, .int (q1.1)), (2, .int (q1.1)), (0, .ref (ad 0)), (1, .int (v1))]) rfl (fun ls hl => ?_)
          refine lv_iconst (v := (0 : Int32)) F.x F.b d_M_numbered_88 (by decide) ?_
          refine lv_istore F.x F.b d_M_numbered_89 hl (by decide) (lv' := [(5, .int ((0 : Int32))), (4, .int (q46.1)), (3, .int (q1.1)), (2, .int (q1.1)), (0, .ref (ad 0)), (1, .int (v1))]) rfl (fun ls hl => ?_)
          exact L91 FU q46.2 ((0 : Int32)) (q46.1) (q1.1) (q1.1) (v1) _ _ _ X (lv_sub hl [0, 1, 2, 3, 4, 5] rfl) h
        · have h := it_t hc h
          refine lv_iconst (v := (-1 : Int32)) F.x F.b d_M_numbered_72 (by decide) ?_
          refine lv_goto (tgt := 86) F.x F.b d_M_numbered_73 (by decide) ?_
          refine lv_istore F.x F.b d_M_numbered_86 hl (by decide) (lv' := [(4, .int ((-1 : Int32))), (3, .int (q1.1)), (2, .int (q1.1)), (0, .ref (ad 0)), (1, .int (v1))]) rfl (fun ls hl => ?_)
          refine lv_iconst (v := (0 : Int32)) F.x F.b d_M_numbered_88 (by decide) ?_
          refine lv_istore F.x F.b d_M_numbered_89 hl (by decide) (lv' := [(5, .int ((0 : Int32))), (4, .int ((-1 : Int32))), (3, .int (q1.1)), (2, .int (q1.1)), (0, .ref (ad 0)), (1, .int (v1))]) rfl (fun ls hl => ?_)
          exact L91 FU q1.2 ((0 : Int32)) ((-1 : Int32)) (q1.1) (q1.1) (v1) _ _ _ X (lv_sub hl [0, 1, 2, 3, 4, 5] rfl) h
theorem hd_M_number : y_M_number.cls ≠ "java/lang/invoke/MethodHandle" ∧ y_M_number.cls ≠ "java/lang/invoke/VarHandle" ∧ (parseMethodDescriptor y_M_number.desc).map (fun d => d.parameters.length) = some 0 := ⟨by decide, by decide, by decide +kernel⟩
set_option maxRecDepth 100000 in
set_option maxHeartbeats 4000000 in
theorem c_M_number (l : Launch) (D : Gd) (cI : ClassId) (ad : Nat → Nat) (z : St) (q : St) (h : f_M_number z = some q) : CV l y_M_number (.code y_M_number b_M_number 3 none) { frames := 1102, cells := 0, slots := 0, locals := 27547 } D [(cI, .int)] [.ref (ad 0)] (cM cI ad z) (cM cI ad q) 0 0 := by
  refine mk_v (by decide) (Nat.le_of_ble_eq_true rfl) ?_
  intro p e s m args below meth c A ls F X hr hl
  have hl : lv_has ls 3 [(0, .ref (ad 0))] := hl
  have L43 : ∀ (n : Nat) (z : St) (v1 : Int32) (H : Heap) (locs : List Loc) (ls : Array Slot), Wd D A s (cM cI ad z) H locs → lv_has ls 3 [(1, .int (v1)), (0, .ref (ad 0))] → f_M_number_l43 n z v1 = some q → W p l e { frames := 1102, cells := 0, slots := 0, locals := 27547 } s m args below meth c H locs 0 0 (MQ below (va_Qv (fun (u : va_W) => u = cM cI ad q) (Po D [(cI, .int)] A) A) args s 0 0 A) (F0 m 43 ls []) := by
    intro n
    induction n with
    | zero => intro z v1 H locs ls X hl h; cases h
    | succ n ih =>
      intro z v1 H locs ls X hl h
      rw [f_M_number_l43] at h
      refine lv_iload_n F.x F.b d_M_number_43 rfl (lv_at hl 0 rfl) ?_
      refine lv_aload_n F.x F.b d_M_number_44 rfl (lv_at hl 1 rfl) ?_
      refine r_get F X in_M 0 6 (gM_0 cI ad z) rfl (by decide) mt_445 rfl d_M_number_45 ?_
      refine lv_icmp_ge (tgt := 79) F.x F.b d_M_number_48 (by decide) (fun hc => ?_) (fun hc => ?_)
      · have h := it_t hc h
        rw [← Option.some.inj h]
        exact fin_v F X hr d_M_number_79
      · have h := it_e hc h
        refine lv_aload_n F.x F.b d_M_number_51 rfl (lv_at hl 1 rfl) ?_
        refine lv_iload_n F.x F.b d_M_number_52 rfl (lv_at hl 0 rfl) ?_
        obtain ⟨q1, hq1, h⟩ := it_c h
        refine r_vi F X hl.1 (c_M_numbered l D cI ad DP z (v1) q1 hq1) (gM_0 cI ad z) rfl mt_563 mt_565 ms_47 mt_5 mt_566 ⟨rfl, hd_M_numbered⟩ ⟨by decide, by decide⟩ ⟨rfl, rfl⟩ ⟨Nat.zero_le _, Nat.zero_le _⟩ rfl (Nat.le_of_ble_eq_true rfl) d_M_number_53 rfl (fun H locs X => ?_)
        refine lv_istore_n F.x F.b d_M_number_56 rfl hl (by decide) (lv' := [(2, .int (q1.1)), (1, .int (v1)), (0, .ref (ad 0))]) rfl (fun ls hl => ?_)
        refine lv_aload_n F.x F.b d_M_number_57 rfl (lv_at hl 2 rfl) ?_
        refine r_get F X in_M 0 11 (gM_0 cI ad q1.2) rfl (by decide) mt_450 rfl d_M_number_58 ?_
        refine lv_iload_n F.x F.b d_M_number_61 rfl (lv_at hl 0 rfl) ?_
        obtain ⟨hb3, h⟩ := it_b h
        refine r_ald F X 10 0 (gM_10 cI ad q1.2) rfl hb3 d_M_number_62 ?_
        refine lv_if_ge (tgt := 73) F.x F.b d_M_number_63 (by decide) (fun hc => ?_) (fun hc => ?_)
        · have h := it_t hc h
          refine lv_iinc (k := 1) (v := (v1) + 1) F.x F.b d_M_number_73 hl rfl (ii_1 _) (by decide) (lv' := [(1, .int ((v1) + 1)), (2, .int (q1.1)), (0, .ref (ad 0))]) rfl (fun ls hl => ?_)
          refine lv_goto (tgt := 43) F.x F.b d_M_number_76 (by decide) ?_
          exact ih q1.2 ((v1) + 1) _ _ _ X (lv_sub hl [0, 2] rfl) h
        · have h := it_e hc h
          refine lv_aload_n F.x F.b d_M_number_66 rfl (lv_at hl 2 rfl) ?_
          refine r_get F X in_M 0 11 (gM_0 cI ad q1.2) rfl (by decide) mt_450 rfl d_M_number_67 ?_
          refine lv_iload_n F.x F.b d_M_number_70 rfl (lv_at hl 0 rfl) ?_
          refine lv_iload_n F.x F.b d_M_number_71 rfl (lv_at hl 1 rfl) ?_
          obtain ⟨hb2, h⟩ := it_b h
          refine r_ast F X 10 0 (gM_10 cI ad q1.2) rfl hb2 d_M_number_72 (sM_10 cI ad q1.2 _ _) (fun H locs X => ?_)
          refine lv_iinc (k := 1) (v := (v1) + 1) F.x F.b d_M_number_73 hl rfl (ii_1 _) (by decide) (lv' := [(1, .int ((v1) + 1)), (2, .int (q1.1)), (0, .ref (ad 0))]) rfl (fun ls hl => ?_)
          refine lv_goto (tgt := 43) F.x F.b d_M_number_76 (by decide) ?_
          exact ih (war q1.2 9 (q1.1).toNatClampNeg (v1)) ((v1) + 1) _ _ _ X (lv_sub hl [0, 2] rfl) h
  have L20 : ∀ (n : Nat) (z : St) (v1 : Int32) (H : Heap) (locs : List Loc) (ls : Array Slot), Wd D A s (cM cI ad z) H locs → lv_has ls 3 [(1, .int (v1)), (0, .ref (ad 0))] → f_M_number_l20 n z v1 = some q → W p l e { frames := 1102, cells := 0, slots := 0, locals := 27547 } s m args below meth c H locs 0 0 (MQ below (va_Qv (fun (u : va_W) => u = cM cI ad q) (Po D [(cI, .int)] A) A) args s 0 0 A) (F0 m 20 ls []) := by
    intro n
    induction n with
    | zero => intro z v1 H locs ls X hl h; cases h
    | succ n ih =>
      intro z v1 H locs ls X hl h
      rw [f_M_number_l20] at h
      refine lv_iload_n F.x F.b d_M_number_20 rfl (lv_at hl 0 rfl) ?_
      refine lv_aload_n F.x F.b d_M_number_21 rfl (lv_at hl 1 rfl) ?_
      refine r_get F X in_M 0 6 (gM_0 cI ad z) rfl (by decide) mt_445 rfl d_M_number_22 ?_
      refine lv_icmp_ge (tgt := 41) F.x F.b d_M_number_25 (by decide) (fun hc => ?_) (fun hc => ?_)
      · have h := it_t hc h
        refine lv_iconst (v := (0 : Int32)) F.x F.b d_M_number_41 (by decide) ?_
        refine lv_istore_n F.x F.b d_M_number_42 rfl hl (by decide) (lv' := [(1, .int ((0 : Int32))), (0, .ref (ad 0))]) rfl (fun ls hl => ?_)
        exact L43 FU z ((0 : Int32)) _ _ _ X (lv_sub hl [0, 1] rfl) h
      · have h := it_e hc h
        refine lv_aload_n F.x F.b d_M_number_28 rfl (lv_at hl 1 rfl) ?_
        refine r_get F X in_M 0 7 (gM_0 cI ad z) rfl (by decide) mt_446 rfl d_M_number_29 ?_
        refine lv_iload_n F.x F.b d_M_number_32 rfl (lv_at hl 0 rfl) ?_
        refine lv_iconst (v := (-1 : Int32)) F.x F.b d_M_number_33 (by decide) ?_
        obtain ⟨hb4, h⟩ := it_b h
        refine r_ast F X 6 0 (gM_6 cI ad z) rfl hb4 d_M_number_34 (sM_6 cI ad z _ _) (fun H locs X => ?_)
        refine lv_iinc (k := 0) (v := (v1) + 1) F.x F.b d_M_number_35 hl rfl (ii_1 _) (by decide) (lv' := [(1, .int ((v1) + 1)), (0, .ref (ad 0))]) rfl (fun ls hl => ?_)
        refine lv_goto (tgt := 20) F.x F.b d_M_number_38 (by decide) ?_
        exact ih (war z 5 (v1).toNatClampNeg ((-1 : Int32))) ((v1) + 1) _ _ _ X (lv_sub hl [0, 1] rfl) h
  unfold f_M_number at h
  refine lv_aload_n F.x F.b d_M_number_0 rfl (lv_at hl 0 rfl) ?_
  refine r_get F X in_M 0 13 (gM_0 cI ad z) rfl (by decide) mt_452 rfl d_M_number_1 ?_
  refine lv_if_eq (tgt := 8) F.x F.b d_M_number_4 (by decide) (fun hc => ?_) (fun hc => ?_)
  · have h := it_t hc h
    refine lv_aload_n F.x F.b d_M_number_8 rfl (lv_at hl 0 rfl) ?_
    refine lv_iconst (v := (1 : Int32)) F.x F.b d_M_number_9 (by decide) ?_
    refine r_put F X in_M t_M t_M_ok n_M 0 13 (gM_0 cI ad z) rfl (by decide) mt_452 rfl (t_M_ok 13 (by decide)) rfl rfl (Nat.le_of_ble_eq_true rfl) d_M_number_10 (pM_3 cI ad z _) (fun H locs X => ?_)
    refine lv_aload_n F.x F.b d_M_number_13 rfl (lv_at hl 0 rfl) ?_
    refine lv_iconst (v := (0 : Int32)) F.x F.b d_M_number_14 (by decide) ?_
    refine r_put F X in_M t_M t_M_ok n_M 0 12 (gM_0 cI ad (wsc z 3 ((1 : Int32)))) rfl (by decide) mt_451 rfl (t_M_ok 12 (by decide)) rfl rfl (Nat.le_of_ble_eq_true rfl) d_M_number_15 (pM_2 cI ad (wsc z 3 ((1 : Int32))) _) (fun H locs X => ?_)
    refine lv_iconst (v := (0 : Int32)) F.x F.b d_M_number_18 (by decide) ?_
    refine lv_istore_n F.x F.b d_M_number_19 rfl hl (by decide) (lv' := [(1, .int ((0 : Int32))), (0, .ref (ad 0))]) rfl (fun ls hl => ?_)
    exact L20 FU (wsc (wsc z 3 ((1 : Int32))) 2 ((0 : Int32))) ((0 : Int32)) _ _ _ X (lv_sub hl [0, 1] rfl) h
  · have h := it_e hc h
    rw [← Option.some.inj h]
    exact fin_v F X hr d_M_number_7
theorem hd_M_unknown : y_M_unknown.cls ≠ "java/lang/invoke/MethodHandle" ∧ y_M_unknown.cls ≠ "java/lang/invoke/VarHandle" ∧ (parseMethodDescriptor y_M_unknown.desc).map (fun d => d.parameters.length) = some 1 := ⟨by decide, by decide, by decide +kernel⟩
set_option maxRecDepth 100000 in
set_option maxHeartbeats 4000000 in
theorem c_M_unknown (l : Launch) (D : Gd) (cI : ClassId) (ad : Nat → Nat) (z : St) (v1 : Int32) (q : Int32 × St) (h : f_M_unknown z v1 = some q) : CI l y_M_unknown (.code y_M_unknown b_M_unknown 2 (some .boolean)) { frames := 1103, cells := 0, slots := 0, locals := 27569 } D [(cI, .int)] [.ref (ad 0), .int v1] (cM cI ad z) q.1 (cM cI ad q.2) 0 0 := by
  refine mk_i (by decide) (Nat.le_of_ble_eq_true rfl) ?_
  intro p e s m args below meth c A ls F X hr hl
  have hl : lv_has ls 2 [(0, .ref (ad 0)), (1, .int (v1))] := hl
  unfold f_M_unknown at h
  refine lv_aload_n F.x F.b d_M_unknown_0 rfl (lv_at hl 0 rfl) ?_
  refine lv_iload_n F.x F.b d_M_unknown_1 rfl (lv_at hl 1 rfl) ?_
  obtain ⟨q1, hq1, h⟩ := it_c h
  refine r_vi F X hl.1 (c_M_none l D cI ad z (v1) q1 hq1) (gM_0 cI ad z) rfl mt_514 mt_516 ms_39 mt_5 mt_517 ⟨rfl, hd_M_none⟩ ⟨by decide, by decide⟩ ⟨rfl, rfl⟩ ⟨Nat.zero_le _, Nat.zero_le _⟩ rfl (Nat.le_of_ble_eq_true rfl) d_M_unknown_2 rfl (fun H locs X => ?_)
  refine lv_if_eq (tgt := 10) F.x F.b d_M_unknown_5 (by decide) (fun hc => ?_) (fun hc => ?_)
  · have h := it_t hc h
    refine lv_aload_n F.x F.b d_M_unknown_10 rfl (lv_at hl 0 rfl) ?_
    obtain ⟨q2, hq2, h⟩ := it_c h
    refine r_vv F X hl.1 (c_M_number l D cI ad q1.2 q2 hq2) (gM_0 cI ad q1.2) rfl mt_559 mt_561 ms_46 mt_5 mt_562 ⟨rfl, hd_M_number⟩ ⟨by decide, by decide⟩ ⟨rfl, rfl⟩ ⟨Nat.zero_le _, Nat.zero_le _⟩ rfl (Nat.le_of_ble_eq_true rfl) d_M_unknown_11 rfl (fun H locs X => ?_)
    refine lv_iconst (v := (0 : Int32)) F.x F.b d_M_unknown_14 (by decide) ?_
    rw [← Option.some.inj h]
    exact fin_z F X hr (Or.inl rfl) d_M_unknown_15
  · have h := it_e hc h
    refine lv_iconst (v := (1 : Int32)) F.x F.b d_M_unknown_8 (by decide) ?_
    rw [← Option.some.inj h]
    exact fin_z F X hr (Or.inr rfl) d_M_unknown_9
theorem hd_M_one : y_M_one.cls ≠ "java/lang/invoke/MethodHandle" ∧ y_M_one.cls ≠ "java/lang/invoke/VarHandle" ∧ (parseMethodDescriptor y_M_one.desc).map (fun d => d.parameters.length) = some 2 := ⟨by decide, by decide, by decide +kernel⟩
set_option maxRecDepth 100000 in
set_option maxHeartbeats 4000000 in
theorem c_M_one (l : Launch) (D : Gd) (cI : ClassId) (ad : Nat → Nat) : ∀ (d : Nat) (z : St) (v1 v2 : Int32) (q : Int32 × St) (h : f_M_one d z v1 v2 = some q), CI l y_M_one (.code y_M_one b_M_one 5 (some .boolean)) { frames := d + 1, cells := 0, slots := 0, locals := (d) * 24 + 22 } D [(cI, .int)] [.ref (ad 0), .int v1, .int v2] (cM cI ad z) q.1 (cM cI ad q.2) 0 0 := by
  intro d
  induction d with
  | zero => intro z v1 v2 q h; cases h
  | succ d IH =>
  intro z v1 v2 q h
  refine mk_i (by decide) (Nat.le_of_ble_eq_true rfl) ?_
  intro p e s m args below meth c A ls F X hr hl
  have hl : lv_has ls 5 [(0, .ref (ad 0)), (1, .int (v1)), (2, .int (v2))] := hl
  rw [ f_M_one] at h
  refine lv_aload_n F.x F.b d_M_one_0 rfl (lv_at hl 0 rfl) ?_
  refine lv_iload_n F.x F.b d_M_one_1 rfl (lv_at hl 1 rfl) ?_
  obtain ⟨q1, hq1, h⟩ := it_c h
  refine r_vi F X hl.1 (c_M_is l D cI ad z (v1) q1 hq1) (gM_0 cI ad z) rfl mt_535 mt_537 ms_42 mt_5 mt_538 ⟨rfl, hd_M_is⟩ ⟨(by show 0 + 1 ≤ d + 1 + 1; omega), (by show 8 + (3 + 11) + 0 ≤ (d + 1) * 24 + 22; omega)⟩ ⟨rfl, rfl⟩ ⟨Nat.zero_le _, Nat.zero_le _⟩ rfl (Nat.le_of_ble_eq_true rfl) d_M_one_2 rfl (fun H locs X => ?_)
  refine lv_istore_n F.x F.b d_M_one_5 rfl hl (by decide) (lv' := [(3, .int (q1.1)), (0, .ref (ad 0)), (1, .int (v1)), (2, .int (v2))]) rfl (fun ls hl => ?_)
  refine lv_aload_n F.x F.b d_M_one_6 rfl (lv_at hl 1 rfl) ?_
  refine lv_iload_n F.x F.b d_M_one_7 rfl (lv_at hl 3 rfl) ?_
  obtain ⟨q2, hq2, h⟩ := it_c h
  refine r_vi F X hl.1 (c_M_is l D cI ad q1.2 (v2) q2 hq2) (gM_0 cI ad q1.2) rfl mt_535 mt_537 ms_42 mt_5 mt_538 ⟨rfl, hd_M_is⟩ ⟨(by show 0 + 1 ≤ d + 1 + 1; omega), (by show 8 + (3 + 11) + 0 ≤ (d + 1) * 24 + 22; omega)⟩ ⟨rfl, rfl⟩ ⟨Nat.zero_le _, Nat.zero_le _⟩ rfl (Nat.le_of_ble_eq_true rfl) d_M_one_8 rfl (fun H locs X => ?_)
  refine lv_istore F.x F.b d_M_one_11 hl (by decide) (lv' := [(4, .int (q2.1)), (3, .int (q1.1)), (0, .ref (ad 0)), (1, .int (v1)), (2, .int (v2))]) rfl (fun ls hl => ?_)
  refine lv_iload_n F.x F.b d_M_one_13 rfl (lv_at hl 1 rfl) ?_
  refine lv_iload F.x F.b d_M_one_14 (lv_at hl 0 rfl) ?_
  refine lv_icmp_ne (tgt := 21) F.x F.b d_M_one_16 (by decide) (fun hc => ?_) (fun hc => ?_)
  · have h := it_e hc h
    refine lv_aload_n F.x F.b d_M_one_21 rfl (lv_at hl 2 rfl) ?_
    refine r_get F X in_M 0 1 (gM_0 cI ad q2.2) rfl (by decide) mt_440 rfl d_M_one_22 ?_
    refine lv_iload_n F.x F.b d_M_one_25 rfl (lv_at hl 1 rfl) ?_
    obtain ⟨hb16, h⟩ := it_b h
    refine r_ald F X 1 0 (gM_1 cI ad q2.2) rfl hb16 d_M_one_26 ?_
    refine lv_if_ne (tgt := 40) F.x F.b d_M_one_27 (by decide) (fun hc => ?_) (fun hc => ?_)
    · have h := it_e hc h
      refine lv_aload_n F.x F.b d_M_one_40 rfl (lv_at hl 2 rfl) ?_
      refine r_get F X in_M 0 1 (gM_0 cI ad q2.2) rfl (by decide) mt_440 rfl d_M_one_41 ?_
      refine lv_iload F.x F.b d_M_one_44 (lv_at hl 0 rfl) ?_
      obtain ⟨hb14, h⟩ := it_b h
      refine r_ald F X 1 0 (gM_1 cI ad q2.2) rfl hb14 d_M_one_46 ?_
      refine lv_if_ne (tgt := 60) F.x F.b d_M_one_47 (by decide) (fun hc => ?_) (fun hc => ?_)
      · have h := it_e hc h
        refine lv_aload_n F.x F.b d_M_one_60 rfl (lv_at hl 2 rfl) ?_
        refine r_get F X in_M 0 1 (gM_0 cI ad q2.2) rfl (by decide) mt_440 rfl d_M_one_61 ?_
        refine lv_iload_n F.x F.b d_M_one_64 rfl (lv_at hl 1 rfl) ?_
        obtain ⟨hb12, h⟩ := it_b h
        refine r_ald F X 1 0 (gM_1 cI ad q2.2) rfl hb12 d_M_one_65 ?_
        refine lv_aload_n F.x F.b d_M_one_66 rfl (lv_at hl 2 rfl) ?_
        refine r_get F X in_M 0 1 (gM_0 cI ad q2.2) rfl (by decide) mt_440 rfl d_M_one_67 ?_
        refine lv_iload F.x F.b d_M_one_70 (lv_at hl 0 rfl) ?_
        obtain ⟨hb11, h⟩ := it_b h
        refine r_ald F X 1 0 (gM_1 cI ad q2.2) rfl hb11 d_M_one_72 ?_
        refine lv_icmp_eq (tgt := 78) F.x F.b d_M_one_73 (by decide) (fun hc => ?_) (fun hc => ?_)
        · have h := it_t hc h
          refine lv_aload_n F.x F.b d_M_one_78 rfl (lv_at hl 2 rfl) ?_
          refine r_get F X in_M 0 4 (gM_0 cI ad q2.2) rfl (by decide) mt_443 rfl d_M_one_79 ?_
          refine lv_iload_n F.x F.b d_M_one_82 rfl (lv_at hl 1 rfl) ?_
          refine lv_iload F.x F.b d_M_one_83 (lv_at hl 0 rfl) ?_
          obtain ⟨hb10, h⟩ := it_b h
          refine r_ast F X 4 0 (gM_4 cI ad q2.2) rfl hb10 d_M_one_85 (sM_4 cI ad q2.2 _ _) (fun H locs X => ?_)
          refine lv_aload_n F.x F.b d_M_one_86 rfl (lv_at hl 2 rfl) ?_
          refine r_get F X in_M 0 1 (gM_0 cI ad (war q2.2 3 (q1.1).toNatClampNeg (q2.1))) rfl (by decide) mt_440 rfl d_M_one_87 ?_
          refine lv_iload_n F.x F.b d_M_one_90 rfl (lv_at hl 1 rfl) ?_
          obtain ⟨hb9, h⟩ := it_b h
          refine r_ald F X 1 0 (gM_1 cI ad (war q2.2 3 (q1.1).toNatClampNeg (q2.1))) rfl hb9 d_M_one_91 ?_
          refine lv_iconst (v := (1 : Int32)) F.x F.b d_M_one_92 (by decide) ?_
          refine lv_icmp_eq (tgt := 136) F.x F.b d_M_one_93 (by decide) (fun hc => ?_) (fun hc => ?_)
          · have h := it_t hc h
            refine lv_iconst (v := (1 : Int32)) F.x F.b d_M_one_136 (by decide) ?_
            refine lv_goto (tgt := 141) F.x F.b d_M_one_137 (by decide) ?_
            rw [← Option.some.inj h]
            exact fin_z F X hr (Or.inr rfl) d_M_one_141
          · have h := it_e hc h
            refine lv_aload_n F.x F.b d_M_one_96 rfl (lv_at hl 2 rfl) ?_
            refine lv_aload_n F.x F.b d_M_one_97 rfl (lv_at hl 2 rfl) ?_
            refine r_get F X in_M 0 2 (gM_0 cI ad (war q2.2 3 (q1.1).toNatClampNeg (q2.1))) rfl (by decide) mt_441 rfl d_M_one_98 ?_
            refine lv_iload_n F.x F.b d_M_one_101 rfl (lv_at hl 1 rfl) ?_
            obtain ⟨hb8, h⟩ := it_b h
            refine r_ald F X 2 0 (gM_2 cI ad (war q2.2 3 (q1.1).toNatClampNeg (q2.1))) rfl hb8 d_M_one_102 ?_
            refine lv_aload_n F.x F.b d_M_one_103 rfl (lv_at hl 2 rfl) ?_
            refine r_get F X in_M 0 2 (gM_0 cI ad (war q2.2 3 (q1.1).toNatClampNeg (q2.1))) rfl (by decide) mt_441 rfl d_M_one_104 ?_
            refine lv_iload F.x F.b d_M_one_107 (lv_at hl 0 rfl) ?_
            obtain ⟨hb7, h⟩ := it_b h
            refine r_ald F X 2 0 (gM_2 cI ad (war q2.2 3 (q1.1).toNatClampNeg (q2.1))) rfl hb7 d_M_one_109 ?_
            obtain ⟨q3, hq3, h⟩ := it_c h
            refine r_vi F X hl.1 (IH (war q2.2 3 (q1.1).toNatClampNeg (q2.1)) ((war q2.2 3 (q1.1).toNatClampNeg (q2.1)).2 1 (q1.1).toNatClampNeg) ((war q2.2 3 (q1.1).toNatClampNeg (q2.1)).2 1 (q2.1).toNatClampNeg) q3 hq3) (gM_0 cI ad (war q2.2 3 (q1.1).toNatClampNeg (q2.1))) rfl mt_531 mt_533 ms_41 mt_5 mt_534 ⟨rfl, hd_M_one⟩ ⟨(by show d + 1 + 1 ≤ d + 1 + 1; omega), (by show 8 + (5 + 11) + (d * 24 + 22) ≤ (d + 1) * 24 + 22; omega)⟩ ⟨rfl, rfl⟩ ⟨Nat.zero_le _, Nat.zero_le _⟩ rfl (Nat.le_of_ble_eq_true rfl) d_M_one_110 rfl (fun H locs X => ?_)
            refine lv_if_eq (tgt := 140) F.x F.b d_M_one_113 (by decide) (fun hc => ?_) (fun hc => ?_)
            · have h := it_t hc h
              refine lv_iconst (v := (0 : Int32)) F.x F.b d_M_one_140 (by decide) ?_
              rw [← Option.some.inj h]
              exact fin_z F X hr (Or.inl rfl) d_M_one_141
            · have h := it_e hc h
              refine lv_aload_n F.x F.b d_M_one_116 rfl (lv_at hl 2 rfl) ?_
              refine lv_aload_n F.x F.b d_M_one_117 rfl (lv_at hl 2 rfl) ?_
              refine r_get F X in_M 0 3 (gM_0 cI ad q3.2) rfl (by decide) mt_442 rfl d_M_one_118 ?_
              refine lv_iload_n F.x F.b d_M_one_121 rfl (lv_at hl 1 rfl) ?_
              obtain ⟨hb6, h⟩ := it_b h
              refine r_ald F X 3 0 (gM_3 cI ad q3.2) rfl hb6 d_M_one_122 ?_
              refine lv_aload_n F.x F.b d_M_one_123 rfl (lv_at hl 2 rfl) ?_
              refine r_get F X in_M 0 3 (gM_0 cI ad q3.2) rfl (by decide) mt_442 rfl d_M_one_124 ?_
              refine lv_iload F.x F.b d_M_one_127 (lv_at hl 0 rfl) ?_
              obtain ⟨hb5, h⟩ := it_b h
              refine r_ald F X 3 0 (gM_3 cI ad q3.2) rfl hb5 d_M_one_129 ?_
              obtain ⟨q4, hq4, h⟩ := it_c h
              refine r_vi F X hl.1 (IH q3.2 (q3.2.2 2 (q1.1).toNatClampNeg) (q3.2.2 2 (q2.1).toNatClampNeg) q4 hq4) (gM_0 cI ad q3.2) rfl mt_531 mt_533 ms_41 mt_5 mt_534 ⟨rfl, hd_M_one⟩ ⟨(by show d + 1 + 1 ≤ d + 1 + 1; omega), (by show 8 + (5 + 11) + (d * 24 + 22) ≤ (d + 1) * 24 + 22; omega)⟩ ⟨rfl, rfl⟩ ⟨Nat.zero_le _, Nat.zero_le _⟩ rfl (Nat.le_of_ble_eq_true rfl) d_M_one_130 rfl (fun H locs X => ?_)
              refine lv_if_eq (tgt := 140) F.x F.b d_M_one_133 (by decide) (fun hc => ?_) (fun hc => ?_)
              · have h := it_t hc h
                refine lv_iconst (v := (0 : Int32)) F.x F.b d_M_one_140 (by decide) ?_
                rw [← Option.some.inj h]
                exact fin_z F X hr (Or.inl rfl) d_M_one_141
              · have h := it_e hc h
                refine lv_iconst (v := (1 : Int32)) F.x F.b d_M_one_136 (by decide) ?_
                refine lv_goto (tgt := 141) F.x F.b d_M_one_137 (by decide) ?_
                rw [← Option.some.inj h]
                exact fin_z F X hr (Or.inr rfl) d_M_one_141
        · have h := it_e hc h
          refine lv_iconst (v := (0 : Int32)) F.x F.b d_M_one_76 (by decide) ?_
          rw [← Option.some.inj h]
          exact fin_z F X hr (Or.inl rfl) d_M_one_77
      · have h := it_t hc h
        refine lv_aload_n F.x F.b d_M_one_50 rfl (lv_at hl 2 rfl) ?_
        refine r_get F X in_M 0 4 (gM_0 cI ad q2.2) rfl (by decide) mt_443 rfl d_M_one_51 ?_
        refine lv_iload F.x F.b d_M_one_54 (lv_at hl 0 rfl) ?_
        refine lv_iload_n F.x F.b d_M_one_56 rfl (lv_at hl 1 rfl) ?_
        obtain ⟨hb13, h⟩ := it_b h
        refine r_ast F X 4 0 (gM_4 cI ad q2.2) rfl hb13 d_M_one_57 (sM_4 cI ad q2.2 _ _) (fun H locs X => ?_)
        refine lv_iconst (v := (1 : Int32)) F.x F.b d_M_one_58 (by decide) ?_
        rw [← Option.some.inj h]
        exact fin_z F X hr (Or.inr rfl) d_M_one_59
    · have h := it_t hc h
      refine lv_aload_n F.x F.b d_M_one_30 rfl (lv_at hl 2 rfl) ?_
      refine r_get F X in_M 0 4 (gM_0 cI ad q2.2) rfl (by decide) mt_443 rfl d_M_one_31 ?_
      refine lv_iload_n F.x F.b d_M_one_34 rfl (lv_at hl 1 rfl) ?_
      refine lv_iload F.x F.b d_M_one_35 (lv_at hl 0 rfl) ?_
      obtain ⟨hb15, h⟩ := it_b h
      refine r_ast F X 4 0 (gM_4 cI ad q2.2) rfl hb15 d_M_one_37 (sM_4 cI ad q2.2 _ _) (fun H locs X => ?_)
      refine lv_iconst (v := (1 : Int32)) F.x F.b d_M_one_38 (by decide) ?_
      rw [← Option.some.inj h]
      exact fin_z F X hr (Or.inr rfl) d_M_one_39
  · have h := it_t hc h
    refine lv_iconst (v := (1 : Int32)) F.x F.b d_M_one_19 (by decide) ?_
    rw [← Option.some.inj h]
    exact fin_z F X hr (Or.inr rfl) d_M_one_20
theorem hd_M_endless : y_M_endless.cls ≠ "java/lang/invoke/MethodHandle" ∧ y_M_endless.cls ≠ "java/lang/invoke/VarHandle" ∧ (parseMethodDescriptor y_M_endless.desc).map (fun d => d.parameters.length) = some 1 := ⟨by decide, by decide, by decide +kernel⟩
set_option maxRecDepth 100000 in
set_option maxHeartbeats 4000000 in
theorem c_M_endless (l : Launch) (D : Gd) (cI : ClassId) (ad : Nat → Nat) : ∀ (d : Nat) (z : St) (v1 : Int32) (q : Int32 × St) (h : f_M_endless d z v1 = some q), CI l y_M_endless (.code y_M_endless b_M_endless 4 (some .boolean)) { frames := d + 1, cells := 0, slots := 0, locals := (d) * 23 + 22 } D [(cI, .int)] [.ref (ad 0), .int v1] (cM cI ad z) q.1 (cM cI ad q.2) 0 0 := by
  intro d
  induction d with
  | zero => intro z v1 q h; cases h
  | succ d IH =>
  intro z v1 q h
  refine mk_i (by decide) (Nat.le_of_ble_eq_true rfl) ?_
  intro p e s m args below meth c A ls F X hr hl
  have hl : lv_has ls 4 [(0, .ref (ad 0)), (1, .int (v1))] := hl
  rw [ f_M_endless] at h
  refine lv_aload_n F.x F.b d_M_endless_0 rfl (lv_at hl 0 rfl) ?_
  refine lv_iload_n F.x F.b d_M_endless_1 rfl (lv_at hl 1 rfl) ?_
  obtain ⟨q1, hq1, h⟩ := it_c h
  refine r_vi F X hl.1 (c_M_is l D cI ad z (v1) q1 hq1) (gM_0 cI ad z) rfl mt_535 mt_537 ms_42 mt_5 mt_538 ⟨rfl, hd_M_is⟩ ⟨(by show 0 + 1 ≤ d + 1 + 1; omega), (by show 8 + (3 + 11) + 0 ≤ (d + 1) * 23 + 22; omega)⟩ ⟨rfl, rfl⟩ ⟨Nat.zero_le _, Nat.zero_le _⟩ rfl (Nat.le_of_ble_eq_true rfl) d_M_endless_2 rfl (fun H locs X => ?_)
  refine lv_istore_n F.x F.b d_M_endless_5 rfl hl (by decide) (lv' := [(2, .int (q1.1)), (0, .ref (ad 0)), (1, .int (v1))]) rfl (fun ls hl => ?_)
  refine lv_aload_n F.x F.b d_M_endless_6 rfl (lv_at hl 1 rfl) ?_
  refine r_get F X in_M 0 1 (gM_0 cI ad q1.2) rfl (by decide) mt_440 rfl d_M_endless_7 ?_
  refine lv_iload_n F.x F.b d_M_endless_10 rfl (lv_at hl 0 rfl) ?_
  obtain ⟨hb13, h⟩ := it_b h
  refine r_ald F X 1 0 (gM_1 cI ad q1.2) rfl hb13 d_M_endless_11 ?_
  refine lv_if_eq (tgt := 35) F.x F.b d_M_endless_12 (by decide) (fun hc => ?_) (fun hc => ?_)
  · have h := it_t hc h
    refine lv_iconst (v := (0 : Int32)) F.x F.b d_M_endless_35 (by decide) ?_
    rw [← Option.some.inj h]
    exact fin_z F X hr (Or.inl rfl) d_M_endless_36
  · have h := it_e hc h
    refine lv_aload_n F.x F.b d_M_endless_15 rfl (lv_at hl 1 rfl) ?_
    refine r_get F X in_M 0 1 (gM_0 cI ad q1.2) rfl (by decide) mt_440 rfl d_M_endless_16 ?_
    refine lv_iload_n F.x F.b d_M_endless_19 rfl (lv_at hl 0 rfl) ?_
    obtain ⟨hb12, h⟩ := it_b h
    refine r_ald F X 1 0 (gM_1 cI ad q1.2) rfl hb12 d_M_endless_20 ?_
    refine lv_iconst (v := (1 : Int32)) F.x F.b d_M_endless_21 (by decide) ?_
    refine lv_icmp_eq (tgt := 35) F.x F.b d_M_endless_22 (by decide) (fun hc => ?_) (fun hc => ?_)
    · have h := it_t hc h
      refine lv_iconst (v := (0 : Int32)) F.x F.b d_M_endless_35 (by decide) ?_
      rw [← Option.some.inj h]
      exact fin_z F X hr (Or.inl rfl) d_M_endless_36
    · have h := it_e hc h
      refine lv_aload_n F.x F.b d_M_endless_25 rfl (lv_at hl 1 rfl) ?_
      refine r_get F X in_M 0 14 (gM_0 cI ad q1.2) rfl (by decide) mt_453 rfl d_M_endless_26 ?_
      refine lv_iload_n F.x F.b d_M_endless_29 rfl (lv_at hl 0 rfl) ?_
      obtain ⟨hb11, h⟩ := it_b h
      refine r_ald F X 11 0 (gM_11 cI ad q1.2) rfl hb11 d_M_endless_30 ?_
      refine lv_iconst (v := (2 : Int32)) F.x F.b d_M_endless_31 (by decide) ?_
      refine lv_icmp_ne (tgt := 37) F.x F.b d_M_endless_32 (by decide) (fun hc => ?_) (fun hc => ?_)
      · have h := it_e hc h
        refine lv_aload_n F.x F.b d_M_endless_37 rfl (lv_at hl 1 rfl) ?_
        refine r_get F X in_M 0 14 (gM_0 cI ad q1.2) rfl (by decide) mt_453 rfl d_M_endless_38 ?_
        refine lv_iload_n F.x F.b d_M_endless_41 rfl (lv_at hl 0 rfl) ?_
        obtain ⟨hb10, h⟩ := it_b h
        refine r_ald F X 11 0 (gM_11 cI ad q1.2) rfl hb10 d_M_endless_42 ?_
        refine lv_iconst (v := (1 : Int32)) F.x F.b d_M_endless_43 (by decide) ?_
        refine lv_icmp_ne (tgt := 49) F.x F.b d_M_endless_44 (by decide) (fun hc => ?_) (fun hc => ?_)
        · have h := it_e hc h
          refine lv_aload_n F.x F.b d_M_endless_49 rfl (lv_at hl 1 rfl) ?_
          refine r_get F X in_M 0 14 (gM_0 cI ad q1.2) rfl (by decide) mt_453 rfl d_M_endless_50 ?_
          refine lv_iload_n F.x F.b d_M_endless_53 rfl (lv_at hl 0 rfl) ?_
          refine lv_iconst (v := (1 : Int32)) F.x F.b d_M_endless_54 (by decide) ?_
          obtain ⟨hb9, h⟩ := it_b h
          refine r_ast F X 11 0 (gM_11 cI ad q1.2) rfl hb9 d_M_endless_55 (sM_11 cI ad q1.2 _ _) (fun H locs X => ?_)
          refine lv_aload_n F.x F.b d_M_endless_56 rfl (lv_at hl 1 rfl) ?_
          refine lv_aload_n F.x F.b d_M_endless_57 rfl (lv_at hl 1 rfl) ?_
          refine r_get F X in_M 0 2 (gM_0 cI ad (war q1.2 10 (q1.1).toNatClampNeg ((1 : Int32)))) rfl (by decide) mt_441 rfl d_M_endless_58 ?_
          refine lv_iload_n F.x F.b d_M_endless_61 rfl (lv_at hl 0 rfl) ?_
          obtain ⟨hb8, h⟩ := it_b h
          refine r_ald F X 2 0 (gM_2 cI ad (war q1.2 10 (q1.1).toNatClampNeg ((1 : Int32)))) rfl hb8 d_M_endless_62 ?_
          obtain ⟨q2, hq2, h⟩ := it_c h
          refine r_vi F X hl.1 (IH (war q1.2 10 (q1.1).toNatClampNeg ((1 : Int32))) ((war q1.2 10 (q1.1).toNatClampNeg ((1 : Int32))).2 1 (q1.1).toNatClampNeg) q2 hq2) (gM_0 cI ad (war q1.2 10 (q1.1).toNatClampNeg ((1 : Int32)))) rfl mt_539 mt_541 ms_43 mt_5 mt_542 ⟨rfl, hd_M_endless⟩ ⟨(by show d + 1 + 1 ≤ d + 1 + 1; omega), (by show 8 + (4 + 11) + (d * 23 + 22) ≤ (d + 1) * 23 + 22; omega)⟩ ⟨rfl, rfl⟩ ⟨Nat.zero_le _, Nat.zero_le _⟩ rfl (Nat.le_of_ble_eq_true rfl) d_M_endless_63 rfl (fun H locs X => ?_)
          refine lv_if_ne (tgt := 82) F.x F.b d_M_endless_66 (by decide) (fun hc => ?_) (fun hc => ?_)
          · have h := it_e hc h
            refine lv_iconst (v := (1 : Int32)) F.x F.b d_M_endless_82 (by decide) ?_
            refine lv_goto (tgt := 87) F.x F.b d_M_endless_83 (by decide) ?_
            refine lv_istore_n F.x F.b d_M_endless_87 rfl hl (by decide) (lv' := [(3, .int ((1 : Int32))), (2, .int (q1.1)), (0, .ref (ad 0)), (1, .int (v1))]) rfl (fun ls hl => ?_)
            refine lv_aload_n F.x F.b d_M_endless_88 rfl (lv_at hl 2 rfl) ?_
            refine r_get F X in_M 0 14 (gM_0 cI ad q2.2) rfl (by decide) mt_453 rfl d_M_endless_89 ?_
            refine lv_iload_n F.x F.b d_M_endless_92 rfl (lv_at hl 1 rfl) ?_
            refine lv_iconst (v := (2 : Int32)) F.x F.b d_M_endless_93 (by decide) ?_
            obtain ⟨hb3, h⟩ := it_b h
            refine r_ast F X 11 0 (gM_11 cI ad q2.2) rfl hb3 d_M_endless_94 (sM_11 cI ad q2.2 _ _) (fun H locs X => ?_)
            refine lv_iload_n F.x F.b d_M_endless_95 rfl (lv_at hl 0 rfl) ?_
            rw [← Option.some.inj h]
            exact fin_z F X hr (Or.inr rfl) d_M_endless_96
          · have h := it_t hc h
            refine lv_aload_n F.x F.b d_M_endless_69 rfl (lv_at hl 1 rfl) ?_
            refine lv_aload_n F.x F.b d_M_endless_70 rfl (lv_at hl 1 rfl) ?_
            refine r_get F X in_M 0 3 (gM_0 cI ad q2.2) rfl (by decide) mt_442 rfl d_M_endless_71 ?_
            refine lv_iload_n F.x F.b d_M_endless_74 rfl (lv_at hl 0 rfl) ?_
            obtain ⟨hb7, h⟩ := it_b h
            refine r_ald F X 3 0 (gM_3 cI ad q2.2) rfl hb7 d_M_endless_75 ?_
            obtain ⟨q4, hq4, h⟩ := it_c h
            refine r_vi F X hl.1 (IH q2.2 (q2.2.2 2 (q1.1).toNatClampNeg) q4 hq4) (gM_0 cI ad q2.2) rfl mt_539 mt_541 ms_43 mt_5 mt_542 ⟨rfl, hd_M_endless⟩ ⟨(by show d + 1 + 1 ≤ d + 1 + 1; omega), (by show 8 + (4 + 11) + (d * 23 + 22) ≤ (d + 1) * 23 + 22; omega)⟩ ⟨rfl, rfl⟩ ⟨Nat.zero_le _, Nat.zero_le _⟩ rfl (Nat.le_of_ble_eq_true rfl) d_M_endless_76 rfl (fun H locs X => ?_)
            refine lv_if_eq (tgt := 86) F.x F.b d_M_endless_79 (by decide) (fun hc => ?_) (fun hc => ?_)
            · have h := it_t hc h
              refine lv_iconst (v := (0 : Int32)) F.x F.b d_M_endless_86 (by decide) ?_
              refine lv_istore_n F.x F.b d_M_endless_87 rfl hl (by decide) (lv' := [(3, .int ((0 : Int32))), (2, .int (q1.1)), (0, .ref (ad 0)), (1, .int (v1))]) rfl (fun ls hl => ?_)
              refine lv_aload_n F.x F.b d_M_endless_88 rfl (lv_at hl 2 rfl) ?_
              refine r_get F X in_M 0 14 (gM_0 cI ad q4.2) rfl (by decide) mt_453 rfl d_M_endless_89 ?_
              refine lv_iload_n F.x F.b d_M_endless_92 rfl (lv_at hl 1 rfl) ?_
              refine lv_iconst (v := (2 : Int32)) F.x F.b d_M_endless_93 (by decide) ?_
              obtain ⟨hb5, h⟩ := it_b h
              refine r_ast F X 11 0 (gM_11 cI ad q4.2) rfl hb5 d_M_endless_94 (sM_11 cI ad q4.2 _ _) (fun H locs X => ?_)
              refine lv_iload_n F.x F.b d_M_endless_95 rfl (lv_at hl 0 rfl) ?_
              rw [← Option.some.inj h]
              exact fin_z F X hr (Or.inl rfl) d_M_endless_96
            · have h := it_e hc h
              refine lv_iconst (v := (1 : Int32)) F.x F.b d_M_endless_82 (by decide) ?_
              refine lv_goto (tgt := 87) F.x F.b d_M_endless_83 (by decide) ?_
              refine lv_istore_n F.x F.b d_M_endless_87 rfl hl (by decide) (lv' := [(3, .int ((1 : Int32))), (2, .int (q1.1)), (0, .ref (ad 0)), (1, .int (v1))]) rfl (fun ls hl => ?_)
              refine lv_aload_n F.x F.b d_M_endless_88 rfl (lv_at hl 2 rfl) ?_
              refine r_get F X in_M 0 14 (gM_0 cI ad q4.2) rfl (by decide) mt_453 rfl d_M_endless_89 ?_
              refine lv_iload_n F.x F.b d_M_endless_92 rfl (lv_at hl 1 rfl) ?_
              refine lv_iconst (v := (2 : Int32)) F.x F.b d_M_endless_93 (by decide) ?_
              obtain ⟨hb6, h⟩ := it_b h
              refine r_ast F X 11 0 (gM_11 cI ad q4.2) rfl hb6 d_M_endless_94 (sM_11 cI ad q4.2 _ _) (fun H locs X => ?_)
              refine lv_iload_n F.x F.b d_M_endless_95 rfl (lv_at hl 0 rfl) ?_
              rw [← Option.some.inj h]
              exact fin_z F X hr (Or.inr rfl) d_M_endless_96
        · have h := it_t hc h
          refine lv_iconst (v := (1 : Int32)) F.x F.b d_M_endless_47 (by decide) ?_
          rw [← Option.some.inj h]
          exact fin_z F X hr (Or.inr rfl) d_M_endless_48
      · have h := it_t hc h
        refine lv_iconst (v := (0 : Int32)) F.x F.b d_M_endless_35 (by decide) ?_
        rw [← Option.some.inj h]
        exact fin_z F X hr (Or.inl rfl) d_M_endless_36
theorem hd_M_tried : y_M_tried.cls ≠ "java/lang/invoke/MethodHandle" ∧ y_M_tried.cls ≠ "java/lang/invoke/VarHandle" ∧ (parseMethodDescriptor y_M_tried.desc).map (fun d => d.parameters.length) = some 2 := ⟨by decide, by decide, by decide +kernel⟩
set_option maxRecDepth 100000 in
set_option maxHeartbeats 4000000 in
theorem c_M_tried (l : Launch) (D : Gd) (cI : ClassId) (ad : Nat → Nat) (z : St) (v1 v2 : Int32) (q : Int32 × St) (h : f_M_tried z v1 v2 = some q) : CI l y_M_tried (.code y_M_tried b_M_tried 5 (some .boolean)) { frames := 1102, cells := 0, slots := 0, locals := 26446 } D [(cI, .int)] [.ref (ad 0), .int v1, .int v2] (cM cI ad z) q.1 (cM cI ad q.2) 0 0 := by
  refine mk_i (by decide) (Nat.le_of_ble_eq_true rfl) ?_
  intro p e s m args below meth c A ls F X hr hl
  have hl : lv_has ls 5 [(0, .ref (ad 0)), (1, .int (v1)), (2, .int (v2))] := hl
  have L53 : ∀ (n : Nat) (z : St) (v4 : Int32) (v3 : Int32) (v1 : Int32) (v2 : Int32) (H : Heap) (locs : List Loc) (ls : Array Slot), Wd D A s (cM cI ad z) H locs → lv_has ls 5 [(4, .int (v4)), (3, .int (v3)), (0, .ref (ad 0)), (1, .int (v1)), (2, .int (v2))] → f_M_tried_l53 n z v4 v3 v1 v2 = some q → W p l e { frames := 1102, cells := 0, slots := 0, locals := 26446 } s m args below meth c H locs 0 0 (MQ below (va_Qi (fun (r' : Int32) (u : va_W) => r' = q.1 ∧ u = cM cI ad q.2) (Po D [(cI, .int)] A) A) args s 0 0 A) (F0 m 53 ls []) := by
    intro n
    induction n with
    | zero => intro z v4 v3 v1 v2 H locs ls X hl h; cases h
    | succ n ih =>
      intro z v4 v3 v1 v2 H locs ls X hl h
      rw [f_M_tried_l53] at h
      refine lv_iload F.x F.b d_M_tried_53 (lv_at hl 0 rfl) ?_
      refine lv_aload_n F.x F.b d_M_tried_55 rfl (lv_at hl 2 rfl) ?_
      refine r_get F X in_M 0 6 (gM_0 cI ad z) rfl (by decide) mt_445 rfl d_M_tried_56 ?_
      refine lv_icmp_ge (tgt := 87) F.x F.b d_M_tried_59 (by decide) (fun hc => ?_) (fun hc => ?_)
      · have h := it_t hc h
        refine lv_iload_n F.x F.b d_M_tried_87 rfl (lv_at hl 1 rfl) ?_
        obtain ⟨hb2, h⟩ := it_b h
        rw [← Option.some.inj h]
        exact fin_z F X hr (Decidable.not_not.mp hb2) d_M_tried_88
      · have h := it_e hc h
        refine lv_iload_n F.x F.b d_M_tried_62 rfl (lv_at hl 1 rfl) ?_
        refine lv_if_eq (tgt := 87) F.x F.b d_M_tried_63 (by decide) (fun hc => ?_) (fun hc => ?_)
        · have h := it_t hc h
          refine lv_iload_n F.x F.b d_M_tried_87 rfl (lv_at hl 1 rfl) ?_
          obtain ⟨hb3, h⟩ := it_b h
          rw [← Option.some.inj h]
          exact fin_z F X hr (Decidable.not_not.mp hb3) d_M_tried_88
        · have h := it_e hc h
          refine lv_aload_n F.x F.b d_M_tried_66 rfl (lv_at hl 2 rfl) ?_
          refine lv_iload F.x F.b d_M_tried_67 (lv_at hl 0 rfl) ?_
          obtain ⟨q4, hq4, h⟩ := it_c h
          refine r_vi F X hl.1 (c_M_endless l D cI ad DP z (v4) q4 hq4) (gM_0 cI ad z) rfl mt_539 mt_541 ms_43 mt_5 mt_542 ⟨rfl, hd_M_endless⟩ ⟨by decide, by decide⟩ ⟨rfl, rfl⟩ ⟨Nat.zero_le _, Nat.zero_le _⟩ rfl (Nat.le_of_ble_eq_true rfl) d_M_tried_69 rfl (fun H locs X => ?_)
          refine lv_if_ne (tgt := 79) F.x F.b d_M_tried_72 (by decide) (fun hc => ?_) (fun hc => ?_)
          · have h := it_e hc h
            refine lv_iconst (v := (0 : Int32)) F.x F.b d_M_tried_79 (by decide) ?_
            refine lv_istore_n F.x F.b d_M_tried_80 rfl hl (by decide) (lv' := [(3, .int ((0 : Int32))), (4, .int (v4)), (0, .ref (ad 0)), (1, .int (v1)), (2, .int (v2))]) rfl (fun ls hl => ?_)
            refine lv_iinc (k := 1) (v := (v4) + 1) F.x F.b d_M_tried_81 hl rfl (ii_1 _) (by decide) (lv' := [(4, .int ((v4) + 1)), (3, .int ((0 : Int32))), (0, .ref (ad 0)), (1, .int (v1)), (2, .int (v2))]) rfl (fun ls hl => ?_)
            refine lv_goto (tgt := 53) F.x F.b d_M_tried_84 (by decide) ?_
            exact ih q4.2 ((v4) + 1) ((0 : Int32)) (v1) (v2) _ _ _ X (lv_sub hl [0, 1, 2, 3, 4] rfl) h
          · have h := it_t hc h
            refine lv_iconst (v := (1 : Int32)) F.x F.b d_M_tried_75 (by decide) ?_
            refine lv_goto (tgt := 80) F.x F.b d_M_tried_76 (by decide) ?_
            refine lv_istore_n F.x F.b d_M_tried_80 rfl hl (by decide) (lv' := [(3, .int ((1 : Int32))), (4, .int (v4)), (0, .ref (ad 0)), (1, .int (v1)), (2, .int (v2))]) rfl (fun ls hl => ?_)
            refine lv_iinc (k := 1) (v := (v4) + 1) F.x F.b d_M_tried_81 hl rfl (ii_1 _) (by decide) (lv' := [(4, .int ((v4) + 1)), (3, .int ((1 : Int32))), (0, .ref (ad 0)), (1, .int (v1)), (2, .int (v2))]) rfl (fun ls hl => ?_)
            refine lv_goto (tgt := 53) F.x F.b d_M_tried_84 (by decide) ?_
            exact ih q4.2 ((v4) + 1) ((1 : Int32)) (v1) (v2) _ _ _ X (lv_sub hl [0, 1, 2, 3, 4] rfl) h
  have L27 : ∀ (n : Nat) (z : St) (v4 : Int32) (v3 : Int32) (v1 : Int32) (v2 : Int32) (H : Heap) (locs : List Loc) (ls : Array Slot), Wd D A s (cM cI ad z) H locs → lv_has ls 5 [(4, .int (v4)), (3, .int (v3)), (0, .ref (ad 0)), (1, .int (v1)), (2, .int (v2))] → f_M_tried_l27 n z v4 v3 v1 v2 = some q → W p l e { frames := 1102, cells := 0, slots := 0, locals := 26446 } s m args below meth c H locs 0 0 (MQ below (va_Qi (fun (r' : Int32) (u : va_W) => r' = q.1 ∧ u = cM cI ad q.2) (Po D [(cI, .int)] A) A) args s 0 0 A) (F0 m 27 ls []) := by
    intro n
    induction n with
    | zero => intro z v4 v3 v1 v2 H locs ls X hl h; cases h
    | succ n ih =>
      intro z v4 v3 v1 v2 H locs ls X hl h
      rw [f_M_tried_l27] at h
      refine lv_iload F.x F.b d_M_tried_27 (lv_at hl 0 rfl) ?_
      refine lv_aload_n F.x F.b d_M_tried_29 rfl (lv_at hl 2 rfl) ?_
      refine r_get F X in_M 0 6 (gM_0 cI ad z) rfl (by decide) mt_445 rfl d_M_tried_30 ?_
      refine lv_icmp_ge (tgt := 50) F.x F.b d_M_tried_33 (by decide) (fun hc => ?_) (fun hc => ?_)
      · have h := it_t hc h
        refine lv_iconst (v := (0 : Int32)) F.x F.b d_M_tried_50 (by decide) ?_
        refine lv_istore F.x F.b d_M_tried_51 hl (by decide) (lv' := [(4, .int ((0 : Int32))), (3, .int (v3)), (0, .ref (ad 0)), (1, .int (v1)), (2, .int (v2))]) rfl (fun ls hl => ?_)
        exact L53 FU z ((0 : Int32)) (v3) (v1) (v2) _ _ _ X (lv_sub hl [0, 1, 2, 3, 4] rfl) h
      · have h := it_e hc h
        refine lv_aload_n F.x F.b d_M_tried_36 rfl (lv_at hl 2 rfl) ?_
        refine r_get F X in_M 0 14 (gM_0 cI ad z) rfl (by decide) mt_453 rfl d_M_tried_37 ?_
        refine lv_iload F.x F.b d_M_tried_40 (lv_at hl 0 rfl) ?_
        refine lv_iconst (v := (0 : Int32)) F.x F.b d_M_tried_42 (by decide) ?_
        obtain ⟨hb5, h⟩ := it_b h
        refine r_ast F X 11 0 (gM_11 cI ad z) rfl hb5 d_M_tried_43 (sM_11 cI ad z _ _) (fun H locs X => ?_)
        refine lv_iinc (k := 0) (v := (v4) + 1) F.x F.b d_M_tried_44 hl rfl (ii_1 _) (by decide) (lv' := [(4, .int ((v4) + 1)), (3, .int (v3)), (0, .ref (ad 0)), (1, .int (v1)), (2, .int (v2))]) rfl (fun ls hl => ?_)
        refine lv_goto (tgt := 27) F.x F.b d_M_tried_47 (by decide) ?_
        exact ih (war z 10 (v4).toNatClampNeg ((0 : Int32))) ((v4) + 1) (v3) (v1) (v2) _ _ _ X (lv_sub hl [0, 1, 2, 3, 4] rfl) h
  unfold f_M_tried at h
  refine lv_aload_n F.x F.b d_M_tried_0 rfl (lv_at hl 0 rfl) ?_
  refine r_get F X in_M 0 4 (gM_0 cI ad z) rfl (by decide) mt_443 rfl d_M_tried_1 ?_
  refine lv_iconst (v := (0 : Int32)) F.x F.b d_M_tried_4 (by decide) ?_
  refine lv_aload_n F.x F.b d_M_tried_5 rfl (lv_at hl 0 rfl) ?_
  refine r_get F X in_M 0 5 (gM_0 cI ad z) rfl (by decide) mt_444 rfl d_M_tried_6 ?_
  refine lv_iconst (v := (0 : Int32)) F.x F.b d_M_tried_9 (by decide) ?_
  refine lv_aload_n F.x F.b d_M_tried_10 rfl (lv_at hl 0 rfl) ?_
  refine r_get F X in_M 0 6 (gM_0 cI ad z) rfl (by decide) mt_445 rfl d_M_tried_11 ?_
  obtain ⟨hb6, h⟩ := it_b h
  refine va_copyi F.x F.b (F.2.2.1.trans hl.1.symm) F.2.2.2.1 (F.2.2.2.2.1 _ mt_530) (F.2.2.2.2.1 _ mt_271) (F.2.2.2.2.1 _ mt_270) (F.2.2.2.2.1 _ mt_11) F.2.2.2.2.2.1 X.1 X.2.1 X.2.2 4 5 0 0 (ty := .int) (gM_4 cI ad z) (gM_5 cI ad z) rfl rfl rfl (fun z9 => hb6 (Or.inl (Or.inl z9))) (fun z9 => hb6 (Or.inl (Or.inr (Or.inl z9)))) (fun z9 => hb6 (Or.inl (Or.inr (Or.inr z9)))) (Nat.le_of_not_lt fun z9 => hb6 (Or.inr (Or.inl z9))) (Nat.le_of_not_lt fun z9 => hb6 (Or.inr (Or.inr z9))) (fun _ _ => rfl) (by decide) (Nat.le_of_ble_eq_true rfl) d_M_tried_14 (fun H locs h1 h2 h3 => ?_)
  have X : Wd D A s (cM cI ad (wal z 4 (va_cpy (z.2 3) (z.2 4) ((0 : Int32)).toNatClampNeg ((0 : Int32)).toNatClampNeg (z.1 1).toNatClampNeg))) H locs := (aM_5 cI ad z _) ▸ (⟨h1, h2, h3⟩ : Wd D A s _ H locs)
  refine lv_aload_n F.x F.b d_M_tried_17 rfl (lv_at hl 0 rfl) ?_
  refine lv_iload_n F.x F.b d_M_tried_18 rfl (lv_at hl 1 rfl) ?_
  refine lv_iload_n F.x F.b d_M_tried_19 rfl (lv_at hl 2 rfl) ?_
  obtain ⟨q1, hq1, h⟩ := it_c h
  refine r_vi F X hl.1 (c_M_one l D cI ad DP (wal z 4 (va_cpy (z.2 3) (z.2 4) ((0 : Int32)).toNatClampNeg ((0 : Int32)).toNatClampNeg (z.1 1).toNatClampNeg)) (v1) (v2) q1 hq1) (gM_0 cI ad (wal z 4 (va_cpy (z.2 3) (z.2 4) ((0 : Int32)).toNatClampNeg ((0 : Int32)).toNatClampNeg (z.1 1).toNatClampNeg))) rfl mt_531 mt_533 ms_41 mt_5 mt_534 ⟨rfl, hd_M_one⟩ ⟨by decide, by decide⟩ ⟨rfl, rfl⟩ ⟨Nat.zero_le _, Nat.zero_le _⟩ rfl (Nat.le_of_ble_eq_true rfl) d_M_tried_20 rfl (fun H locs X => ?_)
  refine lv_istore_n F.x F.b d_M_tried_23 rfl hl (by decide) (lv' := [(3, .int (q1.1)), (0, .ref (ad 0)), (1, .int (v1)), (2, .int (v2))]) rfl (fun ls hl => ?_)
  refine lv_iconst (v := (0 : Int32)) F.x F.b d_M_tried_24 (by decide) ?_
  refine lv_istore F.x F.b d_M_tried_25 hl (by decide) (lv' := [(4, .int ((0 : Int32))), (3, .int (q1.1)), (0, .ref (ad 0)), (1, .int (v1)), (2, .int (v2))]) rfl (fun ls hl => ?_)
  exact L27 FU q1.2 ((0 : Int32)) (q1.1) (v1) (v2) _ _ _ X (lv_sub hl [0, 1, 2, 3, 4] rfl) h
theorem hd_M_undone : y_M_undone.cls ≠ "java/lang/invoke/MethodHandle" ∧ y_M_undone.cls ≠ "java/lang/invoke/VarHandle" ∧ (parseMethodDescriptor y_M_undone.desc).map (fun d => d.parameters.length) = some 0 := ⟨by decide, by decide, by decide +kernel⟩
set_option maxRecDepth 100000 in
set_option maxHeartbeats 4000000 in
theorem c_M_undone (l : Launch) (D : Gd) (cI : ClassId) (ad : Nat → Nat) (z : St) (q : St) (h : f_M_undone z = some q) : CV l y_M_undone (.code y_M_undone b_M_undone 1 none) { frames := 1, cells := 0, slots := 0, locals := 64 } D [(cI, .int)] [.ref (ad 0)] (cM cI ad z) (cM cI ad q) 0 0 := by
  refine mk_v (by decide) (Nat.le_of_ble_eq_true rfl) ?_
  intro p e s m args below meth c A ls F X hr hl
  have hl : lv_has ls 1 [(0, .ref (ad 0))] := hl
  unfold f_M_undone at h
  refine lv_aload_n F.x F.b d_M_undone_0 rfl (lv_at hl 0 rfl) ?_
  refine r_get F X in_M 0 5 (gM_0 cI ad z) rfl (by decide) mt_444 rfl d_M_undone_1 ?_
  refine lv_iconst (v := (0 : Int32)) F.x F.b d_M_undone_4 (by decide) ?_
  refine lv_aload_n F.x F.b d_M_undone_5 rfl (lv_at hl 0 rfl) ?_
  refine r_get F X in_M 0 4 (gM_0 cI ad z) rfl (by decide) mt_443 rfl d_M_undone_6 ?_
  refine lv_iconst (v := (0 : Int32)) F.x F.b d_M_undone_9 (by decide) ?_
  refine lv_aload_n F.x F.b d_M_undone_10 rfl (lv_at hl 0 rfl) ?_
  refine r_get F X in_M 0 6 (gM_0 cI ad z) rfl (by decide) mt_445 rfl d_M_undone_11 ?_
  obtain ⟨hb1, h⟩ := it_b h
  refine va_copyi F.x F.b (F.2.2.1.trans hl.1.symm) F.2.2.2.1 (F.2.2.2.2.1 _ mt_530) (F.2.2.2.2.1 _ mt_271) (F.2.2.2.2.1 _ mt_270) (F.2.2.2.2.1 _ mt_11) F.2.2.2.2.2.1 X.1 X.2.1 X.2.2 5 4 0 0 (ty := .int) (gM_5 cI ad z) (gM_4 cI ad z) rfl rfl rfl (fun z9 => hb1 (Or.inl (Or.inl z9))) (fun z9 => hb1 (Or.inl (Or.inr (Or.inl z9)))) (fun z9 => hb1 (Or.inl (Or.inr (Or.inr z9)))) (Nat.le_of_not_lt fun z9 => hb1 (Or.inr (Or.inl z9))) (Nat.le_of_not_lt fun z9 => hb1 (Or.inr (Or.inr z9))) (fun _ _ => rfl) (by decide) (Nat.le_of_ble_eq_true rfl) d_M_undone_14 (fun H locs h1 h2 h3 => ?_)
  have X : Wd D A s (cM cI ad (wal z 3 (va_cpy (z.2 4) (z.2 3) ((0 : Int32)).toNatClampNeg ((0 : Int32)).toNatClampNeg (z.1 1).toNatClampNeg))) H locs := (aM_4 cI ad z _) ▸ (⟨h1, h2, h3⟩ : Wd D A s _ H locs)
  rw [← Option.some.inj h]
  exact fin_v F X hr d_M_undone_17
theorem hd_M_free : y_M_free.cls ≠ "java/lang/invoke/MethodHandle" ∧ y_M_free.cls ≠ "java/lang/invoke/VarHandle" ∧ (parseMethodDescriptor y_M_free.desc).map (fun d => d.parameters.length) = some 0 := ⟨by decide, by decide, by decide +kernel⟩
set_option maxRecDepth 100000 in
set_option maxHeartbeats 4000000 in
theorem c_M_free (l : Launch) (D : Gd) (cI : ClassId) (ad : Nat → Nat) (z : St) (q : Int32 × St) (h : f_M_free z = some q) : CI l y_M_free (.code y_M_free b_M_free 1 (some .int)) { frames := 1, cells := 0, slots := 0, locals := 23 } D [(cI, .int)] [.ref (ad 0)] (cM cI ad z) q.1 (cM cI ad q.2) 0 0 := by
  refine mk_i (by decide) (Nat.le_of_ble_eq_true rfl) ?_
  intro p e s m args below meth c A ls F X hr hl
  have hl : lv_has ls 1 [(0, .ref (ad 0))] := hl
  unfold f_M_free at h
  refine lv_aload_n F.x F.b d_M_free_0 rfl (lv_at hl 0 rfl) ?_
  refine lv_iconst (v := (0 : Int32)) F.x F.b d_M_free_1 (by decide) ?_
  refine r_put F X in_M t_M t_M_ok n_M 0 0 (gM_0 cI ad z) rfl (by decide) mt_439 rfl (t_M_ok 0 (by decide)) rfl rfl (Nat.le_of_ble_eq_true rfl) d_M_free_2 (pM_0 cI ad z _) (fun H locs X => ?_)
  refine lv_aload_n F.x F.b d_M_free_5 rfl (lv_at hl 0 rfl) ?_
  refine lv_iconst (v := (1 : Int32)) F.x F.b d_M_free_6 (by decide) ?_
  refine lv_aload_n F.x F.b d_M_free_7 rfl (lv_at hl 0 rfl) ?_
  refine r_get F X in_M 0 6 (gM_0 cI ad (wsc z 0 ((0 : Int32)))) rfl (by decide) mt_445 rfl d_M_free_8 ?_
  refine lv_sipush (v := (1000 : Int32)) F.x F.b d_M_free_11 (by decide) ?_
  refine lv_icmp_ne (tgt := 21) F.x F.b d_M_free_14 (by decide) (fun hc => ?_) (fun hc => ?_)
  · have h := it_e hc h
    refine lv_iconst (v := (0 : Int32)) F.x F.b d_M_free_21 (by decide) ?_
    obtain ⟨q1, hq1, h⟩ := it_c h
    refine r_vi F X hl.1 (c_M_refuse l D cI ad (wsc z 0 ((0 : Int32))) ((1 : Int32)) ((0 : Int32)) q1 hq1) (gM_0 cI ad (wsc z 0 ((0 : Int32)))) rfl mt_502 mt_504 ms_37 mt_5 mt_505 ⟨rfl, hd_M_refuse⟩ ⟨by decide, by decide⟩ ⟨rfl, rfl⟩ ⟨Nat.zero_le _, Nat.zero_le _⟩ rfl (Nat.le_of_ble_eq_true rfl) d_M_free_22 rfl (fun H locs X => ?_)
    refine lv_if_eq (tgt := 30) F.x F.b d_M_free_25 (by decide) (fun hc => ?_) (fun hc => ?_)
    · have h := it_t hc h
      refine lv_aload_n F.x F.b d_M_free_30 rfl (lv_at hl 0 rfl) ?_
      refine lv_iconst (v := (0 : Int32)) F.x F.b d_M_free_31 (by decide) ?_
      refine lv_iconst (v := (-1 : Int32)) F.x F.b d_M_free_32 (by decide) ?_
      refine lv_iconst (v := (-1 : Int32)) F.x F.b d_M_free_33 (by decide) ?_
      obtain ⟨q2, hq2, h⟩ := it_c h
      refine r_vi F X hl.1 (c_M_make l D cI ad q1.2 ((0 : Int32)) ((-1 : Int32)) ((-1 : Int32)) q2 hq2) (gM_0 cI ad q1.2) rfl mt_435 mt_437 ms_36 mt_5 mt_438 ⟨rfl, hd_M_make⟩ ⟨by decide, by decide⟩ ⟨rfl, rfl⟩ ⟨Nat.zero_le _, Nat.zero_le _⟩ rfl (Nat.le_of_ble_eq_true rfl) d_M_free_34 rfl (fun H locs X => ?_)
      rw [← Option.some.inj h]
      exact fin_i F X hr d_M_free_37
    · have h := it_e hc h
      refine lv_iconst (v := (0 : Int32)) F.x F.b d_M_free_28 (by decide) ?_
      rw [← Option.some.inj h]
      exact fin_i F X hr d_M_free_29
  · have h := it_t hc h
    refine lv_iconst (v := (1 : Int32)) F.x F.b d_M_free_17 (by decide) ?_
    refine lv_goto (tgt := 22) F.x F.b d_M_free_18 (by decide) ?_
    obtain ⟨q3, hq3, h⟩ := it_c h
    refine r_vi F X hl.1 (c_M_refuse l D cI ad (wsc z 0 ((0 : Int32))) ((1 : Int32)) ((1 : Int32)) q3 hq3) (gM_0 cI ad (wsc z 0 ((0 : Int32)))) rfl mt_502 mt_504 ms_37 mt_5 mt_505 ⟨rfl, hd_M_refuse⟩ ⟨by decide, by decide⟩ ⟨rfl, rfl⟩ ⟨Nat.zero_le _, Nat.zero_le _⟩ rfl (Nat.le_of_ble_eq_true rfl) d_M_free_22 rfl (fun H locs X => ?_)
    refine lv_if_eq (tgt := 30) F.x F.b d_M_free_25 (by decide) (fun hc => ?_) (fun hc => ?_)
    · have h := it_t hc h
      refine lv_aload_n F.x F.b d_M_free_30 rfl (lv_at hl 0 rfl) ?_
      refine lv_iconst (v := (0 : Int32)) F.x F.b d_M_free_31 (by decide) ?_
      refine lv_iconst (v := (-1 : Int32)) F.x F.b d_M_free_32 (by decide) ?_
      refine lv_iconst (v := (-1 : Int32)) F.x F.b d_M_free_33 (by decide) ?_
      obtain ⟨q4, hq4, h⟩ := it_c h
      refine r_vi F X hl.1 (c_M_make l D cI ad q3.2 ((0 : Int32)) ((-1 : Int32)) ((-1 : Int32)) q4 hq4) (gM_0 cI ad q3.2) rfl mt_435 mt_437 ms_36 mt_5 mt_438 ⟨rfl, hd_M_make⟩ ⟨by decide, by decide⟩ ⟨rfl, rfl⟩ ⟨Nat.zero_le _, Nat.zero_le _⟩ rfl (Nat.le_of_ble_eq_true rfl) d_M_free_34 rfl (fun H locs X => ?_)
      rw [← Option.some.inj h]
      exact fin_i F X hr d_M_free_37
    · have h := it_e hc h
      refine lv_iconst (v := (0 : Int32)) F.x F.b d_M_free_28 (by decide) ?_
      rw [← Option.some.inj h]
      exact fin_i F X hr d_M_free_29
theorem hd_M_made : y_M_made.cls ≠ "java/lang/invoke/MethodHandle" ∧ y_M_made.cls ≠ "java/lang/invoke/VarHandle" ∧ (parseMethodDescriptor y_M_made.desc).map (fun d => d.parameters.length) = some 3 := ⟨by decide, by decide, by decide +kernel⟩
set_option maxRecDepth 100000 in
set_option maxHeartbeats 4000000 in
theorem c_M_made (l : Launch) (D : Gd) (cI : ClassId) (ad : Nat → Nat) (z : St) (v1 v2 v3 : Int32) (q : Int32 × St) (h : f_M_made z v1 v2 v3 = some q) : CI l y_M_made (.code y_M_made b_M_made 4 (some .int)) { frames := 2, cells := 0, slots := 0, locals := 43 } D [(cI, .int)] [.ref (ad 0), .int v1, .int v2, .int v3] (cM cI ad z) q.1 (cM cI ad q.2) 0 0 := by
  refine mk_i (by decide) (Nat.le_of_ble_eq_true rfl) ?_
  intro p e s m args below meth c A ls F X hr hl
  have hl : lv_has ls 4 [(0, .ref (ad 0)), (1, .int (v1)), (2, .int (v2)), (3, .int (v3))] := hl
  unfold f_M_made at h
  refine lv_aload_n F.x F.b d_M_made_0 rfl (lv_at hl 0 rfl) ?_
  refine lv_iload_n F.x F.b d_M_made_1 rfl (lv_at hl 2 rfl) ?_
  obtain ⟨q1, hq1, h⟩ := it_c h
  refine r_vi F X hl.1 (c_M_none l D cI ad z (v2) q1 hq1) (gM_0 cI ad z) rfl mt_514 mt_516 ms_39 mt_5 mt_517 ⟨rfl, hd_M_none⟩ ⟨by decide, by decide⟩ ⟨rfl, rfl⟩ ⟨Nat.zero_le _, Nat.zero_le _⟩ rfl (Nat.le_of_ble_eq_true rfl) d_M_made_2 rfl (fun H locs X => ?_)
  refine lv_if_ne (tgt := 39) F.x F.b d_M_made_5 (by decide) (fun hc => ?_) (fun hc => ?_)
  · have h := it_e hc h
    refine lv_iconst (v := (0 : Int32)) F.x F.b d_M_made_39 (by decide) ?_
    rw [← Option.some.inj h]
    exact fin_i F X hr d_M_made_40
  · have h := it_t hc h
    refine lv_aload_n F.x F.b d_M_made_8 rfl (lv_at hl 0 rfl) ?_
    refine lv_iload_n F.x F.b d_M_made_9 rfl (lv_at hl 3 rfl) ?_
    obtain ⟨q2, hq2, h⟩ := it_c h
    refine r_vi F X hl.1 (c_M_none l D cI ad q1.2 (v3) q2 hq2) (gM_0 cI ad q1.2) rfl mt_514 mt_516 ms_39 mt_5 mt_517 ⟨rfl, hd_M_none⟩ ⟨by decide, by decide⟩ ⟨rfl, rfl⟩ ⟨Nat.zero_le _, Nat.zero_le _⟩ rfl (Nat.le_of_ble_eq_true rfl) d_M_made_10 rfl (fun H locs X => ?_)
    refine lv_if_ne (tgt := 39) F.x F.b d_M_made_13 (by decide) (fun hc => ?_) (fun hc => ?_)
    · have h := it_e hc h
      refine lv_iconst (v := (0 : Int32)) F.x F.b d_M_made_39 (by decide) ?_
      rw [← Option.some.inj h]
      exact fin_i F X hr d_M_made_40
    · have h := it_t hc h
      refine lv_aload_n F.x F.b d_M_made_16 rfl (lv_at hl 0 rfl) ?_
      refine lv_iconst (v := (2 : Int32)) F.x F.b d_M_made_17 (by decide) ?_
      refine lv_aload_n F.x F.b d_M_made_18 rfl (lv_at hl 0 rfl) ?_
      refine r_get F X in_M 0 6 (gM_0 cI ad q2.2) rfl (by decide) mt_445 rfl d_M_made_19 ?_
      refine lv_sipush (v := (1000 : Int32)) F.x F.b d_M_made_22 (by decide) ?_
      refine lv_icmp_ne (tgt := 32) F.x F.b d_M_made_25 (by decide) (fun hc => ?_) (fun hc => ?_)
      · have h := it_e hc h
        refine lv_iconst (v := (0 : Int32)) F.x F.b d_M_made_32 (by decide) ?_
        obtain ⟨q3, hq3, h⟩ := it_c h
        refine r_vi F X hl.1 (c_M_refuse l D cI ad q2.2 ((2 : Int32)) ((0 : Int32)) q3 hq3) (gM_0 cI ad q2.2) rfl mt_502 mt_504 ms_37 mt_5 mt_505 ⟨rfl, hd_M_refuse⟩ ⟨by decide, by decide⟩ ⟨rfl, rfl⟩ ⟨Nat.zero_le _, Nat.zero_le _⟩ rfl (Nat.le_of_ble_eq_true rfl) d_M_made_33 rfl (fun H locs X => ?_)
        refine lv_if_eq (tgt := 41) F.x F.b d_M_made_36 (by decide) (fun hc => ?_) (fun hc => ?_)
        · have h := it_t hc h
          refine lv_aload_n F.x F.b d_M_made_41 rfl (lv_at hl 0 rfl) ?_
          refine lv_iload_n F.x F.b d_M_made_42 rfl (lv_at hl 1 rfl) ?_
          refine lv_iload_n F.x F.b d_M_made_43 rfl (lv_at hl 2 rfl) ?_
          refine lv_iload_n F.x F.b d_M_made_44 rfl (lv_at hl 3 rfl) ?_
          obtain ⟨q4, hq4, h⟩ := it_c h
          refine r_vi F X hl.1 (c_M_make l D cI ad q3.2 (v1) (v2) (v3) q4 hq4) (gM_0 cI ad q3.2) rfl mt_435 mt_437 ms_36 mt_5 mt_438 ⟨rfl, hd_M_make⟩ ⟨by decide, by decide⟩ ⟨rfl, rfl⟩ ⟨Nat.zero_le _, Nat.zero_le _⟩ rfl (Nat.le_of_ble_eq_true rfl) d_M_made_45 rfl (fun H locs X => ?_)
          rw [← Option.some.inj h]
          exact fin_i F X hr d_M_made_48
        · have h := it_e hc h
          refine lv_iconst (v := (0 : Int32)) F.x F.b d_M_made_39 (by decide) ?_
          rw [← Option.some.inj h]
          exact fin_i F X hr d_M_made_40
      · have h := it_t hc h
        refine lv_iconst (v := (1 : Int32)) F.x F.b d_M_made_28 (by decide) ?_
        refine lv_goto (tgt := 33) F.x F.b d_M_made_29 (by decide) ?_
        obtain ⟨q5, hq5, h⟩ := it_c h
        refine r_vi F X hl.1 (c_M_refuse l D cI ad q2.2 ((2 : Int32)) ((1 : Int32)) q5 hq5) (gM_0 cI ad q2.2) rfl mt_502 mt_504 ms_37 mt_5 mt_505 ⟨rfl, hd_M_refuse⟩ ⟨by decide, by decide⟩ ⟨rfl, rfl⟩ ⟨Nat.zero_le _, Nat.zero_le _⟩ rfl (Nat.le_of_ble_eq_true rfl) d_M_made_33 rfl (fun H locs X => ?_)
        refine lv_if_eq (tgt := 41) F.x F.b d_M_made_36 (by decide) (fun hc => ?_) (fun hc => ?_)
        · have h := it_t hc h
          refine lv_aload_n F.x F.b d_M_made_41 rfl (lv_at hl 0 rfl) ?_
          refine lv_iload_n F.x F.b d_M_made_42 rfl (lv_at hl 1 rfl) ?_
          refine lv_iload_n F.x F.b d_M_made_43 rfl (lv_at hl 2 rfl) ?_
          refine lv_iload_n F.x F.b d_M_made_44 rfl (lv_at hl 3 rfl) ?_
          obtain ⟨q6, hq6, h⟩ := it_c h
          refine r_vi F X hl.1 (c_M_make l D cI ad q5.2 (v1) (v2) (v3) q6 hq6) (gM_0 cI ad q5.2) rfl mt_435 mt_437 ms_36 mt_5 mt_438 ⟨rfl, hd_M_make⟩ ⟨by decide, by decide⟩ ⟨rfl, rfl⟩ ⟨Nat.zero_le _, Nat.zero_le _⟩ rfl (Nat.le_of_ble_eq_true rfl) d_M_made_45 rfl (fun H locs X => ?_)
          rw [← Option.some.inj h]
          exact fin_i F X hr d_M_made_48
        · have h := it_e hc h
          refine lv_iconst (v := (0 : Int32)) F.x F.b d_M_made_39 (by decide) ?_
          rw [← Option.some.inj h]
          exact fin_i F X hr d_M_made_40
theorem hd_M_sum : y_M_sum.cls ≠ "java/lang/invoke/MethodHandle" ∧ y_M_sum.cls ≠ "java/lang/invoke/VarHandle" ∧ (parseMethodDescriptor y_M_sum.desc).map (fun d => d.parameters.length) = some 2 := ⟨by decide, by decide, by decide +kernel⟩
set_option maxRecDepth 100000 in
set_option maxHeartbeats 4000000 in
theorem c_M_sum (l : Launch) (D : Gd) (cI : ClassId) (ad : Nat → Nat) (z : St) (v1 v2 : Int32) (q : Int32 × St) (h : f_M_sum z v1 v2 = some q) : CI l y_M_sum (.code y_M_sum b_M_sum 3 (some .int)) { frames := 3, cells := 0, slots := 0, locals := 66 } D [(cI, .int)] [.ref (ad 0), .int v1, .int v2] (cM cI ad z) q.1 (cM cI ad q.2) 0 0 := by
  refine mk_i (by decide) (Nat.le_of_ble_eq_true rfl) ?_
  intro p e s m args below meth c A ls F X hr hl
  have hl : lv_has ls 3 [(0, .ref (ad 0)), (1, .int (v1)), (2, .int (v2))] := hl
  unfold f_M_sum at h
  refine lv_aload_n F.x F.b d_M_sum_0 rfl (lv_at hl 0 rfl) ?_
  refine lv_iconst (v := (2 : Int32)) F.x F.b d_M_sum_1 (by decide) ?_
  refine lv_iload_n F.x F.b d_M_sum_2 rfl (lv_at hl 1 rfl) ?_
  refine lv_iload_n F.x F.b d_M_sum_3 rfl (lv_at hl 2 rfl) ?_
  obtain ⟨q1, hq1, h⟩ := it_c h
  refine r_vi F X hl.1 (c_M_made l D cI ad z ((2 : Int32)) (v1) (v2) q1 hq1) (gM_0 cI ad z) rfl mt_510 mt_512 ms_38 mt_5 mt_513 ⟨rfl, hd_M_made⟩ ⟨by decide, by decide⟩ ⟨rfl, rfl⟩ ⟨Nat.zero_le _, Nat.zero_le _⟩ rfl (Nat.le_of_ble_eq_true rfl) d_M_sum_4 rfl (fun H locs X => ?_)
  rw [← Option.some.inj h]
  exact fin_i F X hr d_M_sum_7
theorem hd_M_pair : y_M_pair.cls ≠ "java/lang/invoke/MethodHandle" ∧ y_M_pair.cls ≠ "java/lang/invoke/VarHandle" ∧ (parseMethodDescriptor y_M_pair.desc).map (fun d => d.parameters.length) = some 2 := ⟨by decide, by decide, by decide +kernel⟩
set_option maxRecDepth 100000 in
set_option maxHeartbeats 4000000 in
theorem c_M_pair (l : Launch) (D : Gd) (cI : ClassId) (ad : Nat → Nat) (z : St) (v1 v2 : Int32) (q : Int32 × St) (h : f_M_pair z v1 v2 = some q) : CI l y_M_pair (.code y_M_pair b_M_pair 3 (some .int)) { frames := 3, cells := 0, slots := 0, locals := 66 } D [(cI, .int)] [.ref (ad 0), .int v1, .int v2] (cM cI ad z) q.1 (cM cI ad q.2) 0 0 := by
  refine mk_i (by decide) (Nat.le_of_ble_eq_true rfl) ?_
  intro p e s m args below meth c A ls F X hr hl
  have hl : lv_has ls 3 [(0, .ref (ad 0)), (1, .int (v1)), (2, .int (v2))] := hl
  unfold f_M_pair at h
  refine lv_aload_n F.x F.b d_M_pair_0 rfl (lv_at hl 0 rfl) ?_
  refine lv_iconst (v := (3 : Int32)) F.x F.b d_M_pair_1 (by decide) ?_
  refine lv_iload_n F.x F.b d_M_pair_2 rfl (lv_at hl 1 rfl) ?_
  refine lv_iload_n F.x F.b d_M_pair_3 rfl (lv_at hl 2 rfl) ?_
  obtain ⟨q1, hq1, h⟩ := it_c h
  refine r_vi F X hl.1 (c_M_made l D cI ad z ((3 : Int32)) (v1) (v2) q1 hq1) (gM_0 cI ad z) rfl mt_510 mt_512 ms_38 mt_5 mt_513 ⟨rfl, hd_M_made⟩ ⟨by decide, by decide⟩ ⟨rfl, rfl⟩ ⟨Nat.zero_le _, Nat.zero_le _⟩ rfl (Nat.le_of_ble_eq_true rfl) d_M_pair_4 rfl (fun H locs X => ?_)
  rw [← Option.some.inj h]
  exact fin_i F X hr d_M_pair_7
theorem hd_M_join : y_M_join.cls ≠ "java/lang/invoke/MethodHandle" ∧ y_M_join.cls ≠ "java/lang/invoke/VarHandle" ∧ (parseMethodDescriptor y_M_join.desc).map (fun d => d.parameters.length) = some 2 := ⟨by decide, by decide, by decide +kernel⟩
set_option maxRecDepth 100000 in
set_option maxHeartbeats 4000000 in
theorem c_M_join (l : Launch) (D : Gd) (cI : ClassId) (ad : Nat → Nat) (z : St) (v1 v2 : Int32) (q : Int32 × St) (h : f_M_join z v1 v2 = some q) : CI l y_M_join (.code y_M_join b_M_join 4 (some .boolean)) { frames := 1103, cells := 0, slots := 0, locals := 26470 } D [(cI, .int)] [.ref (ad 0), .int v1, .int v2] (cM cI ad z) q.1 (cM cI ad q.2) 0 0 := by
  refine mk_i (by decide) (Nat.le_of_ble_eq_true rfl) ?_
  intro p e s m args below meth c A ls F X hr hl
  have hl : lv_has ls 4 [(0, .ref (ad 0)), (1, .int (v1)), (2, .int (v2))] := hl
  unfold f_M_join at h
  refine lv_aload_n F.x F.b d_M_join_0 rfl (lv_at hl 0 rfl) ?_
  refine lv_iload_n F.x F.b d_M_join_1 rfl (lv_at hl 1 rfl) ?_
  obtain ⟨q1, hq1, h⟩ := it_c h
  refine r_vi F X hl.1 (c_M_none l D cI ad z (v1) q1 hq1) (gM_0 cI ad z) rfl mt_514 mt_516 ms_39 mt_5 mt_517 ⟨rfl, hd_M_none⟩ ⟨by decide, by decide⟩ ⟨rfl, rfl⟩ ⟨Nat.zero_le _, Nat.zero_le _⟩ rfl (Nat.le_of_ble_eq_true rfl) d_M_join_2 rfl (fun H locs X => ?_)
  refine lv_if_ne (tgt := 16) F.x F.b d_M_join_5 (by decide) (fun hc => ?_) (fun hc => ?_)
  · have h := it_e hc h
    refine lv_iconst (v := (0 : Int32)) F.x F.b d_M_join_16 (by decide) ?_
    rw [← Option.some.inj h]
    exact fin_z F X hr (Or.inl rfl) d_M_join_17
  · have h := it_t hc h
    refine lv_aload_n F.x F.b d_M_join_8 rfl (lv_at hl 0 rfl) ?_
    refine lv_iload_n F.x F.b d_M_join_9 rfl (lv_at hl 2 rfl) ?_
    obtain ⟨q2, hq2, h⟩ := it_c h
    refine r_vi F X hl.1 (c_M_none l D cI ad q1.2 (v2) q2 hq2) (gM_0 cI ad q1.2) rfl mt_514 mt_516 ms_39 mt_5 mt_517 ⟨rfl, hd_M_none⟩ ⟨by decide, by decide⟩ ⟨rfl, rfl⟩ ⟨Nat.zero_le _, Nat.zero_le _⟩ rfl (Nat.le_of_ble_eq_true rfl) d_M_join_10 rfl (fun H locs X => ?_)
    refine lv_if_eq (tgt := 18) F.x F.b d_M_join_13 (by decide) (fun hc => ?_) (fun hc => ?_)
    · have h := it_t hc h
      refine lv_aload_n F.x F.b d_M_join_18 rfl (lv_at hl 0 rfl) ?_
      refine lv_iload_n F.x F.b d_M_join_19 rfl (lv_at hl 1 rfl) ?_
      refine lv_iload_n F.x F.b d_M_join_20 rfl (lv_at hl 2 rfl) ?_
      obtain ⟨q3, hq3, h⟩ := it_c h
      refine r_vi F X hl.1 (c_M_tried l D cI ad q2.2 (v1) (v2) q3 hq3) (gM_0 cI ad q2.2) rfl mt_526 mt_528 ms_40 mt_5 mt_529 ⟨rfl, hd_M_tried⟩ ⟨by decide, by decide⟩ ⟨rfl, rfl⟩ ⟨Nat.zero_le _, Nat.zero_le _⟩ rfl (Nat.le_of_ble_eq_true rfl) d_M_join_21 rfl (fun H locs X => ?_)
      refine lv_istore_n F.x F.b d_M_join_24 rfl hl (by decide) (lv' := [(3, .int (q3.1)), (0, .ref (ad 0)), (1, .int (v1)), (2, .int (v2))]) rfl (fun ls hl => ?_)
      refine lv_iload_n F.x F.b d_M_join_25 rfl (lv_at hl 0 rfl) ?_
      refine lv_if_ne (tgt := 33) F.x F.b d_M_join_26 (by decide) (fun hc => ?_) (fun hc => ?_)
      · have h := it_e hc h
        refine lv_aload_n F.x F.b d_M_join_33 rfl (lv_at hl 1 rfl) ?_
        refine lv_iconst (v := (0 : Int32)) F.x F.b d_M_join_34 (by decide) ?_
        refine r_put F X in_M t_M t_M_ok n_M 0 13 (gM_0 cI ad q3.2) rfl (by decide) mt_452 rfl (t_M_ok 13 (by decide)) rfl rfl (Nat.le_of_ble_eq_true rfl) d_M_join_35 (pM_3 cI ad q3.2 _) (fun H locs X => ?_)
        refine lv_iload_n F.x F.b d_M_join_38 rfl (lv_at hl 0 rfl) ?_
        obtain ⟨hb4, h⟩ := it_b h
        rw [← Option.some.inj h]
        exact fin_z F X hr (Decidable.not_not.mp hb4) d_M_join_39
      · have h := it_t hc h
        refine lv_aload_n F.x F.b d_M_join_29 rfl (lv_at hl 1 rfl) ?_
        obtain ⟨q5, hq5, h⟩ := it_c h
        refine r_vv F X hl.1 (c_M_undone l D cI ad q3.2 q5 hq5) (gM_0 cI ad q3.2) rfl mt_543 mt_545 ms_44 mt_5 mt_546 ⟨rfl, hd_M_undone⟩ ⟨by decide, by decide⟩ ⟨rfl, rfl⟩ ⟨Nat.zero_le _, Nat.zero_le _⟩ rfl (Nat.le_of_ble_eq_true rfl) d_M_join_30 rfl (fun H locs X => ?_)
        refine lv_aload_n F.x F.b d_M_join_33 rfl (lv_at hl 1 rfl) ?_
        refine lv_iconst (v := (0 : Int32)) F.x F.b d_M_join_34 (by decide) ?_
        refine r_put F X in_M t_M t_M_ok n_M 0 13 (gM_0 cI ad q5) rfl (by decide) mt_452 rfl (t_M_ok 13 (by decide)) rfl rfl (Nat.le_of_ble_eq_true rfl) d_M_join_35 (pM_3 cI ad q5 _) (fun H locs X => ?_)
        refine lv_iload_n F.x F.b d_M_join_38 rfl (lv_at hl 0 rfl) ?_
        obtain ⟨hb6, h⟩ := it_b h
        rw [← Option.some.inj h]
        exact fin_z F X hr (Decidable.not_not.mp hb6) d_M_join_39
    · have h := it_e hc h
      refine lv_iconst (v := (0 : Int32)) F.x F.b d_M_join_16 (by decide) ?_
      rw [← Option.some.inj h]
      exact fin_z F X hr (Or.inl rfl) d_M_join_17
theorem hd_M_alike : y_M_alike.cls ≠ "java/lang/invoke/MethodHandle" ∧ y_M_alike.cls ≠ "java/lang/invoke/VarHandle" ∧ (parseMethodDescriptor y_M_alike.desc).map (fun d => d.parameters.length) = some 2 := ⟨by decide, by decide, by decide +kernel⟩
set_option maxRecDepth 100000 in
set_option maxHeartbeats 4000000 in
theorem c_M_alike (l : Launch) (D : Gd) (cI : ClassId) (ad : Nat → Nat) (z : St) (v1 v2 : Int32) (q : Int32 × St) (h : f_M_alike z v1 v2 = some q) : CI l y_M_alike (.code y_M_alike b_M_alike 4 (some .boolean)) { frames := 1103, cells := 0, slots := 0, locals := 26470 } D [(cI, .int)] [.ref (ad 0), .int v1, .int v2] (cM cI ad z) q.1 (cM cI ad q.2) 0 0 := by
  refine mk_i (by decide) (Nat.le_of_ble_eq_true rfl) ?_
  intro p e s m args below meth c A ls F X hr hl
  have hl : lv_has ls 4 [(0, .ref (ad 0)), (1, .int (v1)), (2, .int (v2))] := hl
  unfold f_M_alike at h
  refine lv_aload_n F.x F.b d_M_alike_0 rfl (lv_at hl 0 rfl) ?_
  refine lv_iload_n F.x F.b d_M_alike_1 rfl (lv_at hl 1 rfl) ?_
  obtain ⟨q1, hq1, h⟩ := it_c h
  refine r_vi F X hl.1 (c_M_none l D cI ad z (v1) q1 hq1) (gM_0 cI ad z) rfl mt_514 mt_516 ms_39 mt_5 mt_517 ⟨rfl, hd_M_none⟩ ⟨by decide, by decide⟩ ⟨rfl, rfl⟩ ⟨Nat.zero_le _, Nat.zero_le _⟩ rfl (Nat.le_of_ble_eq_true rfl) d_M_alike_2 rfl (fun H locs X => ?_)
  refine lv_if_ne (tgt := 16) F.x F.b d_M_alike_5 (by decide) (fun hc => ?_) (fun hc => ?_)
  · have h := it_e hc h
    refine lv_iconst (v := (0 : Int32)) F.x F.b d_M_alike_16 (by decide) ?_
    rw [← Option.some.inj h]
    exact fin_z F X hr (Or.inl rfl) d_M_alike_17
  · have h := it_t hc h
    refine lv_aload_n F.x F.b d_M_alike_8 rfl (lv_at hl 0 rfl) ?_
    refine lv_iload_n F.x F.b d_M_alike_9 rfl (lv_at hl 2 rfl) ?_
    obtain ⟨q2, hq2, h⟩ := it_c h
    refine r_vi F X hl.1 (c_M_none l D cI ad q1.2 (v2) q2 hq2) (gM_0 cI ad q1.2) rfl mt_514 mt_516 ms_39 mt_5 mt_517 ⟨rfl, hd_M_none⟩ ⟨by decide, by decide⟩ ⟨rfl, rfl⟩ ⟨Nat.zero_le _, Nat.zero_le _⟩ rfl (Nat.le_of_ble_eq_true rfl) d_M_alike_10 rfl (fun H locs X => ?_)
    refine lv_if_eq (tgt := 18) F.x F.b d_M_alike_13 (by decide) (fun hc => ?_) (fun hc => ?_)
    · have h := it_t hc h
      refine lv_aload_n F.x F.b d_M_alike_18 rfl (lv_at hl 0 rfl) ?_
      refine lv_iload_n F.x F.b d_M_alike_19 rfl (lv_at hl 1 rfl) ?_
      refine lv_iload_n F.x F.b d_M_alike_20 rfl (lv_at hl 2 rfl) ?_
      obtain ⟨q3, hq3, h⟩ := it_c h
      refine r_vi F X hl.1 (c_M_tried l D cI ad q2.2 (v1) (v2) q3 hq3) (gM_0 cI ad q2.2) rfl mt_526 mt_528 ms_40 mt_5 mt_529 ⟨rfl, hd_M_tried⟩ ⟨by decide, by decide⟩ ⟨rfl, rfl⟩ ⟨Nat.zero_le _, Nat.zero_le _⟩ rfl (Nat.le_of_ble_eq_true rfl) d_M_alike_21 rfl (fun H locs X => ?_)
      refine lv_istore_n F.x F.b d_M_alike_24 rfl hl (by decide) (lv' := [(3, .int (q3.1)), (0, .ref (ad 0)), (1, .int (v1)), (2, .int (v2))]) rfl (fun ls hl => ?_)
      refine lv_aload_n F.x F.b d_M_alike_25 rfl (lv_at hl 1 rfl) ?_
      obtain ⟨q4, hq4, h⟩ := it_c h
      refine r_vv F X hl.1 (c_M_undone l D cI ad q3.2 q4 hq4) (gM_0 cI ad q3.2) rfl mt_543 mt_545 ms_44 mt_5 mt_546 ⟨rfl, hd_M_undone⟩ ⟨by decide, by decide⟩ ⟨rfl, rfl⟩ ⟨Nat.zero_le _, Nat.zero_le _⟩ rfl (Nat.le_of_ble_eq_true rfl) d_M_alike_26 rfl (fun H locs X => ?_)
      refine lv_iload_n F.x F.b d_M_alike_29 rfl (lv_at hl 0 rfl) ?_
      obtain ⟨hb5, h⟩ := it_b h
      rw [← Option.some.inj h]
      exact fin_z F X hr (Decidable.not_not.mp hb5) d_M_alike_30
    · have h := it_e hc h
      refine lv_iconst (v := (0 : Int32)) F.x F.b d_M_alike_16 (by decide) ?_
      rw [← Option.some.inj h]
      exact fin_z F X hr (Or.inl rfl) d_M_alike_17
theorem hd_M_same : y_M_same.cls ≠ "java/lang/invoke/MethodHandle" ∧ y_M_same.cls ≠ "java/lang/invoke/VarHandle" ∧ (parseMethodDescriptor y_M_same.desc).map (fun d => d.parameters.length) = some 2 := ⟨by decide, by decide, by decide +kernel⟩
set_option maxRecDepth 100000 in
set_option maxHeartbeats 4000000 in
theorem c_M_same (l : Launch) (D : Gd) (cI : ClassId) (ad : Nat → Nat) (z : St) (v1 v2 : Int32) (q : Int32 × St) (h : f_M_same z v1 v2 = some q) : CI l y_M_same (.code y_M_same b_M_same 3 (some .boolean)) { frames := 1104, cells := 0, slots := 0, locals := 27590 } D [(cI, .int)] [.ref (ad 0), .int v1, .int v2] (cM cI ad z) q.1 (cM cI ad q.2) 0 0 := by
  refine mk_i (by decide) (Nat.le_of_ble_eq_true rfl) ?_
  intro p e s m args below meth c A ls F X hr hl
  have hl : lv_has ls 3 [(0, .ref (ad 0)), (1, .int (v1)), (2, .int (v2))] := hl
  unfold f_M_same at h
  refine lv_aload_n F.x F.b d_M_same_0 rfl (lv_at hl 0 rfl) ?_
  refine lv_iload_n F.x F.b d_M_same_1 rfl (lv_at hl 1 rfl) ?_
  obtain ⟨q1, hq1, h⟩ := it_c h
  refine r_vi F X hl.1 (c_M_unknown l D cI ad z (v1) q1 hq1) (gM_0 cI ad z) rfl mt_555 mt_557 ms_45 mt_5 mt_558 ⟨rfl, hd_M_unknown⟩ ⟨by decide, by decide⟩ ⟨rfl, rfl⟩ ⟨Nat.zero_le _, Nat.zero_le _⟩ rfl (Nat.le_of_ble_eq_true rfl) d_M_same_2 rfl (fun H locs X => ?_)
  refine lv_if_ne (tgt := 16) F.x F.b d_M_same_5 (by decide) (fun hc => ?_) (fun hc => ?_)
  · have h := it_e hc h
    refine lv_iconst (v := (0 : Int32)) F.x F.b d_M_same_16 (by decide) ?_
    rw [← Option.some.inj h]
    exact fin_z F X hr (Or.inl rfl) d_M_same_17
  · have h := it_t hc h
    refine lv_aload_n F.x F.b d_M_same_8 rfl (lv_at hl 0 rfl) ?_
    refine lv_iload_n F.x F.b d_M_same_9 rfl (lv_at hl 2 rfl) ?_
    obtain ⟨q2, hq2, h⟩ := it_c h
    refine r_vi F X hl.1 (c_M_none l D cI ad q1.2 (v2) q2 hq2) (gM_0 cI ad q1.2) rfl mt_514 mt_516 ms_39 mt_5 mt_517 ⟨rfl, hd_M_none⟩ ⟨by decide, by decide⟩ ⟨rfl, rfl⟩ ⟨Nat.zero_le _, Nat.zero_le _⟩ rfl (Nat.le_of_ble_eq_true rfl) d_M_same_10 rfl (fun H locs X => ?_)
    refine lv_if_eq (tgt := 18) F.x F.b d_M_same_13 (by decide) (fun hc => ?_) (fun hc => ?_)
    · have h := it_t hc h
      refine lv_aload_n F.x F.b d_M_same_18 rfl (lv_at hl 0 rfl) ?_
      refine r_get F X in_M 0 7 (gM_0 cI ad q2.2) rfl (by decide) mt_446 rfl d_M_same_19 ?_
      refine lv_iload_n F.x F.b d_M_same_22 rfl (lv_at hl 1 rfl) ?_
      obtain ⟨hb4, h⟩ := it_b h
      refine r_ald F X 6 0 (gM_6 cI ad q2.2) rfl hb4 d_M_same_23 ?_
      refine lv_aload_n F.x F.b d_M_same_24 rfl (lv_at hl 0 rfl) ?_
      refine r_get F X in_M 0 7 (gM_0 cI ad q2.2) rfl (by decide) mt_446 rfl d_M_same_25 ?_
      refine lv_iload_n F.x F.b d_M_same_28 rfl (lv_at hl 2 rfl) ?_
      obtain ⟨hb3, h⟩ := it_b h
      refine r_ald F X 6 0 (gM_6 cI ad q2.2) rfl hb3 d_M_same_29 ?_
      refine lv_icmp_ne (tgt := 37) F.x F.b d_M_same_30 (by decide) (fun hc => ?_) (fun hc => ?_)
      · have h := it_e hc h
        refine lv_iconst (v := (0 : Int32)) F.x F.b d_M_same_37 (by decide) ?_
        rw [← Option.some.inj h]
        exact fin_z F X hr (Or.inl rfl) d_M_same_38
      · have h := it_t hc h
        refine lv_iconst (v := (1 : Int32)) F.x F.b d_M_same_33 (by decide) ?_
        refine lv_goto (tgt := 38) F.x F.b d_M_same_34 (by decide) ?_
        rw [← Option.some.inj h]
        exact fin_z F X hr (Or.inr rfl) d_M_same_38
    · have h := it_e hc h
      refine lv_iconst (v := (0 : Int32)) F.x F.b d_M_same_16 (by decide) ?_
      rw [← Option.some.inj h]
      exact fin_z F X hr (Or.inl rfl) d_M_same_17
theorem hd_M_put : y_M_put.cls ≠ "java/lang/invoke/MethodHandle" ∧ y_M_put.cls ≠ "java/lang/invoke/VarHandle" ∧ (parseMethodDescriptor y_M_put.desc).map (fun d => d.parameters.length) = some 2 := ⟨by decide, by decide, by decide +kernel⟩
set_option maxRecDepth 100000 in
set_option maxHeartbeats 4000000 in
theorem c_M_put (l : Launch) (D : Gd) (cI : ClassId) (ad : Nat → Nat) : ∀ (d : Nat) (z : St) (v1 v2 : Int32) (q : Int32 × St) (h : f_M_put d z v1 v2 = some q), CI l y_M_put (.code y_M_put b_M_put 3 (some .boolean)) { frames := d + 0, cells := 0, slots := 0, locals := (d) * 22 + 0 } D [(cI, .int)] [.ref (ad 0), .int v1, .int v2] (cM cI ad z) q.1 (cM cI ad q.2) 0 0 := by
  intro d
  induction d with
  | zero => intro z v1 v2 q h; cases h
  | succ d IH =>
  intro z v1 v2 q h
  refine mk_i (by decide) (Nat.le_of_ble_eq_true rfl) ?_
  intro p e s m args below meth c A ls F X hr hl
  have hl : lv_has ls 3 [(0, .ref (ad 0)), (1, .int (v1)), (2, .int (v2))] := hl
  rw [ f_M_put] at h
  refine lv_aload_n F.x F.b d_M_put_0 rfl (lv_at hl 0 rfl) ?_
  refine r_get F X in_M 0 15 (gM_0 cI ad z) rfl (by decide) mt_454 rfl d_M_put_1 ?_
  refine lv_iload_n F.x F.b d_M_put_4 rfl (lv_at hl 1 rfl) ?_
  obtain ⟨hb18, h⟩ := it_b h
  refine r_ald F X 12 0 (gM_12 cI ad z) rfl hb18 d_M_put_5 ?_
  refine lv_if_ge (tgt := 18) F.x F.b d_M_put_6 (by decide) (fun hc => ?_) (fun hc => ?_)
  · have h := it_t hc h
    refine lv_aload_n F.x F.b d_M_put_18 rfl (lv_at hl 0 rfl) ?_
    refine r_get F X in_M 0 15 (gM_0 cI ad z) rfl (by decide) mt_454 rfl d_M_put_19 ?_
    refine lv_iload_n F.x F.b d_M_put_22 rfl (lv_at hl 1 rfl) ?_
    obtain ⟨hb2, h⟩ := it_b h
    refine r_ald F X 12 0 (gM_12 cI ad z) rfl hb2 d_M_put_23 ?_
    refine lv_iload_n F.x F.b d_M_put_24 rfl (lv_at hl 2 rfl) ?_
    refine lv_icmp_ne (tgt := 42) F.x F.b d_M_put_25 (by decide) (fun hc => ?_) (fun hc => ?_)
    · have h := it_e hc h
      refine lv_iconst (v := (0 : Int32)) F.x F.b d_M_put_42 (by decide) ?_
      rw [← Option.some.inj h]
      exact fin_z F X hr (Or.inl rfl) d_M_put_43
    · have h := it_t hc h
      refine lv_aload_n F.x F.b d_M_put_28 rfl (lv_at hl 0 rfl) ?_
      refine r_get F X in_M 0 16 (gM_0 cI ad z) rfl (by decide) mt_455 rfl d_M_put_29 ?_
      refine lv_iload_n F.x F.b d_M_put_32 rfl (lv_at hl 2 rfl) ?_
      obtain ⟨hb1, h⟩ := it_b h
      refine r_ald F X 13 0 (gM_13 cI ad z) rfl hb1 d_M_put_33 ?_
      refine lv_iload_n F.x F.b d_M_put_34 rfl (lv_at hl 1 rfl) ?_
      refine lv_icmp_ne (tgt := 42) F.x F.b d_M_put_35 (by decide) (fun hc => ?_) (fun hc => ?_)
      · have h := it_e hc h
        refine lv_iconst (v := (0 : Int32)) F.x F.b d_M_put_42 (by decide) ?_
        rw [← Option.some.inj h]
        exact fin_z F X hr (Or.inl rfl) d_M_put_43
      · have h := it_t hc h
        refine lv_iconst (v := (1 : Int32)) F.x F.b d_M_put_38 (by decide) ?_
        refine lv_goto (tgt := 43) F.x F.b d_M_put_39 (by decide) ?_
        rw [← Option.some.inj h]
        exact fin_z F X hr (Or.inr rfl) d_M_put_43
  · have h := it_e hc h
    refine lv_aload_n F.x F.b d_M_put_9 rfl (lv_at hl 0 rfl) ?_
    refine r_get F X in_M 0 16 (gM_0 cI ad z) rfl (by decide) mt_455 rfl d_M_put_10 ?_
    refine lv_iload_n F.x F.b d_M_put_13 rfl (lv_at hl 2 rfl) ?_
    obtain ⟨hb17, h⟩ := it_b h
    refine r_ald F X 13 0 (gM_13 cI ad z) rfl hb17 d_M_put_14 ?_
    refine lv_if_lt (tgt := 44) F.x F.b d_M_put_15 (by decide) (fun hc => ?_) (fun hc => ?_)
    · have h := it_t hc h
      refine lv_aload_n F.x F.b d_M_put_44 rfl (lv_at hl 0 rfl) ?_
      refine r_get F X in_M 0 8 (gM_0 cI ad z) rfl (by decide) mt_447 rfl d_M_put_45 ?_
      refine lv_iload_n F.x F.b d_M_put_48 rfl (lv_at hl 1 rfl) ?_
      obtain ⟨hb14, h⟩ := it_b h
      refine r_ald F X 7 0 (gM_7 cI ad z) rfl hb14 d_M_put_49 ?_
      refine lv_aload_n F.x F.b d_M_put_50 rfl (lv_at hl 0 rfl) ?_
      refine r_get F X in_M 0 8 (gM_0 cI ad z) rfl (by decide) mt_447 rfl d_M_put_51 ?_
      refine lv_iload_n F.x F.b d_M_put_54 rfl (lv_at hl 2 rfl) ?_
      obtain ⟨hb13, h⟩ := it_b h
      refine r_ald F X 7 0 (gM_7 cI ad z) rfl hb13 d_M_put_55 ?_
      refine lv_icmp_eq (tgt := 61) F.x F.b d_M_put_56 (by decide) (fun hc => ?_) (fun hc => ?_)
      · have h := it_t hc h
        refine lv_aload_n F.x F.b d_M_put_61 rfl (lv_at hl 0 rfl) ?_
        refine r_get F X in_M 0 15 (gM_0 cI ad z) rfl (by decide) mt_454 rfl d_M_put_62 ?_
        refine lv_iload_n F.x F.b d_M_put_65 rfl (lv_at hl 1 rfl) ?_
        refine lv_iload_n F.x F.b d_M_put_66 rfl (lv_at hl 2 rfl) ?_
        obtain ⟨hb12, h⟩ := it_b h
        refine r_ast F X 12 0 (gM_12 cI ad z) rfl hb12 d_M_put_67 (sM_12 cI ad z _ _) (fun H locs X => ?_)
        refine lv_aload_n F.x F.b d_M_put_68 rfl (lv_at hl 0 rfl) ?_
        refine r_get F X in_M 0 16 (gM_0 cI ad (war z 11 (v1).toNatClampNeg (v2))) rfl (by decide) mt_455 rfl d_M_put_69 ?_
        refine lv_iload_n F.x F.b d_M_put_72 rfl (lv_at hl 2 rfl) ?_
        refine lv_iload_n F.x F.b d_M_put_73 rfl (lv_at hl 1 rfl) ?_
        obtain ⟨hb11, h⟩ := it_b h
        refine r_ast F X 13 0 (gM_13 cI ad (war z 11 (v1).toNatClampNeg (v2))) rfl hb11 d_M_put_74 (sM_13 cI ad (war z 11 (v1).toNatClampNeg (v2)) _ _) (fun H locs X => ?_)
        refine lv_aload_n F.x F.b d_M_put_75 rfl (lv_at hl 0 rfl) ?_
        refine r_get F X in_M 0 8 (gM_0 cI ad (war (war z 11 (v1).toNatClampNeg (v2)) 12 (v2).toNatClampNeg (v1))) rfl (by decide) mt_447 rfl d_M_put_76 ?_
        refine lv_iload_n F.x F.b d_M_put_79 rfl (lv_at hl 1 rfl) ?_
        obtain ⟨hb10, h⟩ := it_b h
        refine r_ald F X 7 0 (gM_7 cI ad (war (war z 11 (v1).toNatClampNeg (v2)) 12 (v2).toNatClampNeg (v1))) rfl hb10 d_M_put_80 ?_
        refine lv_if_eq (tgt := 132) F.x F.b d_M_put_81 (by decide) (fun hc => ?_) (fun hc => ?_)
        · have h := it_t hc h
          refine lv_iconst (v := (1 : Int32)) F.x F.b d_M_put_132 (by decide) ?_
          refine lv_goto (tgt := 137) F.x F.b d_M_put_133 (by decide) ?_
          rw [← Option.some.inj h]
          exact fin_z F X hr (Or.inr rfl) d_M_put_137
        · have h := it_e hc h
          refine lv_aload_n F.x F.b d_M_put_84 rfl (lv_at hl 0 rfl) ?_
          refine r_get F X in_M 0 8 (gM_0 cI ad (war (war z 11 (v1).toNatClampNeg (v2)) 12 (v2).toNatClampNeg (v1))) rfl (by decide) mt_447 rfl d_M_put_85 ?_
          refine lv_iload_n F.x F.b d_M_put_88 rfl (lv_at hl 1 rfl) ?_
          obtain ⟨hb9, h⟩ := it_b h
          refine r_ald F X 7 0 (gM_7 cI ad (war (war z 11 (v1).toNatClampNeg (v2)) 12 (v2).toNatClampNeg (v1))) rfl hb9 d_M_put_89 ?_
          refine lv_iconst (v := (1 : Int32)) F.x F.b d_M_put_90 (by decide) ?_
          refine lv_icmp_eq (tgt := 132) F.x F.b d_M_put_91 (by decide) (fun hc => ?_) (fun hc => ?_)
          · have h := it_t hc h
            refine lv_iconst (v := (1 : Int32)) F.x F.b d_M_put_132 (by decide) ?_
            refine lv_goto (tgt := 137) F.x F.b d_M_put_133 (by decide) ?_
            rw [← Option.some.inj h]
            exact fin_z F X hr (Or.inr rfl) d_M_put_137
          · have h := it_e hc h
            refine lv_aload_n F.x F.b d_M_put_94 rfl (lv_at hl 0 rfl) ?_
            refine lv_aload_n F.x F.b d_M_put_95 rfl (lv_at hl 0 rfl) ?_
            refine r_get F X in_M 0 9 (gM_0 cI ad (war (war z 11 (v1).toNatClampNeg (v2)) 12 (v2).toNatClampNeg (v1))) rfl (by decide) mt_448 rfl d_M_put_96 ?_
            refine lv_iload_n F.x F.b d_M_put_99 rfl (lv_at hl 1 rfl) ?_
            obtain ⟨hb8, h⟩ := it_b h
            refine r_ald F X 8 0 (gM_8 cI ad (war (war z 11 (v1).toNatClampNeg (v2)) 12 (v2).toNatClampNeg (v1))) rfl hb8 d_M_put_100 ?_
            refine lv_aload_n F.x F.b d_M_put_101 rfl (lv_at hl 0 rfl) ?_
            refine r_get F X in_M 0 9 (gM_0 cI ad (war (war z 11 (v1).toNatClampNeg (v2)) 12 (v2).toNatClampNeg (v1))) rfl (by decide) mt_448 rfl d_M_put_102 ?_
            refine lv_iload_n F.x F.b d_M_put_105 rfl (lv_at hl 2 rfl) ?_
            obtain ⟨hb7, h⟩ := it_b h
            refine r_ald F X 8 0 (gM_8 cI ad (war (war z 11 (v1).toNatClampNeg (v2)) 12 (v2).toNatClampNeg (v1))) rfl hb7 d_M_put_106 ?_
            obtain ⟨q3, hq3, h⟩ := it_c h
            refine r_vi F X hl.1 (IH (war (war z 11 (v1).toNatClampNeg (v2)) 12 (v2).toNatClampNeg (v1)) ((war (war z 11 (v1).toNatClampNeg (v2)) 12 (v2).toNatClampNeg (v1)).2 7 (v1).toNatClampNeg) ((war (war z 11 (v1).toNatClampNeg (v2)) 12 (v2).toNatClampNeg (v1)).2 7 (v2).toNatClampNeg) q3 hq3) (gM_0 cI ad (war (war z 11 (v1).toNatClampNeg (v2)) 12 (v2).toNatClampNeg (v1))) rfl mt_571 mt_573 ms_48 mt_5 mt_574 ⟨rfl, hd_M_put⟩ ⟨(by show d + 0 + 1 ≤ d + 1 + 0; omega), (by show 8 + (3 + 11) + (d * 22 + 0) ≤ (d + 1) * 22 + 0; omega)⟩ ⟨rfl, rfl⟩ ⟨Nat.zero_le _, Nat.zero_le _⟩ rfl (Nat.le_of_ble_eq_true rfl) d_M_put_107 rfl (fun H locs X => ?_)
            refine lv_if_eq (tgt := 136) F.x F.b d_M_put_110 (by decide) (fun hc => ?_) (fun hc => ?_)
            · have h := it_t hc h
              refine lv_iconst (v := (0 : Int32)) F.x F.b d_M_put_136 (by decide) ?_
              rw [← Option.some.inj h]
              exact fin_z F X hr (Or.inl rfl) d_M_put_137
            · have h := it_e hc h
              refine lv_aload_n F.x F.b d_M_put_113 rfl (lv_at hl 0 rfl) ?_
              refine lv_aload_n F.x F.b d_M_put_114 rfl (lv_at hl 0 rfl) ?_
              refine r_get F X in_M 0 10 (gM_0 cI ad q3.2) rfl (by decide) mt_449 rfl d_M_put_115 ?_
              refine lv_iload_n F.x F.b d_M_put_118 rfl (lv_at hl 1 rfl) ?_
              obtain ⟨hb6, h⟩ := it_b h
              refine r_ald F X 9 0 (gM_9 cI ad q3.2) rfl hb6 d_M_put_119 ?_
              refine lv_aload_n F.x F.b d_M_put_120 rfl (lv_at hl 0 rfl) ?_
              refine r_get F X in_M 0 10 (gM_0 cI ad q3.2) rfl (by decide) mt_449 rfl d_M_put_121 ?_
              refine lv_iload_n F.x F.b d_M_put_124 rfl (lv_at hl 2 rfl) ?_
              obtain ⟨hb5, h⟩ := it_b h
              refine r_ald F X 9 0 (gM_9 cI ad q3.2) rfl hb5 d_M_put_125 ?_
              obtain ⟨q4, hq4, h⟩ := it_c h
              refine r_vi F X hl.1 (IH q3.2 (q3.2.2 8 (v1).toNatClampNeg) (q3.2.2 8 (v2).toNatClampNeg) q4 hq4) (gM_0 cI ad q3.2) rfl mt_571 mt_573 ms_48 mt_5 mt_574 ⟨rfl, hd_M_put⟩ ⟨(by show d + 0 + 1 ≤ d + 1 + 0; omega), (by show 8 + (3 + 11) + (d * 22 + 0) ≤ (d + 1) * 22 + 0; omega)⟩ ⟨rfl, rfl⟩ ⟨Nat.zero_le _, Nat.zero_le _⟩ rfl (Nat.le_of_ble_eq_true rfl) d_M_put_126 rfl (fun H locs X => ?_)
              refine lv_if_eq (tgt := 136) F.x F.b d_M_put_129 (by decide) (fun hc => ?_) (fun hc => ?_)
              · have h := it_t hc h
                refine lv_iconst (v := (0 : Int32)) F.x F.b d_M_put_136 (by decide) ?_
                rw [← Option.some.inj h]
                exact fin_z F X hr (Or.inl rfl) d_M_put_137
              · have h := it_e hc h
                refine lv_iconst (v := (1 : Int32)) F.x F.b d_M_put_132 (by decide) ?_
                refine lv_goto (tgt := 137) F.x F.b d_M_put_133 (by decide) ?_
                rw [← Option.some.inj h]
                exact fin_z F X hr (Or.inr rfl) d_M_put_137
      · have h := it_e hc h
        refine lv_iconst (v := (0 : Int32)) F.x F.b d_M_put_59 (by decide) ?_
        rw [← Option.some.inj h]
        exact fin_z F X hr (Or.inl rfl) d_M_put_60
    · have h := it_e hc h
      refine lv_aload_n F.x F.b d_M_put_18 rfl (lv_at hl 0 rfl) ?_
      refine r_get F X in_M 0 15 (gM_0 cI ad z) rfl (by decide) mt_454 rfl d_M_put_19 ?_
      refine lv_iload_n F.x F.b d_M_put_22 rfl (lv_at hl 1 rfl) ?_
      obtain ⟨hb16, h⟩ := it_b h
      refine r_ald F X 12 0 (gM_12 cI ad z) rfl hb16 d_M_put_23 ?_
      refine lv_iload_n F.x F.b d_M_put_24 rfl (lv_at hl 2 rfl) ?_
      refine lv_icmp_ne (tgt := 42) F.x F.b d_M_put_25 (by decide) (fun hc => ?_) (fun hc => ?_)
      · have h := it_e hc h
        refine lv_iconst (v := (0 : Int32)) F.x F.b d_M_put_42 (by decide) ?_
        rw [← Option.some.inj h]
        exact fin_z F X hr (Or.inl rfl) d_M_put_43
      · have h := it_t hc h
        refine lv_aload_n F.x F.b d_M_put_28 rfl (lv_at hl 0 rfl) ?_
        refine r_get F X in_M 0 16 (gM_0 cI ad z) rfl (by decide) mt_455 rfl d_M_put_29 ?_
        refine lv_iload_n F.x F.b d_M_put_32 rfl (lv_at hl 2 rfl) ?_
        obtain ⟨hb15, h⟩ := it_b h
        refine r_ald F X 13 0 (gM_13 cI ad z) rfl hb15 d_M_put_33 ?_
        refine lv_iload_n F.x F.b d_M_put_34 rfl (lv_at hl 1 rfl) ?_
        refine lv_icmp_ne (tgt := 42) F.x F.b d_M_put_35 (by decide) (fun hc => ?_) (fun hc => ?_)
        · have h := it_e hc h
          refine lv_iconst (v := (0 : Int32)) F.x F.b d_M_put_42 (by decide) ?_
          rw [← Option.some.inj h]
          exact fin_z F X hr (Or.inl rfl) d_M_put_43
        · have h := it_t hc h
          refine lv_iconst (v := (1 : Int32)) F.x F.b d_M_put_38 (by decide) ?_
          refine lv_goto (tgt := 43) F.x F.b d_M_put_39 (by decide) ?_
          rw [← Option.some.inj h]
          exact fin_z F X hr (Or.inr rfl) d_M_put_43
theorem hd_M_renamed : y_M_renamed.cls ≠ "java/lang/invoke/MethodHandle" ∧ y_M_renamed.cls ≠ "java/lang/invoke/VarHandle" ∧ (parseMethodDescriptor y_M_renamed.desc).map (fun d => d.parameters.length) = some 2 := ⟨by decide, by decide, by decide +kernel⟩
set_option maxRecDepth 100000 in
set_option maxHeartbeats 4000000 in
theorem c_M_renamed (l : Launch) (D : Gd) (cI : ClassId) (ad : Nat → Nat) (z : St) (v1 v2 : Int32) (q : Int32 × St) (h : f_M_renamed z v1 v2 = some q) : CI l y_M_renamed (.code y_M_renamed b_M_renamed 4 (some .boolean)) { frames := 1104, cells := 0, slots := 0, locals := 27590 } D [(cI, .int)] [.ref (ad 0), .int v1, .int v2] (cM cI ad z) q.1 (cM cI ad q.2) 0 0 := by
  refine mk_i (by decide) (Nat.le_of_ble_eq_true rfl) ?_
  intro p e s m args below meth c A ls F X hr hl
  have hl : lv_has ls 4 [(0, .ref (ad 0)), (1, .int (v1)), (2, .int (v2))] := hl
  have L20 : ∀ (n : Nat) (z : St) (v3 : Int32) (v1 : Int32) (v2 : Int32) (H : Heap) (locs : List Loc) (ls : Array Slot), Wd D A s (cM cI ad z) H locs → lv_has ls 4 [(3, .int (v3)), (0, .ref (ad 0)), (1, .int (v1)), (2, .int (v2))] → f_M_renamed_l20 n z v3 v1 v2 = some q → W p l e { frames := 1104, cells := 0, slots := 0, locals := 27590 } s m args below meth c H locs 0 0 (MQ below (va_Qi (fun (r' : Int32) (u : va_W) => r' = q.1 ∧ u = cM cI ad q.2) (Po D [(cI, .int)] A) A) args s 0 0 A) (F0 m 20 ls []) := by
    intro n
    induction n with
    | zero => intro z v3 v1 v2 H locs ls X hl h; cases h
    | succ n ih =>
      intro z v3 v1 v2 H locs ls X hl h
      rw [f_M_renamed_l20] at h
      refine lv_iload_n F.x F.b d_M_renamed_20 rfl (lv_at hl 0 rfl) ?_
      refine lv_aload_n F.x F.b d_M_renamed_21 rfl (lv_at hl 1 rfl) ?_
      refine r_get F X in_M 0 12 (gM_0 cI ad z) rfl (by decide) mt_451 rfl d_M_renamed_22 ?_
      refine lv_icmp_ge (tgt := 48) F.x F.b d_M_renamed_25 (by decide) (fun hc => ?_) (fun hc => ?_)
      · have h := it_t hc h
        refine lv_aload_n F.x F.b d_M_renamed_48 rfl (lv_at hl 1 rfl) ?_
        refine lv_aload_n F.x F.b d_M_renamed_49 rfl (lv_at hl 1 rfl) ?_
        refine r_get F X in_M 0 7 (gM_0 cI ad z) rfl (by decide) mt_446 rfl d_M_renamed_50 ?_
        refine lv_iload_n F.x F.b d_M_renamed_53 rfl (lv_at hl 2 rfl) ?_
        obtain ⟨hb6, h⟩ := it_b h
        refine r_ald F X 6 0 (gM_6 cI ad z) rfl hb6 d_M_renamed_54 ?_
        refine lv_aload_n F.x F.b d_M_renamed_55 rfl (lv_at hl 1 rfl) ?_
        refine r_get F X in_M 0 7 (gM_0 cI ad z) rfl (by decide) mt_446 rfl d_M_renamed_56 ?_
        refine lv_iload_n F.x F.b d_M_renamed_59 rfl (lv_at hl 3 rfl) ?_
        obtain ⟨hb5, h⟩ := it_b h
        refine r_ald F X 6 0 (gM_6 cI ad z) rfl hb5 d_M_renamed_60 ?_
        obtain ⟨q3, hq3, h⟩ := it_c h
        refine r_vi F X hl.1 (c_M_put l D cI ad DP z (z.2 5 (v1).toNatClampNeg) (z.2 5 (v2).toNatClampNeg) q3 hq3) (gM_0 cI ad z) rfl mt_571 mt_573 ms_48 mt_5 mt_574 ⟨rfl, hd_M_put⟩ ⟨by decide, by decide⟩ ⟨rfl, rfl⟩ ⟨Nat.zero_le _, Nat.zero_le _⟩ rfl (Nat.le_of_ble_eq_true rfl) d_M_renamed_61 rfl (fun H locs X => ?_)
        obtain ⟨hb4, h⟩ := it_b h
        rw [← Option.some.inj h]
        exact fin_z F X hr (Decidable.not_not.mp hb4) d_M_renamed_64
      · have h := it_e hc h
        refine lv_aload_n F.x F.b d_M_renamed_28 rfl (lv_at hl 1 rfl) ?_
        refine r_get F X in_M 0 15 (gM_0 cI ad z) rfl (by decide) mt_454 rfl d_M_renamed_29 ?_
        refine lv_iload_n F.x F.b d_M_renamed_32 rfl (lv_at hl 0 rfl) ?_
        refine lv_iconst (v := (-1 : Int32)) F.x F.b d_M_renamed_33 (by decide) ?_
        obtain ⟨hb8, h⟩ := it_b h
        refine r_ast F X 12 0 (gM_12 cI ad z) rfl hb8 d_M_renamed_34 (sM_12 cI ad z _ _) (fun H locs X => ?_)
        refine lv_aload_n F.x F.b d_M_renamed_35 rfl (lv_at hl 1 rfl) ?_
        refine r_get F X in_M 0 16 (gM_0 cI ad (war z 11 (v3).toNatClampNeg ((-1 : Int32)))) rfl (by decide) mt_455 rfl d_M_renamed_36 ?_
        refine lv_iload_n F.x F.b d_M_renamed_39 rfl (lv_at hl 0 rfl) ?_
        refine lv_iconst (v := (-1 : Int32)) F.x F.b d_M_renamed_40 (by decide) ?_
        obtain ⟨hb7, h⟩ := it_b h
        refine r_ast F X 13 0 (gM_13 cI ad (war z 11 (v3).toNatClampNeg ((-1 : Int32)))) rfl hb7 d_M_renamed_41 (sM_13 cI ad (war z 11 (v3).toNatClampNeg ((-1 : Int32))) _ _) (fun H locs X => ?_)
        refine lv_iinc (k := 0) (v := (v3) + 1) F.x F.b d_M_renamed_42 hl rfl (ii_1 _) (by decide) (lv' := [(3, .int ((v3) + 1)), (0, .ref (ad 0)), (1, .int (v1)), (2, .int (v2))]) rfl (fun ls hl => ?_)
        refine lv_goto (tgt := 20) F.x F.b d_M_renamed_45 (by decide) ?_
        exact ih (war (war z 11 (v3).toNatClampNeg ((-1 : Int32))) 12 (v3).toNatClampNeg ((-1 : Int32))) ((v3) + 1) (v1) (v2) _ _ _ X (lv_sub hl [0, 1, 2, 3] rfl) h
  unfold f_M_renamed at h
  refine lv_aload_n F.x F.b d_M_renamed_0 rfl (lv_at hl 0 rfl) ?_
  refine lv_iload_n F.x F.b d_M_renamed_1 rfl (lv_at hl 1 rfl) ?_
  obtain ⟨q1, hq1, h⟩ := it_c h
  refine r_vi F X hl.1 (c_M_unknown l D cI ad z (v1) q1 hq1) (gM_0 cI ad z) rfl mt_555 mt_557 ms_45 mt_5 mt_558 ⟨rfl, hd_M_unknown⟩ ⟨by decide, by decide⟩ ⟨rfl, rfl⟩ ⟨Nat.zero_le _, Nat.zero_le _⟩ rfl (Nat.le_of_ble_eq_true rfl) d_M_renamed_2 rfl (fun H locs X => ?_)
  refine lv_if_ne (tgt := 16) F.x F.b d_M_renamed_5 (by decide) (fun hc => ?_) (fun hc => ?_)
  · have h := it_e hc h
    refine lv_iconst (v := (0 : Int32)) F.x F.b d_M_renamed_16 (by decide) ?_
    rw [← Option.some.inj h]
    exact fin_z F X hr (Or.inl rfl) d_M_renamed_17
  · have h := it_t hc h
    refine lv_aload_n F.x F.b d_M_renamed_8 rfl (lv_at hl 0 rfl) ?_
    refine lv_iload_n F.x F.b d_M_renamed_9 rfl (lv_at hl 2 rfl) ?_
    obtain ⟨q2, hq2, h⟩ := it_c h
    refine r_vi F X hl.1 (c_M_none l D cI ad q1.2 (v2) q2 hq2) (gM_0 cI ad q1.2) rfl mt_514 mt_516 ms_39 mt_5 mt_517 ⟨rfl, hd_M_none⟩ ⟨by decide, by decide⟩ ⟨rfl, rfl⟩ ⟨Nat.zero_le _, Nat.zero_le _⟩ rfl (Nat.le_of_ble_eq_true rfl) d_M_renamed_10 rfl (fun H locs X => ?_)
    refine lv_if_eq (tgt := 18) F.x F.b d_M_renamed_13 (by decide) (fun hc => ?_) (fun hc => ?_)
    · have h := it_t hc h
      refine lv_iconst (v := (0 : Int32)) F.x F.b d_M_renamed_18 (by decide) ?_
      refine lv_istore_n F.x F.b d_M_renamed_19 rfl hl (by decide) (lv' := [(3, .int ((0 : Int32))), (0, .ref (ad 0)), (1, .int (v1)), (2, .int (v2))]) rfl (fun ls hl => ?_)
      exact L20 FU q2.2 ((0 : Int32)) (v1) (v2) _ _ _ X (lv_sub hl [0, 1, 2, 3] rfl) h
    · have h := it_e hc h
      refine lv_iconst (v := (0 : Int32)) F.x F.b d_M_renamed_16 (by decide) ?_
      rw [← Option.some.inj h]
      exact fin_z F X hr (Or.inl rfl) d_M_renamed_17
theorem hd_M_kind : y_M_kind.cls ≠ "java/lang/invoke/MethodHandle" ∧ y_M_kind.cls ≠ "java/lang/invoke/VarHandle" ∧ (parseMethodDescriptor y_M_kind.desc).map (fun d => d.parameters.length) = some 1 := ⟨by decide, by decide, by decide +kernel⟩
set_option maxRecDepth 100000 in
set_option maxHeartbeats 4000000 in
theorem c_M_kind (l : Launch) (D : Gd) (cI : ClassId) (ad : Nat → Nat) (z : St) (v1 : Int32) (q : Int32 × St) (h : f_M_kind z v1 = some q) : CI l y_M_kind (.code y_M_kind b_M_kind 2 (some .int)) { frames := 1104, cells := 0, slots := 0, locals := 27590 } D [(cI, .int)] [.ref (ad 0), .int v1] (cM cI ad z) q.1 (cM cI ad q.2) 0 0 := by
  refine mk_i (by decide) (Nat.le_of_ble_eq_true rfl) ?_
  intro p e s m args below meth c A ls F X hr hl
  have hl : lv_has ls 2 [(0, .ref (ad 0)), (1, .int (v1))] := hl
  unfold f_M_kind at h
  refine lv_aload_n F.x F.b d_M_kind_0 rfl (lv_at hl 0 rfl) ?_
  refine lv_iload_n F.x F.b d_M_kind_1 rfl (lv_at hl 1 rfl) ?_
  obtain ⟨q1, hq1, h⟩ := it_c h
  refine r_vi F X hl.1 (c_M_unknown l D cI ad z (v1) q1 hq1) (gM_0 cI ad z) rfl mt_555 mt_557 ms_45 mt_5 mt_558 ⟨rfl, hd_M_unknown⟩ ⟨by decide, by decide⟩ ⟨rfl, rfl⟩ ⟨Nat.zero_le _, Nat.zero_le _⟩ rfl (Nat.le_of_ble_eq_true rfl) d_M_kind_2 rfl (fun H locs X => ?_)
  refine lv_if_eq (tgt := 10) F.x F.b d_M_kind_5 (by decide) (fun hc => ?_) (fun hc => ?_)
  · have h := it_t hc h
    refine lv_aload_n F.x F.b d_M_kind_10 rfl (lv_at hl 0 rfl) ?_
    refine r_get F X in_M 0 8 (gM_0 cI ad q1.2) rfl (by decide) mt_447 rfl d_M_kind_11 ?_
    refine lv_aload_n F.x F.b d_M_kind_14 rfl (lv_at hl 0 rfl) ?_
    refine r_get F X in_M 0 7 (gM_0 cI ad q1.2) rfl (by decide) mt_446 rfl d_M_kind_15 ?_
    refine lv_iload_n F.x F.b d_M_kind_18 rfl (lv_at hl 1 rfl) ?_
    obtain ⟨hb3, h⟩ := it_b h
    refine r_ald F X 6 0 (gM_6 cI ad q1.2) rfl hb3 d_M_kind_19 ?_
    obtain ⟨hb2, h⟩ := it_b h
    refine r_ald F X 7 0 (gM_7 cI ad q1.2) rfl hb2 d_M_kind_20 ?_
    rw [← Option.some.inj h]
    exact fin_i F X hr d_M_kind_21
  · have h := it_e hc h
    refine lv_iconst (v := (0 : Int32)) F.x F.b d_M_kind_8 (by decide) ?_
    rw [← Option.some.inj h]
    exact fin_i F X hr d_M_kind_9
theorem hd_M_part : y_M_part.cls ≠ "java/lang/invoke/MethodHandle" ∧ y_M_part.cls ≠ "java/lang/invoke/VarHandle" ∧ (parseMethodDescriptor y_M_part.desc).map (fun d => d.parameters.length) = some 2 := ⟨by decide, by decide, by decide +kernel⟩
set_option maxRecDepth 100000 in
set_option maxHeartbeats 4000000 in
theorem c_M_part (l : Launch) (D : Gd) (cI : ClassId) (ad : Nat → Nat) (z : St) (v1 v2 : Int32) (q : Int32 × St) (h : f_M_part z v1 v2 = some q) : CI l y_M_part (.code y_M_part b_M_part 3 (some .int)) { frames := 1104, cells := 0, slots := 0, locals := 27590 } D [(cI, .int)] [.ref (ad 0), .int v1, .int v2] (cM cI ad z) q.1 (cM cI ad q.2) 0 0 := by
  refine mk_i (by decide) (Nat.le_of_ble_eq_true rfl) ?_
  intro p e s m args below meth c A ls F X hr hl
  have hl : lv_has ls 3 [(0, .ref (ad 0)), (1, .int (v1)), (2, .int (v2))] := hl
  unfold f_M_part at h
  refine lv_aload_n F.x F.b d_M_part_0 rfl (lv_at hl 0 rfl) ?_
  refine lv_iload_n F.x F.b d_M_part_1 rfl (lv_at hl 1 rfl) ?_
  obtain ⟨q1, hq1, h⟩ := it_c h
  refine r_vi F X hl.1 (c_M_unknown l D cI ad z (v1) q1 hq1) (gM_0 cI ad z) rfl mt_555 mt_557 ms_45 mt_5 mt_558 ⟨rfl, hd_M_unknown⟩ ⟨by decide, by decide⟩ ⟨rfl, rfl⟩ ⟨Nat.zero_le _, Nat.zero_le _⟩ rfl (Nat.le_of_ble_eq_true rfl) d_M_part_2 rfl (fun H locs X => ?_)
  refine lv_if_ne (tgt := 36) F.x F.b d_M_part_5 (by decide) (fun hc => ?_) (fun hc => ?_)
  · have h := it_e hc h
    refine lv_iconst (v := (0 : Int32)) F.x F.b d_M_part_36 (by decide) ?_
    rw [← Option.some.inj h]
    exact fin_i F X hr d_M_part_37
  · have h := it_t hc h
    refine lv_aload_n F.x F.b d_M_part_8 rfl (lv_at hl 0 rfl) ?_
    refine lv_iconst (v := (1 : Int32)) F.x F.b d_M_part_9 (by decide) ?_
    refine lv_aload_n F.x F.b d_M_part_10 rfl (lv_at hl 0 rfl) ?_
    refine r_get F X in_M 0 8 (gM_0 cI ad q1.2) rfl (by decide) mt_447 rfl d_M_part_11 ?_
    refine lv_aload_n F.x F.b d_M_part_14 rfl (lv_at hl 0 rfl) ?_
    refine r_get F X in_M 0 7 (gM_0 cI ad q1.2) rfl (by decide) mt_446 rfl d_M_part_15 ?_
    refine lv_iload_n F.x F.b d_M_part_18 rfl (lv_at hl 1 rfl) ?_
    obtain ⟨hb17, h⟩ := it_b h
    refine r_ald F X 6 0 (gM_6 cI ad q1.2) rfl hb17 d_M_part_19 ?_
    obtain ⟨hb16, h⟩ := it_b h
    refine r_ald F X 7 0 (gM_7 cI ad q1.2) rfl hb16 d_M_part_20 ?_
    refine lv_iconst (v := (2 : Int32)) F.x F.b d_M_part_21 (by decide) ?_
    refine lv_icmp_ge (tgt := 29) F.x F.b d_M_part_22 (by decide) (fun hc => ?_) (fun hc => ?_)
    · have h := it_t hc h
      refine lv_iconst (v := (0 : Int32)) F.x F.b d_M_part_29 (by decide) ?_
      obtain ⟨q2, hq2, h⟩ := it_c h
      refine r_vi F X hl.1 (c_M_refuse l D cI ad q1.2 ((1 : Int32)) ((0 : Int32)) q2 hq2) (gM_0 cI ad q1.2) rfl mt_502 mt_504 ms_37 mt_5 mt_505 ⟨rfl, hd_M_refuse⟩ ⟨by decide, by decide⟩ ⟨rfl, rfl⟩ ⟨Nat.zero_le _, Nat.zero_le _⟩ rfl (Nat.le_of_ble_eq_true rfl) d_M_part_30 rfl (fun H locs X => ?_)
      refine lv_if_eq (tgt := 38) F.x F.b d_M_part_33 (by decide) (fun hc => ?_) (fun hc => ?_)
      · have h := it_t hc h
        refine lv_aload_n F.x F.b d_M_part_38 rfl (lv_at hl 0 rfl) ?_
        refine r_get F X in_M 0 11 (gM_0 cI ad q2.2) rfl (by decide) mt_450 rfl d_M_part_39 ?_
        refine lv_iload_n F.x F.b d_M_part_42 rfl (lv_at hl 2 rfl) ?_
        refine lv_if_eq (tgt := 60) F.x F.b d_M_part_43 (by decide) (fun hc => ?_) (fun hc => ?_)
        · have h := it_t hc h
          refine lv_aload_n F.x F.b d_M_part_60 rfl (lv_at hl 0 rfl) ?_
          refine r_get F X in_M 0 9 (gM_0 cI ad q2.2) rfl (by decide) mt_448 rfl d_M_part_61 ?_
          refine lv_aload_n F.x F.b d_M_part_64 rfl (lv_at hl 0 rfl) ?_
          refine r_get F X in_M 0 7 (gM_0 cI ad q2.2) rfl (by decide) mt_446 rfl d_M_part_65 ?_
          refine lv_iload_n F.x F.b d_M_part_68 rfl (lv_at hl 1 rfl) ?_
          obtain ⟨hb5, h⟩ := it_b h
          refine r_ald F X 6 0 (gM_6 cI ad q2.2) rfl hb5 d_M_part_69 ?_
          obtain ⟨hb4, h⟩ := it_b h
          refine r_ald F X 8 0 (gM_8 cI ad q2.2) rfl hb4 d_M_part_70 ?_
          obtain ⟨hb3, h⟩ := it_b h
          refine r_ald F X 10 0 (gM_10 cI ad q2.2) rfl hb3 d_M_part_71 ?_
          rw [← Option.some.inj h]
          exact fin_i F X hr d_M_part_72
        · have h := it_e hc h
          refine lv_aload_n F.x F.b d_M_part_46 rfl (lv_at hl 0 rfl) ?_
          refine r_get F X in_M 0 10 (gM_0 cI ad q2.2) rfl (by decide) mt_449 rfl d_M_part_47 ?_
          refine lv_aload_n F.x F.b d_M_part_50 rfl (lv_at hl 0 rfl) ?_
          refine r_get F X in_M 0 7 (gM_0 cI ad q2.2) rfl (by decide) mt_446 rfl d_M_part_51 ?_
          refine lv_iload_n F.x F.b d_M_part_54 rfl (lv_at hl 1 rfl) ?_
          obtain ⟨hb8, h⟩ := it_b h
          refine r_ald F X 6 0 (gM_6 cI ad q2.2) rfl hb8 d_M_part_55 ?_
          obtain ⟨hb7, h⟩ := it_b h
          refine r_ald F X 9 0 (gM_9 cI ad q2.2) rfl hb7 d_M_part_56 ?_
          refine lv_goto (tgt := 71) F.x F.b d_M_part_57 (by decide) ?_
          obtain ⟨hb6, h⟩ := it_b h
          refine r_ald F X 10 0 (gM_10 cI ad q2.2) rfl hb6 d_M_part_71 ?_
          rw [← Option.some.inj h]
          exact fin_i F X hr d_M_part_72
      · have h := it_e hc h
        refine lv_iconst (v := (0 : Int32)) F.x F.b d_M_part_36 (by decide) ?_
        rw [← Option.some.inj h]
        exact fin_i F X hr d_M_part_37
    · have h := it_e hc h
      refine lv_iconst (v := (1 : Int32)) F.x F.b d_M_part_25 (by decide) ?_
      refine lv_goto (tgt := 30) F.x F.b d_M_part_26 (by decide) ?_
      obtain ⟨q9, hq9, h⟩ := it_c h
      refine r_vi F X hl.1 (c_M_refuse l D cI ad q1.2 ((1 : Int32)) ((1 : Int32)) q9 hq9) (gM_0 cI ad q1.2) rfl mt_502 mt_504 ms_37 mt_5 mt_505 ⟨rfl, hd_M_refuse⟩ ⟨by decide, by decide⟩ ⟨rfl, rfl⟩ ⟨Nat.zero_le _, Nat.zero_le _⟩ rfl (Nat.le_of_ble_eq_true rfl) d_M_part_30 rfl (fun H locs X => ?_)
      refine lv_if_eq (tgt := 38) F.x F.b d_M_part_33 (by decide) (fun hc => ?_) (fun hc => ?_)
      · have h := it_t hc h
        refine lv_aload_n F.x F.b d_M_part_38 rfl (lv_at hl 0 rfl) ?_
        refine r_get F X in_M 0 11 (gM_0 cI ad q9.2) rfl (by decide) mt_450 rfl d_M_part_39 ?_
        refine lv_iload_n F.x F.b d_M_part_42 rfl (lv_at hl 2 rfl) ?_
        refine lv_if_eq (tgt := 60) F.x F.b d_M_part_43 (by decide) (fun hc => ?_) (fun hc => ?_)
        · have h := it_t hc h
          refine lv_aload_n F.x F.b d_M_part_60 rfl (lv_at hl 0 rfl) ?_
          refine r_get F X in_M 0 9 (gM_0 cI ad q9.2) rfl (by decide) mt_448 rfl d_M_part_61 ?_
          refine lv_aload_n F.x F.b d_M_part_64 rfl (lv_at hl 0 rfl) ?_
          refine r_get F X in_M 0 7 (gM_0 cI ad q9.2) rfl (by decide) mt_446 rfl d_M_part_65 ?_
          refine lv_iload_n F.x F.b d_M_part_68 rfl (lv_at hl 1 rfl) ?_
          obtain ⟨hb12, h⟩ := it_b h
          refine r_ald F X 6 0 (gM_6 cI ad q9.2) rfl hb12 d_M_part_69 ?_
          obtain ⟨hb11, h⟩ := it_b h
          refine r_ald F X 8 0 (gM_8 cI ad q9.2) rfl hb11 d_M_part_70 ?_
          obtain ⟨hb10, h⟩ := it_b h
          refine r_ald F X 10 0 (gM_10 cI ad q9.2) rfl hb10 d_M_part_71 ?_
          rw [← Option.some.inj h]
          exact fin_i F X hr d_M_part_72
        · have h := it_e hc h
          refine lv_aload_n F.x F.b d_M_part_46 rfl (lv_at hl 0 rfl) ?_
          refine r_get F X in_M 0 10 (gM_0 cI ad q9.2) rfl (by decide) mt_449 rfl d_M_part_47 ?_
          refine lv_aload_n F.x F.b d_M_part_50 rfl (lv_at hl 0 rfl) ?_
          refine r_get F X in_M 0 7 (gM_0 cI ad q9.2) rfl (by decide) mt_446 rfl d_M_part_51 ?_
          refine lv_iload_n F.x F.b d_M_part_54 rfl (lv_at hl 1 rfl) ?_
          obtain ⟨hb15, h⟩ := it_b h
          refine r_ald F X 6 0 (gM_6 cI ad q9.2) rfl hb15 d_M_part_55 ?_
          obtain ⟨hb14, h⟩ := it_b h
          refine r_ald F X 9 0 (gM_9 cI ad q9.2) rfl hb14 d_M_part_56 ?_
          refine lv_goto (tgt := 71) F.x F.b d_M_part_57 (by decide) ?_
          obtain ⟨hb13, h⟩ := it_b h
          refine r_ald F X 10 0 (gM_10 cI ad q9.2) rfl hb13 d_M_part_71 ?_
          rw [← Option.some.inj h]
          exact fin_i F X hr d_M_part_72
      · have h := it_e hc h
        refine lv_iconst (v := (0 : Int32)) F.x F.b d_M_part_36 (by decide) ?_
        rw [← Option.some.inj h]
        exact fin_i F X hr d_M_part_37
theorem hd_M_size : y_M_size.cls ≠ "java/lang/invoke/MethodHandle" ∧ y_M_size.cls ≠ "java/lang/invoke/VarHandle" ∧ (parseMethodDescriptor y_M_size.desc).map (fun d => d.parameters.length) = some 1 := ⟨by decide, by decide, by decide +kernel⟩
set_option maxRecDepth 100000 in
set_option maxHeartbeats 4000000 in
theorem c_M_size (l : Launch) (D : Gd) (cI : ClassId) (ad : Nat → Nat) (z : St) (v1 : Int32) (q : Int32 × St) (h : f_M_size z v1 = some q) : CI l y_M_size (.code y_M_size b_M_size 5 (some .int)) { frames := 1104, cells := 0, slots := 0, locals := 27590 } D [(cI, .int)] [.ref (ad 0), .int v1] (cM cI ad z) q.1 (cM cI ad q.2) 0 0 := by
  refine mk_i (by decide) (Nat.le_of_ble_eq_true rfl) ?_
  intro p e s m args below meth c A ls F X hr hl
  have hl : lv_has ls 5 [(0, .ref (ad 0)), (1, .int (v1))] := hl
  have L12 : ∀ (n : Nat) (z : St) (v2 : Int32) (v1 : Int32) (H : Heap) (locs : List Loc) (ls : Array Slot), Wd D A s (cM cI ad z) H locs → lv_has ls 5 [(2, .int (v2)), (0, .ref (ad 0)), (1, .int (v1))] → f_M_size_l12 n z v2 v1 = some q → W p l e { frames := 1104, cells := 0, slots := 0, locals := 27590 } s m args below meth c H locs 0 0 (MQ below (va_Qi (fun (r' : Int32) (u : va_W) => r' = q.1 ∧ u = cM cI ad q.2) (Po D [(cI, .int)] A) A) args s 0 0 A) (F0 m 12 ls []) := by
    intro n
    induction n with
    | zero => intro z v2 v1 H locs ls X hl h; cases h
    | succ n ih =>
      intro z v2 v1 H locs ls X hl h
      rw [f_M_size_l12] at h
      refine lv_iload_n F.x F.b d_M_size_12 rfl (lv_at hl 0 rfl) ?_
      refine lv_aload_n F.x F.b d_M_size_13 rfl (lv_at hl 1 rfl) ?_
      refine r_get F X in_M 0 7 (gM_0 cI ad z) rfl (by decide) mt_446 rfl d_M_size_14 ?_
      refine lv_iload_n F.x F.b d_M_size_17 rfl (lv_at hl 2 rfl) ?_
      obtain ⟨hb33, h⟩ := it_b h
      refine r_ald F X 6 0 (gM_6 cI ad z) rfl hb33 d_M_size_18 ?_
      refine lv_icmp_gt (tgt := 131) F.x F.b d_M_size_19 (by decide) (fun hc => ?_) (fun hc => ?_)
      · have h := it_t hc h
        refine lv_aload_n F.x F.b d_M_size_131 rfl (lv_at hl 1 rfl) ?_
        refine r_get F X in_M 0 17 (gM_0 cI ad z) rfl (by decide) mt_456 rfl d_M_size_132 ?_
        refine lv_aload_n F.x F.b d_M_size_135 rfl (lv_at hl 1 rfl) ?_
        refine r_get F X in_M 0 7 (gM_0 cI ad z) rfl (by decide) mt_446 rfl d_M_size_136 ?_
        refine lv_iload_n F.x F.b d_M_size_139 rfl (lv_at hl 2 rfl) ?_
        obtain ⟨hb3, h⟩ := it_b h
        refine r_ald F X 6 0 (gM_6 cI ad z) rfl hb3 d_M_size_140 ?_
        obtain ⟨hb2, h⟩ := it_b h
        refine r_ald F X 14 0 (gM_14 cI ad z) rfl hb2 d_M_size_141 ?_
        rw [← Option.some.inj h]
        exact fin_i F X hr d_M_size_142
      · have h := it_e hc h
        refine lv_aload_n F.x F.b d_M_size_22 rfl (lv_at hl 1 rfl) ?_
        refine r_get F X in_M 0 8 (gM_0 cI ad z) rfl (by decide) mt_447 rfl d_M_size_23 ?_
        refine lv_iload_n F.x F.b d_M_size_26 rfl (lv_at hl 0 rfl) ?_
        obtain ⟨hb32, h⟩ := it_b h
        refine r_ald F X 7 0 (gM_7 cI ad z) rfl hb32 d_M_size_27 ?_
        refine lv_iconst (v := (2 : Int32)) F.x F.b d_M_size_28 (by decide) ?_
        refine lv_icmp_ge (tgt := 36) F.x F.b d_M_size_29 (by decide) (fun hc => ?_) (fun hc => ?_)
        · have h := it_t hc h
          refine lv_aload_n F.x F.b d_M_size_36 rfl (lv_at hl 1 rfl) ?_
          refine r_get F X in_M 0 17 (gM_0 cI ad z) rfl (by decide) mt_456 rfl d_M_size_37 ?_
          refine lv_aload_n F.x F.b d_M_size_40 rfl (lv_at hl 1 rfl) ?_
          refine r_get F X in_M 0 9 (gM_0 cI ad z) rfl (by decide) mt_448 rfl d_M_size_41 ?_
          refine lv_iload_n F.x F.b d_M_size_44 rfl (lv_at hl 0 rfl) ?_
          obtain ⟨hb18, h⟩ := it_b h
          refine r_ald F X 8 0 (gM_8 cI ad z) rfl hb18 d_M_size_45 ?_
          obtain ⟨hb17, h⟩ := it_b h
          refine r_ald F X 14 0 (gM_14 cI ad z) rfl hb17 d_M_size_46 ?_
          refine lv_istore_n F.x F.b d_M_size_47 rfl hl (by decide) (lv' := [(3, .int (z.2 13 (z.2 7 (v2).toNatClampNeg).toNatClampNeg)), (2, .int (v2)), (0, .ref (ad 0)), (1, .int (v1))]) rfl (fun ls hl => ?_)
          refine lv_aload_n F.x F.b d_M_size_48 rfl (lv_at hl 2 rfl) ?_
          refine r_get F X in_M 0 8 (gM_0 cI ad z) rfl (by decide) mt_447 rfl d_M_size_49 ?_
          refine lv_iload_n F.x F.b d_M_size_52 rfl (lv_at hl 1 rfl) ?_
          obtain ⟨hb16, h⟩ := it_b h
          refine r_ald F X 7 0 (gM_7 cI ad z) rfl hb16 d_M_size_53 ?_
          refine lv_iconst (v := (2 : Int32)) F.x F.b d_M_size_54 (by decide) ?_
          refine lv_icmp_ge (tgt := 62) F.x F.b d_M_size_55 (by decide) (fun hc => ?_) (fun hc => ?_)
          · have h := it_t hc h
            refine lv_aload_n F.x F.b d_M_size_62 rfl (lv_at hl 2 rfl) ?_
            refine r_get F X in_M 0 17 (gM_0 cI ad z) rfl (by decide) mt_456 rfl d_M_size_63 ?_
            refine lv_aload_n F.x F.b d_M_size_66 rfl (lv_at hl 2 rfl) ?_
            refine r_get F X in_M 0 10 (gM_0 cI ad z) rfl (by decide) mt_449 rfl d_M_size_67 ?_
            refine lv_iload_n F.x F.b d_M_size_70 rfl (lv_at hl 1 rfl) ?_
            obtain ⟨hb10, h⟩ := it_b h
            refine r_ald F X 9 0 (gM_9 cI ad z) rfl hb10 d_M_size_71 ?_
            obtain ⟨hb9, h⟩ := it_b h
            refine r_ald F X 14 0 (gM_14 cI ad z) rfl hb9 d_M_size_72 ?_
            refine lv_istore F.x F.b d_M_size_73 hl (by decide) (lv' := [(4, .int (z.2 13 (z.2 8 (v2).toNatClampNeg).toNatClampNeg)), (3, .int (z.2 13 (z.2 7 (v2).toNatClampNeg).toNatClampNeg)), (2, .int (v2)), (0, .ref (ad 0)), (1, .int (v1))]) rfl (fun ls hl => ?_)
            refine lv_aload_n F.x F.b d_M_size_75 rfl (lv_at hl 3 rfl) ?_
            refine r_get F X in_M 0 17 (gM_0 cI ad z) rfl (by decide) mt_456 rfl d_M_size_76 ?_
            refine lv_iload_n F.x F.b d_M_size_79 rfl (lv_at hl 2 rfl) ?_
            refine lv_aload_n F.x F.b d_M_size_80 rfl (lv_at hl 3 rfl) ?_
            refine r_get F X in_M 0 8 (gM_0 cI ad z) rfl (by decide) mt_447 rfl d_M_size_81 ?_
            refine lv_iload_n F.x F.b d_M_size_84 rfl (lv_at hl 2 rfl) ?_
            obtain ⟨hb8, h⟩ := it_b h
            refine r_ald F X 7 0 (gM_7 cI ad z) rfl hb8 d_M_size_85 ?_
            refine lv_iconst (v := (2 : Int32)) F.x F.b d_M_size_86 (by decide) ?_
            refine lv_icmp_ge (tgt := 94) F.x F.b d_M_size_87 (by decide) (fun hc => ?_) (fun hc => ?_)
            · have h := it_t hc h
              refine lv_ldc F.x F.b F.2.2.2.1 (F.2.2.2.2.1 _ mt_587) d_M_size_94 ?_
              refine lv_aload_n F.x F.b d_M_size_96 rfl (lv_at hl 3 rfl) ?_
              refine r_get F X in_M 0 8 (gM_0 cI ad z) rfl (by decide) mt_447 rfl d_M_size_97 ?_
              refine lv_iload_n F.x F.b d_M_size_100 rfl (lv_at hl 2 rfl) ?_
              obtain ⟨hb6, h⟩ := it_b h
              refine r_ald F X 7 0 (gM_7 cI ad z) rfl hb6 d_M_size_101 ?_
              refine lv_iconst (v := (2 : Int32)) F.x F.b d_M_size_102 (by decide) ?_
              refine lv_icmp_ne (tgt := 117) F.x F.b d_M_size_103 (by decide) (fun hc => ?_) (fun hc => ?_)
              · have h := it_e hc h
                refine lv_iload_n F.x F.b d_M_size_117 rfl (lv_at hl 1 rfl) ?_
                refine lv_iload F.x F.b d_M_size_118 (lv_at hl 0 rfl) ?_
                refine lv_iadd F.x F.b d_M_size_120 ?_
                refine va_mmin F.x F.b (F.2.2.1.trans hl.1.symm) F.2.2.2.1 (F.2.2.2.2.1 _ mt_589) (F.2.2.2.2.1 _ mt_397) (F.2.2.2.2.1 _ mt_12) (F.2.2.2.2.1 _ mt_398) (by decide) (Nat.le_of_ble_eq_true rfl) (Nat.zero_le _) (Nat.zero_le _) d_M_size_121 ?_
                obtain ⟨hb4, h⟩ := it_b h
                refine r_ast F X 14 0 (gM_14 cI ad z) rfl hb4 d_M_size_124 (sM_14 cI ad z _ _) (fun H locs X => ?_)
                refine lv_iinc (k := 2) (v := (v2) + 1) F.x F.b d_M_size_125 hl rfl (ii_1 _) (by decide) (lv' := [(2, .int ((v2) + 1)), (4, .int (z.2 13 (z.2 8 (v2).toNatClampNeg).toNatClampNeg)), (3, .int (z.2 13 (z.2 7 (v2).toNatClampNeg).toNatClampNeg)), (0, .ref (ad 0)), (1, .int (v1))]) rfl (fun ls hl => ?_)
                refine lv_goto (tgt := 12) F.x F.b d_M_size_128 (by decide) ?_
                exact ih (war z 13 (v2).toNatClampNeg ((if ((z.2 13 (z.2 7 (v2).toNatClampNeg).toNatClampNeg) + (z.2 13 (z.2 8 (v2).toNatClampNeg).toNatClampNeg)) < ((1000000 : Int32)) then ((z.2 13 (z.2 7 (v2).toNatClampNeg).toNatClampNeg) + (z.2 13 (z.2 8 (v2).toNatClampNeg).toNatClampNeg)) else ((1000000 : Int32))))) ((v2) + 1) (v1) _ _ _ X (lv_sub hl [0, 3, 4] rfl) h
              · have h := it_t hc h
                refine lv_iconst (v := (1 : Int32)) F.x F.b d_M_size_106 (by decide) ?_
                refine lv_iload_n F.x F.b d_M_size_107 rfl (lv_at hl 1 rfl) ?_
                refine lv_iload F.x F.b d_M_size_108 (lv_at hl 0 rfl) ?_
                refine va_mmax F.x F.b (F.2.2.1.trans hl.1.symm) F.2.2.2.1 (F.2.2.2.2.1 _ mt_588) (F.2.2.2.2.1 _ mt_393) (F.2.2.2.2.1 _ mt_12) (F.2.2.2.2.1 _ mt_394) (by decide) (Nat.le_of_ble_eq_true rfl) (Nat.zero_le _) (Nat.zero_le _) d_M_size_110 ?_
                refine lv_iadd F.x F.b d_M_size_113 ?_
                refine lv_goto (tgt := 121) F.x F.b d_M_size_114 (by decide) ?_
                refine va_mmin F.x F.b (F.2.2.1.trans hl.1.symm) F.2.2.2.1 (F.2.2.2.2.1 _ mt_589) (F.2.2.2.2.1 _ mt_397) (F.2.2.2.2.1 _ mt_12) (F.2.2.2.2.1 _ mt_398) (by decide) (Nat.le_of_ble_eq_true rfl) (Nat.zero_le _) (Nat.zero_le _) d_M_size_121 ?_
                obtain ⟨hb5, h⟩ := it_b h
                refine r_ast F X 14 0 (gM_14 cI ad z) rfl hb5 d_M_size_124 (sM_14 cI ad z _ _) (fun H locs X => ?_)
                refine lv_iinc (k := 2) (v := (v2) + 1) F.x F.b d_M_size_125 hl rfl (ii_1 _) (by decide) (lv' := [(2, .int ((v2) + 1)), (4, .int (z.2 13 (z.2 8 (v2).toNatClampNeg).toNatClampNeg)), (3, .int (z.2 13 (z.2 7 (v2).toNatClampNeg).toNatClampNeg)), (0, .ref (ad 0)), (1, .int (v1))]) rfl (fun ls hl => ?_)
                refine lv_goto (tgt := 12) F.x F.b d_M_size_128 (by decide) ?_
                exact ih (war z 13 (v2).toNatClampNeg ((if (((1 : Int32)) + ((if (z.2 13 (z.2 7 (v2).toNatClampNeg).toNatClampNeg) < (z.2 13 (z.2 8 (v2).toNatClampNeg).toNatClampNeg) then (z.2 13 (z.2 8 (v2).toNatClampNeg).toNatClampNeg) else (z.2 13 (z.2 7 (v2).toNatClampNeg).toNatClampNeg)))) < ((1000000 : Int32)) then (((1 : Int32)) + ((if (z.2 13 (z.2 7 (v2).toNatClampNeg).toNatClampNeg) < (z.2 13 (z.2 8 (v2).toNatClampNeg).toNatClampNeg) then (z.2 13 (z.2 8 (v2).toNatClampNeg).toNatClampNeg) else (z.2 13 (z.2 7 (v2).toNatClampNeg).toNatClampNeg)))) else ((1000000 : Int32))))) ((v2) + 1) (v1) _ _ _ X (lv_sub hl [0, 3, 4] rfl) h
            · have h := it_e hc h
              refine lv_iconst (v := (0 : Int32)) F.x F.b d_M_size_90 (by decide) ?_
              refine lv_goto (tgt := 124) F.x F.b d_M_size_91 (by decide) ?_
              obtain ⟨hb7, h⟩ := it_b h
              refine r_ast F X 14 0 (gM_14 cI ad z) rfl hb7 d_M_size_124 (sM_14 cI ad z _ _) (fun H locs X => ?_)
              refine lv_iinc (k := 2) (v := (v2) + 1) F.x F.b d_M_size_125 hl rfl (ii_1 _) (by decide) (lv' := [(2, .int ((v2) + 1)), (4, .int (z.2 13 (z.2 8 (v2).toNatClampNeg).toNatClampNeg)), (3, .int (z.2 13 (z.2 7 (v2).toNatClampNeg).toNatClampNeg)), (0, .ref (ad 0)), (1, .int (v1))]) rfl (fun ls hl => ?_)
              refine lv_goto (tgt := 12) F.x F.b d_M_size_128 (by decide) ?_
              exact ih (war z 13 (v2).toNatClampNeg ((0 : Int32))) ((v2) + 1) (v1) _ _ _ X (lv_sub hl [0, 3, 4] rfl) h
          · have h := it_e hc h
            refine lv_iconst (v := (0 : Int32)) F.x F.b d_M_size_58 (by decide) ?_
            refine lv_goto (tgt := 73) F.x F.b d_M_size_59 (by decide) ?_
            refine lv_istore F.x F.b d_M_size_73 hl (by decide) (lv' := [(4, .int ((0 : Int32))), (3, .int (z.2 13 (z.2 7 (v2).toNatClampNeg).toNatClampNeg)), (2, .int (v2)), (0, .ref (ad 0)), (1, .int (v1))]) rfl (fun ls hl => ?_)
            refine lv_aload_n F.x F.b d_M_size_75 rfl (lv_at hl 3 rfl) ?_
            refine r_get F X in_M 0 17 (gM_0 cI ad z) rfl (by decide) mt_456 rfl d_M_size_76 ?_
            refine lv_iload_n F.x F.b d_M_size_79 rfl (lv_at hl 2 rfl) ?_
            refine lv_aload_n F.x F.b d_M_size_80 rfl (lv_at hl 3 rfl) ?_
            refine r_get F X in_M 0 8 (gM_0 cI ad z) rfl (by decide) mt_447 rfl d_M_size_81 ?_
            refine lv_iload_n F.x F.b d_M_size_84 rfl (lv_at hl 2 rfl) ?_
            obtain ⟨hb15, h⟩ := it_b h
            refine r_ald F X 7 0 (gM_7 cI ad z) rfl hb15 d_M_size_85 ?_
            refine lv_iconst (v := (2 : Int32)) F.x F.b d_M_size_86 (by decide) ?_
            refine lv_icmp_ge (tgt := 94) F.x F.b d_M_size_87 (by decide) (fun hc => ?_) (fun hc => ?_)
            · have h := it_t hc h
              refine lv_ldc F.x F.b F.2.2.2.1 (F.2.2.2.2.1 _ mt_587) d_M_size_94 ?_
              refine lv_aload_n F.x F.b d_M_size_96 rfl (lv_at hl 3 rfl) ?_
              refine r_get F X in_M 0 8 (gM_0 cI ad z) rfl (by decide) mt_447 rfl d_M_size_97 ?_
              refine lv_iload_n F.x F.b d_M_size_100 rfl (lv_at hl 2 rfl) ?_
              obtain ⟨hb13, h⟩ := it_b h
              refine r_ald F X 7 0 (gM_7 cI ad z) rfl hb13 d_M_size_101 ?_
              refine lv_iconst (v := (2 : Int32)) F.x F.b d_M_size_102 (by decide) ?_
              refine lv_icmp_ne (tgt := 117) F.x F.b d_M_size_103 (by decide) (fun hc => ?_) (fun hc => ?_)
              · have h := it_e hc h
                refine lv_iload_n F.x F.b d_M_size_117 rfl (lv_at hl 1 rfl) ?_
                refine lv_iload F.x F.b d_M_size_118 (lv_at hl 0 rfl) ?_
                refine lv_iadd F.x F.b d_M_size_120 ?_
                refine va_mmin F.x F.b (F.2.2.1.trans hl.1.symm) F.2.2.2.1 (F.2.2.2.2.1 _ mt_589) (F.2.2.2.2.1 _ mt_397) (F.2.2.2.2.1 _ mt_12) (F.2.2.2.2.1 _ mt_398) (by decide) (Nat.le_of_ble_eq_true rfl) (Nat.zero_le _) (Nat.zero_le _) d_M_size_121 ?_
                obtain ⟨hb11, h⟩ := it_b h
                refine r_ast F X 14 0 (gM_14 cI ad z) rfl hb11 d_M_size_124 (sM_14 cI ad z _ _) (fun H locs X => ?_)
                refine lv_iinc (k := 2) (v := (v2) + 1) F.x F.b d_M_size_125 hl rfl (ii_1 _) (by decide) (lv' := [(2, .int ((v2) + 1)), (4, .int ((0 : Int32))), (3, .int (z.2 13 (z.2 7 (v2).toNatClampNeg).toNatClampNeg)), (0, .ref (ad 0)), (1, .int (v1))]) rfl (fun ls hl => ?_)
                refine lv_goto (tgt := 12) F.x F.b d_M_size_128 (by decide) ?_
                exact ih (war z 13 (v2).toNatClampNeg ((if ((z.2 13 (z.2 7 (v2).toNatClampNeg).toNatClampNeg) + ((0 : Int32))) < ((1000000 : Int32)) then ((z.2 13 (z.2 7 (v2).toNatClampNeg).toNatClampNeg) + ((0 : Int32))) else ((1000000 : Int32))))) ((v2) + 1) (v1) _ _ _ X (lv_sub hl [0, 3, 4] rfl) h
              · have h := it_t hc h
                refine lv_iconst (v := (1 : Int32)) F.x F.b d_M_size_106 (by decide) ?_
                refine lv_iload_n F.x F.b d_M_size_107 rfl (lv_at hl 1 rfl) ?_
                refine lv_iload F.x F.b d_M_size_108 (lv_at hl 0 rfl) ?_
                refine va_mmax F.x F.b (F.2.2.1.trans hl.1.symm) F.2.2.2.1 (F.2.2.2.2.1 _ mt_588) (F.2.2.2.2.1 _ mt_393) (F.2.2.2.2.1 _ mt_12) (F.2.2.2.2.1 _ mt_394) (by decide) (Nat.le_of_ble_eq_true rfl) (Nat.zero_le _) (Nat.zero_le _) d_M_size_110 ?_
                refine lv_iadd F.x F.b d_M_size_113 ?_
                refine lv_goto (tgt := 121) F.x F.b d_M_size_114 (by decide) ?_
                refine va_mmin F.x F.b (F.2.2.1.trans hl.1.symm) F.2.2.2.1 (F.2.2.2.2.1 _ mt_589) (F.2.2.2.2.1 _ mt_397) (F.2.2.2.2.1 _ mt_12) (F.2.2.2.2.1 _ mt_398) (by decide) (Nat.le_of_ble_eq_true rfl) (Nat.zero_le _) (Nat.zero_le _) d_M_size_121 ?_
                obtain ⟨hb12, h⟩ := it_b h
                refine r_ast F X 14 0 (gM_14 cI ad z) rfl hb12 d_M_size_124 (sM_14 cI ad z _ _) (fun H locs X => ?_)
                refine lv_iinc (k := 2) (v := (v2) + 1) F.x F.b d_M_size_125 hl rfl (ii_1 _) (by decide) (lv' := [(2, .int ((v2) + 1)), (4, .int ((0 : Int32))), (3, .int (z.2 13 (z.2 7 (v2).toNatClampNeg).toNatClampNeg)), (0, .ref (ad 0)), (1, .int (v1))]) rfl (fun ls hl => ?_)
                refine lv_goto (tgt := 12) F.x F.b d_M_size_128 (by decide) ?_
                exact ih (war z 13 (v2).toNatClampNeg ((if (((1 : Int32)) + ((if (z.2 13 (z.2 7 (v2).toNatClampNeg).toNatClampNeg) < ((0 : Int32)) then ((0 : Int32)) else (z.2 13 (z.2 7 (v2).toNatClampNeg).toNatClampNeg)))) < ((1000000 : Int32)) then (((1 : Int32)) + ((if (z.2 13 (z.2 7 (v2).toNatClampNeg).toNatClampNeg) < ((0 : Int32)) then ((0 : Int32)) else (z.2 13 (z.2 7 (v2).toNatClampNeg).toNatClampNeg)))) else ((1000000 : Int32))))) ((v2) + 1) (v1) _ _ _ X (lv_sub hl [0, 3, 4] rfl) h
            · have h := it_e hc h
              refine lv_iconst (v := (0 : Int32)) F.x F.b d_M_size_90 (by decide) ?_
              refine lv_goto (tgt := 124) F.x F.b d_M_size_91 (by decide) ?_
              obtain ⟨hb14, h⟩ := it_b h
              refine r_ast F X 14 0 (gM_14 cI ad z) rfl hb14 d_M_size_124 (sM_14 cI ad z _ _) (fun H locs X => ?_)
              refine lv_iinc (k := 2) (v := (v2) + 1) F.x F.b d_M_size_125 hl rfl (ii_1 _) (by decide) (lv' := [(2, .int ((v2) + 1)), (4, .int ((0 : Int32))), (3, .int (z.2 13 (z.2 7 (v2).toNatClampNeg).toNatClampNeg)), (0, .ref (ad 0)), (1, .int (v1))]) rfl (fun ls hl => ?_)
              refine lv_goto (tgt := 12) F.x F.b d_M_size_128 (by decide) ?_
              exact ih (war z 13 (v2).toNatClampNeg ((0 : Int32))) ((v2) + 1) (v1) _ _ _ X (lv_sub hl [0, 3, 4] rfl) h
        · have h := it_e hc h
          refine lv_iconst (v := (0 : Int32)) F.x F.b d_M_size_32 (by decide) ?_
          refine lv_goto (tgt := 47) F.x F.b d_M_size_33 (by decide) ?_
          refine lv_istore_n F.x F.b d_M_size_47 rfl hl (by decide) (lv' := [(3, .int ((0 : Int32))), (2, .int (v2)), (0, .ref (ad 0)), (1, .int (v1))]) rfl (fun ls hl => ?_)
          refine lv_aload_n F.x F.b d_M_size_48 rfl (lv_at hl 2 rfl) ?_
          refine r_get F X in_M 0 8 (gM_0 cI ad z) rfl (by decide) mt_447 rfl d_M_size_49 ?_
          refine lv_iload_n F.x F.b d_M_size_52 rfl (lv_at hl 1 rfl) ?_
          obtain ⟨hb31, h⟩ := it_b h
          refine r_ald F X 7 0 (gM_7 cI ad z) rfl hb31 d_M_size_53 ?_
          refine lv_iconst (v := (2 : Int32)) F.x F.b d_M_size_54 (by decide) ?_
          refine lv_icmp_ge (tgt := 62) F.x F.b d_M_size_55 (by decide) (fun hc => ?_) (fun hc => ?_)
          · have h := it_t hc h
            refine lv_aload_n F.x F.b d_M_size_62 rfl (lv_at hl 2 rfl) ?_
            refine r_get F X in_M 0 17 (gM_0 cI ad z) rfl (by decide) mt_456 rfl d_M_size_63 ?_
            refine lv_aload_n F.x F.b d_M_size_66 rfl (lv_at hl 2 rfl) ?_
            refine r_get F X in_M 0 10 (gM_0 cI ad z) rfl (by decide) mt_449 rfl d_M_size_67 ?_
            refine lv_iload_n F.x F.b d_M_size_70 rfl (lv_at hl 1 rfl) ?_
            obtain ⟨hb25, h⟩ := it_b h
            refine r_ald F X 9 0 (gM_9 cI ad z) rfl hb25 d_M_size_71 ?_
            obtain ⟨hb24, h⟩ := it_b h
            refine r_ald F X 14 0 (gM_14 cI ad z) rfl hb24 d_M_size_72 ?_
            refine lv_istore F.x F.b d_M_size_73 hl (by decide) (lv' := [(4, .int (z.2 13 (z.2 8 (v2).toNatClampNeg).toNatClampNeg)), (3, .int ((0 : Int32))), (2, .int (v2)), (0, .ref (ad 0)), (1, .int (v1))]) rfl (fun ls hl => ?_)
            refine lv_aload_n F.x F.b d_M_size_75 rfl (lv_at hl 3 rfl) ?_
            refine r_get F X in_M 0 17 (gM_0 cI ad z) rfl (by decide) mt_456 rfl d_M_size_76 ?_
            refine lv_iload_n F.x F.b d_M_size_79 rfl (lv_at hl 2 rfl) ?_
            refine lv_aload_n F.x F.b d_M_size_80 rfl (lv_at hl 3 rfl) ?_
            refine r_get F X in_M 0 8 (gM_0 cI ad z) rfl (by decide) mt_447 rfl d_M_size_81 ?_
            refine lv_iload_n F.x F.b d_M_size_84 rfl (lv_at hl 2 rfl) ?_
            obtain ⟨hb23, h⟩ := it_b h
            refine r_ald F X 7 0 (gM_7 cI ad z) rfl hb23 d_M_size_85 ?_
            refine lv_iconst (v := (2 : Int32)) F.x F.b d_M_size_86 (by decide) ?_
            refine lv_icmp_ge (tgt := 94) F.x F.b d_M_size_87 (by decide) (fun hc => ?_) (fun hc => ?_)
            · have h := it_t hc h
              refine lv_ldc F.x F.b F.2.2.2.1 (F.2.2.2.2.1 _ mt_587) d_M_size_94 ?_
              refine lv_aload_n F.x F.b d_M_size_96 rfl (lv_at hl 3 rfl) ?_
              refine r_get F X in_M 0 8 (gM_0 cI ad z) rfl (by decide) mt_447 rfl d_M_size_97 ?_
              refine lv_iload_n F.x F.b d_M_size_100 rfl (lv_at hl 2 rfl) ?_
              obtain ⟨hb21, h⟩ := it_b h
              refine r_ald F X 7 0 (gM_7 cI ad z) rfl hb21 d_M_size_101 ?_
              refine lv_iconst (v := (2 : Int32)) F.x F.b d_M_size_102 (by decide) ?_
              refine lv_icmp_ne (tgt := 117) F.x F.b d_M_size_103 (by decide) (fun hc => ?_) (fun hc => ?_)
              · have h := it_e hc h
                refine lv_iload_n F.x F.b d_M_size_117 rfl (lv_at hl 1 rfl) ?_
                refine lv_iload F.x F.b d_M_size_118 (lv_at hl 0 rfl) ?_
                refine lv_iadd F.x F.b d_M_size_120 ?_
                refine va_mmin F.x F.b (F.2.2.1.trans hl.1.symm) F.2.2.2.1 (F.2.2.2.2.1 _ mt_589) (F.2.2.2.2.1 _ mt_397) (F.2.2.2.2.1 _ mt_12) (F.2.2.2.2.1 _ mt_398) (by decide) (Nat.le_of_ble_eq_true rfl) (Nat.zero_le _) (Nat.zero_le _) d_M_size_121 ?_
                obtain ⟨hb19, h⟩ := it_b h
                refine r_ast F X 14 0 (gM_14 cI ad z) rfl hb19 d_M_size_124 (sM_14 cI ad z _ _) (fun H locs X => ?_)
                refine lv_iinc (k := 2) (v := (v2) + 1) F.x F.b d_M_size_125 hl rfl (ii_1 _) (by decide) (lv' := [(2, .int ((v2) + 1)), (4, .int (z.2 13 (z.2 8 (v2).toNatClampNeg).toNatClampNeg)), (3, .int ((0 : Int32))), (0, .ref (ad 0)), (1, .int (v1))]) rfl (fun ls hl => ?_)
                refine lv_goto (tgt := 12) F.x F.b d_M_size_128 (by decide) ?_
                exact ih (war z 13 (v2).toNatClampNeg ((if (((0 : Int32)) + (z.2 13 (z.2 8 (v2).toNatClampNeg).toNatClampNeg)) < ((1000000 : Int32)) then (((0 : Int32)) + (z.2 13 (z.2 8 (v2).toNatClampNeg).toNatClampNeg)) else ((1000000 : Int32))))) ((v2) + 1) (v1) _ _ _ X (lv_sub hl [0, 3, 4] rfl) h
              · have h := it_t hc h
                refine lv_iconst (v := (1 : Int32)) F.x F.b d_M_size_106 (by decide) ?_
                refine lv_iload_n F.x F.b d_M_size_107 rfl (lv_at hl 1 rfl) ?_
                refine lv_iload F.x F.b d_M_size_108 (lv_at hl 0 rfl) ?_
                refine va_mmax F.x F.b (F.2.2.1.trans hl.1.symm) F.2.2.2.1 (F.2.2.2.2.1 _ mt_588) (F.2.2.2.2.1 _ mt_393) (F.2.2.2.2.1 _ mt_12) (F.2.2.2.2.1 _ mt_394) (by decide) (Nat.le_of_ble_eq_true rfl) (Nat.zero_le _) (Nat.zero_le _) d_M_size_110 ?_
                refine lv_iadd F.x F.b d_M_size_113 ?_
                refine lv_goto (tgt := 121) F.x F.b d_M_size_114 (by decide) ?_
                refine va_mmin F.x F.b (F.2.2.1.trans hl.1.symm) F.2.2.2.1 (F.2.2.2.2.1 _ mt_589) (F.2.2.2.2.1 _ mt_397) (F.2.2.2.2.1 _ mt_12) (F.2.2.2.2.1 _ mt_398) (by decide) (Nat.le_of_ble_eq_true rfl) (Nat.zero_le _) (Nat.zero_le _) d_M_size_121 ?_
                obtain ⟨hb20, h⟩ := it_b h
                refine r_ast F X 14 0 (gM_14 cI ad z) rfl hb20 d_M_size_124 (sM_14 cI ad z _ _) (fun H locs X => ?_)
                refine lv_iinc (k := 2) (v := (v2) + 1) F.x F.b d_M_size_125 hl rfl (ii_1 _) (by decide) (lv' := [(2, .int ((v2) + 1)), (4, .int (z.2 13 (z.2 8 (v2).toNatClampNeg).toNatClampNeg)), (3, .int ((0 : Int32))), (0, .ref (ad 0)), (1, .int (v1))]) rfl (fun ls hl => ?_)
                refine lv_goto (tgt := 12) F.x F.b d_M_size_128 (by decide) ?_
                exact ih (war z 13 (v2).toNatClampNeg ((if (((1 : Int32)) + ((if ((0 : Int32)) < (z.2 13 (z.2 8 (v2).toNatClampNeg).toNatClampNeg) then (z.2 13 (z.2 8 (v2).toNatClampNeg).toNatClampNeg) else ((0 : Int32))))) < ((1000000 : Int32)) then (((1 : Int32)) + ((if ((0 : Int32)) < (z.2 13 (z.2 8 (v2).toNatClampNeg).toNatClampNeg) then (z.2 13 (z.2 8 (v2).toNatClampNeg).toNatClampNeg) else ((0 : Int32))))) else ((1000000 : Int32))))) ((v2) + 1) (v1) _ _ _ X (lv_sub hl [0, 3, 4] rfl) h
            · have h := it_e hc h
              refine lv_iconst (v := (0 : Int32)) F.x F.b d_M_size_90 (by decide) ?_
              refine lv_goto (tgt := 124) F.x F.b d_M_size_91 (by decide) ?_
              obtain ⟨hb22, h⟩ := it_b h
              refine r_ast F X 14 0 (gM_14 cI ad z) rfl hb22 d_M_size_124 (sM_14 cI ad z _ _) (fun H locs X => ?_)
              refine lv_iinc (k := 2) (v := (v2) + 1) F.x F.b d_M_size_125 hl rfl (ii_1 _) (by decide) (lv' := [(2, .int ((v2) + 1)), (4, .int (z.2 13 (z.2 8 (v2).toNatClampNeg).toNatClampNeg)), (3, .int ((0 : Int32))), (0, .ref (ad 0)), (1, .int (v1))]) rfl (fun ls hl => ?_)
              refine lv_goto (tgt := 12) F.x F.b d_M_size_128 (by decide) ?_
              exact ih (war z 13 (v2).toNatClampNeg ((0 : Int32))) ((v2) + 1) (v1) _ _ _ X (lv_sub hl [0, 3, 4] rfl) h
          · have h := it_e hc h
            refine lv_iconst (v := (0 : Int32)) F.x F.b d_M_size_58 (by decide) ?_
            refine lv_goto (tgt := 73) F.x F.b d_M_size_59 (by decide) ?_
            refine lv_istore F.x F.b d_M_size_73 hl (by decide) (lv' := [(4, .int ((0 : Int32))), (3, .int ((0 : Int32))), (2, .int (v2)), (0, .ref (ad 0)), (1, .int (v1))]) rfl (fun ls hl => ?_)
            refine lv_aload_n F.x F.b d_M_size_75 rfl (lv_at hl 3 rfl) ?_
            refine r_get F X in_M 0 17 (gM_0 cI ad z) rfl (by decide) mt_456 rfl d_M_size_76 ?_
            refine lv_iload_n F.x F.b d_M_size_79 rfl (lv_at hl 2 rfl) ?_
            refine lv_aload_n F.x F.b d_M_size_80 rfl (lv_at hl 3 rfl) ?_
            refine r_get F X in_M 0 8 (gM_0 cI ad z) rfl (by decide) mt_447 rfl d_M_size_81 ?_
            refine lv_iload_n F.x F.b d_M_size_84 rfl (lv_at hl 2 rfl) ?_
            obtain ⟨hb30, h⟩ := it_b h
            refine r_ald F X 7 0 (gM_7 cI ad z) rfl hb30 d_M_size_85 ?_
            refine lv_iconst (v := (2 : Int32)) F.x F.b d_M_size_86 (by decide) ?_
            refine lv_icmp_ge (tgt := 94) F.x F.b d_M_size_87 (by decide) (fun hc => ?_) (fun hc => ?_)
            · have h := it_t hc h
              refine lv_ldc F.x F.b F.2.2.2.1 (F.2.2.2.2.1 _ mt_587) d_M_size_94 ?_
              refine lv_aload_n F.x F.b d_M_size_96 rfl (lv_at hl 3 rfl) ?_
              refine r_get F X in_M 0 8 (gM_0 cI ad z) rfl (by decide) mt_447 rfl d_M_size_97 ?_
              refine lv_iload_n F.x F.b d_M_size_100 rfl (lv_at hl 2 rfl) ?_
              obtain ⟨hb28, h⟩ := it_b h
              refine r_ald F X 7 0 (gM_7 cI ad z) rfl hb28 d_M_size_101 ?_
              refine lv_iconst (v := (2 : Int32)) F.x F.b d_M_size_102 (by decide) ?_
              refine lv_icmp_ne (tgt := 117) F.x F.b d_M_size_103 (by decide) (fun hc => ?_) (fun hc => ?_)
              · have h := it_e hc h
                refine lv_iload_n F.x F.b d_M_size_117 rfl (lv_at hl 1 rfl) ?_
                refine lv_iload F.x F.b d_M_size_118 (lv_at hl 0 rfl) ?_
                refine lv_iadd F.x F.b d_M_size_120 ?_
                refine va_mmin F.x F.b (F.2.2.1.trans hl.1.symm) F.2.2.2.1 (F.2.2.2.2.1 _ mt_589) (F.2.2.2.2.1 _ mt_397) (F.2.2.2.2.1 _ mt_12) (F.2.2.2.2.1 _ mt_398) (by decide) (Nat.le_of_ble_eq_true rfl) (Nat.zero_le _) (Nat.zero_le _) d_M_size_121 ?_
                obtain ⟨hb26, h⟩ := it_b h
                refine r_ast F X 14 0 (gM_14 cI ad z) rfl hb26 d_M_size_124 (sM_14 cI ad z _ _) (fun H locs X => ?_)
                refine lv_iinc (k := 2) (v := (v2) + 1) F.x F.b d_M_size_125 hl rfl (ii_1 _) (by decide) (lv' := [(2, .int ((v2) + 1)), (4, .int ((0 : Int32))), (3, .int ((0 : Int32))), (0, .ref (ad 0)), (1, .int (v1))]) rfl (fun ls hl => ?_)
                refine lv_goto (tgt := 12) F.x F.b d_M_size_128 (by decide) ?_
                exact ih (war z 13 (v2).toNatClampNeg ((if (((0 : Int32)) + ((0 : Int32))) < ((1000000 : Int32)) then (((0 : Int32)) + ((0 : Int32))) else ((1000000 : Int32))))) ((v2) + 1) (v1) _ _ _ X (lv_sub hl [0, 3, 4] rfl) h
              · have h := it_t hc h
                refine lv_iconst (v := (1 : Int32)) F.x F.b d_M_size_106 (by decide) ?_
                refine lv_iload_n F.x F.b d_M_size_107 rfl (lv_at hl 1 rfl) ?_
                refine lv_iload F.x F.b d_M_size_108 (lv_at hl 0 rfl) ?_
                refine va_mmax F.x F.b (F.2.2.1.trans hl.1.symm) F.2.2.2.1 (F.2.2.2.2.1 _ mt_588) (F.2.2.2.2.1 _ mt_393) (F.2.2.2.2.1 _ mt_12) (F.2.2.2.2.1 _ mt_394) (by decide) (Nat.le_of_ble_eq_true rfl) (Nat.zero_le _) (Nat.zero_le _) d_M_size_110 ?_
                refine lv_iadd F.x F.b d_M_size_113 ?_
                refine lv_goto (tgt := 121) F.x F.b d_M_size_114 (by decide) ?_
                refine va_mmin F.x F.b (F.2.2.1.trans hl.1.symm) F.2.2.2.1 (F.2.2.2.2.1 _ mt_589) (F.2.2.2.2.1 _ mt_397) (F.2.2.2.2.1 _ mt_12) (F.2.2.2.2.1 _ mt_398) (by decide) (Nat.le_of_ble_eq_true rfl) (Nat.zero_le _) (Nat.zero_le _) d_M_size_121 ?_
                obtain ⟨hb27, h⟩ := it_b h
                refine r_ast F X 14 0 (gM_14 cI ad z) rfl hb27 d_M_size_124 (sM_14 cI ad z _ _) (fun H locs X => ?_)
                refine lv_iinc (k := 2) (v := (v2) + 1) F.x F.b d_M_size_125 hl rfl (ii_1 _) (by decide) (lv' := [(2, .int ((v2) + 1)), (4, .int ((0 : Int32))), (3, .int ((0 : Int32))), (0, .ref (ad 0)), (1, .int (v1))]) rfl (fun ls hl => ?_)
                refine lv_goto (tgt := 12) F.x F.b d_M_size_128 (by decide) ?_
                exact ih (war z 13 (v2).toNatClampNeg ((if (((1 : Int32)) + ((if ((0 : Int32)) < ((0 : Int32)) then ((0 : Int32)) else ((0 : Int32))))) < ((1000000 : Int32)) then (((1 : Int32)) + ((if ((0 : Int32)) < ((0 : Int32)) then ((0 : Int32)) else ((0 : Int32))))) else ((1000000 : Int32))))) ((v2) + 1) (v1) _ _ _ X (lv_sub hl [0, 3, 4] rfl) h
            · have h := it_e hc h
              refine lv_iconst (v := (0 : Int32)) F.x F.b d_M_size_90 (by decide) ?_
              refine lv_goto (tgt := 124) F.x F.b d_M_size_91 (by decide) ?_
              obtain ⟨hb29, h⟩ := it_b h
              refine r_ast F X 14 0 (gM_14 cI ad z) rfl hb29 d_M_size_124 (sM_14 cI ad z _ _) (fun H locs X => ?_)
              refine lv_iinc (k := 2) (v := (v2) + 1) F.x F.b d_M_size_125 hl rfl (ii_1 _) (by decide) (lv' := [(2, .int ((v2) + 1)), (4, .int ((0 : Int32))), (3, .int ((0 : Int32))), (0, .ref (ad 0)), (1, .int (v1))]) rfl (fun ls hl => ?_)
              refine lv_goto (tgt := 12) F.x F.b d_M_size_128 (by decide) ?_
              exact ih (war z 13 (v2).toNatClampNeg ((0 : Int32))) ((v2) + 1) (v1) _ _ _ X (lv_sub hl [0, 3, 4] rfl) h
  unfold f_M_size at h
  refine lv_aload_n F.x F.b d_M_size_0 rfl (lv_at hl 0 rfl) ?_
  refine lv_iload_n F.x F.b d_M_size_1 rfl (lv_at hl 1 rfl) ?_
  obtain ⟨q1, hq1, h⟩ := it_c h
  refine r_vi F X hl.1 (c_M_unknown l D cI ad z (v1) q1 hq1) (gM_0 cI ad z) rfl mt_555 mt_557 ms_45 mt_5 mt_558 ⟨rfl, hd_M_unknown⟩ ⟨by decide, by decide⟩ ⟨rfl, rfl⟩ ⟨Nat.zero_le _, Nat.zero_le _⟩ rfl (Nat.le_of_ble_eq_true rfl) d_M_size_2 rfl (fun H locs X => ?_)
  refine lv_if_eq (tgt := 10) F.x F.b d_M_size_5 (by decide) (fun hc => ?_) (fun hc => ?_)
  · have h := it_t hc h
    refine lv_iconst (v := (0 : Int32)) F.x F.b d_M_size_10 (by decide) ?_
    refine lv_istore_n F.x F.b d_M_size_11 rfl hl (by decide) (lv' := [(2, .int ((0 : Int32))), (0, .ref (ad 0)), (1, .int (v1))]) rfl (fun ls hl => ?_)
    exact L12 FU q1.2 ((0 : Int32)) (v1) _ _ _ X (lv_sub hl [0, 1, 2] rfl) h
  · have h := it_e hc h
    refine lv_iconst (v := (0 : Int32)) F.x F.b d_M_size_8 (by decide) ?_
    rw [← Option.some.inj h]
    exact fin_i F X hr d_M_size_9
theorem hd_M_values : y_M_values.cls ≠ "java/lang/invoke/MethodHandle" ∧ y_M_values.cls ≠ "java/lang/invoke/VarHandle" ∧ (parseMethodDescriptor y_M_values.desc).map (fun d => d.parameters.length) = some 1 := ⟨by decide, by decide, by decide +kernel⟩
set_option maxRecDepth 100000 in
set_option maxHeartbeats 4000000 in
theorem c_M_values (l : Launch) (D : Gd) (cI : ClassId) (ad : Nat → Nat) (z : St) (v1 : Int32) (q : Int32 × St) (h : f_M_values z v1 = some q) : CI l y_M_values (.code y_M_values b_M_values 7 (some .int)) { frames := 1104, cells := 0, slots := 0, locals := 27590 } D [(cI, .int)] [.ref (ad 0), .int v1] (cM cI ad z) q.1 (cM cI ad q.2) 0 0 := by
  refine mk_i (by decide) (Nat.le_of_ble_eq_true rfl) ?_
  intro p e s m args below meth c A ls F X hr hl
  have hl : lv_has ls 7 [(0, .ref (ad 0)), (1, .int (v1))] := hl
  have L12 : ∀ (n : Nat) (z : St) (v2 : Int32) (v1 : Int32) (H : Heap) (locs : List Loc) (ls : Array Slot), Wd D A s (cM cI ad z) H locs → lv_has ls 7 [(2, .int (v2)), (0, .ref (ad 0)), (1, .int (v1))] → f_M_values_l12 n z v2 v1 = some q → W p l e { frames := 1104, cells := 0, slots := 0, locals := 27590 } s m args below meth c H locs 0 0 (MQ below (va_Qi (fun (r' : Int32) (u : va_W) => r' = q.1 ∧ u = cM cI ad q.2) (Po D [(cI, .int)] A) A) args s 0 0 A) (F0 m 12 ls []) := by
    intro n
    induction n with
    | zero => intro z v2 v1 H locs ls X hl h; cases h
    | succ n ih =>
      intro z v2 v1 H locs ls X hl h
      rw [f_M_values_l12] at h
      refine lv_iload_n F.x F.b d_M_values_12 rfl (lv_at hl 0 rfl) ?_
      refine lv_aload_n F.x F.b d_M_values_13 rfl (lv_at hl 1 rfl) ?_
      refine r_get F X in_M 0 7 (gM_0 cI ad z) rfl (by decide) mt_446 rfl d_M_values_14 ?_
      refine lv_iload_n F.x F.b d_M_values_17 rfl (lv_at hl 2 rfl) ?_
      obtain ⟨hb33, h⟩ := it_b h
      refine r_ald F X 6 0 (gM_6 cI ad z) rfl hb33 d_M_values_18 ?_
      refine lv_icmp_gt (tgt := 131) F.x F.b d_M_values_19 (by decide) (fun hc => ?_) (fun hc => ?_)
      · have h := it_t hc h
        refine lv_aload_n F.x F.b d_M_values_131 rfl (lv_at hl 1 rfl) ?_
        refine r_get F X in_M 0 17 (gM_0 cI ad z) rfl (by decide) mt_456 rfl d_M_values_132 ?_
        refine lv_aload_n F.x F.b d_M_values_135 rfl (lv_at hl 1 rfl) ?_
        refine r_get F X in_M 0 7 (gM_0 cI ad z) rfl (by decide) mt_446 rfl d_M_values_136 ?_
        refine lv_iload_n F.x F.b d_M_values_139 rfl (lv_at hl 2 rfl) ?_
        obtain ⟨hb3, h⟩ := it_b h
        refine r_ald F X 6 0 (gM_6 cI ad z) rfl hb3 d_M_values_140 ?_
        obtain ⟨hb2, h⟩ := it_b h
        refine r_ald F X 14 0 (gM_14 cI ad z) rfl hb2 d_M_values_141 ?_
        rw [← Option.some.inj h]
        exact fin_i F X hr d_M_values_142
      · have h := it_e hc h
        refine lv_aload_n F.x F.b d_M_values_22 rfl (lv_at hl 1 rfl) ?_
        refine r_get F X in_M 0 8 (gM_0 cI ad z) rfl (by decide) mt_447 rfl d_M_values_23 ?_
        refine lv_iload_n F.x F.b d_M_values_26 rfl (lv_at hl 0 rfl) ?_
        obtain ⟨hb32, h⟩ := it_b h
        refine r_ald F X 7 0 (gM_7 cI ad z) rfl hb32 d_M_values_27 ?_
        refine lv_iconst (v := (2 : Int32)) F.x F.b d_M_values_28 (by decide) ?_
        refine lv_icmp_ge (tgt := 36) F.x F.b d_M_values_29 (by decide) (fun hc => ?_) (fun hc => ?_)
        · have h := it_t hc h
          refine lv_aload_n F.x F.b d_M_values_36 rfl (lv_at hl 1 rfl) ?_
          refine r_get F X in_M 0 17 (gM_0 cI ad z) rfl (by decide) mt_456 rfl d_M_values_37 ?_
          refine lv_aload_n F.x F.b d_M_values_40 rfl (lv_at hl 1 rfl) ?_
          refine r_get F X in_M 0 9 (gM_0 cI ad z) rfl (by decide) mt_448 rfl d_M_values_41 ?_
          refine lv_iload_n F.x F.b d_M_values_44 rfl (lv_at hl 0 rfl) ?_
          obtain ⟨hb18, h⟩ := it_b h
          refine r_ald F X 8 0 (gM_8 cI ad z) rfl hb18 d_M_values_45 ?_
          obtain ⟨hb17, h⟩ := it_b h
          refine r_ald F X 14 0 (gM_14 cI ad z) rfl hb17 d_M_values_46 ?_
          refine lv_i2l (v := (z.2 13 (z.2 7 (v2).toNatClampNeg).toNatClampNeg).toInt64) F.x F.b d_M_values_47 rfl ?_
          refine lv_lstore_n F.x F.b d_M_values_48 rfl hl (by decide) (lv' := [(3, .long ((z.2 13 (z.2 7 (v2).toNatClampNeg).toNatClampNeg).toInt64)), (2, .int (v2)), (0, .ref (ad 0)), (1, .int (v1))]) rfl (fun ls hl => ?_)
          refine lv_aload_n F.x F.b d_M_values_49 rfl (lv_at hl 2 rfl) ?_
          refine r_get F X in_M 0 8 (gM_0 cI ad z) rfl (by decide) mt_447 rfl d_M_values_50 ?_
          refine lv_iload_n F.x F.b d_M_values_53 rfl (lv_at hl 1 rfl) ?_
          obtain ⟨hb16, h⟩ := it_b h
          refine r_ald F X 7 0 (gM_7 cI ad z) rfl hb16 d_M_values_54 ?_
          refine lv_iconst (v := (2 : Int32)) F.x F.b d_M_values_55 (by decide) ?_
          refine lv_icmp_ge (tgt := 63) F.x F.b d_M_values_56 (by decide) (fun hc => ?_) (fun hc => ?_)
          · have h := it_t hc h
            refine lv_aload_n F.x F.b d_M_values_63 rfl (lv_at hl 2 rfl) ?_
            refine r_get F X in_M 0 17 (gM_0 cI ad z) rfl (by decide) mt_456 rfl d_M_values_64 ?_
            refine lv_aload_n F.x F.b d_M_values_67 rfl (lv_at hl 2 rfl) ?_
            refine r_get F X in_M 0 10 (gM_0 cI ad z) rfl (by decide) mt_449 rfl d_M_values_68 ?_
            refine lv_iload_n F.x F.b d_M_values_71 rfl (lv_at hl 1 rfl) ?_
            obtain ⟨hb10, h⟩ := it_b h
            refine r_ald F X 9 0 (gM_9 cI ad z) rfl hb10 d_M_values_72 ?_
            obtain ⟨hb9, h⟩ := it_b h
            refine r_ald F X 14 0 (gM_14 cI ad z) rfl hb9 d_M_values_73 ?_
            refine lv_i2l (v := (z.2 13 (z.2 8 (v2).toNatClampNeg).toNatClampNeg).toInt64) F.x F.b d_M_values_74 rfl ?_
            refine lv_lstore F.x F.b d_M_values_75 hl (by decide) (lv' := [(5, .long ((z.2 13 (z.2 8 (v2).toNatClampNeg).toNatClampNeg).toInt64)), (3, .long ((z.2 13 (z.2 7 (v2).toNatClampNeg).toNatClampNeg).toInt64)), (2, .int (v2)), (0, .ref (ad 0)), (1, .int (v1))]) rfl (fun ls hl => ?_)
            refine lv_aload_n F.x F.b d_M_values_77 rfl (lv_at hl 3 rfl) ?_
            refine r_get F X in_M 0 17 (gM_0 cI ad z) rfl (by decide) mt_456 rfl d_M_values_78 ?_
            refine lv_iload_n F.x F.b d_M_values_81 rfl (lv_at hl 2 rfl) ?_
            refine lv_aload_n F.x F.b d_M_values_82 rfl (lv_at hl 3 rfl) ?_
            refine r_get F X in_M 0 8 (gM_0 cI ad z) rfl (by decide) mt_447 rfl d_M_values_83 ?_
            refine lv_iload_n F.x F.b d_M_values_86 rfl (lv_at hl 2 rfl) ?_
            obtain ⟨hb8, h⟩ := it_b h
            refine r_ald F X 7 0 (gM_7 cI ad z) rfl hb8 d_M_values_87 ?_
            refine lv_iconst (v := (2 : Int32)) F.x F.b d_M_values_88 (by decide) ?_
            refine lv_icmp_ge (tgt := 96) F.x F.b d_M_values_89 (by decide) (fun hc => ?_) (fun hc => ?_)
            · have h := it_t hc h
              refine lv_ldc2 F.x F.b F.2.2.2.1 (F.2.2.2.2.1 _ mt_594) d_M_values_96 ?_
              refine lv_aload_n F.x F.b d_M_values_99 rfl (lv_at hl 3 rfl) ?_
              refine r_get F X in_M 0 8 (gM_0 cI ad z) rfl (by decide) mt_447 rfl d_M_values_100 ?_
              refine lv_iload_n F.x F.b d_M_values_103 rfl (lv_at hl 2 rfl) ?_
              obtain ⟨hb6, h⟩ := it_b h
              refine r_ald F X 7 0 (gM_7 cI ad z) rfl hb6 d_M_values_104 ?_
              refine lv_iconst (v := (2 : Int32)) F.x F.b d_M_values_105 (by decide) ?_
              refine lv_icmp_ne (tgt := 116) F.x F.b d_M_values_106 (by decide) (fun hc => ?_) (fun hc => ?_)
              · have h := it_e hc h
                refine lv_lload_n F.x F.b d_M_values_116 rfl (lv_at hl 1 rfl) ?_
                refine lv_lload F.x F.b d_M_values_117 (lv_at hl 0 rfl) ?_
                refine lv_lmul F.x F.b d_M_values_119 ?_
                refine va_mmin_long F.x F.b (F.2.2.1.trans hl.1.symm) F.2.2.2.1 (F.2.2.2.2.1 _ mt_595) (F.2.2.2.2.1 _ mt_412) (F.2.2.2.2.1 _ mt_12) (F.2.2.2.2.1 _ mt_413) (by decide) (Nat.le_of_ble_eq_true rfl) (Nat.zero_le _) (Nat.zero_le _) d_M_values_120 ?_
                refine lv_l2i (v := ((if (((z.2 13 (z.2 7 (v2).toNatClampNeg).toNatClampNeg).toInt64) * ((z.2 13 (z.2 8 (v2).toNatClampNeg).toNatClampNeg).toInt64)) < ((1073741824 : Int64)) then (((z.2 13 (z.2 7 (v2).toNatClampNeg).toNatClampNeg).toInt64) * ((z.2 13 (z.2 8 (v2).toNatClampNeg).toNatClampNeg).toInt64)) else ((1073741824 : Int64)))).toInt32) F.x F.b d_M_values_123 rfl ?_
                obtain ⟨hb4, h⟩ := it_b h
                refine r_ast F X 14 0 (gM_14 cI ad z) rfl hb4 d_M_values_124 (sM_14 cI ad z _ _) (fun H locs X => ?_)
                refine lv_iinc (k := 2) (v := (v2) + 1) F.x F.b d_M_values_125 hl rfl (ii_1 _) (by decide) (lv' := [(2, .int ((v2) + 1)), (5, .long ((z.2 13 (z.2 8 (v2).toNatClampNeg).toNatClampNeg).toInt64)), (3, .long ((z.2 13 (z.2 7 (v2).toNatClampNeg).toNatClampNeg).toInt64)), (0, .ref (ad 0)), (1, .int (v1))]) rfl (fun ls hl => ?_)
                refine lv_goto (tgt := 12) F.x F.b d_M_values_128 (by decide) ?_
                exact ih (war z 13 (v2).toNatClampNeg (((if (((z.2 13 (z.2 7 (v2).toNatClampNeg).toNatClampNeg).toInt64) * ((z.2 13 (z.2 8 (v2).toNatClampNeg).toNatClampNeg).toInt64)) < ((1073741824 : Int64)) then (((z.2 13 (z.2 7 (v2).toNatClampNeg).toNatClampNeg).toInt64) * ((z.2 13 (z.2 8 (v2).toNatClampNeg).toNatClampNeg).toInt64)) else ((1073741824 : Int64)))).toInt32)) ((v2) + 1) (v1) _ _ _ X (lv_sub hl [0, 3, 4] rfl) h
              · have h := it_t hc h
                refine lv_lload_n F.x F.b d_M_values_109 rfl (lv_at hl 1 rfl) ?_
                refine lv_lload F.x F.b d_M_values_110 (lv_at hl 0 rfl) ?_
                refine lv_ladd F.x F.b d_M_values_112 ?_
                refine lv_goto (tgt := 120) F.x F.b d_M_values_113 (by decide) ?_
                refine va_mmin_long F.x F.b (F.2.2.1.trans hl.1.symm) F.2.2.2.1 (F.2.2.2.2.1 _ mt_595) (F.2.2.2.2.1 _ mt_412) (F.2.2.2.2.1 _ mt_12) (F.2.2.2.2.1 _ mt_413) (by decide) (Nat.le_of_ble_eq_true rfl) (Nat.zero_le _) (Nat.zero_le _) d_M_values_120 ?_
                refine lv_l2i (v := ((if (((z.2 13 (z.2 7 (v2).toNatClampNeg).toNatClampNeg).toInt64) + ((z.2 13 (z.2 8 (v2).toNatClampNeg).toNatClampNeg).toInt64)) < ((1073741824 : Int64)) then (((z.2 13 (z.2 7 (v2).toNatClampNeg).toNatClampNeg).toInt64) + ((z.2 13 (z.2 8 (v2).toNatClampNeg).toNatClampNeg).toInt64)) else ((1073741824 : Int64)))).toInt32) F.x F.b d_M_values_123 rfl ?_
                obtain ⟨hb5, h⟩ := it_b h
                refine r_ast F X 14 0 (gM_14 cI ad z) rfl hb5 d_M_values_124 (sM_14 cI ad z _ _) (fun H locs X => ?_)
                refine lv_iinc (k := 2) (v := (v2) + 1) F.x F.b d_M_values_125 hl rfl (ii_1 _) (by decide) (lv' := [(2, .int ((v2) + 1)), (5, .long ((z.2 13 (z.2 8 (v2).toNatClampNeg).toNatClampNeg).toInt64)), (3, .long ((z.2 13 (z.2 7 (v2).toNatClampNeg).toNatClampNeg).toInt64)), (0, .ref (ad 0)), (1, .int (v1))]) rfl (fun ls hl => ?_)
                refine lv_goto (tgt := 12) F.x F.b d_M_values_128 (by decide) ?_
                exact ih (war z 13 (v2).toNatClampNeg (((if (((z.2 13 (z.2 7 (v2).toNatClampNeg).toNatClampNeg).toInt64) + ((z.2 13 (z.2 8 (v2).toNatClampNeg).toNatClampNeg).toInt64)) < ((1073741824 : Int64)) then (((z.2 13 (z.2 7 (v2).toNatClampNeg).toNatClampNeg).toInt64) + ((z.2 13 (z.2 8 (v2).toNatClampNeg).toNatClampNeg).toInt64)) else ((1073741824 : Int64)))).toInt32)) ((v2) + 1) (v1) _ _ _ X (lv_sub hl [0, 3, 4] rfl) h
            · have h := it_e hc h
              refine lv_iconst (v := (1 : Int32)) F.x F.b d_M_values_92 (by decide) ?_
              refine lv_goto (tgt := 124) F.x F.b d_M_values_93 (by decide) ?_
              obtain ⟨hb7, h⟩ := it_b h
              refine r_ast F X 14 0 (gM_14 cI ad z) rfl hb7 d_M_values_124 (sM_14 cI ad z _ _) (fun H locs X => ?_)
              refine lv_iinc (k := 2) (v := (v2) + 1) F.x F.b d_M_values_125 hl rfl (ii_1 _) (by decide) (lv' := [(2, .int ((v2) + 1)), (5, .long ((z.2 13 (z.2 8 (v2).toNatClampNeg).toNatClampNeg).toInt64)), (3, .long ((z.2 13 (z.2 7 (v2).toNatClampNeg).toNatClampNeg).toInt64)), (0, .ref (ad 0)), (1, .int (v1))]) rfl (fun ls hl => ?_)
              refine lv_goto (tgt := 12) F.x F.b d_M_values_128 (by decide) ?_
              exact ih (war z 13 (v2).toNatClampNeg ((1 : Int32))) ((v2) + 1) (v1) _ _ _ X (lv_sub hl [0, 3, 4] rfl) h
          · have h := it_e hc h
            refine lv_lconst (v := 1) F.x F.b d_M_values_59 (by decide) ?_
            refine lv_goto (tgt := 75) F.x F.b d_M_values_60 (by decide) ?_
            refine lv_lstore F.x F.b d_M_values_75 hl (by decide) (lv' := [(5, .long ((1 : Int64))), (3, .long ((z.2 13 (z.2 7 (v2).toNatClampNeg).toNatClampNeg).toInt64)), (2, .int (v2)), (0, .ref (ad 0)), (1, .int (v1))]) rfl (fun ls hl => ?_)
            refine lv_aload_n F.x F.b d_M_values_77 rfl (lv_at hl 3 rfl) ?_
            refine r_get F X in_M 0 17 (gM_0 cI ad z) rfl (by decide) mt_456 rfl d_M_values_78 ?_
            refine lv_iload_n F.x F.b d_M_values_81 rfl (lv_at hl 2 rfl) ?_
            refine lv_aload_n F.x F.b d_M_values_82 rfl (lv_at hl 3 rfl) ?_
            refine r_get F X in_M 0 8 (gM_0 cI ad z) rfl (by decide) mt_447 rfl d_M_values_83 ?_
            refine lv_iload_n F.x F.b d_M_values_86 rfl (lv_at hl 2 rfl) ?_
            obtain ⟨hb15, h⟩ := it_b h
            refine r_ald F X 7 0 (gM_7 cI ad z) rfl hb15 d_M_values_87 ?_
            refine lv_iconst (v := (2 : Int32)) F.x F.b d_M_values_88 (by decide) ?_
            refine lv_icmp_ge (tgt := 96) F.x F.b d_M_values_89 (by decide) (fun hc => ?_) (fun hc => ?_)
            · have h := it_t hc h
              refine lv_ldc2 F.x F.b F.2.2.2.1 (F.2.2.2.2.1 _ mt_594) d_M_values_96 ?_
              refine lv_aload_n F.x F.b d_M_values_99 rfl (lv_at hl 3 rfl) ?_
              refine r_get F X in_M 0 8 (gM_0 cI ad z) rfl (by decide) mt_447 rfl d_M_values_100 ?_
              refine lv_iload_n F.x F.b d_M_values_103 rfl (lv_at hl 2 rfl) ?_
              obtain ⟨hb13, h⟩ := it_b h
              refine r_ald F X 7 0 (gM_7 cI ad z) rfl hb13 d_M_values_104 ?_
              refine lv_iconst (v := (2 : Int32)) F.x F.b d_M_values_105 (by decide) ?_
              refine lv_icmp_ne (tgt := 116) F.x F.b d_M_values_106 (by decide) (fun hc => ?_) (fun hc => ?_)
              · have h := it_e hc h
                refine lv_lload_n F.x F.b d_M_values_116 rfl (lv_at hl 1 rfl) ?_
                refine lv_lload F.x F.b d_M_values_117 (lv_at hl 0 rfl) ?_
                refine lv_lmul F.x F.b d_M_values_119 ?_
                refine va_mmin_long F.x F.b (F.2.2.1.trans hl.1.symm) F.2.2.2.1 (F.2.2.2.2.1 _ mt_595) (F.2.2.2.2.1 _ mt_412) (F.2.2.2.2.1 _ mt_12) (F.2.2.2.2.1 _ mt_413) (by decide) (Nat.le_of_ble_eq_true rfl) (Nat.zero_le _) (Nat.zero_le _) d_M_values_120 ?_
                refine lv_l2i (v := ((if (((z.2 13 (z.2 7 (v2).toNatClampNeg).toNatClampNeg).toInt64) * ((1 : Int64))) < ((1073741824 : Int64)) then (((z.2 13 (z.2 7 (v2).toNatClampNeg).toNatClampNeg).toInt64) * ((1 : Int64))) else ((1073741824 : Int64)))).toInt32) F.x F.b d_M_values_123 rfl ?_
                obtain ⟨hb11, h⟩ := it_b h
                refine r_ast F X 14 0 (gM_14 cI ad z) rfl hb11 d_M_values_124 (sM_14 cI ad z _ _) (fun H locs X => ?_)
                refine lv_iinc (k := 2) (v := (v2) + 1) F.x F.b d_M_values_125 hl rfl (ii_1 _) (by decide) (lv' := [(2, .int ((v2) + 1)), (5, .long ((1 : Int64))), (3, .long ((z.2 13 (z.2 7 (v2).toNatClampNeg).toNatClampNeg).toInt64)), (0, .ref (ad 0)), (1, .int (v1))]) rfl (fun ls hl => ?_)
                refine lv_goto (tgt := 12) F.x F.b d_M_values_128 (by decide) ?_
                exact ih (war z 13 (v2).toNatClampNeg (((if (((z.2 13 (z.2 7 (v2).toNatClampNeg).toNatClampNeg).toInt64) * ((1 : Int64))) < ((1073741824 : Int64)) then (((z.2 13 (z.2 7 (v2).toNatClampNeg).toNatClampNeg).toInt64) * ((1 : Int64))) else ((1073741824 : Int64)))).toInt32)) ((v2) + 1) (v1) _ _ _ X (lv_sub hl [0, 3, 4] rfl) h
              · have h := it_t hc h
                refine lv_lload_n F.x F.b d_M_values_109 rfl (lv_at hl 1 rfl) ?_
                refine lv_lload F.x F.b d_M_values_110 (lv_at hl 0 rfl) ?_
                refine lv_ladd F.x F.b d_M_values_112 ?_
                refine lv_goto (tgt := 120) F.x F.b d_M_values_113 (by decide) ?_
                refine va_mmin_long F.x F.b (F.2.2.1.trans hl.1.symm) F.2.2.2.1 (F.2.2.2.2.1 _ mt_595) (F.2.2.2.2.1 _ mt_412) (F.2.2.2.2.1 _ mt_12) (F.2.2.2.2.1 _ mt_413) (by decide) (Nat.le_of_ble_eq_true rfl) (Nat.zero_le _) (Nat.zero_le _) d_M_values_120 ?_
                refine lv_l2i (v := ((if (((z.2 13 (z.2 7 (v2).toNatClampNeg).toNatClampNeg).toInt64) + ((1 : Int64))) < ((1073741824 : Int64)) then (((z.2 13 (z.2 7 (v2).toNatClampNeg).toNatClampNeg).toInt64) + ((1 : Int64))) else ((1073741824 : Int64)))).toInt32) F.x F.b d_M_values_123 rfl ?_
                obtain ⟨hb12, h⟩ := it_b h
                refine r_ast F X 14 0 (gM_14 cI ad z) rfl hb12 d_M_values_124 (sM_14 cI ad z _ _) (fun H locs X => ?_)
                refine lv_iinc (k := 2) (v := (v2) + 1) F.x F.b d_M_values_125 hl rfl (ii_1 _) (by decide) (lv' := [(2, .int ((v2) + 1)), (5, .long ((1 : Int64))), (3, .long ((z.2 13 (z.2 7 (v2).toNatClampNeg).toNatClampNeg).toInt64)), (0, .ref (ad 0)), (1, .int (v1))]) rfl (fun ls hl => ?_)
                refine lv_goto (tgt := 12) F.x F.b d_M_values_128 (by decide) ?_
                exact ih (war z 13 (v2).toNatClampNeg (((if (((z.2 13 (z.2 7 (v2).toNatClampNeg).toNatClampNeg).toInt64) + ((1 : Int64))) < ((1073741824 : Int64)) then (((z.2 13 (z.2 7 (v2).toNatClampNeg).toNatClampNeg).toInt64) + ((1 : Int64))) else ((1073741824 : Int64)))).toInt32)) ((v2) + 1) (v1) _ _ _ X (lv_sub hl [0, 3, 4] rfl) h
            · have h := it_e hc h
              refine lv_iconst (v := (1 : Int32)) F.x F.b d_M_values_92 (by decide) ?_
              refine lv_goto (tgt := 124) F.x F.b d_M_values_93 (by decide) ?_
              obtain ⟨hb14, h⟩ := it_b h
              refine r_ast F X 14 0 (gM_14 cI ad z) rfl hb14 d_M_values_124 (sM_14 cI ad z _ _) (fun H locs X => ?_)
              refine lv_iinc (k := 2) (v := (v2) + 1) F.x F.b d_M_values_125 hl rfl (ii_1 _) (by decide) (lv' := [(2, .int ((v2) + 1)), (5, .long ((1 : Int64))), (3, .long ((z.2 13 (z.2 7 (v2).toNatClampNeg).toNatClampNeg).toInt64)), (0, .ref (ad 0)), (1, .int (v1))]) rfl (fun ls hl => ?_)
              refine lv_goto (tgt := 12) F.x F.b d_M_values_128 (by decide) ?_
              exact ih (war z 13 (v2).toNatClampNeg ((1 : Int32))) ((v2) + 1) (v1) _ _ _ X (lv_sub hl [0, 3, 4] rfl) h
        · have h := it_e hc h
          refine lv_lconst (v := 1) F.x F.b d_M_values_32 (by decide) ?_
          refine lv_goto (tgt := 48) F.x F.b d_M_values_33 (by decide) ?_
          refine lv_lstore_n F.x F.b d_M_values_48 rfl hl (by decide) (lv' := [(3, .long ((1 : Int64))), (2, .int (v2)), (0, .ref (ad 0)), (1, .int (v1))]) rfl (fun ls hl => ?_)
          refine lv_aload_n F.x F.b d_M_values_49 rfl (lv_at hl 2 rfl) ?_
          refine r_get F X in_M 0 8 (gM_0 cI ad z) rfl (by decide) mt_447 rfl d_M_values_50 ?_
          refine lv_iload_n F.x F.b d_M_values_53 rfl (lv_at hl 1 rfl) ?_
          obtain ⟨hb31, h⟩ := it_b h
          refine r_ald F X 7 0 (gM_7 cI ad z) rfl hb31 d_M_values_54 ?_
          refine lv_iconst (v := (2 : Int32)) F.x F.b d_M_values_55 (by decide) ?_
          refine lv_icmp_ge (tgt := 63) F.x F.b d_M_values_56 (by decide) (fun hc => ?_) (fun hc => ?_)
          · have h := it_t hc h
            refine lv_aload_n F.x F.b d_M_values_63 rfl (lv_at hl 2 rfl) ?_
            refine r_get F X in_M 0 17 (gM_0 cI ad z) rfl (by decide) mt_456 rfl d_M_values_64 ?_
            refine lv_aload_n F.x F.b d_M_values_67 rfl (lv_at hl 2 rfl) ?_
            refine r_get F X in_M 0 10 (gM_0 cI ad z) rfl (by decide) mt_449 rfl d_M_values_68 ?_
            refine lv_iload_n F.x F.b d_M_values_71 rfl (lv_at hl 1 rfl) ?_
            obtain ⟨hb25, h⟩ := it_b h
            refine r_ald F X 9 0 (gM_9 cI ad z) rfl hb25 d_M_values_72 ?_
            obtain ⟨hb24, h⟩ := it_b h
            refine r_ald F X 14 0 (gM_14 cI ad z) rfl hb24 d_M_values_73 ?_
            refine lv_i2l (v := (z.2 13 (z.2 8 (v2).toNatClampNeg).toNatClampNeg).toInt64) F.x F.b d_M_values_74 rfl ?_
            refine lv_lstore F.x F.b d_M_values_75 hl (by decide) (lv' := [(5, .long ((z.2 13 (z.2 8 (v2).toNatClampNeg).toNatClampNeg).toInt64)), (3, .long ((1 : Int64))), (2, .int (v2)), (0, .ref (ad 0)), (1, .int (v1))]) rfl (fun ls hl => ?_)
            refine lv_aload_n F.x F.b d_M_values_77 rfl (lv_at hl 3 rfl) ?_
            refine r_get F X in_M 0 17 (gM_0 cI ad z) rfl (by decide) mt_456 rfl d_M_values_78 ?_
            refine lv_iload_n F.x F.b d_M_values_81 rfl (lv_at hl 2 rfl) ?_
            refine lv_aload_n F.x F.b d_M_values_82 rfl (lv_at hl 3 rfl) ?_
            refine r_get F X in_M 0 8 (gM_0 cI ad z) rfl (by decide) mt_447 rfl d_M_values_83 ?_
            refine lv_iload_n F.x F.b d_M_values_86 rfl (lv_at hl 2 rfl) ?_
            obtain ⟨hb23, h⟩ := it_b h
            refine r_ald F X 7 0 (gM_7 cI ad z) rfl hb23 d_M_values_87 ?_
            refine lv_iconst (v := (2 : Int32)) F.x F.b d_M_values_88 (by decide) ?_
            refine lv_icmp_ge (tgt := 96) F.x F.b d_M_values_89 (by decide) (fun hc => ?_) (fun hc => ?_)
            · have h := it_t hc h
              refine lv_ldc2 F.x F.b F.2.2.2.1 (F.2.2.2.2.1 _ mt_594) d_M_values_96 ?_
              refine lv_aload_n F.x F.b d_M_values_99 rfl (lv_at hl 3 rfl) ?_
              refine r_get F X in_M 0 8 (gM_0 cI ad z) rfl (by decide) mt_447 rfl d_M_values_100 ?_
              refine lv_iload_n F.x F.b d_M_values_103 rfl (lv_at hl 2 rfl) ?_
              obtain ⟨hb21, h⟩ := it_b h
              refine r_ald F X 7 0 (gM_7 cI ad z) rfl hb21 d_M_values_104 ?_
              refine lv_iconst (v := (2 : Int32)) F.x F.b d_M_values_105 (by decide) ?_
              refine lv_icmp_ne (tgt := 116) F.x F.b d_M_values_106 (by decide) (fun hc => ?_) (fun hc => ?_)
              · have h := it_e hc h
                refine lv_lload_n F.x F.b d_M_values_116 rfl (lv_at hl 1 rfl) ?_
                refine lv_lload F.x F.b d_M_values_117 (lv_at hl 0 rfl) ?_
                refine lv_lmul F.x F.b d_M_values_119 ?_
                refine va_mmin_long F.x F.b (F.2.2.1.trans hl.1.symm) F.2.2.2.1 (F.2.2.2.2.1 _ mt_595) (F.2.2.2.2.1 _ mt_412) (F.2.2.2.2.1 _ mt_12) (F.2.2.2.2.1 _ mt_413) (by decide) (Nat.le_of_ble_eq_true rfl) (Nat.zero_le _) (Nat.zero_le _) d_M_values_120 ?_
                refine lv_l2i (v := ((if (((1 : Int64)) * ((z.2 13 (z.2 8 (v2).toNatClampNeg).toNatClampNeg).toInt64)) < ((1073741824 : Int64)) then (((1 : Int64)) * ((z.2 13 (z.2 8 (v2).toNatClampNeg).toNatClampNeg).toInt64)) else ((1073741824 : Int64)))).toInt32) F.x F.b d_M_values_123 rfl ?_
                obtain ⟨hb19, h⟩ := it_b h
                refine r_ast F X 14 0 (gM_14 cI ad z) rfl hb19 d_M_values_124 (sM_14 cI ad z _ _) (fun H locs X => ?_)
                refine lv_iinc (k := 2) (v := (v2) + 1) F.x F.b d_M_values_125 hl rfl (ii_1 _) (by decide) (lv' := [(2, .int ((v2) + 1)), (5, .long ((z.2 13 (z.2 8 (v2).toNatClampNeg).toNatClampNeg).toInt64)), (3, .long ((1 : Int64))), (0, .ref (ad 0)), (1, .int (v1))]) rfl (fun ls hl => ?_)
                refine lv_goto (tgt := 12) F.x F.b d_M_values_128 (by decide) ?_
                exact ih (war z 13 (v2).toNatClampNeg (((if (((1 : Int64)) * ((z.2 13 (z.2 8 (v2).toNatClampNeg).toNatClampNeg).toInt64)) < ((1073741824 : Int64)) then (((1 : Int64)) * ((z.2 13 (z.2 8 (v2).toNatClampNeg).toNatClampNeg).toInt64)) else ((1073741824 : Int64)))).toInt32)) ((v2) + 1) (v1) _ _ _ X (lv_sub hl [0, 3, 4] rfl) h
              · have h := it_t hc h
                refine lv_lload_n F.x F.b d_M_values_109 rfl (lv_at hl 1 rfl) ?_
                refine lv_lload F.x F.b d_M_values_110 (lv_at hl 0 rfl) ?_
                refine lv_ladd F.x F.b d_M_values_112 ?_
                refine lv_goto (tgt := 120) F.x F.b d_M_values_113 (by decide) ?_
                refine va_mmin_long F.x F.b (F.2.2.1.trans hl.1.symm) F.2.2.2.1 (F.2.2.2.2.1 _ mt_595) (F.2.2.2.2.1 _ mt_412) (F.2.2.2.2.1 _ mt_12) (F.2.2.2.2.1 _ mt_413) (by decide) (Nat.le_of_ble_eq_true rfl) (Nat.zero_le _) (Nat.zero_le _) d_M_values_120 ?_
                refine lv_l2i (v := ((if (((1 : Int64)) + ((z.2 13 (z.2 8 (v2).toNatClampNeg).toNatClampNeg).toInt64)) < ((1073741824 : Int64)) then (((1 : Int64)) + ((z.2 13 (z.2 8 (v2).toNatClampNeg).toNatClampNeg).toInt64)) else ((1073741824 : Int64)))).toInt32) F.x F.b d_M_values_123 rfl ?_
                obtain ⟨hb20, h⟩ := it_b h
                refine r_ast F X 14 0 (gM_14 cI ad z) rfl hb20 d_M_values_124 (sM_14 cI ad z _ _) (fun H locs X => ?_)
                refine lv_iinc (k := 2) (v := (v2) + 1) F.x F.b d_M_values_125 hl rfl (ii_1 _) (by decide) (lv' := [(2, .int ((v2) + 1)), (5, .long ((z.2 13 (z.2 8 (v2).toNatClampNeg).toNatClampNeg).toInt64)), (3, .long ((1 : Int64))), (0, .ref (ad 0)), (1, .int (v1))]) rfl (fun ls hl => ?_)
                refine lv_goto (tgt := 12) F.x F.b d_M_values_128 (by decide) ?_
                exact ih (war z 13 (v2).toNatClampNeg (((if (((1 : Int64)) + ((z.2 13 (z.2 8 (v2).toNatClampNeg).toNatClampNeg).toInt64)) < ((1073741824 : Int64)) then (((1 : Int64)) + ((z.2 13 (z.2 8 (v2).toNatClampNeg).toNatClampNeg).toInt64)) else ((1073741824 : Int64)))).toInt32)) ((v2) + 1) (v1) _ _ _ X (lv_sub hl [0, 3, 4] rfl) h
            · have h := it_e hc h
              refine lv_iconst (v := (1 : Int32)) F.x F.b d_M_values_92 (by decide) ?_
              refine lv_goto (tgt := 124) F.x F.b d_M_values_93 (by decide) ?_
              obtain ⟨hb22, h⟩ := it_b h
              refine r_ast F X 14 0 (gM_14 cI ad z) rfl hb22 d_M_values_124 (sM_14 cI ad z _ _) (fun H locs X => ?_)
              refine lv_iinc (k := 2) (v := (v2) + 1) F.x F.b d_M_values_125 hl rfl (ii_1 _) (by decide) (lv' := [(2, .int ((v2) + 1)), (5, .long ((z.2 13 (z.2 8 (v2).toNatClampNeg).toNatClampNeg).toInt64)), (3, .long ((1 : Int64))), (0, .ref (ad 0)), (1, .int (v1))]) rfl (fun ls hl => ?_)
              refine lv_goto (tgt := 12) F.x F.b d_M_values_128 (by decide) ?_
              exact ih (war z 13 (v2).toNatClampNeg ((1 : Int32))) ((v2) + 1) (v1) _ _ _ X (lv_sub hl [0, 3, 4] rfl) h
          · have h := it_e hc h
            refine lv_lconst (v := 1) F.x F.b d_M_values_59 (by decide) ?_
            refine lv_goto (tgt := 75) F.x F.b d_M_values_60 (by decide) ?_
            refine lv_lstore F.x F.b d_M_values_75 hl (by decide) (lv' := [(5, .long ((1 : Int64))), (3, .long ((1 : Int64))), (2, .int (v2)), (0, .ref (ad 0)), (1, .int (v1))]) rfl (fun ls hl => ?_)
            refine lv_aload_n F.x F.b d_M_values_77 rfl (lv_at hl 3 rfl) ?_
            refine r_get F X in_M 0 17 (gM_0 cI ad z) rfl (by decide) mt_456 rfl d_M_values_78 ?_
            refine lv_iload_n F.x F.b d_M_values_81 rfl (lv_at hl 2 rfl) ?_
            refine lv_aload_n F.x F.b d_M_values_82 rfl (lv_at hl 3 rfl) ?_
            refine r_get F X in_M 0 8 (gM_0 cI ad z) rfl (by decide) mt_447 rfl d_M_values_83 ?_
            refine lv_iload_n F.x F.b d_M_values_86 rfl (lv_at hl 2 rfl) ?_
            obtain ⟨hb30, h⟩ := it_b h
            refine r_ald F X 7 0 (gM_7 cI ad z) rfl hb30 d_M_values_87 ?_
            refine lv_iconst (v := (2 : Int32)) F.x F.b d_M_values_88 (by decide) ?_
            refine lv_icmp_ge (tgt := 96) F.x F.b d_M_values_89 (by decide) (fun hc => ?_) (fun hc => ?_)
            · have h := it_t hc h
              refine lv_ldc2 F.x F.b F.2.2.2.1 (F.2.2.2.2.1 _ mt_594) d_M_values_96 ?_
              refine lv_aload_n F.x F.b d_M_values_99 rfl (lv_at hl 3 rfl) ?_
              refine r_get F X in_M 0 8 (gM_0 cI ad z) rfl (by decide) mt_447 rfl d_M_values_100 ?_
              refine lv_iload_n F.x F.b d_M_values_103 rfl (lv_at hl 2 rfl) ?_
              obtain ⟨hb28, h⟩ := it_b h
              refine r_ald F X 7 0 (gM_7 cI ad z) rfl hb28 d_M_values_104 ?_
              refine lv_iconst (v := (2 : Int32)) F.x F.b d_M_values_105 (by decide) ?_
              refine lv_icmp_ne (tgt := 116) F.x F.b d_M_values_106 (by decide) (fun hc => ?_) (fun hc => ?_)
              · have h := it_e hc h
                refine lv_lload_n F.x F.b d_M_values_116 rfl (lv_at hl 1 rfl) ?_
                refine lv_lload F.x F.b d_M_values_117 (lv_at hl 0 rfl) ?_
                refine lv_lmul F.x F.b d_M_values_119 ?_
                refine va_mmin_long F.x F.b (F.2.2.1.trans hl.1.symm) F.2.2.2.1 (F.2.2.2.2.1 _ mt_595) (F.2.2.2.2.1 _ mt_412) (F.2.2.2.2.1 _ mt_12) (F.2.2.2.2.1 _ mt_413) (by decide) (Nat.le_of_ble_eq_true rfl) (Nat.zero_le _) (Nat.zero_le _) d_M_values_120 ?_
                refine lv_l2i (v := ((if (((1 : Int64)) * ((1 : Int64))) < ((1073741824 : Int64)) then (((1 : Int64)) * ((1 : Int64))) else ((1073741824 : Int64)))).toInt32) F.x F.b d_M_values_123 rfl ?_
                obtain ⟨hb26, h⟩ := it_b h
                refine r_ast F X 14 0 (gM_14 cI ad z) rfl hb26 d_M_values_124 (sM_14 cI ad z _ _) (fun H locs X => ?_)
                refine lv_iinc (k := 2) (v := (v2) + 1) F.x F.b d_M_values_125 hl rfl (ii_1 _) (by decide) (lv' := [(2, .int ((v2) + 1)), (5, .long ((1 : Int64))), (3, .long ((1 : Int64))), (0, .ref (ad 0)), (1, .int (v1))]) rfl (fun ls hl => ?_)
                refine lv_goto (tgt := 12) F.x F.b d_M_values_128 (by decide) ?_
                exact ih (war z 13 (v2).toNatClampNeg (((if (((1 : Int64)) * ((1 : Int64))) < ((1073741824 : Int64)) then (((1 : Int64)) * ((1 : Int64))) else ((1073741824 : Int64)))).toInt32)) ((v2) + 1) (v1) _ _ _ X (lv_sub hl [0, 3, 4] rfl) h
              · have h := it_t hc h
                refine lv_lload_n F.x F.b d_M_values_109 rfl (lv_at hl 1 rfl) ?_
                refine lv_lload F.x F.b d_M_values_110 (lv_at hl 0 rfl) ?_
                refine lv_ladd F.x F.b d_M_values_112 ?_
                refine lv_goto (tgt := 120) F.x F.b d_M_values_113 (by decide) ?_
                refine va_mmin_long F.x F.b (F.2.2.1.trans hl.1.symm) F.2.2.2.1 (F.2.2.2.2.1 _ mt_595) (F.2.2.2.2.1 _ mt_412) (F.2.2.2.2.1 _ mt_12) (F.2.2.2.2.1 _ mt_413) (by decide) (Nat.le_of_ble_eq_true rfl) (Nat.zero_le _) (Nat.zero_le _) d_M_values_120 ?_
                refine lv_l2i (v := ((if (((1 : Int64)) + ((1 : Int64))) < ((1073741824 : Int64)) then (((1 : Int64)) + ((1 : Int64))) else ((1073741824 : Int64)))).toInt32) F.x F.b d_M_values_123 rfl ?_
                obtain ⟨hb27, h⟩ := it_b h
                refine r_ast F X 14 0 (gM_14 cI ad z) rfl hb27 d_M_values_124 (sM_14 cI ad z _ _) (fun H locs X => ?_)
                refine lv_iinc (k := 2) (v := (v2) + 1) F.x F.b d_M_values_125 hl rfl (ii_1 _) (by decide) (lv' := [(2, .int ((v2) + 1)), (5, .long ((1 : Int64))), (3, .long ((1 : Int64))), (0, .ref (ad 0)), (1, .int (v1))]) rfl (fun ls hl => ?_)
                refine lv_goto (tgt := 12) F.x F.b d_M_values_128 (by decide) ?_
                exact ih (war z 13 (v2).toNatClampNeg (((if (((1 : Int64)) + ((1 : Int64))) < ((1073741824 : Int64)) then (((1 : Int64)) + ((1 : Int64))) else ((1073741824 : Int64)))).toInt32)) ((v2) + 1) (v1) _ _ _ X (lv_sub hl [0, 3, 4] rfl) h
            · have h := it_e hc h
              refine lv_iconst (v := (1 : Int32)) F.x F.b d_M_values_92 (by decide) ?_
              refine lv_goto (tgt := 124) F.x F.b d_M_values_93 (by decide) ?_
              obtain ⟨hb29, h⟩ := it_b h
              refine r_ast F X 14 0 (gM_14 cI ad z) rfl hb29 d_M_values_124 (sM_14 cI ad z _ _) (fun H locs X => ?_)
              refine lv_iinc (k := 2) (v := (v2) + 1) F.x F.b d_M_values_125 hl rfl (ii_1 _) (by decide) (lv' := [(2, .int ((v2) + 1)), (5, .long ((1 : Int64))), (3, .long ((1 : Int64))), (0, .ref (ad 0)), (1, .int (v1))]) rfl (fun ls hl => ?_)
              refine lv_goto (tgt := 12) F.x F.b d_M_values_128 (by decide) ?_
              exact ih (war z 13 (v2).toNatClampNeg ((1 : Int32))) ((v2) + 1) (v1) _ _ _ X (lv_sub hl [0, 3, 4] rfl) h
  unfold f_M_values at h
  refine lv_aload_n F.x F.b d_M_values_0 rfl (lv_at hl 0 rfl) ?_
  refine lv_iload_n F.x F.b d_M_values_1 rfl (lv_at hl 1 rfl) ?_
  obtain ⟨q1, hq1, h⟩ := it_c h
  refine r_vi F X hl.1 (c_M_unknown l D cI ad z (v1) q1 hq1) (gM_0 cI ad z) rfl mt_555 mt_557 ms_45 mt_5 mt_558 ⟨rfl, hd_M_unknown⟩ ⟨by decide, by decide⟩ ⟨rfl, rfl⟩ ⟨Nat.zero_le _, Nat.zero_le _⟩ rfl (Nat.le_of_ble_eq_true rfl) d_M_values_2 rfl (fun H locs X => ?_)
  refine lv_if_eq (tgt := 10) F.x F.b d_M_values_5 (by decide) (fun hc => ?_) (fun hc => ?_)
  · have h := it_t hc h
    refine lv_iconst (v := (0 : Int32)) F.x F.b d_M_values_10 (by decide) ?_
    refine lv_istore_n F.x F.b d_M_values_11 rfl hl (by decide) (lv' := [(2, .int ((0 : Int32))), (0, .ref (ad 0)), (1, .int (v1))]) rfl (fun ls hl => ?_)
    exact L12 FU q1.2 ((0 : Int32)) (v1) _ _ _ X (lv_sub hl [0, 1, 2] rfl) h
  · have h := it_e hc h
    refine lv_iconst (v := (0 : Int32)) F.x F.b d_M_values_8 (by decide) ?_
    rw [← Option.some.inj h]
    exact fin_i F X hr d_M_values_9
theorem hd_M_frees : y_M_frees.cls ≠ "java/lang/invoke/MethodHandle" ∧ y_M_frees.cls ≠ "java/lang/invoke/VarHandle" ∧ (parseMethodDescriptor y_M_frees.desc).map (fun d => d.parameters.length) = some 1 := ⟨by decide, by decide, by decide +kernel⟩
set_option maxRecDepth 100000 in
set_option maxHeartbeats 4000000 in
theorem c_M_frees (l : Launch) (D : Gd) (cI : ClassId) (ad : Nat → Nat) (z : St) (v1 : Int32) (q : Int32 × St) (h : f_M_frees z v1 = some q) : CI l y_M_frees (.code y_M_frees b_M_frees 4 (some .int)) { frames := 1104, cells := 0, slots := 0, locals := 27590 } D [(cI, .int)] [.ref (ad 0), .int v1] (cM cI ad z) q.1 (cM cI ad q.2) 0 0 := by
  refine mk_i (by decide) (Nat.le_of_ble_eq_true rfl) ?_
  intro p e s m args below meth c A ls F X hr hl
  have hl : lv_has ls 4 [(0, .ref (ad 0)), (1, .int (v1))] := hl
  have L54 : ∀ (n : Nat) (z : St) (v3 : Int32) (v2 : Int32) (v1 : Int32) (H : Heap) (locs : List Loc) (ls : Array Slot), Wd D A s (cM cI ad z) H locs → lv_has ls 4 [(3, .int (v3)), (2, .int (v2)), (0, .ref (ad 0)), (1, .int (v1))] → f_M_frees_l54 n z v3 v2 v1 = some q → W p l e { frames := 1104, cells := 0, slots := 0, locals := 27590 } s m args below meth c H locs 0 0 (MQ below (va_Qi (fun (r' : Int32) (u : va_W) => r' = q.1 ∧ u = cM cI ad q.2) (Po D [(cI, .int)] A) A) args s 0 0 A) (F0 m 54 ls []) := by
    intro n
    induction n with
    | zero => intro z v3 v2 v1 H locs ls X hl h; cases h
    | succ n ih =>
      intro z v3 v2 v1 H locs ls X hl h
      rw [f_M_frees_l54] at h
      refine lv_iload_n F.x F.b d_M_frees_54 rfl (lv_at hl 0 rfl) ?_
      refine lv_if_lt (tgt := 125) F.x F.b d_M_frees_55 (by decide) (fun hc => ?_) (fun hc => ?_)
      · have h := it_t hc h
        refine lv_iload_n F.x F.b d_M_frees_125 rfl (lv_at hl 1 rfl) ?_
        rw [← Option.some.inj h]
        exact fin_i F X hr d_M_frees_126
      · have h := it_e hc h
        refine lv_aload_n F.x F.b d_M_frees_58 rfl (lv_at hl 2 rfl) ?_
        refine r_get F X in_M 0 14 (gM_0 cI ad z) rfl (by decide) mt_453 rfl d_M_frees_59 ?_
        refine lv_iload_n F.x F.b d_M_frees_62 rfl (lv_at hl 0 rfl) ?_
        obtain ⟨hb13, h⟩ := it_b h
        refine r_ald F X 11 0 (gM_11 cI ad z) rfl hb13 d_M_frees_63 ?_
        refine lv_if_ne (tgt := 70) F.x F.b d_M_frees_64 (by decide) (fun hc => ?_) (fun hc => ?_)
        · have h := it_e hc h
          refine lv_aload_n F.x F.b d_M_frees_70 rfl (lv_at hl 2 rfl) ?_
          refine r_get F X in_M 0 8 (gM_0 cI ad z) rfl (by decide) mt_447 rfl d_M_frees_71 ?_
          refine lv_iload_n F.x F.b d_M_frees_74 rfl (lv_at hl 0 rfl) ?_
          obtain ⟨hb12, h⟩ := it_b h
          refine r_ald F X 7 0 (gM_7 cI ad z) rfl hb12 d_M_frees_75 ?_
          refine lv_if_ne (tgt := 82) F.x F.b d_M_frees_76 (by decide) (fun hc => ?_) (fun hc => ?_)
          · have h := it_e hc h
            refine lv_aload_n F.x F.b d_M_frees_82 rfl (lv_at hl 2 rfl) ?_
            refine r_get F X in_M 0 8 (gM_0 cI ad z) rfl (by decide) mt_447 rfl d_M_frees_83 ?_
            refine lv_iload_n F.x F.b d_M_frees_86 rfl (lv_at hl 0 rfl) ?_
            obtain ⟨hb6, h⟩ := it_b h
            refine r_ald F X 7 0 (gM_7 cI ad z) rfl hb6 d_M_frees_87 ?_
            refine lv_iconst (v := (2 : Int32)) F.x F.b d_M_frees_88 (by decide) ?_
            refine lv_icmp_ge (tgt := 95) F.x F.b d_M_frees_89 (by decide) (fun hc => ?_) (fun hc => ?_)
            · have h := it_t hc h
              refine lv_aload_n F.x F.b d_M_frees_95 rfl (lv_at hl 2 rfl) ?_
              refine r_get F X in_M 0 14 (gM_0 cI ad z) rfl (by decide) mt_453 rfl d_M_frees_96 ?_
              refine lv_aload_n F.x F.b d_M_frees_99 rfl (lv_at hl 2 rfl) ?_
              refine r_get F X in_M 0 9 (gM_0 cI ad z) rfl (by decide) mt_448 rfl d_M_frees_100 ?_
              refine lv_iload_n F.x F.b d_M_frees_103 rfl (lv_at hl 0 rfl) ?_
              obtain ⟨hb5, h⟩ := it_b h
              refine r_ald F X 8 0 (gM_8 cI ad z) rfl hb5 d_M_frees_104 ?_
              refine lv_iconst (v := (1 : Int32)) F.x F.b d_M_frees_105 (by decide) ?_
              obtain ⟨hb4, h⟩ := it_b h
              refine r_ast F X 11 0 (gM_11 cI ad z) rfl hb4 d_M_frees_106 (sM_11 cI ad z _ _) (fun H locs X => ?_)
              refine lv_aload_n F.x F.b d_M_frees_107 rfl (lv_at hl 2 rfl) ?_
              refine r_get F X in_M 0 14 (gM_0 cI ad (war z 10 (z.2 7 (v3).toNatClampNeg).toNatClampNeg ((1 : Int32)))) rfl (by decide) mt_453 rfl d_M_frees_108 ?_
              refine lv_aload_n F.x F.b d_M_frees_111 rfl (lv_at hl 2 rfl) ?_
              refine r_get F X in_M 0 10 (gM_0 cI ad (war z 10 (z.2 7 (v3).toNatClampNeg).toNatClampNeg ((1 : Int32)))) rfl (by decide) mt_449 rfl d_M_frees_112 ?_
              refine lv_iload_n F.x F.b d_M_frees_115 rfl (lv_at hl 0 rfl) ?_
              obtain ⟨hb3, h⟩ := it_b h
              refine r_ald F X 9 0 (gM_9 cI ad (war z 10 (z.2 7 (v3).toNatClampNeg).toNatClampNeg ((1 : Int32)))) rfl hb3 d_M_frees_116 ?_
              refine lv_iconst (v := (1 : Int32)) F.x F.b d_M_frees_117 (by decide) ?_
              obtain ⟨hb2, h⟩ := it_b h
              refine r_ast F X 11 0 (gM_11 cI ad (war z 10 (z.2 7 (v3).toNatClampNeg).toNatClampNeg ((1 : Int32)))) rfl hb2 d_M_frees_118 (sM_11 cI ad (war z 10 (z.2 7 (v3).toNatClampNeg).toNatClampNeg ((1 : Int32))) _ _) (fun H locs X => ?_)
              refine lv_iinc (k := 0) (v := (v3) + -1) F.x F.b d_M_frees_119 hl rfl (ii_m1 _) (by decide) (lv' := [(3, .int ((v3) + -1)), (2, .int (v2)), (0, .ref (ad 0)), (1, .int (v1))]) rfl (fun ls hl => ?_)
              refine lv_goto (tgt := 54) F.x F.b d_M_frees_122 (by decide) ?_
              exact ih (war (war z 10 (z.2 7 (v3).toNatClampNeg).toNatClampNeg ((1 : Int32))) 10 ((war z 10 (z.2 7 (v3).toNatClampNeg).toNatClampNeg ((1 : Int32))).2 8 (v3).toNatClampNeg).toNatClampNeg ((1 : Int32))) ((v3) + -1) (v2) (v1) _ _ _ X (lv_sub hl [0, 1, 2, 3] rfl) h
            · have h := it_e hc h
              refine lv_goto (tgt := 119) F.x F.b d_M_frees_92 (by decide) ?_
              refine lv_iinc (k := 0) (v := (v3) + -1) F.x F.b d_M_frees_119 hl rfl (ii_m1 _) (by decide) (lv' := [(3, .int ((v3) + -1)), (2, .int (v2)), (0, .ref (ad 0)), (1, .int (v1))]) rfl (fun ls hl => ?_)
              refine lv_goto (tgt := 54) F.x F.b d_M_frees_122 (by decide) ?_
              exact ih z ((v3) + -1) (v2) (v1) _ _ _ X (lv_sub hl [0, 1, 2, 3] rfl) h
          · have h := it_t hc h
            refine lv_iinc (k := 1) (v := (v2) + 1) F.x F.b d_M_frees_79 hl rfl (ii_1 _) (by decide) (lv' := [(2, .int ((v2) + 1)), (3, .int (v3)), (0, .ref (ad 0)), (1, .int (v1))]) rfl (fun ls hl => ?_)
            refine lv_aload_n F.x F.b d_M_frees_82 rfl (lv_at hl 2 rfl) ?_
            refine r_get F X in_M 0 8 (gM_0 cI ad z) rfl (by decide) mt_447 rfl d_M_frees_83 ?_
            refine lv_iload_n F.x F.b d_M_frees_86 rfl (lv_at hl 1 rfl) ?_
            obtain ⟨hb11, h⟩ := it_b h
            refine r_ald F X 7 0 (gM_7 cI ad z) rfl hb11 d_M_frees_87 ?_
            refine lv_iconst (v := (2 : Int32)) F.x F.b d_M_frees_88 (by decide) ?_
            refine lv_icmp_ge (tgt := 95) F.x F.b d_M_frees_89 (by decide) (fun hc => ?_) (fun hc => ?_)
            · have h := it_t hc h
              refine lv_aload_n F.x F.b d_M_frees_95 rfl (lv_at hl 2 rfl) ?_
              refine r_get F X in_M 0 14 (gM_0 cI ad z) rfl (by decide) mt_453 rfl d_M_frees_96 ?_
              refine lv_aload_n F.x F.b d_M_frees_99 rfl (lv_at hl 2 rfl) ?_
              refine r_get F X in_M 0 9 (gM_0 cI ad z) rfl (by decide) mt_448 rfl d_M_frees_100 ?_
              refine lv_iload_n F.x F.b d_M_frees_103 rfl (lv_at hl 1 rfl) ?_
              obtain ⟨hb10, h⟩ := it_b h
              refine r_ald F X 8 0 (gM_8 cI ad z) rfl hb10 d_M_frees_104 ?_
              refine lv_iconst (v := (1 : Int32)) F.x F.b d_M_frees_105 (by decide) ?_
              obtain ⟨hb9, h⟩ := it_b h
              refine r_ast F X 11 0 (gM_11 cI ad z) rfl hb9 d_M_frees_106 (sM_11 cI ad z _ _) (fun H locs X => ?_)
              refine lv_aload_n F.x F.b d_M_frees_107 rfl (lv_at hl 2 rfl) ?_
              refine r_get F X in_M 0 14 (gM_0 cI ad (war z 10 (z.2 7 (v3).toNatClampNeg).toNatClampNeg ((1 : Int32)))) rfl (by decide) mt_453 rfl d_M_frees_108 ?_
              refine lv_aload_n F.x F.b d_M_frees_111 rfl (lv_at hl 2 rfl) ?_
              refine r_get F X in_M 0 10 (gM_0 cI ad (war z 10 (z.2 7 (v3).toNatClampNeg).toNatClampNeg ((1 : Int32)))) rfl (by decide) mt_449 rfl d_M_frees_112 ?_
              refine lv_iload_n F.x F.b d_M_frees_115 rfl (lv_at hl 1 rfl) ?_
              obtain ⟨hb8, h⟩ := it_b h
              refine r_ald F X 9 0 (gM_9 cI ad (war z 10 (z.2 7 (v3).toNatClampNeg).toNatClampNeg ((1 : Int32)))) rfl hb8 d_M_frees_116 ?_
              refine lv_iconst (v := (1 : Int32)) F.x F.b d_M_frees_117 (by decide) ?_
              obtain ⟨hb7, h⟩ := it_b h
              refine r_ast F X 11 0 (gM_11 cI ad (war z 10 (z.2 7 (v3).toNatClampNeg).toNatClampNeg ((1 : Int32)))) rfl hb7 d_M_frees_118 (sM_11 cI ad (war z 10 (z.2 7 (v3).toNatClampNeg).toNatClampNeg ((1 : Int32))) _ _) (fun H locs X => ?_)
              refine lv_iinc (k := 1) (v := (v3) + -1) F.x F.b d_M_frees_119 hl rfl (ii_m1 _) (by decide) (lv' := [(3, .int ((v3) + -1)), (2, .int ((v2) + 1)), (0, .ref (ad 0)), (1, .int (v1))]) rfl (fun ls hl => ?_)
              refine lv_goto (tgt := 54) F.x F.b d_M_frees_122 (by decide) ?_
              exact ih (war (war z 10 (z.2 7 (v3).toNatClampNeg).toNatClampNeg ((1 : Int32))) 10 ((war z 10 (z.2 7 (v3).toNatClampNeg).toNatClampNeg ((1 : Int32))).2 8 (v3).toNatClampNeg).toNatClampNeg ((1 : Int32))) ((v3) + -1) ((v2) + 1) (v1) _ _ _ X (lv_sub hl [0, 1, 2, 3] rfl) h
            · have h := it_e hc h
              refine lv_goto (tgt := 119) F.x F.b d_M_frees_92 (by decide) ?_
              refine lv_iinc (k := 1) (v := (v3) + -1) F.x F.b d_M_frees_119 hl rfl (ii_m1 _) (by decide) (lv' := [(3, .int ((v3) + -1)), (2, .int ((v2) + 1)), (0, .ref (ad 0)), (1, .int (v1))]) rfl (fun ls hl => ?_)
              refine lv_goto (tgt := 54) F.x F.b d_M_frees_122 (by decide) ?_
              exact ih z ((v3) + -1) ((v2) + 1) (v1) _ _ _ X (lv_sub hl [0, 1, 2, 3] rfl) h
        · have h := it_t hc h
          refine lv_goto (tgt := 119) F.x F.b d_M_frees_67 (by decide) ?_
          refine lv_iinc (k := 0) (v := (v3) + -1) F.x F.b d_M_frees_119 hl rfl (ii_m1 _) (by decide) (lv' := [(3, .int ((v3) + -1)), (2, .int (v2)), (0, .ref (ad 0)), (1, .int (v1))]) rfl (fun ls hl => ?_)
          refine lv_goto (tgt := 54) F.x F.b d_M_frees_122 (by decide) ?_
          exact ih z ((v3) + -1) (v2) (v1) _ _ _ X (lv_sub hl [0, 1, 2, 3] rfl) h
  have L12 : ∀ (n : Nat) (z : St) (v2 : Int32) (v1 : Int32) (H : Heap) (locs : List Loc) (ls : Array Slot), Wd D A s (cM cI ad z) H locs → lv_has ls 4 [(2, .int (v2)), (0, .ref (ad 0)), (1, .int (v1))] → f_M_frees_l12 n z v2 v1 = some q → W p l e { frames := 1104, cells := 0, slots := 0, locals := 27590 } s m args below meth c H locs 0 0 (MQ below (va_Qi (fun (r' : Int32) (u : va_W) => r' = q.1 ∧ u = cM cI ad q.2) (Po D [(cI, .int)] A) A) args s 0 0 A) (F0 m 12 ls []) := by
    intro n
    induction n with
    | zero => intro z v2 v1 H locs ls X hl h; cases h
    | succ n ih =>
      intro z v2 v1 H locs ls X hl h
      rw [f_M_frees_l12] at h
      refine lv_iload_n F.x F.b d_M_frees_12 rfl (lv_at hl 0 rfl) ?_
      refine lv_aload_n F.x F.b d_M_frees_13 rfl (lv_at hl 1 rfl) ?_
      refine r_get F X in_M 0 12 (gM_0 cI ad z) rfl (by decide) mt_451 rfl d_M_frees_14 ?_
      refine lv_icmp_ge (tgt := 33) F.x F.b d_M_frees_17 (by decide) (fun hc => ?_) (fun hc => ?_)
      · have h := it_t hc h
        refine lv_aload_n F.x F.b d_M_frees_33 rfl (lv_at hl 1 rfl) ?_
        refine r_get F X in_M 0 14 (gM_0 cI ad z) rfl (by decide) mt_453 rfl d_M_frees_34 ?_
        refine lv_aload_n F.x F.b d_M_frees_37 rfl (lv_at hl 1 rfl) ?_
        refine r_get F X in_M 0 7 (gM_0 cI ad z) rfl (by decide) mt_446 rfl d_M_frees_38 ?_
        refine lv_iload_n F.x F.b d_M_frees_41 rfl (lv_at hl 2 rfl) ?_
        obtain ⟨hb16, h⟩ := it_b h
        refine r_ald F X 6 0 (gM_6 cI ad z) rfl hb16 d_M_frees_42 ?_
        refine lv_iconst (v := (1 : Int32)) F.x F.b d_M_frees_43 (by decide) ?_
        obtain ⟨hb15, h⟩ := it_b h
        refine r_ast F X 11 0 (gM_11 cI ad z) rfl hb15 d_M_frees_44 (sM_11 cI ad z _ _) (fun H locs X => ?_)
        refine lv_iconst (v := (0 : Int32)) F.x F.b d_M_frees_45 (by decide) ?_
        refine lv_istore_n F.x F.b d_M_frees_46 rfl hl (by decide) (lv' := [(2, .int ((0 : Int32))), (0, .ref (ad 0)), (1, .int (v1))]) rfl (fun ls hl => ?_)
        refine lv_aload_n F.x F.b d_M_frees_47 rfl (lv_at hl 1 rfl) ?_
        refine r_get F X in_M 0 7 (gM_0 cI ad (war z 10 (z.2 5 (v1).toNatClampNeg).toNatClampNeg ((1 : Int32)))) rfl (by decide) mt_446 rfl d_M_frees_48 ?_
        refine lv_iload_n F.x F.b d_M_frees_51 rfl (lv_at hl 2 rfl) ?_
        obtain ⟨hb14, h⟩ := it_b h
        refine r_ald F X 6 0 (gM_6 cI ad (war z 10 (z.2 5 (v1).toNatClampNeg).toNatClampNeg ((1 : Int32)))) rfl hb14 d_M_frees_52 ?_
        refine lv_istore_n F.x F.b d_M_frees_53 rfl hl (by decide) (lv' := [(3, .int ((war z 10 (z.2 5 (v1).toNatClampNeg).toNatClampNeg ((1 : Int32))).2 5 (v1).toNatClampNeg)), (2, .int ((0 : Int32))), (0, .ref (ad 0)), (1, .int (v1))]) rfl (fun ls hl => ?_)
        exact L54 FU (war z 10 (z.2 5 (v1).toNatClampNeg).toNatClampNeg ((1 : Int32))) ((war z 10 (z.2 5 (v1).toNatClampNeg).toNatClampNeg ((1 : Int32))).2 5 (v1).toNatClampNeg) ((0 : Int32)) (v1) _ _ _ X (lv_sub hl [0, 1, 2, 3] rfl) h
      · have h := it_e hc h
        refine lv_aload_n F.x F.b d_M_frees_20 rfl (lv_at hl 1 rfl) ?_
        refine r_get F X in_M 0 14 (gM_0 cI ad z) rfl (by decide) mt_453 rfl d_M_frees_21 ?_
        refine lv_iload_n F.x F.b d_M_frees_24 rfl (lv_at hl 0 rfl) ?_
        refine lv_iconst (v := (0 : Int32)) F.x F.b d_M_frees_25 (by decide) ?_
        obtain ⟨hb17, h⟩ := it_b h
        refine r_ast F X 11 0 (gM_11 cI ad z) rfl hb17 d_M_frees_26 (sM_11 cI ad z _ _) (fun H locs X => ?_)
        refine lv_iinc (k := 0) (v := (v2) + 1) F.x F.b d_M_frees_27 hl rfl (ii_1 _) (by decide) (lv' := [(2, .int ((v2) + 1)), (0, .ref (ad 0)), (1, .int (v1))]) rfl (fun ls hl => ?_)
        refine lv_goto (tgt := 12) F.x F.b d_M_frees_30 (by decide) ?_
        exact ih (war z 10 (v2).toNatClampNeg ((0 : Int32))) ((v2) + 1) (v1) _ _ _ X (lv_sub hl [0, 1, 2] rfl) h
  unfold f_M_frees at h
  refine lv_aload_n F.x F.b d_M_frees_0 rfl (lv_at hl 0 rfl) ?_
  refine lv_iload_n F.x F.b d_M_frees_1 rfl (lv_at hl 1 rfl) ?_
  obtain ⟨q1, hq1, h⟩ := it_c h
  refine r_vi F X hl.1 (c_M_unknown l D cI ad z (v1) q1 hq1) (gM_0 cI ad z) rfl mt_555 mt_557 ms_45 mt_5 mt_558 ⟨rfl, hd_M_unknown⟩ ⟨by decide, by decide⟩ ⟨rfl, rfl⟩ ⟨Nat.zero_le _, Nat.zero_le _⟩ rfl (Nat.le_of_ble_eq_true rfl) d_M_frees_2 rfl (fun H locs X => ?_)
  refine lv_if_eq (tgt := 10) F.x F.b d_M_frees_5 (by decide) (fun hc => ?_) (fun hc => ?_)
  · have h := it_t hc h
    refine lv_iconst (v := (0 : Int32)) F.x F.b d_M_frees_10 (by decide) ?_
    refine lv_istore_n F.x F.b d_M_frees_11 rfl hl (by decide) (lv' := [(2, .int ((0 : Int32))), (0, .ref (ad 0)), (1, .int (v1))]) rfl (fun ls hl => ?_)
    exact L12 FU q1.2 ((0 : Int32)) (v1) _ _ _ X (lv_sub hl [0, 1, 2] rfl) h
  · have h := it_e hc h
    refine lv_iconst (v := (0 : Int32)) F.x F.b d_M_frees_8 (by decide) ?_
    rw [← Option.some.inj h]
    exact fin_i F X hr d_M_frees_9
theorem hd_M_clear : y_M_clear.cls ≠ "java/lang/invoke/MethodHandle" ∧ y_M_clear.cls ≠ "java/lang/invoke/VarHandle" ∧ (parseMethodDescriptor y_M_clear.desc).map (fun d => d.parameters.length) = some 0 := ⟨by decide, by decide, by decide +kernel⟩
set_option maxRecDepth 100000 in
set_option maxHeartbeats 4000000 in
theorem c_M_clear (l : Launch) (D : Gd) (cI : ClassId) (ad : Nat → Nat) (z : St) (q : Int32 × St) (h : f_M_clear z = some q) : CI l y_M_clear (.code y_M_clear b_M_clear 2 (some .int)) { frames := 2, cells := 0, slots := 0, locals := 43 } D [(cI, .int)] [.ref (ad 0)] (cM cI ad z) q.1 (cM cI ad q.2) 0 0 := by
  refine mk_i (by decide) (Nat.le_of_ble_eq_true rfl) ?_
  intro p e s m args below meth c A ls F X hr hl
  have hl : lv_has ls 2 [(0, .ref (ad 0))] := hl
  unfold f_M_clear at h
  refine lv_aload_n F.x F.b d_M_clear_0 rfl (lv_at hl 0 rfl) ?_
  refine lv_iconst (v := (0 : Int32)) F.x F.b d_M_clear_1 (by decide) ?_
  refine r_put F X in_M t_M t_M_ok n_M 0 0 (gM_0 cI ad z) rfl (by decide) mt_439 rfl (t_M_ok 0 (by decide)) rfl rfl (Nat.le_of_ble_eq_true rfl) d_M_clear_2 (pM_0 cI ad z _) (fun H locs X => ?_)
  refine lv_aload_n F.x F.b d_M_clear_5 rfl (lv_at hl 0 rfl) ?_
  refine r_get F X in_M 0 6 (gM_0 cI ad (wsc z 0 ((0 : Int32)))) rfl (by decide) mt_445 rfl d_M_clear_6 ?_
  refine lv_istore_n F.x F.b d_M_clear_9 rfl hl (by decide) (lv' := [(1, .int ((wsc z 0 ((0 : Int32))).1 1)), (0, .ref (ad 0))]) rfl (fun ls hl => ?_)
  refine lv_aload_n F.x F.b d_M_clear_10 rfl (lv_at hl 1 rfl) ?_
  obtain ⟨q1, hq1, h⟩ := it_c h
  refine r_vv F X hl.1 (c_M_begin l D cI ad (wsc z 0 ((0 : Int32))) q1 hq1) (gM_0 cI ad (wsc z 0 ((0 : Int32)))) rfl mt_431 mt_433 ms_35 mt_5 mt_434 ⟨rfl, hd_M_begin⟩ ⟨by decide, by decide⟩ ⟨rfl, rfl⟩ ⟨Nat.zero_le _, Nat.zero_le _⟩ rfl (Nat.le_of_ble_eq_true rfl) d_M_clear_11 rfl (fun H locs X => ?_)
  refine lv_iload_n F.x F.b d_M_clear_14 rfl (lv_at hl 0 rfl) ?_
  rw [← Option.some.inj h]
  exact fin_i F X hr d_M_clear_15
theorem hd_M_count : y_M_count.cls ≠ "java/lang/invoke/MethodHandle" ∧ y_M_count.cls ≠ "java/lang/invoke/VarHandle" ∧ (parseMethodDescriptor y_M_count.desc).map (fun d => d.parameters.length) = some 1 := ⟨by decide, by decide, by decide +kernel⟩
set_option maxRecDepth 100000 in
set_option maxHeartbeats 4000000 in
theorem c_M_count (l : Launch) (D : Gd) (cI : ClassId) (ad : Nat → Nat) (z : St) (v1 : Int32) (q : Int32 × St) (h : f_M_count z v1 = some q) : CI l y_M_count (.code y_M_count b_M_count 4 (some .int)) { frames := 1103, cells := 0, slots := 0, locals := 27569 } D [(cI, .int)] [.ref (ad 0), .int v1] (cM cI ad z) q.1 (cM cI ad q.2) 0 0 := by
  refine mk_i (by decide) (Nat.le_of_ble_eq_true rfl) ?_
  intro p e s m args below meth c A ls F X hr hl
  have hl : lv_has ls 4 [(0, .ref (ad 0)), (1, .int (v1))] := hl
  have L13 : ∀ (n : Nat) (z : St) (v3 : Int32) (v2 : Int32) (v1 : Int32) (H : Heap) (locs : List Loc) (ls : Array Slot), Wd D A s (cM cI ad z) H locs → lv_has ls 4 [(3, .int (v3)), (2, .int (v2)), (0, .ref (ad 0)), (1, .int (v1))] → f_M_count_l13 n z v3 v2 v1 = some q → W p l e { frames := 1103, cells := 0, slots := 0, locals := 27569 } s m args below meth c H locs 0 0 (MQ below (va_Qi (fun (r' : Int32) (u : va_W) => r' = q.1 ∧ u = cM cI ad q.2) (Po D [(cI, .int)] A) A) args s 0 0 A) (F0 m 13 ls []) := by
    intro n
    induction n with
    | zero => intro z v3 v2 v1 H locs ls X hl h; cases h
    | succ n ih =>
      intro z v3 v2 v1 H locs ls X hl h
      rw [f_M_count_l13] at h
      refine lv_iload_n F.x F.b d_M_count_13 rfl (lv_at hl 0 rfl) ?_
      refine lv_aload_n F.x F.b d_M_count_14 rfl (lv_at hl 2 rfl) ?_
      refine r_get F X in_M 0 12 (gM_0 cI ad z) rfl (by decide) mt_451 rfl d_M_count_15 ?_
      refine lv_icmp_ge (tgt := 39) F.x F.b d_M_count_18 (by decide) (fun hc => ?_) (fun hc => ?_)
      · have h := it_t hc h
        refine lv_iload_n F.x F.b d_M_count_39 rfl (lv_at hl 3 rfl) ?_
        refine lv_if_ne (tgt := 50) F.x F.b d_M_count_40 (by decide) (fun hc => ?_) (fun hc => ?_)
        · have h := it_e hc h
          refine lv_iload_n F.x F.b d_M_count_50 rfl (lv_at hl 3 rfl) ?_
          refine lv_iconst (v := (1 : Int32)) F.x F.b d_M_count_51 (by decide) ?_
          refine lv_icmp_ne (tgt := 62) F.x F.b d_M_count_52 (by decide) (fun hc => ?_) (fun hc => ?_)
          · have h := it_e hc h
            refine lv_iload_n F.x F.b d_M_count_62 rfl (lv_at hl 3 rfl) ?_
            refine lv_iconst (v := (2 : Int32)) F.x F.b d_M_count_63 (by decide) ?_
            refine lv_icmp_ne (tgt := 71) F.x F.b d_M_count_64 (by decide) (fun hc => ?_) (fun hc => ?_)
            · have h := it_e hc h
              refine lv_iconst (v := (-1 : Int32)) F.x F.b d_M_count_71 (by decide) ?_
              rw [← Option.some.inj h]
              exact fin_i F X hr d_M_count_72
            · have h := it_t hc h
              refine lv_iload_n F.x F.b d_M_count_67 rfl (lv_at hl 1 rfl) ?_
              refine lv_goto (tgt := 72) F.x F.b d_M_count_68 (by decide) ?_
              rw [← Option.some.inj h]
              exact fin_i F X hr d_M_count_72
          · have h := it_t hc h
            refine lv_aload_n F.x F.b d_M_count_55 rfl (lv_at hl 2 rfl) ?_
            refine r_get F X in_M 0 12 (gM_0 cI ad z) rfl (by decide) mt_451 rfl d_M_count_56 ?_
            refine lv_goto (tgt := 72) F.x F.b d_M_count_59 (by decide) ?_
            rw [← Option.some.inj h]
            exact fin_i F X hr d_M_count_72
        · have h := it_t hc h
          refine lv_aload_n F.x F.b d_M_count_43 rfl (lv_at hl 2 rfl) ?_
          refine r_get F X in_M 0 6 (gM_0 cI ad z) rfl (by decide) mt_445 rfl d_M_count_44 ?_
          refine lv_goto (tgt := 72) F.x F.b d_M_count_47 (by decide) ?_
          rw [← Option.some.inj h]
          exact fin_i F X hr d_M_count_72
      · have h := it_e hc h
        refine lv_aload_n F.x F.b d_M_count_21 rfl (lv_at hl 2 rfl) ?_
        refine r_get F X in_M 0 8 (gM_0 cI ad z) rfl (by decide) mt_447 rfl d_M_count_22 ?_
        refine lv_iload_n F.x F.b d_M_count_25 rfl (lv_at hl 0 rfl) ?_
        obtain ⟨hb2, h⟩ := it_b h
        refine r_ald F X 7 0 (gM_7 cI ad z) rfl hb2 d_M_count_26 ?_
        refine lv_if_ne (tgt := 33) F.x F.b d_M_count_27 (by decide) (fun hc => ?_) (fun hc => ?_)
        · have h := it_e hc h
          refine lv_iinc (k := 0) (v := (v3) + 1) F.x F.b d_M_count_33 hl rfl (ii_1 _) (by decide) (lv' := [(3, .int ((v3) + 1)), (2, .int (v2)), (0, .ref (ad 0)), (1, .int (v1))]) rfl (fun ls hl => ?_)
          refine lv_goto (tgt := 13) F.x F.b d_M_count_36 (by decide) ?_
          exact ih z ((v3) + 1) (v2) (v1) _ _ _ X (lv_sub hl [0, 1, 2, 3] rfl) h
        · have h := it_t hc h
          refine lv_iinc (k := 1) (v := (v2) + 1) F.x F.b d_M_count_30 hl rfl (ii_1 _) (by decide) (lv' := [(2, .int ((v2) + 1)), (3, .int (v3)), (0, .ref (ad 0)), (1, .int (v1))]) rfl (fun ls hl => ?_)
          refine lv_iinc (k := 1) (v := (v3) + 1) F.x F.b d_M_count_33 hl rfl (ii_1 _) (by decide) (lv' := [(3, .int ((v3) + 1)), (2, .int ((v2) + 1)), (0, .ref (ad 0)), (1, .int (v1))]) rfl (fun ls hl => ?_)
          refine lv_goto (tgt := 13) F.x F.b d_M_count_36 (by decide) ?_
          exact ih z ((v3) + 1) ((v2) + 1) (v1) _ _ _ X (lv_sub hl [0, 1, 2, 3] rfl) h
  unfold f_M_count at h
  refine lv_aload_n F.x F.b d_M_count_0 rfl (lv_at hl 0 rfl) ?_
  refine lv_iconst (v := (0 : Int32)) F.x F.b d_M_count_1 (by decide) ?_
  refine r_put F X in_M t_M t_M_ok n_M 0 0 (gM_0 cI ad z) rfl (by decide) mt_439 rfl (t_M_ok 0 (by decide)) rfl rfl (Nat.le_of_ble_eq_true rfl) d_M_count_2 (pM_0 cI ad z _) (fun H locs X => ?_)
  refine lv_aload_n F.x F.b d_M_count_5 rfl (lv_at hl 0 rfl) ?_
  obtain ⟨q1, hq1, h⟩ := it_c h
  refine r_vv F X hl.1 (c_M_number l D cI ad (wsc z 0 ((0 : Int32))) q1 hq1) (gM_0 cI ad (wsc z 0 ((0 : Int32)))) rfl mt_559 mt_561 ms_46 mt_5 mt_562 ⟨rfl, hd_M_number⟩ ⟨by decide, by decide⟩ ⟨rfl, rfl⟩ ⟨Nat.zero_le _, Nat.zero_le _⟩ rfl (Nat.le_of_ble_eq_true rfl) d_M_count_6 rfl (fun H locs X => ?_)
  refine lv_iconst (v := (0 : Int32)) F.x F.b d_M_count_9 (by decide) ?_
  refine lv_istore_n F.x F.b d_M_count_10 rfl hl (by decide) (lv' := [(2, .int ((0 : Int32))), (0, .ref (ad 0)), (1, .int (v1))]) rfl (fun ls hl => ?_)
  refine lv_iconst (v := (0 : Int32)) F.x F.b d_M_count_11 (by decide) ?_
  refine lv_istore_n F.x F.b d_M_count_12 rfl hl (by decide) (lv' := [(3, .int ((0 : Int32))), (2, .int ((0 : Int32))), (0, .ref (ad 0)), (1, .int (v1))]) rfl (fun ls hl => ?_)
  exact L13 FU q1 ((0 : Int32)) ((0 : Int32)) (v1) _ _ _ X (lv_sub hl [0, 1, 2, 3] rfl) h
