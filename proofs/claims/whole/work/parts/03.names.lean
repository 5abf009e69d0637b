/-! names of the program, printed by wip/whole/tools/names.py out of the listing -/
def LW : List Cond := lw_tbl.filter goodWord
def F_X : u_T := fun k => match k with
  | 0 => ("TypeBench", "made", "I", false)
  | 1 => ("TypeBench", "shapes", "LTypeBench$Shapes;", true)
  | 2 => ("TypeBench", "leads", "[I", true)
  | 3 => ("TypeBench", "leasts", "[I", true)
  | 4 => ("TypeBench", "order", "[I", true)
  | 5 => ("TypeBench", "different", "I", false)
  | 6 => ("TypeBench", "link", "[I", true)
  | 7 => ("TypeBench", "mark", "[I", true)
  | 8 => ("TypeBench", "pile", "LTypeBench$Pile;", true)
  | 9 => ("TypeBench", "tried", "[I", true)
  | _ => ("TypeBench", "triedCount", "I", false)
def t_X : Nat → FieldType := fun k => match k with
  | 0 => .int
  | 1 => .object "TypeBench$Shapes"
  | 2 => .array .int
  | 3 => .array .int
  | 4 => .array .int
  | 5 => .int
  | 6 => .array .int
  | 7 => .array .int
  | 8 => .object "TypeBench$Pile"
  | 9 => .array .int
  | _ => .int
theorem n_X : ∀ a, a < 11 → ∀ b, b < 11 → a ≠ b → (F_X a).2.1 ≠ (F_X b).2.1 := by decide +kernel
theorem t_X_ok : ∀ k, k < 11 → parseFieldDescriptor (F_X k).2.2.1 = some (t_X k) := by decide +kernel
def F_S : u_T := fun k => match k with
  | 0 => ("TypeBench$Shapes", "kinds", "[I", true)
  | 1 => ("TypeBench$Shapes", "firsts", "[I", true)
  | 2 => ("TypeBench$Shapes", "seconds", "[I", true)
  | 3 => ("TypeBench$Shapes", "heads", "[I", true)
  | _ => ("TypeBench$Shapes", "nexts", "[I", true)
def t_S : Nat → FieldType := fun k => match k with
  | 0 => .array .int
  | 1 => .array .int
  | 2 => .array .int
  | 3 => .array .int
  | _ => .array .int
theorem n_S : ∀ a, a < 5 → ∀ b, b < 5 → a ≠ b → (F_S a).2.1 ≠ (F_S b).2.1 := by decide +kernel
theorem t_S_ok : ∀ k, k < 5 → parseFieldDescriptor (F_S k).2.2.1 = some (t_S k) := by decide +kernel
def F_P : u_T := fun k => match k with
  | 0 => ("TypeBench$Pile", "row", "[I", true)
  | _ => ("TypeBench$Pile", "height", "I", false)
def t_P : Nat → FieldType := fun k => match k with
  | 0 => .array .int
  | _ => .int
theorem n_P : ∀ a, a < 2 → ∀ b, b < 2 → a ≠ b → (F_P a).2.1 ≠ (F_P b).2.1 := by decide +kernel
theorem t_P_ok : ∀ k, k < 2 → parseFieldDescriptor (F_P k).2.2.1 = some (t_P k) := by decide +kernel
def F_M : u_T := fun k => match k with
  | 0 => ("TypeBenchModel", "thrown", "I", false)
  | 1 => ("TypeBenchModel", "kind", "[I", true)
  | 2 => ("TypeBenchModel", "left", "[I", true)
  | 3 => ("TypeBenchModel", "right", "[I", true)
  | 4 => ("TypeBenchModel", "other", "[I", true)
  | 5 => ("TypeBenchModel", "before", "[I", true)
  | 6 => ("TypeBenchModel", "types", "I", false)
  | 7 => ("TypeBenchModel", "same", "[I", true)
  | 8 => ("TypeBenchModel", "sorts", "[I", true)
  | 9 => ("TypeBenchModel", "firsts", "[I", true)
  | 10 => ("TypeBenchModel", "seconds", "[I", true)
  | 11 => ("TypeBenchModel", "least", "[I", true)
  | 12 => ("TypeBenchModel", "numbers", "I", false)
  | 13 => ("TypeBenchModel", "known", "Z", false)
  | 14 => ("TypeBenchModel", "state", "[I", true)
  | 15 => ("TypeBenchModel", "to", "[I", true)
  | 16 => ("TypeBenchModel", "from", "[I", true)
  | _ => ("TypeBenchModel", "measure", "[I", true)
def t_M : Nat → FieldType := fun k => match k with
  | 0 => .int
  | 1 => .array .int
  | 2 => .array .int
  | 3 => .array .int
  | 4 => .array .int
  | 5 => .array .int
  | 6 => .int
  | 7 => .array .int
  | 8 => .array .int
  | 9 => .array .int
  | 10 => .array .int
  | 11 => .array .int
  | 12 => .int
  | 13 => .boolean
  | 14 => .array .int
  | 15 => .array .int
  | 16 => .array .int
  | _ => .array .int
theorem n_M : ∀ a, a < 18 → ∀ b, b < 18 → a ≠ b → (F_M a).2.1 ≠ (F_M b).2.1 := by decide +kernel
theorem t_M_ok : ∀ k, k < 18 → parseFieldDescriptor (F_M k).2.2.1 = some (t_M k) := by decide +kernel
abbrev clX : List vw_C := [("TypeBench", F_X, 11), ("TypeBench$Shapes", F_S, 5), ("TypeBench$Pile", F_P, 2), ("TypeBenchModel", F_M, 18)]
abbrev b_X_init : ByteArray := prog_1_method_1_code
abbrev y_X_init : MethodName := ⟨"TypeBench", "<init>", "()V"⟩
abbrev b_X_free : ByteArray := prog_1_method_2_code
abbrev y_X_free : MethodName := ⟨"TypeBench", "free", "()I"⟩
abbrev b_X_sum : ByteArray := prog_1_method_3_code
abbrev y_X_sum : MethodName := ⟨"TypeBench", "sum", "(II)I"⟩
abbrev b_X_pair : ByteArray := prog_1_method_4_code
abbrev y_X_pair : MethodName := ⟨"TypeBench", "pair", "(II)I"⟩
abbrev b_X_join : ByteArray := prog_1_method_5_code
abbrev y_X_join : MethodName := ⟨"TypeBench", "join", "(II)Z"⟩
abbrev b_X_alike : ByteArray := prog_1_method_6_code
abbrev y_X_alike : MethodName := ⟨"TypeBench", "alike", "(II)Z"⟩
abbrev b_X_same : ByteArray := prog_1_method_7_code
abbrev y_X_same : MethodName := ⟨"TypeBench", "same", "(II)Z"⟩
abbrev b_X_renamed : ByteArray := prog_1_method_8_code
abbrev y_X_renamed : MethodName := ⟨"TypeBench", "renamed", "(II)Z"⟩
abbrev b_X_kind : ByteArray := prog_1_method_9_code
abbrev y_X_kind : MethodName := ⟨"TypeBench", "kind", "(I)I"⟩
abbrev b_X_part : ByteArray := prog_1_method_10_code
abbrev y_X_part : MethodName := ⟨"TypeBench", "part", "(IZ)I"⟩
abbrev b_X_size : ByteArray := prog_1_method_11_code
abbrev y_X_size : MethodName := ⟨"TypeBench", "size", "(I)I"⟩
abbrev b_X_values : ByteArray := prog_1_method_12_code
abbrev y_X_values : MethodName := ⟨"TypeBench", "values", "(I)I"⟩
abbrev b_X_frees : ByteArray := prog_1_method_13_code
abbrev y_X_frees : MethodName := ⟨"TypeBench", "frees", "(I)I"⟩
abbrev b_X_clear : ByteArray := prog_1_method_14_code
abbrev y_X_clear : MethodName := ⟨"TypeBench", "clear", "()I"⟩
abbrev b_X_count : ByteArray := prog_1_method_15_code
abbrev y_X_count : MethodName := ⟨"TypeBench", "count", "(I)I"⟩
abbrev b_X_begin : ByteArray := prog_1_method_16_code
abbrev y_X_begin : MethodName := ⟨"TypeBench", "begin", "()V"⟩
abbrev b_X_leaderOf : ByteArray := prog_1_method_17_code
abbrev y_X_leaderOf : MethodName := ⟨"TypeBench", "leaderOf", "(I)I"⟩
abbrev b_X_nextNumber : ByteArray := prog_1_method_18_code
abbrev y_X_nextNumber : MethodName := ⟨"TypeBench", "nextNumber", "()I"⟩
abbrev b_X_addLeader : ByteArray := prog_1_method_19_code
abbrev y_X_addLeader : MethodName := ⟨"TypeBench", "addLeader", "(I)V"⟩
abbrev b_X_makeWhole : ByteArray := prog_1_method_20_code
abbrev y_X_makeWhole : MethodName := ⟨"TypeBench", "makeWhole", "(III)I"⟩
abbrev b_X_countFreeLeaders : ByteArray := prog_1_method_21_code
abbrev y_X_countFreeLeaders : MethodName := ⟨"TypeBench", "countFreeLeaders", "()I"⟩
abbrev b_X_sizeByParts : ByteArray := prog_1_method_22_code
abbrev y_X_sizeByParts : MethodName := ⟨"TypeBench", "sizeByParts", "(I)I"⟩
abbrev b_X_valuesByParts : ByteArray := prog_1_method_23_code
abbrev y_X_valuesByParts : MethodName := ⟨"TypeBench", "valuesByParts", "(I)I"⟩
abbrev b_X_markParts : ByteArray := prog_1_method_24_code
abbrev y_X_markParts : MethodName := ⟨"TypeBench", "markParts", "(I)V"⟩
abbrev b_X_tryToLink : ByteArray := prog_1_method_25_code
abbrev y_X_tryToLink : MethodName := ⟨"TypeBench", "tryToLink", "(II)Z"⟩
abbrev b_X_linkAll : ByteArray := prog_1_method_26_code
abbrev y_X_linkAll : MethodName := ⟨"TypeBench", "linkAll", "(II)Z"⟩
abbrev b_X_linkTwo : ByteArray := prog_1_method_27_code
abbrev y_X_linkTwo : MethodName := ⟨"TypeBench", "linkTwo", "(II)Z"⟩
abbrev b_X_putPartsOfBoth : ByteArray := prog_1_method_28_code
abbrev y_X_putPartsOfBoth : MethodName := ⟨"TypeBench", "putPartsOfBoth", "(II)V"⟩
abbrev b_X_root : ByteArray := prog_1_method_29_code
abbrev y_X_root : MethodName := ⟨"TypeBench", "root", "(I)I"⟩
abbrev b_X_layOut : ByteArray := prog_1_method_30_code
abbrev y_X_layOut : MethodName := ⟨"TypeBench", "layOut", "()Z"⟩
abbrev b_X_layOutFrom : ByteArray := prog_1_method_31_code
abbrev y_X_layOutFrom : MethodName := ⟨"TypeBench", "layOutFrom", "(I)Z"⟩
abbrev b_X_layDown : ByteArray := prog_1_method_32_code
abbrev y_X_layDown : MethodName := ⟨"TypeBench", "layDown", "(I)V"⟩
abbrev b_X_putUnseenParts : ByteArray := prog_1_method_33_code
abbrev y_X_putUnseenParts : MethodName := ⟨"TypeBench", "putUnseenParts", "(I)Z"⟩
abbrev b_X_putUnseen : ByteArray := prog_1_method_34_code
abbrev y_X_putUnseen : MethodName := ⟨"TypeBench", "putUnseen", "(I)Z"⟩
abbrev b_X_keepLinks : ByteArray := prog_1_method_35_code
abbrev y_X_keepLinks : MethodName := ⟨"TypeBench", "keepLinks", "()V"⟩
abbrev b_X_keepRoot : ByteArray := prog_1_method_36_code
abbrev y_X_keepRoot : MethodName := ⟨"TypeBench", "keepRoot", "(I)V"⟩
abbrev b_X_matchAll : ByteArray := prog_1_method_37_code
abbrev y_X_matchAll : MethodName := ⟨"TypeBench", "matchAll", "(II)Z"⟩
abbrev b_X_matchTwo : ByteArray := prog_1_method_38_code
abbrev y_X_matchTwo : MethodName := ⟨"TypeBench", "matchTwo", "(II)Z"⟩
abbrev b_M_init : ByteArray := prog_5_method_1_code
abbrev y_M_init : MethodName := ⟨"TypeBenchModel", "<init>", "()V"⟩
abbrev b_M_begin : ByteArray := prog_5_method_2_code
abbrev y_M_begin : MethodName := ⟨"TypeBenchModel", "begin", "()V"⟩
abbrev b_M_make : ByteArray := prog_5_method_3_code
abbrev y_M_make : MethodName := ⟨"TypeBenchModel", "make", "(III)I"⟩
abbrev b_M_thrown : ByteArray := prog_5_method_4_code
abbrev y_M_thrown : MethodName := ⟨"TypeBenchModel", "thrown", "()I"⟩
abbrev b_M_refuse : ByteArray := prog_5_method_5_code
abbrev y_M_refuse : MethodName := ⟨"TypeBenchModel", "refuse", "(IZ)Z"⟩
abbrev b_M_none : ByteArray := prog_5_method_6_code
abbrev y_M_none : MethodName := ⟨"TypeBenchModel", "none", "(I)Z"⟩
abbrev b_M_unknown : ByteArray := prog_5_method_7_code
abbrev y_M_unknown : MethodName := ⟨"TypeBenchModel", "unknown", "(I)Z"⟩
abbrev b_M_is : ByteArray := prog_5_method_8_code
abbrev y_M_is : MethodName := ⟨"TypeBenchModel", "is", "(I)I"⟩
abbrev b_M_number : ByteArray := prog_5_method_9_code
abbrev y_M_number : MethodName := ⟨"TypeBenchModel", "number", "()V"⟩
abbrev b_M_numbered : ByteArray := prog_5_method_10_code
abbrev y_M_numbered : MethodName := ⟨"TypeBenchModel", "numbered", "(I)I"⟩
abbrev b_M_one : ByteArray := prog_5_method_11_code
abbrev y_M_one : MethodName := ⟨"TypeBenchModel", "one", "(II)Z"⟩
abbrev b_M_endless : ByteArray := prog_5_method_12_code
abbrev y_M_endless : MethodName := ⟨"TypeBenchModel", "endless", "(I)Z"⟩
abbrev b_M_tried : ByteArray := prog_5_method_13_code
abbrev y_M_tried : MethodName := ⟨"TypeBenchModel", "tried", "(II)Z"⟩
abbrev b_M_undone : ByteArray := prog_5_method_14_code
abbrev y_M_undone : MethodName := ⟨"TypeBenchModel", "undone", "()V"⟩
abbrev b_M_free : ByteArray := prog_5_method_15_code
abbrev y_M_free : MethodName := ⟨"TypeBenchModel", "free", "()I"⟩
abbrev b_M_made : ByteArray := prog_5_method_16_code
abbrev y_M_made : MethodName := ⟨"TypeBenchModel", "made", "(III)I"⟩
abbrev b_M_sum : ByteArray := prog_5_method_17_code
abbrev y_M_sum : MethodName := ⟨"TypeBenchModel", "sum", "(II)I"⟩
abbrev b_M_pair : ByteArray := prog_5_method_18_code
abbrev y_M_pair : MethodName := ⟨"TypeBenchModel", "pair", "(II)I"⟩
abbrev b_M_join : ByteArray := prog_5_method_19_code
abbrev y_M_join : MethodName := ⟨"TypeBenchModel", "join", "(II)Z"⟩
abbrev b_M_alike : ByteArray := prog_5_method_20_code
abbrev y_M_alike : MethodName := ⟨"TypeBenchModel", "alike", "(II)Z"⟩
abbrev b_M_same : ByteArray := prog_5_method_21_code
abbrev y_M_same : MethodName := ⟨"TypeBenchModel", "same", "(II)Z"⟩
abbrev b_M_put : ByteArray := prog_5_method_22_code
abbrev y_M_put : MethodName := ⟨"TypeBenchModel", "put", "(II)Z"⟩
abbrev b_M_renamed : ByteArray := prog_5_method_23_code
abbrev y_M_renamed : MethodName := ⟨"TypeBenchModel", "renamed", "(II)Z"⟩
abbrev b_M_kind : ByteArray := prog_5_method_24_code
abbrev y_M_kind : MethodName := ⟨"TypeBenchModel", "kind", "(I)I"⟩
abbrev b_M_part : ByteArray := prog_5_method_25_code
abbrev y_M_part : MethodName := ⟨"TypeBenchModel", "part", "(IZ)I"⟩
abbrev b_M_size : ByteArray := prog_5_method_26_code
abbrev y_M_size : MethodName := ⟨"TypeBenchModel", "size", "(I)I"⟩
abbrev b_M_values : ByteArray := prog_5_method_27_code
abbrev y_M_values : MethodName := ⟨"TypeBenchModel", "values", "(I)I"⟩
abbrev b_M_frees : ByteArray := prog_5_method_28_code
abbrev y_M_frees : MethodName := ⟨"TypeBenchModel", "frees", "(I)I"⟩
abbrev b_M_clear : ByteArray := prog_5_method_29_code
abbrev y_M_clear : MethodName := ⟨"TypeBenchModel", "clear", "()I"⟩
abbrev b_M_count : ByteArray := prog_5_method_30_code
abbrev y_M_count : MethodName := ⟨"TypeBenchModel", "count", "(I)I"⟩
abbrev b_P_init : ByteArray := prog_2_method_1_code
abbrev y_P_init : MethodName := ⟨"TypeBench$Pile", "<init>", "()V"⟩
abbrev b_P_startWith : ByteArray := prog_2_method_2_code
abbrev y_P_startWith : MethodName := ⟨"TypeBench$Pile", "startWith", "(II)V"⟩
abbrev b_P_put : ByteArray := prog_2_method_3_code
abbrev y_P_put : MethodName := ⟨"TypeBench$Pile", "put", "(I)V"⟩
abbrev b_P_take : ByteArray := prog_2_method_4_code
abbrev y_P_take : MethodName := ⟨"TypeBench$Pile", "take", "()I"⟩
abbrev b_P_top : ByteArray := prog_2_method_5_code
abbrev y_P_top : MethodName := ⟨"TypeBench$Pile", "top", "()I"⟩
abbrev b_S_init : ByteArray := prog_3_method_1_code
abbrev y_S_init : MethodName := ⟨"TypeBench$Shapes", "<init>", "()V"⟩
abbrev b_S_write : ByteArray := prog_3_method_2_code
abbrev y_S_write : MethodName := ⟨"TypeBench$Shapes", "write", "(IIII)V"⟩
abbrev b_S_hasParts : ByteArray := prog_3_method_3_code
abbrev y_S_hasParts : MethodName := ⟨"TypeBench$Shapes", "hasParts", "(I)Z"⟩
abbrev b_S_forgetWholes : ByteArray := prog_3_method_4_code
abbrev y_S_forgetWholes : MethodName := ⟨"TypeBench$Shapes", "forgetWholes", "()V"⟩
abbrev b_S_enter : ByteArray := prog_3_method_5_code
abbrev y_S_enter : MethodName := ⟨"TypeBench$Shapes", "enter", "(I)V"⟩
abbrev b_S_twinOf : ByteArray := prog_3_method_6_code
abbrev y_S_twinOf : MethodName := ⟨"TypeBench$Shapes", "twinOf", "(I)I"⟩
abbrev b_S_equalShapes : ByteArray := prog_3_method_7_code
abbrev y_S_equalShapes : MethodName := ⟨"TypeBench$Shapes", "equalShapes", "(II)Z"⟩
abbrev b_S_slotOf : ByteArray := prog_3_method_8_code
abbrev y_S_slotOf : MethodName := ⟨"TypeBench$Shapes", "slotOf", "(I)I"⟩
abbrev b_L_free : ByteArray := method_3_code
abbrev y_L_free : MethodName := ⟨"TypeBenchLaw", "free", "(LTypeBench;[J)I"⟩
abbrev b_L_sum : ByteArray := method_4_code
abbrev y_L_sum : MethodName := ⟨"TypeBenchLaw", "sum", "(LTypeBench;II[J)I"⟩
abbrev b_L_pair : ByteArray := method_5_code
abbrev y_L_pair : MethodName := ⟨"TypeBenchLaw", "pair", "(LTypeBench;II[J)I"⟩
abbrev b_L_join : ByteArray := method_6_code
abbrev y_L_join : MethodName := ⟨"TypeBenchLaw", "join", "(LTypeBench;II[J)I"⟩
abbrev b_L_alike : ByteArray := method_7_code
abbrev y_L_alike : MethodName := ⟨"TypeBenchLaw", "alike", "(LTypeBench;II[J)I"⟩
abbrev b_L_same : ByteArray := method_8_code
abbrev y_L_same : MethodName := ⟨"TypeBenchLaw", "same", "(LTypeBench;II[J)I"⟩
abbrev b_L_renamed : ByteArray := method_9_code
abbrev y_L_renamed : MethodName := ⟨"TypeBenchLaw", "renamed", "(LTypeBench;II[J)I"⟩
abbrev b_L_kind : ByteArray := method_10_code
abbrev y_L_kind : MethodName := ⟨"TypeBenchLaw", "kind", "(LTypeBench;I[J)I"⟩
abbrev b_L_part : ByteArray := method_11_code
abbrev y_L_part : MethodName := ⟨"TypeBenchLaw", "part", "(LTypeBench;IZ[J)I"⟩
abbrev b_L_size : ByteArray := method_12_code
abbrev y_L_size : MethodName := ⟨"TypeBenchLaw", "size", "(LTypeBench;I[J)I"⟩
abbrev b_L_values : ByteArray := method_13_code
abbrev y_L_values : MethodName := ⟨"TypeBenchLaw", "values", "(LTypeBench;I[J)I"⟩
abbrev b_L_frees : ByteArray := method_14_code
abbrev y_L_frees : MethodName := ⟨"TypeBenchLaw", "frees", "(LTypeBench;I[J)I"⟩
abbrev b_L_law : ByteArray := code
abbrev y_L_law : MethodName := ⟨"TypeBenchLaw", "law", "([I)Z"⟩
abbrev b_J_fill2 : ByteArray := prog_12_method_103_code
abbrev y_J_fill2 : MethodName := ⟨"java/util/Arrays", "fill", "([II)V"⟩
abbrev b_J_fill4 : ByteArray := prog_12_method_104_code
abbrev y_J_fill4 : MethodName := ⟨"java/util/Arrays", "fill", "([IIII)V"⟩
abbrev b_J_rangeCheck : ByteArray := prog_12_method_30_code
abbrev y_J_rangeCheck : MethodName := ⟨"java/util/Arrays", "rangeCheck", "(III)V"⟩
theorem mt_0 : Cond.initialized "TypeBenchLaw" ∈ LW := lw_in (i := 0) (by decide +kernel) (by decide +kernel)
theorem mt_1 : Cond.initialized "TypeBench" ∈ LW := lw_in (i := 1) (by decide +kernel) (by decide +kernel)
theorem mt_2 : Cond.initialized "TypeBench$Shapes" ∈ LW := lw_in (i := 2) (by decide +kernel) (by decide +kernel)
theorem mt_3 : Cond.initialized "TypeBench$Pile" ∈ LW := lw_in (i := 3) (by decide +kernel) (by decide +kernel)
theorem mt_4 : Cond.initialized "java/util/Arrays" ∈ LW := lw_in (i := 4) (by decide +kernel) (by decide +kernel)
theorem mt_5 : Cond.initialized "TypeBenchModel" ∈ LW := lw_in (i := 5) (by decide +kernel) (by decide +kernel)
theorem mt_6 : Cond.initialized "java/lang/Throwable" ∈ LW := lw_in (i := 6) (by decide +kernel) (by decide +kernel)
theorem mt_7 : Cond.initialized "java/lang/Exception" ∈ LW := lw_in (i := 7) (by decide +kernel) (by decide +kernel)
theorem mt_8 : Cond.initialized "java/lang/RuntimeException" ∈ LW := lw_in (i := 8) (by decide +kernel) (by decide +kernel)
theorem mt_9 : Cond.initialized "java/lang/IllegalStateException" ∈ LW := lw_in (i := 9) (by decide +kernel) (by decide +kernel)
theorem mt_10 : Cond.initialized "java/util/NoSuchElementException" ∈ LW := lw_in (i := 10) (by decide +kernel) (by decide +kernel)
theorem mt_11 : Cond.initialized "java/lang/System" ∈ LW := lw_in (i := 11) (by decide +kernel) (by decide +kernel)
theorem mt_12 : Cond.initialized "java/lang/Math" ∈ LW := lw_in (i := 12) (by decide +kernel) (by decide +kernel)
theorem mt_13 : Cond.classLink "TypeBenchLaw" 8 "TypeBench" ∈ LW := lw_in (i := 13) (by decide +kernel) (by decide +kernel)
theorem mt_14 : Cond.instantiable "TypeBench" 11 ∈ LW := lw_in (i := 14) (by decide +kernel) (by decide +kernel)
theorem mt_15 : Cond.methodLink "TypeBenchLaw" 54 ⟨"TypeBench", "<init>", "()V"⟩ ∈ LW := lw_in (i := 15) (by decide +kernel) (by decide +kernel)
theorem mt_16 : Cond.instanceMethod ⟨"TypeBench", "<init>", "()V"⟩ ∈ LW := lw_in (i := 16) (by decide +kernel) (by decide +kernel)
theorem mt_17 : Cond.code ⟨"TypeBench", "<init>", "()V"⟩ prog_1_method_1_code 1 none ∈ LW := lw_in (i := 17) (by decide +kernel) (by decide +kernel)
theorem mt_18 : Cond.methodLink "TypeBench" 1 ⟨"java/lang/Object", "<init>", "()V"⟩ ∈ LW := lw_in (i := 18) (by decide +kernel) (by decide +kernel)
theorem mt_19 : Cond.instanceMethod ⟨"java/lang/Object", "<init>", "()V"⟩ ∈ LW := lw_in (i := 19) (by decide +kernel) (by decide +kernel)
theorem mt_20 : Cond.code ⟨"java/lang/Object", "<init>", "()V"⟩ object_method_1_code 1 none ∈ LW := lw_in (i := 20) (by decide +kernel) (by decide +kernel)
theorem mt_21 : Cond.classLink "TypeBench" 7 "TypeBench$Shapes" ∈ LW := lw_in (i := 21) (by decide +kernel) (by decide +kernel)
theorem mt_22 : Cond.instantiable "TypeBench$Shapes" 5 ∈ LW := lw_in (i := 22) (by decide +kernel) (by decide +kernel)
theorem mt_24 : Cond.instanceMethod ⟨"TypeBench$Shapes", "<init>", "()V"⟩ ∈ LW := lw_in (i := 24) (by decide +kernel) (by decide +kernel)
theorem mt_25 : Cond.code ⟨"TypeBench$Shapes", "<init>", "()V"⟩ prog_3_method_1_code 1 none ∈ LW := lw_in (i := 25) (by decide +kernel) (by decide +kernel)
theorem mt_26 : Cond.methodLink "TypeBench$Shapes" 3 ⟨"java/lang/Object", "<init>", "()V"⟩ ∈ LW := lw_in (i := 26) (by decide +kernel) (by decide +kernel)
theorem mt_27 : Cond.fieldLink "TypeBench$Shapes" 9 "TypeBench$Shapes" "kinds" "[I" ∈ LW := lw_in (i := 27) (by decide +kernel) (by decide +kernel)
theorem mt_29 : Cond.fieldLink "TypeBench$Shapes" 15 "TypeBench$Shapes" "firsts" "[I" ∈ LW := lw_in (i := 29) (by decide +kernel) (by decide +kernel)
theorem mt_31 : Cond.fieldLink "TypeBench$Shapes" 18 "TypeBench$Shapes" "seconds" "[I" ∈ LW := lw_in (i := 31) (by decide +kernel) (by decide +kernel)
theorem mt_33 : Cond.fieldLink "TypeBench$Shapes" 21 "TypeBench$Shapes" "heads" "[I" ∈ LW := lw_in (i := 33) (by decide +kernel) (by decide +kernel)
theorem mt_34 : Cond.fieldLink "TypeBench$Shapes" 24 "TypeBench$Shapes" "nexts" "[I" ∈ LW := lw_in (i := 34) (by decide +kernel) (by decide +kernel)
theorem mt_35 : Cond.laysFinal "TypeBench$Shapes" "TypeBench$Shapes" "kinds" "[I" ∈ LW := lw_in (i := 35) (by decide +kernel) (by decide +kernel)
theorem mt_37 : Cond.laysFinal "TypeBench$Shapes" "TypeBench$Shapes" "firsts" "[I" ∈ LW := lw_in (i := 37) (by decide +kernel) (by decide +kernel)
theorem mt_39 : Cond.laysFinal "TypeBench$Shapes" "TypeBench$Shapes" "seconds" "[I" ∈ LW := lw_in (i := 39) (by decide +kernel) (by decide +kernel)
theorem mt_41 : Cond.laysFinal "TypeBench$Shapes" "TypeBench$Shapes" "heads" "[I" ∈ LW := lw_in (i := 41) (by decide +kernel) (by decide +kernel)
theorem mt_43 : Cond.laysFinal "TypeBench$Shapes" "TypeBench$Shapes" "nexts" "[I" ∈ LW := lw_in (i := 43) (by decide +kernel) (by decide +kernel)
theorem mt_46 : Cond.arrayClass FieldType.int ∈ LW := lw_in (i := 46) (by decide +kernel) (by decide +kernel)
theorem mt_47 : Cond.classLink "TypeBench" 32 "TypeBench$Pile" ∈ LW := lw_in (i := 47) (by decide +kernel) (by decide +kernel)
theorem mt_48 : Cond.instantiable "TypeBench$Pile" 2 ∈ LW := lw_in (i := 48) (by decide +kernel) (by decide +kernel)
theorem mt_50 : Cond.instanceMethod ⟨"TypeBench$Pile", "<init>", "()V"⟩ ∈ LW := lw_in (i := 50) (by decide +kernel) (by decide +kernel)
theorem mt_51 : Cond.code ⟨"TypeBench$Pile", "<init>", "()V"⟩ prog_2_method_1_code 1 none ∈ LW := lw_in (i := 51) (by decide +kernel) (by decide +kernel)
theorem mt_52 : Cond.methodLink "TypeBench$Pile" 3 ⟨"java/lang/Object", "<init>", "()V"⟩ ∈ LW := lw_in (i := 52) (by decide +kernel) (by decide +kernel)
theorem mt_53 : Cond.fieldLink "TypeBench$Pile" 9 "TypeBench$Pile" "row" "[I" ∈ LW := lw_in (i := 53) (by decide +kernel) (by decide +kernel)
theorem mt_54 : Cond.fieldLink "TypeBench$Pile" 15 "TypeBench$Pile" "height" "I" ∈ LW := lw_in (i := 54) (by decide +kernel) (by decide +kernel)
theorem mt_56 : Cond.laysFinal "TypeBench$Pile" "TypeBench$Pile" "row" "[I" ∈ LW := lw_in (i := 56) (by decide +kernel) (by decide +kernel)
theorem mt_58 : Cond.lays "TypeBench$Pile" "TypeBench$Pile" "height" "I" ∈ LW := lw_in (i := 58) (by decide +kernel) (by decide +kernel)
theorem mt_61 : Cond.methodLink "TypeBench" 42 ⟨"TypeBench", "begin", "()V"⟩ ∈ LW := lw_in (i := 61) (by decide +kernel) (by decide +kernel)
theorem mt_63 : Cond.instanceMethod ⟨"TypeBench", "begin", "()V"⟩ ∈ LW := lw_in (i := 63) (by decide +kernel) (by decide +kernel)
theorem mt_64 : Cond.code ⟨"TypeBench", "begin", "()V"⟩ prog_1_method_16_code 1 none ∈ LW := lw_in (i := 64) (by decide +kernel) (by decide +kernel)
theorem mt_67 : Cond.instanceMethod ⟨"TypeBench$Shapes", "forgetWholes", "()V"⟩ ∈ LW := lw_in (i := 67) (by decide +kernel) (by decide +kernel)
theorem mt_68 : Cond.code ⟨"TypeBench$Shapes", "forgetWholes", "()V"⟩ prog_3_method_4_code 1 none ∈ LW := lw_in (i := 68) (by decide +kernel) (by decide +kernel)
theorem mt_69 : Cond.methodLink "TypeBench$Shapes" 27 ⟨"java/util/Arrays", "fill", "([II)V"⟩ ∈ LW := lw_in (i := 69) (by decide +kernel) (by decide +kernel)
theorem mt_70 : Cond.static ⟨"java/util/Arrays", "fill", "([II)V"⟩ ∈ LW := lw_in (i := 70) (by decide +kernel) (by decide +kernel)
theorem mt_71 : Cond.code ⟨"java/util/Arrays", "fill", "([II)V"⟩ prog_12_method_103_code 4 none ∈ LW := lw_in (i := 71) (by decide +kernel) (by decide +kernel)
theorem mt_74 : Cond.instanceMethod ⟨"TypeBench$Shapes", "write", "(IIII)V"⟩ ∈ LW := lw_in (i := 74) (by decide +kernel) (by decide +kernel)
theorem mt_75 : Cond.code ⟨"TypeBench$Shapes", "write", "(IIII)V"⟩ prog_3_method_2_code 5 none ∈ LW := lw_in (i := 75) (by decide +kernel) (by decide +kernel)
theorem mt_76 : Cond.methodLink "TypeBench" 53 ⟨"TypeBench", "addLeader", "(I)V"⟩ ∈ LW := lw_in (i := 76) (by decide +kernel) (by decide +kernel)
theorem mt_78 : Cond.instanceMethod ⟨"TypeBench", "addLeader", "(I)V"⟩ ∈ LW := lw_in (i := 78) (by decide +kernel) (by decide +kernel)
theorem mt_79 : Cond.code ⟨"TypeBench", "addLeader", "(I)V"⟩ prog_1_method_19_code 2 none ∈ LW := lw_in (i := 79) (by decide +kernel) (by decide +kernel)
theorem mt_80 : Cond.fieldLink "TypeBench" 101 "TypeBench" "made" "I" ∈ LW := lw_in (i := 80) (by decide +kernel) (by decide +kernel)
theorem mt_81 : Cond.fieldLink "TypeBench" 10 "TypeBench" "shapes" "LTypeBench$Shapes;" ∈ LW := lw_in (i := 81) (by decide +kernel) (by decide +kernel)
theorem mt_82 : Cond.fieldLink "TypeBench" 16 "TypeBench" "leads" "[I" ∈ LW := lw_in (i := 82) (by decide +kernel) (by decide +kernel)
theorem mt_83 : Cond.fieldLink "TypeBench" 20 "TypeBench" "leasts" "[I" ∈ LW := lw_in (i := 83) (by decide +kernel) (by decide +kernel)
theorem mt_84 : Cond.fieldLink "TypeBench" 23 "TypeBench" "order" "[I" ∈ LW := lw_in (i := 84) (by decide +kernel) (by decide +kernel)
theorem mt_85 : Cond.fieldLink "TypeBench" 91 "TypeBench" "different" "I" ∈ LW := lw_in (i := 85) (by decide +kernel) (by decide +kernel)
theorem mt_86 : Cond.fieldLink "TypeBench" 26 "TypeBench" "link" "[I" ∈ LW := lw_in (i := 86) (by decide +kernel) (by decide +kernel)
theorem mt_87 : Cond.fieldLink "TypeBench" 29 "TypeBench" "mark" "[I" ∈ LW := lw_in (i := 87) (by decide +kernel) (by decide +kernel)
theorem mt_88 : Cond.fieldLink "TypeBench" 35 "TypeBench" "pile" "LTypeBench$Pile;" ∈ LW := lw_in (i := 88) (by decide +kernel) (by decide +kernel)
theorem mt_89 : Cond.fieldLink "TypeBench" 39 "TypeBench" "tried" "[I" ∈ LW := lw_in (i := 89) (by decide +kernel) (by decide +kernel)
theorem mt_90 : Cond.fieldLink "TypeBench" 178 "TypeBench" "triedCount" "I" ∈ LW := lw_in (i := 90) (by decide +kernel) (by decide +kernel)
theorem mt_91 : Cond.lays "TypeBench" "TypeBench" "made" "I" ∈ LW := lw_in (i := 91) (by decide +kernel) (by decide +kernel)
theorem mt_93 : Cond.laysFinal "TypeBench" "TypeBench" "shapes" "LTypeBench$Shapes;" ∈ LW := lw_in (i := 93) (by decide +kernel) (by decide +kernel)
theorem mt_95 : Cond.laysFinal "TypeBench" "TypeBench" "leads" "[I" ∈ LW := lw_in (i := 95) (by decide +kernel) (by decide +kernel)
theorem mt_97 : Cond.laysFinal "TypeBench" "TypeBench" "leasts" "[I" ∈ LW := lw_in (i := 97) (by decide +kernel) (by decide +kernel)
theorem mt_99 : Cond.laysFinal "TypeBench" "TypeBench" "order" "[I" ∈ LW := lw_in (i := 99) (by decide +kernel) (by decide +kernel)
theorem mt_101 : Cond.lays "TypeBench" "TypeBench" "different" "I" ∈ LW := lw_in (i := 101) (by decide +kernel) (by decide +kernel)
theorem mt_103 : Cond.laysFinal "TypeBench" "TypeBench" "link" "[I" ∈ LW := lw_in (i := 103) (by decide +kernel) (by decide +kernel)
theorem mt_105 : Cond.laysFinal "TypeBench" "TypeBench" "mark" "[I" ∈ LW := lw_in (i := 105) (by decide +kernel) (by decide +kernel)
theorem mt_107 : Cond.laysFinal "TypeBench" "TypeBench" "pile" "LTypeBench$Pile;" ∈ LW := lw_in (i := 107) (by decide +kernel) (by decide +kernel)
theorem mt_109 : Cond.laysFinal "TypeBench" "TypeBench" "tried" "[I" ∈ LW := lw_in (i := 109) (by decide +kernel) (by decide +kernel)
theorem mt_111 : Cond.lays "TypeBench" "TypeBench" "triedCount" "I" ∈ LW := lw_in (i := 111) (by decide +kernel) (by decide +kernel)
theorem mt_114 : Cond.methodLink "TypeBenchLaw" 103 ⟨"TypeBench", "clear", "()I"⟩ ∈ LW := lw_in (i := 114) (by decide +kernel) (by decide +kernel)
theorem mt_115 : Cond.instanceMethod ⟨"TypeBench", "clear", "()I"⟩ ∈ LW := lw_in (i := 115) (by decide +kernel) (by decide +kernel)
theorem mt_116 : Cond.selects "TypeBench" ⟨"TypeBench", "clear", "()I"⟩ ⟨"TypeBench", "clear", "()I"⟩ ∈ LW := lw_in (i := 116) (by decide +kernel) (by decide +kernel)
theorem mt_117 : Cond.code ⟨"TypeBench", "clear", "()I"⟩ prog_1_method_14_code 2 (some FieldType.int) ∈ LW := lw_in (i := 117) (by decide +kernel) (by decide +kernel)
theorem mt_118 : Cond.methodLink "TypeBenchLaw" 107 ⟨"TypeBench", "count", "(I)I"⟩ ∈ LW := lw_in (i := 118) (by decide +kernel) (by decide +kernel)
theorem mt_119 : Cond.instanceMethod ⟨"TypeBench", "count", "(I)I"⟩ ∈ LW := lw_in (i := 119) (by decide +kernel) (by decide +kernel)
theorem mt_120 : Cond.selects "TypeBench" ⟨"TypeBench", "count", "(I)I"⟩ ⟨"TypeBench", "count", "(I)I"⟩ ∈ LW := lw_in (i := 120) (by decide +kernel) (by decide +kernel)
theorem mt_121 : Cond.code ⟨"TypeBench", "count", "(I)I"⟩ prog_1_method_15_code 2 (some FieldType.int) ∈ LW := lw_in (i := 121) (by decide +kernel) (by decide +kernel)
theorem mt_122 : Cond.methodLink "TypeBench" 113 ⟨"TypeBench", "countFreeLeaders", "()I"⟩ ∈ LW := lw_in (i := 122) (by decide +kernel) (by decide +kernel)
theorem mt_124 : Cond.instanceMethod ⟨"TypeBench", "countFreeLeaders", "()I"⟩ ∈ LW := lw_in (i := 124) (by decide +kernel) (by decide +kernel)
theorem mt_125 : Cond.code ⟨"TypeBench", "countFreeLeaders", "()I"⟩ prog_1_method_21_code 3 (some FieldType.int) ∈ LW := lw_in (i := 125) (by decide +kernel) (by decide +kernel)
theorem mt_126 : Cond.methodLink "TypeBenchLaw" 58 ⟨"TypeBenchLaw", "free", "(LTypeBench;[J)I"⟩ ∈ LW := lw_in (i := 126) (by decide +kernel) (by decide +kernel)
theorem mt_127 : Cond.static ⟨"TypeBenchLaw", "free", "(LTypeBench;[J)I"⟩ ∈ LW := lw_in (i := 127) (by decide +kernel) (by decide +kernel)
theorem mt_128 : Cond.codeWith ⟨"TypeBenchLaw", "free", "(LTypeBench;[J)I"⟩ method_3_code 3 (some FieldType.int) [(0, 8, 11, 13)] ∈ LW := lw_in (i := 128) (by decide +kernel) (by decide +kernel)
theorem mt_129 : Cond.classLink "TypeBenchLaw" 13 "java/lang/IllegalStateException" ∈ LW := lw_in (i := 129) (by decide +kernel) (by decide +kernel)
theorem mt_130 : Cond.methodLink "TypeBenchLaw" 7 ⟨"TypeBench", "free", "()I"⟩ ∈ LW := lw_in (i := 130) (by decide +kernel) (by decide +kernel)
theorem mt_131 : Cond.instanceMethod ⟨"TypeBench", "free", "()I"⟩ ∈ LW := lw_in (i := 131) (by decide +kernel) (by decide +kernel)
theorem mt_132 : Cond.selects "TypeBench" ⟨"TypeBench", "free", "()I"⟩ ⟨"TypeBench", "free", "()I"⟩ ∈ LW := lw_in (i := 132) (by decide +kernel) (by decide +kernel)
theorem mt_133 : Cond.code ⟨"TypeBench", "free", "()I"⟩ prog_1_method_2_code 2 (some FieldType.int) ∈ LW := lw_in (i := 133) (by decide +kernel) (by decide +kernel)
theorem mt_134 : Cond.methodLink "TypeBench" 45 ⟨"TypeBench", "nextNumber", "()I"⟩ ∈ LW := lw_in (i := 134) (by decide +kernel) (by decide +kernel)
theorem mt_136 : Cond.instanceMethod ⟨"TypeBench", "nextNumber", "()I"⟩ ∈ LW := lw_in (i := 136) (by decide +kernel) (by decide +kernel)
theorem mt_137 : Cond.code ⟨"TypeBench", "nextNumber", "()I"⟩ prog_1_method_18_code 1 (some FieldType.int) ∈ LW := lw_in (i := 137) (by decide +kernel) (by decide +kernel)
theorem mt_138 : Cond.classLink "TypeBench" 119 "java/lang/IllegalStateException" ∈ LW := lw_in (i := 138) (by decide +kernel) (by decide +kernel)
theorem mt_139 : Cond.instantiable "java/lang/IllegalStateException" 6 ∈ LW := lw_in (i := 139) (by decide +kernel) (by decide +kernel)
theorem mt_147 : Cond.selects "java/lang/IllegalStateException" ⟨"java/lang/Throwable", "fillInStackTrace", "(I)Ljava/lang/Throwable;"⟩ ⟨"java/lang/Throwable", "fillInStackTrace", "(I)Ljava/lang/Throwable;"⟩ ∈ LW := lw_in (i := 147) (by decide +kernel) (by decide +kernel)
theorem mt_148 : Cond.selects "java/lang/IllegalStateException" ⟨"java/lang/Throwable", "fillInStackTrace", "()Ljava/lang/Throwable;"⟩ ⟨"java/lang/Throwable", "fillInStackTrace", "()Ljava/lang/Throwable;"⟩ ∈ LW := lw_in (i := 148) (by decide +kernel) (by decide +kernel)
theorem mt_149 : Cond.lays "java/lang/IllegalStateException" "java/lang/Throwable" "cause" "Ljava/lang/Throwable;" ∈ LW := lw_in (i := 149) (by decide +kernel) (by decide +kernel)
theorem mt_150 : Cond.lays "java/lang/Throwable" "java/lang/Throwable" "cause" "Ljava/lang/Throwable;" ∈ LW := lw_in (i := 150) (by decide +kernel) (by decide +kernel)
theorem mt_151 : Cond.lays "java/lang/IllegalStateException" "java/lang/Throwable" "stackTrace" "[Ljava/lang/StackTraceElement;" ∈ LW := lw_in (i := 151) (by decide +kernel) (by decide +kernel)
theorem mt_152 : Cond.lays "java/lang/Throwable" "java/lang/Throwable" "stackTrace" "[Ljava/lang/StackTraceElement;" ∈ LW := lw_in (i := 152) (by decide +kernel) (by decide +kernel)
theorem mt_153 : Cond.lays "java/lang/IllegalStateException" "java/lang/Throwable" "suppressedExceptions" "Ljava/util/List;" ∈ LW := lw_in (i := 153) (by decide +kernel) (by decide +kernel)
theorem mt_154 : Cond.lays "java/lang/Throwable" "java/lang/Throwable" "suppressedExceptions" "Ljava/util/List;" ∈ LW := lw_in (i := 154) (by decide +kernel) (by decide +kernel)
theorem mt_155 : Cond.lays "java/lang/IllegalStateException" "java/lang/Throwable" "detailMessage" "Ljava/lang/String;" ∈ LW := lw_in (i := 155) (by decide +kernel) (by decide +kernel)
theorem mt_156 : Cond.lays "java/lang/Throwable" "java/lang/Throwable" "detailMessage" "Ljava/lang/String;" ∈ LW := lw_in (i := 156) (by decide +kernel) (by decide +kernel)
theorem mt_157 : Cond.lays "java/lang/IllegalStateException" "java/lang/Throwable" "backtrace" "Ljava/lang/Object;" ∈ LW := lw_in (i := 157) (by decide +kernel) (by decide +kernel)
theorem mt_158 : Cond.lays "java/lang/Throwable" "java/lang/Throwable" "backtrace" "Ljava/lang/Object;" ∈ LW := lw_in (i := 158) (by decide +kernel) (by decide +kernel)
theorem mt_159 : Cond.fieldLink "java/lang/Throwable" 198 "java/lang/Throwable" "backtrace" "Ljava/lang/Object;" ∈ LW := lw_in (i := 159) (by decide +kernel) (by decide +kernel)
theorem mt_161 : Cond.instanceMethod ⟨"java/lang/Throwable", "<init>", "()V"⟩ ∈ LW := lw_in (i := 161) (by decide +kernel) (by decide +kernel)
theorem mt_162 : Cond.code ⟨"java/lang/Throwable", "<init>", "()V"⟩ prog_11_method_1_code 1 none ∈ LW := lw_in (i := 162) (by decide +kernel) (by decide +kernel)
theorem mt_163 : Cond.methodLink "java/lang/Throwable" 1 ⟨"java/lang/Object", "<init>", "()V"⟩ ∈ LW := lw_in (i := 163) (by decide +kernel) (by decide +kernel)
theorem mt_164 : Cond.fieldLink "java/lang/Throwable" 13 "java/lang/Throwable" "UNASSIGNED_STACK" "[Ljava/lang/StackTraceElement;" ∈ LW := lw_in (i := 164) (by decide +kernel) (by decide +kernel)
theorem mt_166 : Cond.fieldLink "java/lang/Throwable" 20 "java/lang/Throwable" "SUPPRESSED_SENTINEL" "Ljava/util/List;" ∈ LW := lw_in (i := 166) (by decide +kernel) (by decide +kernel)
theorem mt_168 : Cond.methodLink "java/lang/Throwable" 27 ⟨"java/lang/Throwable", "fillInStackTrace", "()Ljava/lang/Throwable;"⟩ ∈ LW := lw_in (i := 168) (by decide +kernel) (by decide +kernel)
theorem mt_169 : Cond.instanceMethod ⟨"java/lang/Throwable", "fillInStackTrace", "()Ljava/lang/Throwable;"⟩ ∈ LW := lw_in (i := 169) (by decide +kernel) (by decide +kernel)
theorem mt_171 : Cond.selects "java/util/NoSuchElementException" ⟨"java/lang/Throwable", "fillInStackTrace", "()Ljava/lang/Throwable;"⟩ ⟨"java/lang/Throwable", "fillInStackTrace", "()Ljava/lang/Throwable;"⟩ ∈ LW := lw_in (i := 171) (by decide +kernel) (by decide +kernel)
theorem mt_173 : Cond.methodLink "java/lang/Throwable" 202 ⟨"java/lang/Throwable", "fillInStackTrace", "(I)Ljava/lang/Throwable;"⟩ ∈ LW := lw_in (i := 173) (by decide +kernel) (by decide +kernel)
theorem mt_175 : Cond.instanceMethod ⟨"java/lang/Throwable", "fillInStackTrace", "(I)Ljava/lang/Throwable;"⟩ ∈ LW := lw_in (i := 175) (by decide +kernel) (by decide +kernel)
theorem mt_176 : Cond.instantiable "java/lang/Throwable" 6 ∈ LW := lw_in (i := 176) (by decide +kernel) (by decide +kernel)
theorem mt_177 : Cond.native ⟨"java/lang/Throwable", "fillInStackTrace", "(I)Ljava/lang/Throwable;"⟩ ∈ LW := lw_in (i := 177) (by decide +kernel) (by decide +kernel)
theorem mt_178 : Cond.methodLink "TypeBench" 121 ⟨"java/lang/IllegalStateException", "<init>", "()V"⟩ ∈ LW := lw_in (i := 178) (by decide +kernel) (by decide +kernel)
theorem mt_179 : Cond.instanceMethod ⟨"java/lang/IllegalStateException", "<init>", "()V"⟩ ∈ LW := lw_in (i := 179) (by decide +kernel) (by decide +kernel)
theorem mt_180 : Cond.code ⟨"java/lang/IllegalStateException", "<init>", "()V"⟩ prog_7_method_1_code 1 none ∈ LW := lw_in (i := 180) (by decide +kernel) (by decide +kernel)
theorem mt_181 : Cond.methodLink "java/lang/IllegalStateException" 1 ⟨"java/lang/RuntimeException", "<init>", "()V"⟩ ∈ LW := lw_in (i := 181) (by decide +kernel) (by decide +kernel)
theorem mt_182 : Cond.instanceMethod ⟨"java/lang/RuntimeException", "<init>", "()V"⟩ ∈ LW := lw_in (i := 182) (by decide +kernel) (by decide +kernel)
theorem mt_183 : Cond.code ⟨"java/lang/RuntimeException", "<init>", "()V"⟩ prog_9_method_1_code 1 none ∈ LW := lw_in (i := 183) (by decide +kernel) (by decide +kernel)
theorem mt_184 : Cond.methodLink "java/lang/RuntimeException" 1 ⟨"java/lang/Exception", "<init>", "()V"⟩ ∈ LW := lw_in (i := 184) (by decide +kernel) (by decide +kernel)
theorem mt_185 : Cond.instanceMethod ⟨"java/lang/Exception", "<init>", "()V"⟩ ∈ LW := lw_in (i := 185) (by decide +kernel) (by decide +kernel)
theorem mt_186 : Cond.code ⟨"java/lang/Exception", "<init>", "()V"⟩ prog_6_method_1_code 1 none ∈ LW := lw_in (i := 186) (by decide +kernel) (by decide +kernel)
theorem mt_187 : Cond.methodLink "java/lang/Exception" 1 ⟨"java/lang/Throwable", "<init>", "()V"⟩ ∈ LW := lw_in (i := 187) (by decide +kernel) (by decide +kernel)
theorem mt_189 : Cond.fieldLink "java/lang/Throwable" 7 "java/lang/Throwable" "cause" "Ljava/lang/Throwable;" ∈ LW := lw_in (i := 189) (by decide +kernel) (by decide +kernel)
theorem mt_190 : Cond.fieldLink "java/lang/Throwable" 17 "java/lang/Throwable" "stackTrace" "[Ljava/lang/StackTraceElement;" ∈ LW := lw_in (i := 190) (by decide +kernel) (by decide +kernel)
theorem mt_191 : Cond.fieldLink "java/lang/Throwable" 24 "java/lang/Throwable" "suppressedExceptions" "Ljava/util/List;" ∈ LW := lw_in (i := 191) (by decide +kernel) (by decide +kernel)
theorem mt_196 : Cond.lays "java/lang/IllegalStateException" "java/lang/Throwable" "depth" "I" ∈ LW := lw_in (i := 196) (by decide +kernel) (by decide +kernel)
theorem mt_200 : Cond.methodLink "TypeBenchLaw" 67 ⟨"TypeBenchLaw", "sum", "(LTypeBench;II[J)I"⟩ ∈ LW := lw_in (i := 200) (by decide +kernel) (by decide +kernel)
theorem mt_201 : Cond.static ⟨"TypeBenchLaw", "sum", "(LTypeBench;II[J)I"⟩ ∈ LW := lw_in (i := 201) (by decide +kernel) (by decide +kernel)
theorem mt_202 : Cond.codeWith ⟨"TypeBenchLaw", "sum", "(LTypeBench;II[J)I"⟩ method_4_code 5 (some FieldType.int) [(0, 10, 13, 19), (0, 10, 17, 13)] ∈ LW := lw_in (i := 202) (by decide +kernel) (by decide +kernel)
theorem mt_203 : Cond.classLink "TypeBenchLaw" 19 "java/util/NoSuchElementException" ∈ LW := lw_in (i := 203) (by decide +kernel) (by decide +kernel)
theorem mt_204 : Cond.methodLink "TypeBenchLaw" 15 ⟨"TypeBench", "sum", "(II)I"⟩ ∈ LW := lw_in (i := 204) (by decide +kernel) (by decide +kernel)
theorem mt_205 : Cond.instanceMethod ⟨"TypeBench", "sum", "(II)I"⟩ ∈ LW := lw_in (i := 205) (by decide +kernel) (by decide +kernel)
theorem mt_206 : Cond.selects "TypeBench" ⟨"TypeBench", "sum", "(II)I"⟩ ⟨"TypeBench", "sum", "(II)I"⟩ ∈ LW := lw_in (i := 206) (by decide +kernel) (by decide +kernel)
theorem mt_207 : Cond.code ⟨"TypeBench", "sum", "(II)I"⟩ prog_1_method_3_code 3 (some FieldType.int) ∈ LW := lw_in (i := 207) (by decide +kernel) (by decide +kernel)
theorem mt_208 : Cond.methodLink "TypeBench" 57 ⟨"TypeBench", "leaderOf", "(I)I"⟩ ∈ LW := lw_in (i := 208) (by decide +kernel) (by decide +kernel)
theorem mt_210 : Cond.instanceMethod ⟨"TypeBench", "leaderOf", "(I)I"⟩ ∈ LW := lw_in (i := 210) (by decide +kernel) (by decide +kernel)
theorem mt_211 : Cond.code ⟨"TypeBench", "leaderOf", "(I)I"⟩ prog_1_method_17_code 2 (some FieldType.int) ∈ LW := lw_in (i := 211) (by decide +kernel) (by decide +kernel)
theorem mt_212 : Cond.classLink "TypeBench" 82 "java/util/NoSuchElementException" ∈ LW := lw_in (i := 212) (by decide +kernel) (by decide +kernel)
theorem mt_213 : Cond.instantiable "java/util/NoSuchElementException" 6 ∈ LW := lw_in (i := 213) (by decide +kernel) (by decide +kernel)
theorem mt_215 : Cond.selects "java/util/NoSuchElementException" ⟨"java/lang/Throwable", "fillInStackTrace", "(I)Ljava/lang/Throwable;"⟩ ⟨"java/lang/Throwable", "fillInStackTrace", "(I)Ljava/lang/Throwable;"⟩ ∈ LW := lw_in (i := 215) (by decide +kernel) (by decide +kernel)
theorem mt_216 : Cond.lays "java/util/NoSuchElementException" "java/lang/Throwable" "cause" "Ljava/lang/Throwable;" ∈ LW := lw_in (i := 216) (by decide +kernel) (by decide +kernel)
theorem mt_217 : Cond.lays "java/util/NoSuchElementException" "java/lang/Throwable" "stackTrace" "[Ljava/lang/StackTraceElement;" ∈ LW := lw_in (i := 217) (by decide +kernel) (by decide +kernel)
theorem mt_218 : Cond.lays "java/util/NoSuchElementException" "java/lang/Throwable" "suppressedExceptions" "Ljava/util/List;" ∈ LW := lw_in (i := 218) (by decide +kernel) (by decide +kernel)
theorem mt_219 : Cond.lays "java/util/NoSuchElementException" "java/lang/Throwable" "detailMessage" "Ljava/lang/String;" ∈ LW := lw_in (i := 219) (by decide +kernel) (by decide +kernel)
theorem mt_220 : Cond.lays "java/util/NoSuchElementException" "java/lang/Throwable" "backtrace" "Ljava/lang/Object;" ∈ LW := lw_in (i := 220) (by decide +kernel) (by decide +kernel)
theorem mt_221 : Cond.methodLink "TypeBench" 84 ⟨"java/util/NoSuchElementException", "<init>", "()V"⟩ ∈ LW := lw_in (i := 221) (by decide +kernel) (by decide +kernel)
theorem mt_222 : Cond.instanceMethod ⟨"java/util/NoSuchElementException", "<init>", "()V"⟩ ∈ LW := lw_in (i := 222) (by decide +kernel) (by decide +kernel)
theorem mt_223 : Cond.code ⟨"java/util/NoSuchElementException", "<init>", "()V"⟩ prog_13_method_1_code 1 none ∈ LW := lw_in (i := 223) (by decide +kernel) (by decide +kernel)
theorem mt_224 : Cond.methodLink "java/util/NoSuchElementException" 1 ⟨"java/lang/RuntimeException", "<init>", "()V"⟩ ∈ LW := lw_in (i := 224) (by decide +kernel) (by decide +kernel)
theorem mt_225 : Cond.lays "java/util/NoSuchElementException" "java/lang/Throwable" "depth" "I" ∈ LW := lw_in (i := 225) (by decide +kernel) (by decide +kernel)
theorem mt_227 : Cond.methodLink "TypeBench" 61 ⟨"TypeBench", "makeWhole", "(III)I"⟩ ∈ LW := lw_in (i := 227) (by decide +kernel) (by decide +kernel)
theorem mt_229 : Cond.instanceMethod ⟨"TypeBench", "makeWhole", "(III)I"⟩ ∈ LW := lw_in (i := 229) (by decide +kernel) (by decide +kernel)
theorem mt_230 : Cond.code ⟨"TypeBench", "makeWhole", "(III)I"⟩ prog_1_method_20_code 6 (some FieldType.int) ∈ LW := lw_in (i := 230) (by decide +kernel) (by decide +kernel)
theorem mt_233 : Cond.instanceMethod ⟨"TypeBench$Shapes", "twinOf", "(I)I"⟩ ∈ LW := lw_in (i := 233) (by decide +kernel) (by decide +kernel)
theorem mt_234 : Cond.code ⟨"TypeBench$Shapes", "twinOf", "(I)I"⟩ prog_3_method_6_code 4 (some FieldType.int) ∈ LW := lw_in (i := 234) (by decide +kernel) (by decide +kernel)
theorem mt_235 : Cond.methodLink "TypeBench$Shapes" 33 ⟨"TypeBench$Shapes", "slotOf", "(I)I"⟩ ∈ LW := lw_in (i := 235) (by decide +kernel) (by decide +kernel)
theorem mt_237 : Cond.instanceMethod ⟨"TypeBench$Shapes", "slotOf", "(I)I"⟩ ∈ LW := lw_in (i := 237) (by decide +kernel) (by decide +kernel)
theorem mt_238 : Cond.code ⟨"TypeBench$Shapes", "slotOf", "(I)I"⟩ prog_3_method_8_code 2 (some FieldType.int) ∈ LW := lw_in (i := 238) (by decide +kernel) (by decide +kernel)
theorem mt_239 : Cond.methodLink "TypeBench$Shapes" 37 ⟨"TypeBench$Shapes", "equalShapes", "(II)Z"⟩ ∈ LW := lw_in (i := 239) (by decide +kernel) (by decide +kernel)
theorem mt_241 : Cond.instanceMethod ⟨"TypeBench$Shapes", "equalShapes", "(II)Z"⟩ ∈ LW := lw_in (i := 241) (by decide +kernel) (by decide +kernel)
theorem mt_242 : Cond.code ⟨"TypeBench$Shapes", "equalShapes", "(II)Z"⟩ prog_3_method_7_code 3 (some FieldType.boolean) ∈ LW := lw_in (i := 242) (by decide +kernel) (by decide +kernel)
theorem mt_245 : Cond.instanceMethod ⟨"TypeBench$Shapes", "enter", "(I)V"⟩ ∈ LW := lw_in (i := 245) (by decide +kernel) (by decide +kernel)
theorem mt_246 : Cond.code ⟨"TypeBench$Shapes", "enter", "(I)V"⟩ prog_3_method_5_code 3 none ∈ LW := lw_in (i := 246) (by decide +kernel) (by decide +kernel)
theorem mt_247 : Cond.methodLink "TypeBenchLaw" 71 ⟨"TypeBenchLaw", "pair", "(LTypeBench;II[J)I"⟩ ∈ LW := lw_in (i := 247) (by decide +kernel) (by decide +kernel)
theorem mt_248 : Cond.static ⟨"TypeBenchLaw", "pair", "(LTypeBench;II[J)I"⟩ ∈ LW := lw_in (i := 248) (by decide +kernel) (by decide +kernel)
theorem mt_249 : Cond.codeWith ⟨"TypeBenchLaw", "pair", "(LTypeBench;II[J)I"⟩ method_5_code 5 (some FieldType.int) [(0, 10, 13, 19), (0, 10, 17, 13)] ∈ LW := lw_in (i := 249) (by decide +kernel) (by decide +kernel)
theorem mt_250 : Cond.methodLink "TypeBenchLaw" 21 ⟨"TypeBench", "pair", "(II)I"⟩ ∈ LW := lw_in (i := 250) (by decide +kernel) (by decide +kernel)
theorem mt_251 : Cond.instanceMethod ⟨"TypeBench", "pair", "(II)I"⟩ ∈ LW := lw_in (i := 251) (by decide +kernel) (by decide +kernel)
theorem mt_252 : Cond.selects "TypeBench" ⟨"TypeBench", "pair", "(II)I"⟩ ⟨"TypeBench", "pair", "(II)I"⟩ ∈ LW := lw_in (i := 252) (by decide +kernel) (by decide +kernel)
theorem mt_253 : Cond.code ⟨"TypeBench", "pair", "(II)I"⟩ prog_1_method_4_code 3 (some FieldType.int) ∈ LW := lw_in (i := 253) (by decide +kernel) (by decide +kernel)
theorem mt_254 : Cond.methodLink "TypeBenchLaw" 74 ⟨"TypeBenchLaw", "join", "(LTypeBench;II[J)I"⟩ ∈ LW := lw_in (i := 254) (by decide +kernel) (by decide +kernel)
theorem mt_255 : Cond.static ⟨"TypeBenchLaw", "join", "(LTypeBench;II[J)I"⟩ ∈ LW := lw_in (i := 255) (by decide +kernel) (by decide +kernel)
theorem mt_256 : Cond.codeWith ⟨"TypeBenchLaw", "join", "(LTypeBench;II[J)I"⟩ method_6_code 5 (some FieldType.int) [(0, 17, 20, 19)] ∈ LW := lw_in (i := 256) (by decide +kernel) (by decide +kernel)
theorem mt_257 : Cond.methodLink "TypeBenchLaw" 24 ⟨"TypeBench", "join", "(II)Z"⟩ ∈ LW := lw_in (i := 257) (by decide +kernel) (by decide +kernel)
theorem mt_258 : Cond.instanceMethod ⟨"TypeBench", "join", "(II)Z"⟩ ∈ LW := lw_in (i := 258) (by decide +kernel) (by decide +kernel)
theorem mt_259 : Cond.selects "TypeBench" ⟨"TypeBench", "join", "(II)Z"⟩ ⟨"TypeBench", "join", "(II)Z"⟩ ∈ LW := lw_in (i := 259) (by decide +kernel) (by decide +kernel)
theorem mt_260 : Cond.code ⟨"TypeBench", "join", "(II)Z"⟩ prog_1_method_5_code 5 (some FieldType.boolean) ∈ LW := lw_in (i := 260) (by decide +kernel) (by decide +kernel)
theorem mt_261 : Cond.methodLink "TypeBench" 65 ⟨"TypeBench", "tryToLink", "(II)Z"⟩ ∈ LW := lw_in (i := 261) (by decide +kernel) (by decide +kernel)
theorem mt_263 : Cond.instanceMethod ⟨"TypeBench", "tryToLink", "(II)Z"⟩ ∈ LW := lw_in (i := 263) (by decide +kernel) (by decide +kernel)
theorem mt_264 : Cond.code ⟨"TypeBench", "tryToLink", "(II)Z"⟩ prog_1_method_25_code 3 (some FieldType.boolean) ∈ LW := lw_in (i := 264) (by decide +kernel) (by decide +kernel)
theorem mt_265 : Cond.methodLink "TypeBench" 143 ⟨"TypeBench", "linkAll", "(II)Z"⟩ ∈ LW := lw_in (i := 265) (by decide +kernel) (by decide +kernel)
theorem mt_267 : Cond.instanceMethod ⟨"TypeBench", "linkAll", "(II)Z"⟩ ∈ LW := lw_in (i := 267) (by decide +kernel) (by decide +kernel)
theorem mt_268 : Cond.code ⟨"TypeBench", "linkAll", "(II)Z"⟩ prog_1_method_26_code 6 (some FieldType.boolean) ∈ LW := lw_in (i := 268) (by decide +kernel) (by decide +kernel)
theorem mt_269 : Cond.methodLink "TypeBench" 150 ⟨"java/lang/System", "arraycopy", "(Ljava/lang/Object;ILjava/lang/Object;II)V"⟩ ∈ LW := lw_in (i := 269) (by decide +kernel) (by decide +kernel)
theorem mt_270 : Cond.static ⟨"java/lang/System", "arraycopy", "(Ljava/lang/Object;ILjava/lang/Object;II)V"⟩ ∈ LW := lw_in (i := 270) (by decide +kernel) (by decide +kernel)
theorem mt_271 : Cond.native ⟨"java/lang/System", "arraycopy", "(Ljava/lang/Object;ILjava/lang/Object;II)V"⟩ ∈ LW := lw_in (i := 271) (by decide +kernel) (by decide +kernel)
theorem mt_274 : Cond.instanceMethod ⟨"TypeBench$Pile", "startWith", "(II)V"⟩ ∈ LW := lw_in (i := 274) (by decide +kernel) (by decide +kernel)
theorem mt_275 : Cond.code ⟨"TypeBench$Pile", "startWith", "(II)V"⟩ prog_2_method_2_code 3 none ∈ LW := lw_in (i := 275) (by decide +kernel) (by decide +kernel)
theorem mt_278 : Cond.instanceMethod ⟨"TypeBench$Pile", "take", "()I"⟩ ∈ LW := lw_in (i := 278) (by decide +kernel) (by decide +kernel)
theorem mt_279 : Cond.code ⟨"TypeBench$Pile", "take", "()I"⟩ prog_2_method_4_code 1 (some FieldType.int) ∈ LW := lw_in (i := 279) (by decide +kernel) (by decide +kernel)
theorem mt_280 : Cond.methodLink "TypeBench" 166 ⟨"TypeBench", "root", "(I)I"⟩ ∈ LW := lw_in (i := 280) (by decide +kernel) (by decide +kernel)
theorem mt_282 : Cond.instanceMethod ⟨"TypeBench", "root", "(I)I"⟩ ∈ LW := lw_in (i := 282) (by decide +kernel) (by decide +kernel)
theorem mt_283 : Cond.code ⟨"TypeBench", "root", "(I)I"⟩ prog_1_method_29_code 4 (some FieldType.int) ∈ LW := lw_in (i := 283) (by decide +kernel) (by decide +kernel)
theorem mt_284 : Cond.methodLink "TypeBench" 169 ⟨"TypeBench", "linkTwo", "(II)Z"⟩ ∈ LW := lw_in (i := 284) (by decide +kernel) (by decide +kernel)
theorem mt_286 : Cond.instanceMethod ⟨"TypeBench", "linkTwo", "(II)Z"⟩ ∈ LW := lw_in (i := 286) (by decide +kernel) (by decide +kernel)
theorem mt_287 : Cond.code ⟨"TypeBench", "linkTwo", "(II)Z"⟩ prog_1_method_27_code 3 (some FieldType.boolean) ∈ LW := lw_in (i := 287) (by decide +kernel) (by decide +kernel)
theorem mt_288 : Cond.methodLink "TypeBench" 172 ⟨"TypeBench", "putPartsOfBoth", "(II)V"⟩ ∈ LW := lw_in (i := 288) (by decide +kernel) (by decide +kernel)
theorem mt_290 : Cond.instanceMethod ⟨"TypeBench", "putPartsOfBoth", "(II)V"⟩ ∈ LW := lw_in (i := 290) (by decide +kernel) (by decide +kernel)
theorem mt_291 : Cond.code ⟨"TypeBench", "putPartsOfBoth", "(II)V"⟩ prog_1_method_28_code 3 none ∈ LW := lw_in (i := 291) (by decide +kernel) (by decide +kernel)
theorem mt_294 : Cond.instanceMethod ⟨"TypeBench$Shapes", "hasParts", "(I)Z"⟩ ∈ LW := lw_in (i := 294) (by decide +kernel) (by decide +kernel)
theorem mt_295 : Cond.code ⟨"TypeBench$Shapes", "hasParts", "(I)Z"⟩ prog_3_method_3_code 2 (some FieldType.boolean) ∈ LW := lw_in (i := 295) (by decide +kernel) (by decide +kernel)
theorem mt_298 : Cond.instanceMethod ⟨"TypeBench$Pile", "put", "(I)V"⟩ ∈ LW := lw_in (i := 298) (by decide +kernel) (by decide +kernel)
theorem mt_299 : Cond.code ⟨"TypeBench$Pile", "put", "(I)V"⟩ prog_2_method_3_code 2 none ∈ LW := lw_in (i := 299) (by decide +kernel) (by decide +kernel)
theorem mt_300 : Cond.methodLink "TypeBench" 146 ⟨"TypeBench", "layOut", "()Z"⟩ ∈ LW := lw_in (i := 300) (by decide +kernel) (by decide +kernel)
theorem mt_302 : Cond.instanceMethod ⟨"TypeBench", "layOut", "()Z"⟩ ∈ LW := lw_in (i := 302) (by decide +kernel) (by decide +kernel)
theorem mt_303 : Cond.code ⟨"TypeBench", "layOut", "()Z"⟩ prog_1_method_30_code 2 (some FieldType.boolean) ∈ LW := lw_in (i := 303) (by decide +kernel) (by decide +kernel)
theorem mt_304 : Cond.methodLink "TypeBench" 104 ⟨"java/util/Arrays", "fill", "([IIII)V"⟩ ∈ LW := lw_in (i := 304) (by decide +kernel) (by decide +kernel)
theorem mt_305 : Cond.static ⟨"java/util/Arrays", "fill", "([IIII)V"⟩ ∈ LW := lw_in (i := 305) (by decide +kernel) (by decide +kernel)
theorem mt_306 : Cond.code ⟨"java/util/Arrays", "fill", "([IIII)V"⟩ prog_12_method_104_code 5 none ∈ LW := lw_in (i := 306) (by decide +kernel) (by decide +kernel)
theorem mt_307 : Cond.methodLink "java/util/Arrays" 13 ⟨"java/util/Arrays", "rangeCheck", "(III)V"⟩ ∈ LW := lw_in (i := 307) (by decide +kernel) (by decide +kernel)
theorem mt_308 : Cond.static ⟨"java/util/Arrays", "rangeCheck", "(III)V"⟩ ∈ LW := lw_in (i := 308) (by decide +kernel) (by decide +kernel)
theorem mt_309 : Cond.code ⟨"java/util/Arrays", "rangeCheck", "(III)V"⟩ prog_12_method_30_code 3 none ∈ LW := lw_in (i := 309) (by decide +kernel) (by decide +kernel)
theorem mt_310 : Cond.methodLink "TypeBench" 181 ⟨"TypeBench", "layOutFrom", "(I)Z"⟩ ∈ LW := lw_in (i := 310) (by decide +kernel) (by decide +kernel)
theorem mt_312 : Cond.instanceMethod ⟨"TypeBench", "layOutFrom", "(I)Z"⟩ ∈ LW := lw_in (i := 312) (by decide +kernel) (by decide +kernel)
theorem mt_313 : Cond.code ⟨"TypeBench", "layOutFrom", "(I)Z"⟩ prog_1_method_31_code 4 (some FieldType.boolean) ∈ LW := lw_in (i := 313) (by decide +kernel) (by decide +kernel)
theorem mt_316 : Cond.instanceMethod ⟨"TypeBench$Pile", "top", "()I"⟩ ∈ LW := lw_in (i := 316) (by decide +kernel) (by decide +kernel)
theorem mt_317 : Cond.code ⟨"TypeBench$Pile", "top", "()I"⟩ prog_2_method_5_code 1 (some FieldType.int) ∈ LW := lw_in (i := 317) (by decide +kernel) (by decide +kernel)
theorem mt_318 : Cond.methodLink "TypeBench" 187 ⟨"TypeBench", "putUnseenParts", "(I)Z"⟩ ∈ LW := lw_in (i := 318) (by decide +kernel) (by decide +kernel)
theorem mt_320 : Cond.instanceMethod ⟨"TypeBench", "putUnseenParts", "(I)Z"⟩ ∈ LW := lw_in (i := 320) (by decide +kernel) (by decide +kernel)
theorem mt_321 : Cond.code ⟨"TypeBench", "putUnseenParts", "(I)Z"⟩ prog_1_method_33_code 2 (some FieldType.boolean) ∈ LW := lw_in (i := 321) (by decide +kernel) (by decide +kernel)
theorem mt_322 : Cond.methodLink "TypeBench" 193 ⟨"TypeBench", "putUnseen", "(I)Z"⟩ ∈ LW := lw_in (i := 322) (by decide +kernel) (by decide +kernel)
theorem mt_324 : Cond.instanceMethod ⟨"TypeBench", "putUnseen", "(I)Z"⟩ ∈ LW := lw_in (i := 324) (by decide +kernel) (by decide +kernel)
theorem mt_325 : Cond.code ⟨"TypeBench", "putUnseen", "(I)Z"⟩ prog_1_method_34_code 2 (some FieldType.boolean) ∈ LW := lw_in (i := 325) (by decide +kernel) (by decide +kernel)
theorem mt_326 : Cond.methodLink "TypeBench" 190 ⟨"TypeBench", "layDown", "(I)V"⟩ ∈ LW := lw_in (i := 326) (by decide +kernel) (by decide +kernel)
theorem mt_328 : Cond.instanceMethod ⟨"TypeBench", "layDown", "(I)V"⟩ ∈ LW := lw_in (i := 328) (by decide +kernel) (by decide +kernel)
theorem mt_329 : Cond.code ⟨"TypeBench", "layDown", "(I)V"⟩ prog_1_method_32_code 2 none ∈ LW := lw_in (i := 329) (by decide +kernel) (by decide +kernel)
theorem mt_330 : Cond.methodLink "TypeBench" 69 ⟨"TypeBench", "keepLinks", "()V"⟩ ∈ LW := lw_in (i := 330) (by decide +kernel) (by decide +kernel)
theorem mt_332 : Cond.instanceMethod ⟨"TypeBench", "keepLinks", "()V"⟩ ∈ LW := lw_in (i := 332) (by decide +kernel) (by decide +kernel)
theorem mt_333 : Cond.code ⟨"TypeBench", "keepLinks", "()V"⟩ prog_1_method_35_code 2 none ∈ LW := lw_in (i := 333) (by decide +kernel) (by decide +kernel)
theorem mt_334 : Cond.methodLink "TypeBench" 196 ⟨"TypeBench", "keepRoot", "(I)V"⟩ ∈ LW := lw_in (i := 334) (by decide +kernel) (by decide +kernel)
theorem mt_336 : Cond.instanceMethod ⟨"TypeBench", "keepRoot", "(I)V"⟩ ∈ LW := lw_in (i := 336) (by decide +kernel) (by decide +kernel)
theorem mt_337 : Cond.code ⟨"TypeBench", "keepRoot", "(I)V"⟩ prog_1_method_36_code 3 none ∈ LW := lw_in (i := 337) (by decide +kernel) (by decide +kernel)
theorem mt_338 : Cond.methodLink "TypeBenchLaw" 77 ⟨"TypeBenchLaw", "alike", "(LTypeBench;II[J)I"⟩ ∈ LW := lw_in (i := 338) (by decide +kernel) (by decide +kernel)
theorem mt_339 : Cond.static ⟨"TypeBenchLaw", "alike", "(LTypeBench;II[J)I"⟩ ∈ LW := lw_in (i := 339) (by decide +kernel) (by decide +kernel)
theorem mt_340 : Cond.codeWith ⟨"TypeBenchLaw", "alike", "(LTypeBench;II[J)I"⟩ method_7_code 5 (some FieldType.int) [(0, 17, 20, 19)] ∈ LW := lw_in (i := 340) (by decide +kernel) (by decide +kernel)
theorem mt_341 : Cond.methodLink "TypeBenchLaw" 28 ⟨"TypeBench", "alike", "(II)Z"⟩ ∈ LW := lw_in (i := 341) (by decide +kernel) (by decide +kernel)
theorem mt_342 : Cond.instanceMethod ⟨"TypeBench", "alike", "(II)Z"⟩ ∈ LW := lw_in (i := 342) (by decide +kernel) (by decide +kernel)
theorem mt_343 : Cond.selects "TypeBench" ⟨"TypeBench", "alike", "(II)Z"⟩ ⟨"TypeBench", "alike", "(II)Z"⟩ ∈ LW := lw_in (i := 343) (by decide +kernel) (by decide +kernel)
theorem mt_344 : Cond.code ⟨"TypeBench", "alike", "(II)Z"⟩ prog_1_method_6_code 5 (some FieldType.boolean) ∈ LW := lw_in (i := 344) (by decide +kernel) (by decide +kernel)
theorem mt_345 : Cond.methodLink "TypeBenchLaw" 80 ⟨"TypeBenchLaw", "same", "(LTypeBench;II[J)I"⟩ ∈ LW := lw_in (i := 345) (by decide +kernel) (by decide +kernel)
theorem mt_346 : Cond.static ⟨"TypeBenchLaw", "same", "(LTypeBench;II[J)I"⟩ ∈ LW := lw_in (i := 346) (by decide +kernel) (by decide +kernel)
theorem mt_347 : Cond.codeWith ⟨"TypeBenchLaw", "same", "(LTypeBench;II[J)I"⟩ method_8_code 5 (some FieldType.int) [(0, 17, 20, 19)] ∈ LW := lw_in (i := 347) (by decide +kernel) (by decide +kernel)
theorem mt_348 : Cond.methodLink "TypeBenchLaw" 31 ⟨"TypeBench", "same", "(II)Z"⟩ ∈ LW := lw_in (i := 348) (by decide +kernel) (by decide +kernel)
theorem mt_349 : Cond.instanceMethod ⟨"TypeBench", "same", "(II)Z"⟩ ∈ LW := lw_in (i := 349) (by decide +kernel) (by decide +kernel)
theorem mt_350 : Cond.selects "TypeBench" ⟨"TypeBench", "same", "(II)Z"⟩ ⟨"TypeBench", "same", "(II)Z"⟩ ∈ LW := lw_in (i := 350) (by decide +kernel) (by decide +kernel)
theorem mt_351 : Cond.code ⟨"TypeBench", "same", "(II)Z"⟩ prog_1_method_7_code 3 (some FieldType.boolean) ∈ LW := lw_in (i := 351) (by decide +kernel) (by decide +kernel)
theorem mt_352 : Cond.methodLink "TypeBenchLaw" 83 ⟨"TypeBenchLaw", "renamed", "(LTypeBench;II[J)I"⟩ ∈ LW := lw_in (i := 352) (by decide +kernel) (by decide +kernel)
theorem mt_353 : Cond.static ⟨"TypeBenchLaw", "renamed", "(LTypeBench;II[J)I"⟩ ∈ LW := lw_in (i := 353) (by decide +kernel) (by decide +kernel)
theorem mt_354 : Cond.codeWith ⟨"TypeBenchLaw", "renamed", "(LTypeBench;II[J)I"⟩ method_9_code 5 (some FieldType.int) [(0, 17, 20, 19)] ∈ LW := lw_in (i := 354) (by decide +kernel) (by decide +kernel)
theorem mt_355 : Cond.methodLink "TypeBenchLaw" 34 ⟨"TypeBench", "renamed", "(II)Z"⟩ ∈ LW := lw_in (i := 355) (by decide +kernel) (by decide +kernel)
theorem mt_356 : Cond.instanceMethod ⟨"TypeBench", "renamed", "(II)Z"⟩ ∈ LW := lw_in (i := 356) (by decide +kernel) (by decide +kernel)
theorem mt_357 : Cond.selects "TypeBench" ⟨"TypeBench", "renamed", "(II)Z"⟩ ⟨"TypeBench", "renamed", "(II)Z"⟩ ∈ LW := lw_in (i := 357) (by decide +kernel) (by decide +kernel)
theorem mt_358 : Cond.code ⟨"TypeBench", "renamed", "(II)Z"⟩ prog_1_method_8_code 5 (some FieldType.boolean) ∈ LW := lw_in (i := 358) (by decide +kernel) (by decide +kernel)
theorem mt_359 : Cond.methodLink "TypeBench" 72 ⟨"TypeBench", "matchAll", "(II)Z"⟩ ∈ LW := lw_in (i := 359) (by decide +kernel) (by decide +kernel)
theorem mt_361 : Cond.instanceMethod ⟨"TypeBench", "matchAll", "(II)Z"⟩ ∈ LW := lw_in (i := 361) (by decide +kernel) (by decide +kernel)
theorem mt_362 : Cond.code ⟨"TypeBench", "matchAll", "(II)Z"⟩ prog_1_method_37_code 6 (some FieldType.boolean) ∈ LW := lw_in (i := 362) (by decide +kernel) (by decide +kernel)
theorem mt_363 : Cond.methodLink "TypeBench" 199 ⟨"TypeBench", "matchTwo", "(II)Z"⟩ ∈ LW := lw_in (i := 363) (by decide +kernel) (by decide +kernel)
theorem mt_365 : Cond.instanceMethod ⟨"TypeBench", "matchTwo", "(II)Z"⟩ ∈ LW := lw_in (i := 365) (by decide +kernel) (by decide +kernel)
theorem mt_366 : Cond.code ⟨"TypeBench", "matchTwo", "(II)Z"⟩ prog_1_method_38_code 3 (some FieldType.boolean) ∈ LW := lw_in (i := 366) (by decide +kernel) (by decide +kernel)
theorem mt_367 : Cond.methodLink "TypeBenchLaw" 86 ⟨"TypeBenchLaw", "kind", "(LTypeBench;I[J)I"⟩ ∈ LW := lw_in (i := 367) (by decide +kernel) (by decide +kernel)
theorem mt_368 : Cond.static ⟨"TypeBenchLaw", "kind", "(LTypeBench;I[J)I"⟩ ∈ LW := lw_in (i := 368) (by decide +kernel) (by decide +kernel)
theorem mt_369 : Cond.codeWith ⟨"TypeBenchLaw", "kind", "(LTypeBench;I[J)I"⟩ method_10_code 4 (some FieldType.int) [(0, 9, 12, 19)] ∈ LW := lw_in (i := 369) (by decide +kernel) (by decide +kernel)
theorem mt_370 : Cond.methodLink "TypeBenchLaw" 37 ⟨"TypeBench", "kind", "(I)I"⟩ ∈ LW := lw_in (i := 370) (by decide +kernel) (by decide +kernel)
theorem mt_371 : Cond.instanceMethod ⟨"TypeBench", "kind", "(I)I"⟩ ∈ LW := lw_in (i := 371) (by decide +kernel) (by decide +kernel)
theorem mt_372 : Cond.selects "TypeBench" ⟨"TypeBench", "kind", "(I)I"⟩ ⟨"TypeBench", "kind", "(I)I"⟩ ∈ LW := lw_in (i := 372) (by decide +kernel) (by decide +kernel)
theorem mt_373 : Cond.code ⟨"TypeBench", "kind", "(I)I"⟩ prog_1_method_9_code 2 (some FieldType.int) ∈ LW := lw_in (i := 373) (by decide +kernel) (by decide +kernel)
theorem mt_374 : Cond.methodLink "TypeBenchLaw" 90 ⟨"TypeBenchLaw", "part", "(LTypeBench;IZ[J)I"⟩ ∈ LW := lw_in (i := 374) (by decide +kernel) (by decide +kernel)
theorem mt_375 : Cond.static ⟨"TypeBenchLaw", "part", "(LTypeBench;IZ[J)I"⟩ ∈ LW := lw_in (i := 375) (by decide +kernel) (by decide +kernel)
theorem mt_376 : Cond.codeWith ⟨"TypeBenchLaw", "part", "(LTypeBench;IZ[J)I"⟩ method_11_code 5 (some FieldType.int) [(0, 10, 13, 19)] ∈ LW := lw_in (i := 376) (by decide +kernel) (by decide +kernel)
theorem mt_377 : Cond.methodLink "TypeBenchLaw" 41 ⟨"TypeBench", "part", "(IZ)I"⟩ ∈ LW := lw_in (i := 377) (by decide +kernel) (by decide +kernel)
theorem mt_378 : Cond.instanceMethod ⟨"TypeBench", "part", "(IZ)I"⟩ ∈ LW := lw_in (i := 378) (by decide +kernel) (by decide +kernel)
theorem mt_379 : Cond.selects "TypeBench" ⟨"TypeBench", "part", "(IZ)I"⟩ ⟨"TypeBench", "part", "(IZ)I"⟩ ∈ LW := lw_in (i := 379) (by decide +kernel) (by decide +kernel)
theorem mt_380 : Cond.code ⟨"TypeBench", "part", "(IZ)I"⟩ prog_1_method_10_code 4 (some FieldType.int) ∈ LW := lw_in (i := 380) (by decide +kernel) (by decide +kernel)
theorem mt_381 : Cond.methodLink "TypeBenchLaw" 94 ⟨"TypeBenchLaw", "size", "(LTypeBench;I[J)I"⟩ ∈ LW := lw_in (i := 381) (by decide +kernel) (by decide +kernel)
theorem mt_382 : Cond.static ⟨"TypeBenchLaw", "size", "(LTypeBench;I[J)I"⟩ ∈ LW := lw_in (i := 382) (by decide +kernel) (by decide +kernel)
theorem mt_383 : Cond.codeWith ⟨"TypeBenchLaw", "size", "(LTypeBench;I[J)I"⟩ method_12_code 4 (some FieldType.int) [(0, 9, 12, 19)] ∈ LW := lw_in (i := 383) (by decide +kernel) (by decide +kernel)
theorem mt_384 : Cond.methodLink "TypeBenchLaw" 45 ⟨"TypeBench", "size", "(I)I"⟩ ∈ LW := lw_in (i := 384) (by decide +kernel) (by decide +kernel)
theorem mt_385 : Cond.instanceMethod ⟨"TypeBench", "size", "(I)I"⟩ ∈ LW := lw_in (i := 385) (by decide +kernel) (by decide +kernel)
theorem mt_386 : Cond.selects "TypeBench" ⟨"TypeBench", "size", "(I)I"⟩ ⟨"TypeBench", "size", "(I)I"⟩ ∈ LW := lw_in (i := 386) (by decide +kernel) (by decide +kernel)
theorem mt_387 : Cond.code ⟨"TypeBench", "size", "(I)I"⟩ prog_1_method_11_code 4 (some FieldType.int) ∈ LW := lw_in (i := 387) (by decide +kernel) (by decide +kernel)
theorem mt_388 : Cond.methodLink "TypeBench" 95 ⟨"TypeBench", "sizeByParts", "(I)I"⟩ ∈ LW := lw_in (i := 388) (by decide +kernel) (by decide +kernel)
theorem mt_390 : Cond.instanceMethod ⟨"TypeBench", "sizeByParts", "(I)I"⟩ ∈ LW := lw_in (i := 390) (by decide +kernel) (by decide +kernel)
theorem mt_391 : Cond.code ⟨"TypeBench", "sizeByParts", "(I)I"⟩ prog_1_method_22_code 5 (some FieldType.int) ∈ LW := lw_in (i := 391) (by decide +kernel) (by decide +kernel)
theorem mt_392 : Cond.methodLink "TypeBench" 128 ⟨"java/lang/Math", "max", "(II)I"⟩ ∈ LW := lw_in (i := 392) (by decide +kernel) (by decide +kernel)
theorem mt_393 : Cond.static ⟨"java/lang/Math", "max", "(II)I"⟩ ∈ LW := lw_in (i := 393) (by decide +kernel) (by decide +kernel)
theorem mt_394 : Cond.code ⟨"java/lang/Math", "max", "(II)I"⟩ prog_8_method_65_code 2 (some FieldType.int) ∈ LW := lw_in (i := 394) (by decide +kernel) (by decide +kernel)
theorem mt_395 : Cond.constant "TypeBench" 134 (1000000 : Int32) ∈ LW := lw_in (i := 395) (by decide +kernel) (by decide +kernel)
theorem mt_396 : Cond.methodLink "TypeBench" 135 ⟨"java/lang/Math", "min", "(II)I"⟩ ∈ LW := lw_in (i := 396) (by decide +kernel) (by decide +kernel)
theorem mt_397 : Cond.static ⟨"java/lang/Math", "min", "(II)I"⟩ ∈ LW := lw_in (i := 397) (by decide +kernel) (by decide +kernel)
theorem mt_398 : Cond.code ⟨"java/lang/Math", "min", "(II)I"⟩ prog_8_method_69_code 2 (some FieldType.int) ∈ LW := lw_in (i := 398) (by decide +kernel) (by decide +kernel)
theorem mt_399 : Cond.methodLink "TypeBenchLaw" 97 ⟨"TypeBenchLaw", "values", "(LTypeBench;I[J)I"⟩ ∈ LW := lw_in (i := 399) (by decide +kernel) (by decide +kernel)
theorem mt_400 : Cond.static ⟨"TypeBenchLaw", "values", "(LTypeBench;I[J)I"⟩ ∈ LW := lw_in (i := 400) (by decide +kernel) (by decide +kernel)
theorem mt_401 : Cond.codeWith ⟨"TypeBenchLaw", "values", "(LTypeBench;I[J)I"⟩ method_13_code 4 (some FieldType.int) [(0, 9, 12, 19)] ∈ LW := lw_in (i := 401) (by decide +kernel) (by decide +kernel)
theorem mt_402 : Cond.methodLink "TypeBenchLaw" 48 ⟨"TypeBench", "values", "(I)I"⟩ ∈ LW := lw_in (i := 402) (by decide +kernel) (by decide +kernel)
theorem mt_403 : Cond.instanceMethod ⟨"TypeBench", "values", "(I)I"⟩ ∈ LW := lw_in (i := 403) (by decide +kernel) (by decide +kernel)
theorem mt_404 : Cond.selects "TypeBench" ⟨"TypeBench", "values", "(I)I"⟩ ⟨"TypeBench", "values", "(I)I"⟩ ∈ LW := lw_in (i := 404) (by decide +kernel) (by decide +kernel)
theorem mt_405 : Cond.code ⟨"TypeBench", "values", "(I)I"⟩ prog_1_method_12_code 4 (some FieldType.int) ∈ LW := lw_in (i := 405) (by decide +kernel) (by decide +kernel)
theorem mt_406 : Cond.methodLink "TypeBench" 98 ⟨"TypeBench", "valuesByParts", "(I)I"⟩ ∈ LW := lw_in (i := 406) (by decide +kernel) (by decide +kernel)
theorem mt_408 : Cond.instanceMethod ⟨"TypeBench", "valuesByParts", "(I)I"⟩ ∈ LW := lw_in (i := 408) (by decide +kernel) (by decide +kernel)
theorem mt_409 : Cond.code ⟨"TypeBench", "valuesByParts", "(I)I"⟩ prog_1_method_23_code 8 (some FieldType.int) ∈ LW := lw_in (i := 409) (by decide +kernel) (by decide +kernel)
theorem mt_410 : Cond.constantLong "TypeBench" 138 (1073741824 : Int64) ∈ LW := lw_in (i := 410) (by decide +kernel) (by decide +kernel)
theorem mt_411 : Cond.methodLink "TypeBench" 140 ⟨"java/lang/Math", "min", "(JJ)J"⟩ ∈ LW := lw_in (i := 411) (by decide +kernel) (by decide +kernel)
theorem mt_412 : Cond.static ⟨"java/lang/Math", "min", "(JJ)J"⟩ ∈ LW := lw_in (i := 412) (by decide +kernel) (by decide +kernel)
theorem mt_413 : Cond.code ⟨"java/lang/Math", "min", "(JJ)J"⟩ prog_8_method_70_code 4 (some FieldType.long) ∈ LW := lw_in (i := 413) (by decide +kernel) (by decide +kernel)
theorem mt_414 : Cond.methodLink "TypeBenchLaw" 100 ⟨"TypeBenchLaw", "frees", "(LTypeBench;I[J)I"⟩ ∈ LW := lw_in (i := 414) (by decide +kernel) (by decide +kernel)
theorem mt_415 : Cond.static ⟨"TypeBenchLaw", "frees", "(LTypeBench;I[J)I"⟩ ∈ LW := lw_in (i := 415) (by decide +kernel) (by decide +kernel)
theorem mt_416 : Cond.codeWith ⟨"TypeBenchLaw", "frees", "(LTypeBench;I[J)I"⟩ method_14_code 4 (some FieldType.int) [(0, 9, 12, 19)] ∈ LW := lw_in (i := 416) (by decide +kernel) (by decide +kernel)
theorem mt_417 : Cond.methodLink "TypeBenchLaw" 51 ⟨"TypeBench", "frees", "(I)I"⟩ ∈ LW := lw_in (i := 417) (by decide +kernel) (by decide +kernel)
theorem mt_418 : Cond.instanceMethod ⟨"TypeBench", "frees", "(I)I"⟩ ∈ LW := lw_in (i := 418) (by decide +kernel) (by decide +kernel)
theorem mt_419 : Cond.selects "TypeBench" ⟨"TypeBench", "frees", "(I)I"⟩ ⟨"TypeBench", "frees", "(I)I"⟩ ∈ LW := lw_in (i := 419) (by decide +kernel) (by decide +kernel)
theorem mt_420 : Cond.code ⟨"TypeBench", "frees", "(I)I"⟩ prog_1_method_13_code 6 (some FieldType.int) ∈ LW := lw_in (i := 420) (by decide +kernel) (by decide +kernel)
theorem mt_421 : Cond.methodLink "TypeBench" 110 ⟨"TypeBench", "markParts", "(I)V"⟩ ∈ LW := lw_in (i := 421) (by decide +kernel) (by decide +kernel)
theorem mt_423 : Cond.instanceMethod ⟨"TypeBench", "markParts", "(I)V"⟩ ∈ LW := lw_in (i := 423) (by decide +kernel) (by decide +kernel)
theorem mt_424 : Cond.code ⟨"TypeBench", "markParts", "(I)V"⟩ prog_1_method_24_code 2 none ∈ LW := lw_in (i := 424) (by decide +kernel) (by decide +kernel)
theorem mt_425 : Cond.classLink "TypeBenchLaw" 55 "TypeBenchModel" ∈ LW := lw_in (i := 425) (by decide +kernel) (by decide +kernel)
theorem mt_426 : Cond.instantiable "TypeBenchModel" 18 ∈ LW := lw_in (i := 426) (by decide +kernel) (by decide +kernel)
theorem mt_427 : Cond.methodLink "TypeBenchLaw" 57 ⟨"TypeBenchModel", "<init>", "()V"⟩ ∈ LW := lw_in (i := 427) (by decide +kernel) (by decide +kernel)
theorem mt_428 : Cond.instanceMethod ⟨"TypeBenchModel", "<init>", "()V"⟩ ∈ LW := lw_in (i := 428) (by decide +kernel) (by decide +kernel)
theorem mt_429 : Cond.code ⟨"TypeBenchModel", "<init>", "()V"⟩ prog_5_method_1_code 1 none ∈ LW := lw_in (i := 429) (by decide +kernel) (by decide +kernel)
theorem mt_430 : Cond.methodLink "TypeBenchModel" 1 ⟨"java/lang/Object", "<init>", "()V"⟩ ∈ LW := lw_in (i := 430) (by decide +kernel) (by decide +kernel)
theorem mt_431 : Cond.methodLink "TypeBenchModel" 66 ⟨"TypeBenchModel", "begin", "()V"⟩ ∈ LW := lw_in (i := 431) (by decide +kernel) (by decide +kernel)
theorem mt_433 : Cond.instanceMethod ⟨"TypeBenchModel", "begin", "()V"⟩ ∈ LW := lw_in (i := 433) (by decide +kernel) (by decide +kernel)
theorem mt_434 : Cond.code ⟨"TypeBenchModel", "begin", "()V"⟩ prog_5_method_2_code 1 none ∈ LW := lw_in (i := 434) (by decide +kernel) (by decide +kernel)
theorem mt_435 : Cond.methodLink "TypeBenchModel" 69 ⟨"TypeBenchModel", "make", "(III)I"⟩ ∈ LW := lw_in (i := 435) (by decide +kernel) (by decide +kernel)
theorem mt_437 : Cond.instanceMethod ⟨"TypeBenchModel", "make", "(III)I"⟩ ∈ LW := lw_in (i := 437) (by decide +kernel) (by decide +kernel)
theorem mt_438 : Cond.code ⟨"TypeBenchModel", "make", "(III)I"⟩ prog_5_method_3_code 4 (some FieldType.int) ∈ LW := lw_in (i := 438) (by decide +kernel) (by decide +kernel)
theorem mt_439 : Cond.fieldLink "TypeBenchModel" 7 "TypeBenchModel" "thrown" "I" ∈ LW := lw_in (i := 439) (by decide +kernel) (by decide +kernel)
theorem mt_440 : Cond.fieldLink "TypeBenchModel" 13 "TypeBenchModel" "kind" "[I" ∈ LW := lw_in (i := 440) (by decide +kernel) (by decide +kernel)
theorem mt_441 : Cond.fieldLink "TypeBenchModel" 17 "TypeBenchModel" "left" "[I" ∈ LW := lw_in (i := 441) (by decide +kernel) (by decide +kernel)
theorem mt_442 : Cond.fieldLink "TypeBenchModel" 20 "TypeBenchModel" "right" "[I" ∈ LW := lw_in (i := 442) (by decide +kernel) (by decide +kernel)
theorem mt_443 : Cond.fieldLink "TypeBenchModel" 23 "TypeBenchModel" "other" "[I" ∈ LW := lw_in (i := 443) (by decide +kernel) (by decide +kernel)
theorem mt_444 : Cond.fieldLink "TypeBenchModel" 26 "TypeBenchModel" "before" "[I" ∈ LW := lw_in (i := 444) (by decide +kernel) (by decide +kernel)
theorem mt_445 : Cond.fieldLink "TypeBenchModel" 29 "TypeBenchModel" "types" "I" ∈ LW := lw_in (i := 445) (by decide +kernel) (by decide +kernel)
theorem mt_446 : Cond.fieldLink "TypeBenchModel" 32 "TypeBenchModel" "same" "[I" ∈ LW := lw_in (i := 446) (by decide +kernel) (by decide +kernel)
theorem mt_447 : Cond.fieldLink "TypeBenchModel" 35 "TypeBenchModel" "sorts" "[I" ∈ LW := lw_in (i := 447) (by decide +kernel) (by decide +kernel)
theorem mt_448 : Cond.fieldLink "TypeBenchModel" 38 "TypeBenchModel" "firsts" "[I" ∈ LW := lw_in (i := 448) (by decide +kernel) (by decide +kernel)
theorem mt_449 : Cond.fieldLink "TypeBenchModel" 41 "TypeBenchModel" "seconds" "[I" ∈ LW := lw_in (i := 449) (by decide +kernel) (by decide +kernel)
theorem mt_450 : Cond.fieldLink "TypeBenchModel" 44 "TypeBenchModel" "least" "[I" ∈ LW := lw_in (i := 450) (by decide +kernel) (by decide +kernel)
theorem mt_451 : Cond.fieldLink "TypeBenchModel" 47 "TypeBenchModel" "numbers" "I" ∈ LW := lw_in (i := 451) (by decide +kernel) (by decide +kernel)
theorem mt_452 : Cond.fieldLink "TypeBenchModel" 50 "TypeBenchModel" "known" "Z" ∈ LW := lw_in (i := 452) (by decide +kernel) (by decide +kernel)
theorem mt_453 : Cond.fieldLink "TypeBenchModel" 54 "TypeBenchModel" "state" "[I" ∈ LW := lw_in (i := 453) (by decide +kernel) (by decide +kernel)
theorem mt_454 : Cond.fieldLink "TypeBenchModel" 57 "TypeBenchModel" "to" "[I" ∈ LW := lw_in (i := 454) (by decide +kernel) (by decide +kernel)
theorem mt_455 : Cond.fieldLink "TypeBenchModel" 60 "TypeBenchModel" "from" "[I" ∈ LW := lw_in (i := 455) (by decide +kernel) (by decide +kernel)
theorem mt_456 : Cond.fieldLink "TypeBenchModel" 63 "TypeBenchModel" "measure" "[I" ∈ LW := lw_in (i := 456) (by decide +kernel) (by decide +kernel)
theorem mt_457 : Cond.lays "TypeBenchModel" "TypeBenchModel" "thrown" "I" ∈ LW := lw_in (i := 457) (by decide +kernel) (by decide +kernel)
theorem mt_459 : Cond.laysFinal "TypeBenchModel" "TypeBenchModel" "kind" "[I" ∈ LW := lw_in (i := 459) (by decide +kernel) (by decide +kernel)
theorem mt_461 : Cond.laysFinal "TypeBenchModel" "TypeBenchModel" "left" "[I" ∈ LW := lw_in (i := 461) (by decide +kernel) (by decide +kernel)
theorem mt_463 : Cond.laysFinal "TypeBenchModel" "TypeBenchModel" "right" "[I" ∈ LW := lw_in (i := 463) (by decide +kernel) (by decide +kernel)
theorem mt_465 : Cond.laysFinal "TypeBenchModel" "TypeBenchModel" "other" "[I" ∈ LW := lw_in (i := 465) (by decide +kernel) (by decide +kernel)
theorem mt_467 : Cond.laysFinal "TypeBenchModel" "TypeBenchModel" "before" "[I" ∈ LW := lw_in (i := 467) (by decide +kernel) (by decide +kernel)
theorem mt_469 : Cond.lays "TypeBenchModel" "TypeBenchModel" "types" "I" ∈ LW := lw_in (i := 469) (by decide +kernel) (by decide +kernel)
theorem mt_471 : Cond.laysFinal "TypeBenchModel" "TypeBenchModel" "same" "[I" ∈ LW := lw_in (i := 471) (by decide +kernel) (by decide +kernel)
theorem mt_473 : Cond.laysFinal "TypeBenchModel" "TypeBenchModel" "sorts" "[I" ∈ LW := lw_in (i := 473) (by decide +kernel) (by decide +kernel)
theorem mt_475 : Cond.laysFinal "TypeBenchModel" "TypeBenchModel" "firsts" "[I" ∈ LW := lw_in (i := 475) (by decide +kernel) (by decide +kernel)
theorem mt_477 : Cond.laysFinal "TypeBenchModel" "TypeBenchModel" "seconds" "[I" ∈ LW := lw_in (i := 477) (by decide +kernel) (by decide +kernel)
theorem mt_479 : Cond.laysFinal "TypeBenchModel" "TypeBenchModel" "least" "[I" ∈ LW := lw_in (i := 479) (by decide +kernel) (by decide +kernel)
theorem mt_481 : Cond.lays "TypeBenchModel" "TypeBenchModel" "numbers" "I" ∈ LW := lw_in (i := 481) (by decide +kernel) (by decide +kernel)
theorem mt_483 : Cond.lays "TypeBenchModel" "TypeBenchModel" "known" "Z" ∈ LW := lw_in (i := 483) (by decide +kernel) (by decide +kernel)
theorem mt_485 : Cond.laysFinal "TypeBenchModel" "TypeBenchModel" "state" "[I" ∈ LW := lw_in (i := 485) (by decide +kernel) (by decide +kernel)
theorem mt_487 : Cond.laysFinal "TypeBenchModel" "TypeBenchModel" "to" "[I" ∈ LW := lw_in (i := 487) (by decide +kernel) (by decide +kernel)
theorem mt_489 : Cond.laysFinal "TypeBenchModel" "TypeBenchModel" "from" "[I" ∈ LW := lw_in (i := 489) (by decide +kernel) (by decide +kernel)
theorem mt_491 : Cond.laysFinal "TypeBenchModel" "TypeBenchModel" "measure" "[I" ∈ LW := lw_in (i := 491) (by decide +kernel) (by decide +kernel)
theorem mt_494 : Cond.methodLink "TypeBenchLaw" 64 ⟨"TypeBenchModel", "thrown", "()I"⟩ ∈ LW := lw_in (i := 494) (by decide +kernel) (by decide +kernel)
theorem mt_495 : Cond.instanceMethod ⟨"TypeBenchModel", "thrown", "()I"⟩ ∈ LW := lw_in (i := 495) (by decide +kernel) (by decide +kernel)
theorem mt_496 : Cond.selects "TypeBenchModel" ⟨"TypeBenchModel", "thrown", "()I"⟩ ⟨"TypeBenchModel", "thrown", "()I"⟩ ∈ LW := lw_in (i := 496) (by decide +kernel) (by decide +kernel)
theorem mt_497 : Cond.code ⟨"TypeBenchModel", "thrown", "()I"⟩ prog_5_method_4_code 1 (some FieldType.int) ∈ LW := lw_in (i := 497) (by decide +kernel) (by decide +kernel)
theorem mt_498 : Cond.methodLink "TypeBenchLaw" 63 ⟨"TypeBenchModel", "free", "()I"⟩ ∈ LW := lw_in (i := 498) (by decide +kernel) (by decide +kernel)
theorem mt_499 : Cond.instanceMethod ⟨"TypeBenchModel", "free", "()I"⟩ ∈ LW := lw_in (i := 499) (by decide +kernel) (by decide +kernel)
theorem mt_500 : Cond.selects "TypeBenchModel" ⟨"TypeBenchModel", "free", "()I"⟩ ⟨"TypeBenchModel", "free", "()I"⟩ ∈ LW := lw_in (i := 500) (by decide +kernel) (by decide +kernel)
theorem mt_501 : Cond.code ⟨"TypeBenchModel", "free", "()I"⟩ prog_5_method_15_code 1 (some FieldType.int) ∈ LW := lw_in (i := 501) (by decide +kernel) (by decide +kernel)
theorem mt_502 : Cond.methodLink "TypeBenchModel" 73 ⟨"TypeBenchModel", "refuse", "(IZ)Z"⟩ ∈ LW := lw_in (i := 502) (by decide +kernel) (by decide +kernel)
theorem mt_504 : Cond.instanceMethod ⟨"TypeBenchModel", "refuse", "(IZ)Z"⟩ ∈ LW := lw_in (i := 504) (by decide +kernel) (by decide +kernel)
theorem mt_505 : Cond.code ⟨"TypeBenchModel", "refuse", "(IZ)Z"⟩ prog_5_method_5_code 3 (some FieldType.boolean) ∈ LW := lw_in (i := 505) (by decide +kernel) (by decide +kernel)
theorem mt_506 : Cond.methodLink "TypeBenchLaw" 70 ⟨"TypeBenchModel", "sum", "(II)I"⟩ ∈ LW := lw_in (i := 506) (by decide +kernel) (by decide +kernel)
theorem mt_507 : Cond.instanceMethod ⟨"TypeBenchModel", "sum", "(II)I"⟩ ∈ LW := lw_in (i := 507) (by decide +kernel) (by decide +kernel)
theorem mt_508 : Cond.selects "TypeBenchModel" ⟨"TypeBenchModel", "sum", "(II)I"⟩ ⟨"TypeBenchModel", "sum", "(II)I"⟩ ∈ LW := lw_in (i := 508) (by decide +kernel) (by decide +kernel)
theorem mt_509 : Cond.code ⟨"TypeBenchModel", "sum", "(II)I"⟩ prog_5_method_17_code 3 (some FieldType.int) ∈ LW := lw_in (i := 509) (by decide +kernel) (by decide +kernel)
theorem mt_510 : Cond.methodLink "TypeBenchModel" 104 ⟨"TypeBenchModel", "made", "(III)I"⟩ ∈ LW := lw_in (i := 510) (by decide +kernel) (by decide +kernel)
theorem mt_512 : Cond.instanceMethod ⟨"TypeBenchModel", "made", "(III)I"⟩ ∈ LW := lw_in (i := 512) (by decide +kernel) (by decide +kernel)
theorem mt_513 : Cond.code ⟨"TypeBenchModel", "made", "(III)I"⟩ prog_5_method_16_code 4 (some FieldType.int) ∈ LW := lw_in (i := 513) (by decide +kernel) (by decide +kernel)
theorem mt_514 : Cond.methodLink "TypeBenchModel" 77 ⟨"TypeBenchModel", "none", "(I)Z"⟩ ∈ LW := lw_in (i := 514) (by decide +kernel) (by decide +kernel)
theorem mt_516 : Cond.instanceMethod ⟨"TypeBenchModel", "none", "(I)Z"⟩ ∈ LW := lw_in (i := 516) (by decide +kernel) (by decide +kernel)
theorem mt_517 : Cond.code ⟨"TypeBenchModel", "none", "(I)Z"⟩ prog_5_method_6_code 2 (some FieldType.boolean) ∈ LW := lw_in (i := 517) (by decide +kernel) (by decide +kernel)
theorem mt_518 : Cond.methodLink "TypeBenchLaw" 73 ⟨"TypeBenchModel", "pair", "(II)I"⟩ ∈ LW := lw_in (i := 518) (by decide +kernel) (by decide +kernel)
theorem mt_519 : Cond.instanceMethod ⟨"TypeBenchModel", "pair", "(II)I"⟩ ∈ LW := lw_in (i := 519) (by decide +kernel) (by decide +kernel)
theorem mt_520 : Cond.selects "TypeBenchModel" ⟨"TypeBenchModel", "pair", "(II)I"⟩ ⟨"TypeBenchModel", "pair", "(II)I"⟩ ∈ LW := lw_in (i := 520) (by decide +kernel) (by decide +kernel)
theorem mt_521 : Cond.code ⟨"TypeBenchModel", "pair", "(II)I"⟩ prog_5_method_18_code 3 (some FieldType.int) ∈ LW := lw_in (i := 521) (by decide +kernel) (by decide +kernel)
theorem mt_522 : Cond.methodLink "TypeBenchLaw" 76 ⟨"TypeBenchModel", "join", "(II)Z"⟩ ∈ LW := lw_in (i := 522) (by decide +kernel) (by decide +kernel)
theorem mt_523 : Cond.instanceMethod ⟨"TypeBenchModel", "join", "(II)Z"⟩ ∈ LW := lw_in (i := 523) (by decide +kernel) (by decide +kernel)
theorem mt_524 : Cond.selects "TypeBenchModel" ⟨"TypeBenchModel", "join", "(II)Z"⟩ ⟨"TypeBenchModel", "join", "(II)Z"⟩ ∈ LW := lw_in (i := 524) (by decide +kernel) (by decide +kernel)
theorem mt_525 : Cond.code ⟨"TypeBenchModel", "join", "(II)Z"⟩ prog_5_method_19_code 4 (some FieldType.boolean) ∈ LW := lw_in (i := 525) (by decide +kernel) (by decide +kernel)
theorem mt_526 : Cond.methodLink "TypeBenchModel" 107 ⟨"TypeBenchModel", "tried", "(II)Z"⟩ ∈ LW := lw_in (i := 526) (by decide +kernel) (by decide +kernel)
theorem mt_528 : Cond.instanceMethod ⟨"TypeBenchModel", "tried", "(II)Z"⟩ ∈ LW := lw_in (i := 528) (by decide +kernel) (by decide +kernel)
theorem mt_529 : Cond.code ⟨"TypeBenchModel", "tried", "(II)Z"⟩ prog_5_method_13_code 5 (some FieldType.boolean) ∈ LW := lw_in (i := 529) (by decide +kernel) (by decide +kernel)
theorem mt_530 : Cond.methodLink "TypeBenchModel" 98 ⟨"java/lang/System", "arraycopy", "(Ljava/lang/Object;ILjava/lang/Object;II)V"⟩ ∈ LW := lw_in (i := 530) (by decide +kernel) (by decide +kernel)
theorem mt_531 : Cond.methodLink "TypeBenchModel" 91 ⟨"TypeBenchModel", "one", "(II)Z"⟩ ∈ LW := lw_in (i := 531) (by decide +kernel) (by decide +kernel)
theorem mt_533 : Cond.instanceMethod ⟨"TypeBenchModel", "one", "(II)Z"⟩ ∈ LW := lw_in (i := 533) (by decide +kernel) (by decide +kernel)
theorem mt_534 : Cond.code ⟨"TypeBenchModel", "one", "(II)Z"⟩ prog_5_method_11_code 5 (some FieldType.boolean) ∈ LW := lw_in (i := 534) (by decide +kernel) (by decide +kernel)
theorem mt_535 : Cond.methodLink "TypeBenchModel" 88 ⟨"TypeBenchModel", "is", "(I)I"⟩ ∈ LW := lw_in (i := 535) (by decide +kernel) (by decide +kernel)
theorem mt_537 : Cond.instanceMethod ⟨"TypeBenchModel", "is", "(I)I"⟩ ∈ LW := lw_in (i := 537) (by decide +kernel) (by decide +kernel)
theorem mt_538 : Cond.code ⟨"TypeBenchModel", "is", "(I)I"⟩ prog_5_method_8_code 3 (some FieldType.int) ∈ LW := lw_in (i := 538) (by decide +kernel) (by decide +kernel)
theorem mt_539 : Cond.methodLink "TypeBenchModel" 95 ⟨"TypeBenchModel", "endless", "(I)Z"⟩ ∈ LW := lw_in (i := 539) (by decide +kernel) (by decide +kernel)
theorem mt_541 : Cond.instanceMethod ⟨"TypeBenchModel", "endless", "(I)Z"⟩ ∈ LW := lw_in (i := 541) (by decide +kernel) (by decide +kernel)
theorem mt_542 : Cond.code ⟨"TypeBenchModel", "endless", "(I)Z"⟩ prog_5_method_12_code 4 (some FieldType.boolean) ∈ LW := lw_in (i := 542) (by decide +kernel) (by decide +kernel)
theorem mt_543 : Cond.methodLink "TypeBenchModel" 110 ⟨"TypeBenchModel", "undone", "()V"⟩ ∈ LW := lw_in (i := 543) (by decide +kernel) (by decide +kernel)
theorem mt_545 : Cond.instanceMethod ⟨"TypeBenchModel", "undone", "()V"⟩ ∈ LW := lw_in (i := 545) (by decide +kernel) (by decide +kernel)
theorem mt_546 : Cond.code ⟨"TypeBenchModel", "undone", "()V"⟩ prog_5_method_14_code 1 none ∈ LW := lw_in (i := 546) (by decide +kernel) (by decide +kernel)
theorem mt_547 : Cond.methodLink "TypeBenchLaw" 79 ⟨"TypeBenchModel", "alike", "(II)Z"⟩ ∈ LW := lw_in (i := 547) (by decide +kernel) (by decide +kernel)
theorem mt_548 : Cond.instanceMethod ⟨"TypeBenchModel", "alike", "(II)Z"⟩ ∈ LW := lw_in (i := 548) (by decide +kernel) (by decide +kernel)
theorem mt_549 : Cond.selects "TypeBenchModel" ⟨"TypeBenchModel", "alike", "(II)Z"⟩ ⟨"TypeBenchModel", "alike", "(II)Z"⟩ ∈ LW := lw_in (i := 549) (by decide +kernel) (by decide +kernel)
theorem mt_550 : Cond.code ⟨"TypeBenchModel", "alike", "(II)Z"⟩ prog_5_method_20_code 4 (some FieldType.boolean) ∈ LW := lw_in (i := 550) (by decide +kernel) (by decide +kernel)
theorem mt_551 : Cond.methodLink "TypeBenchLaw" 82 ⟨"TypeBenchModel", "same", "(II)Z"⟩ ∈ LW := lw_in (i := 551) (by decide +kernel) (by decide +kernel)
theorem mt_552 : Cond.instanceMethod ⟨"TypeBenchModel", "same", "(II)Z"⟩ ∈ LW := lw_in (i := 552) (by decide +kernel) (by decide +kernel)
theorem mt_553 : Cond.selects "TypeBenchModel" ⟨"TypeBenchModel", "same", "(II)Z"⟩ ⟨"TypeBenchModel", "same", "(II)Z"⟩ ∈ LW := lw_in (i := 553) (by decide +kernel) (by decide +kernel)
theorem mt_554 : Cond.code ⟨"TypeBenchModel", "same", "(II)Z"⟩ prog_5_method_21_code 3 (some FieldType.boolean) ∈ LW := lw_in (i := 554) (by decide +kernel) (by decide +kernel)
theorem mt_555 : Cond.methodLink "TypeBenchModel" 113 ⟨"TypeBenchModel", "unknown", "(I)Z"⟩ ∈ LW := lw_in (i := 555) (by decide +kernel) (by decide +kernel)
theorem mt_557 : Cond.instanceMethod ⟨"TypeBenchModel", "unknown", "(I)Z"⟩ ∈ LW := lw_in (i := 557) (by decide +kernel) (by decide +kernel)
theorem mt_558 : Cond.code ⟨"TypeBenchModel", "unknown", "(I)Z"⟩ prog_5_method_7_code 2 (some FieldType.boolean) ∈ LW := lw_in (i := 558) (by decide +kernel) (by decide +kernel)
theorem mt_559 : Cond.methodLink "TypeBenchModel" 81 ⟨"TypeBenchModel", "number", "()V"⟩ ∈ LW := lw_in (i := 559) (by decide +kernel) (by decide +kernel)
theorem mt_561 : Cond.instanceMethod ⟨"TypeBenchModel", "number", "()V"⟩ ∈ LW := lw_in (i := 561) (by decide +kernel) (by decide +kernel)
theorem mt_562 : Cond.code ⟨"TypeBenchModel", "number", "()V"⟩ prog_5_method_9_code 3 none ∈ LW := lw_in (i := 562) (by decide +kernel) (by decide +kernel)
theorem mt_563 : Cond.methodLink "TypeBenchModel" 84 ⟨"TypeBenchModel", "numbered", "(I)I"⟩ ∈ LW := lw_in (i := 563) (by decide +kernel) (by decide +kernel)
theorem mt_565 : Cond.instanceMethod ⟨"TypeBenchModel", "numbered", "(I)I"⟩ ∈ LW := lw_in (i := 565) (by decide +kernel) (by decide +kernel)
theorem mt_566 : Cond.code ⟨"TypeBenchModel", "numbered", "(I)I"⟩ prog_5_method_10_code 6 (some FieldType.int) ∈ LW := lw_in (i := 566) (by decide +kernel) (by decide +kernel)
theorem mt_567 : Cond.methodLink "TypeBenchLaw" 85 ⟨"TypeBenchModel", "renamed", "(II)Z"⟩ ∈ LW := lw_in (i := 567) (by decide +kernel) (by decide +kernel)
theorem mt_568 : Cond.instanceMethod ⟨"TypeBenchModel", "renamed", "(II)Z"⟩ ∈ LW := lw_in (i := 568) (by decide +kernel) (by decide +kernel)
theorem mt_569 : Cond.selects "TypeBenchModel" ⟨"TypeBenchModel", "renamed", "(II)Z"⟩ ⟨"TypeBenchModel", "renamed", "(II)Z"⟩ ∈ LW := lw_in (i := 569) (by decide +kernel) (by decide +kernel)
theorem mt_570 : Cond.code ⟨"TypeBenchModel", "renamed", "(II)Z"⟩ prog_5_method_23_code 4 (some FieldType.boolean) ∈ LW := lw_in (i := 570) (by decide +kernel) (by decide +kernel)
theorem mt_571 : Cond.methodLink "TypeBenchModel" 116 ⟨"TypeBenchModel", "put", "(II)Z"⟩ ∈ LW := lw_in (i := 571) (by decide +kernel) (by decide +kernel)
theorem mt_573 : Cond.instanceMethod ⟨"TypeBenchModel", "put", "(II)Z"⟩ ∈ LW := lw_in (i := 573) (by decide +kernel) (by decide +kernel)
theorem mt_574 : Cond.code ⟨"TypeBenchModel", "put", "(II)Z"⟩ prog_5_method_22_code 3 (some FieldType.boolean) ∈ LW := lw_in (i := 574) (by decide +kernel) (by decide +kernel)
theorem mt_575 : Cond.methodLink "TypeBenchLaw" 89 ⟨"TypeBenchModel", "kind", "(I)I"⟩ ∈ LW := lw_in (i := 575) (by decide +kernel) (by decide +kernel)
theorem mt_576 : Cond.instanceMethod ⟨"TypeBenchModel", "kind", "(I)I"⟩ ∈ LW := lw_in (i := 576) (by decide +kernel) (by decide +kernel)
theorem mt_577 : Cond.selects "TypeBenchModel" ⟨"TypeBenchModel", "kind", "(I)I"⟩ ⟨"TypeBenchModel", "kind", "(I)I"⟩ ∈ LW := lw_in (i := 577) (by decide +kernel) (by decide +kernel)
theorem mt_578 : Cond.code ⟨"TypeBenchModel", "kind", "(I)I"⟩ prog_5_method_24_code 2 (some FieldType.int) ∈ LW := lw_in (i := 578) (by decide +kernel) (by decide +kernel)
theorem mt_579 : Cond.methodLink "TypeBenchLaw" 93 ⟨"TypeBenchModel", "part", "(IZ)I"⟩ ∈ LW := lw_in (i := 579) (by decide +kernel) (by decide +kernel)
theorem mt_580 : Cond.instanceMethod ⟨"TypeBenchModel", "part", "(IZ)I"⟩ ∈ LW := lw_in (i := 580) (by decide +kernel) (by decide +kernel)
theorem mt_581 : Cond.selects "TypeBenchModel" ⟨"TypeBenchModel", "part", "(IZ)I"⟩ ⟨"TypeBenchModel", "part", "(IZ)I"⟩ ∈ LW := lw_in (i := 581) (by decide +kernel) (by decide +kernel)
theorem mt_582 : Cond.code ⟨"TypeBenchModel", "part", "(IZ)I"⟩ prog_5_method_25_code 3 (some FieldType.int) ∈ LW := lw_in (i := 582) (by decide +kernel) (by decide +kernel)
theorem mt_583 : Cond.methodLink "TypeBenchLaw" 96 ⟨"TypeBenchModel", "size", "(I)I"⟩ ∈ LW := lw_in (i := 583) (by decide +kernel) (by decide +kernel)
theorem mt_584 : Cond.instanceMethod ⟨"TypeBenchModel", "size", "(I)I"⟩ ∈ LW := lw_in (i := 584) (by decide +kernel) (by decide +kernel)
theorem mt_585 : Cond.selects "TypeBenchModel" ⟨"TypeBenchModel", "size", "(I)I"⟩ ⟨"TypeBenchModel", "size", "(I)I"⟩ ∈ LW := lw_in (i := 585) (by decide +kernel) (by decide +kernel)
theorem mt_586 : Cond.code ⟨"TypeBenchModel", "size", "(I)I"⟩ prog_5_method_26_code 5 (some FieldType.int) ∈ LW := lw_in (i := 586) (by decide +kernel) (by decide +kernel)
theorem mt_587 : Cond.constant "TypeBenchModel" 119 (1000000 : Int32) ∈ LW := lw_in (i := 587) (by decide +kernel) (by decide +kernel)
theorem mt_588 : Cond.methodLink "TypeBenchModel" 120 ⟨"java/lang/Math", "max", "(II)I"⟩ ∈ LW := lw_in (i := 588) (by decide +kernel) (by decide +kernel)
theorem mt_589 : Cond.methodLink "TypeBenchModel" 126 ⟨"java/lang/Math", "min", "(II)I"⟩ ∈ LW := lw_in (i := 589) (by decide +kernel) (by decide +kernel)
theorem mt_590 : Cond.methodLink "TypeBenchLaw" 99 ⟨"TypeBenchModel", "values", "(I)I"⟩ ∈ LW := lw_in (i := 590) (by decide +kernel) (by decide +kernel)
theorem mt_591 : Cond.instanceMethod ⟨"TypeBenchModel", "values", "(I)I"⟩ ∈ LW := lw_in (i := 591) (by decide +kernel) (by decide +kernel)
theorem mt_592 : Cond.selects "TypeBenchModel" ⟨"TypeBenchModel", "values", "(I)I"⟩ ⟨"TypeBenchModel", "values", "(I)I"⟩ ∈ LW := lw_in (i := 592) (by decide +kernel) (by decide +kernel)
theorem mt_593 : Cond.code ⟨"TypeBenchModel", "values", "(I)I"⟩ prog_5_method_27_code 7 (some FieldType.int) ∈ LW := lw_in (i := 593) (by decide +kernel) (by decide +kernel)
theorem mt_594 : Cond.constantLong "TypeBenchModel" 129 (1073741824 : Int64) ∈ LW := lw_in (i := 594) (by decide +kernel) (by decide +kernel)
theorem mt_595 : Cond.methodLink "TypeBenchModel" 131 ⟨"java/lang/Math", "min", "(JJ)J"⟩ ∈ LW := lw_in (i := 595) (by decide +kernel) (by decide +kernel)
theorem mt_596 : Cond.methodLink "TypeBenchLaw" 102 ⟨"TypeBenchModel", "frees", "(I)I"⟩ ∈ LW := lw_in (i := 596) (by decide +kernel) (by decide +kernel)
theorem mt_597 : Cond.instanceMethod ⟨"TypeBenchModel", "frees", "(I)I"⟩ ∈ LW := lw_in (i := 597) (by decide +kernel) (by decide +kernel)
theorem mt_598 : Cond.selects "TypeBenchModel" ⟨"TypeBenchModel", "frees", "(I)I"⟩ ⟨"TypeBenchModel", "frees", "(I)I"⟩ ∈ LW := lw_in (i := 598) (by decide +kernel) (by decide +kernel)
theorem mt_599 : Cond.code ⟨"TypeBenchModel", "frees", "(I)I"⟩ prog_5_method_28_code 4 (some FieldType.int) ∈ LW := lw_in (i := 599) (by decide +kernel) (by decide +kernel)
theorem mt_600 : Cond.methodLink "TypeBenchLaw" 106 ⟨"TypeBenchModel", "clear", "()I"⟩ ∈ LW := lw_in (i := 600) (by decide +kernel) (by decide +kernel)
theorem mt_601 : Cond.instanceMethod ⟨"TypeBenchModel", "clear", "()I"⟩ ∈ LW := lw_in (i := 601) (by decide +kernel) (by decide +kernel)
theorem mt_602 : Cond.selects "TypeBenchModel" ⟨"TypeBenchModel", "clear", "()I"⟩ ⟨"TypeBenchModel", "clear", "()I"⟩ ∈ LW := lw_in (i := 602) (by decide +kernel) (by decide +kernel)
theorem mt_603 : Cond.code ⟨"TypeBenchModel", "clear", "()I"⟩ prog_5_method_29_code 2 (some FieldType.int) ∈ LW := lw_in (i := 603) (by decide +kernel) (by decide +kernel)
theorem mt_604 : Cond.methodLink "TypeBenchLaw" 110 ⟨"TypeBenchModel", "count", "(I)I"⟩ ∈ LW := lw_in (i := 604) (by decide +kernel) (by decide +kernel)
theorem mt_605 : Cond.instanceMethod ⟨"TypeBenchModel", "count", "(I)I"⟩ ∈ LW := lw_in (i := 605) (by decide +kernel) (by decide +kernel)
theorem mt_606 : Cond.selects "TypeBenchModel" ⟨"TypeBenchModel", "count", "(I)I"⟩ ⟨"TypeBenchModel", "count", "(I)I"⟩ ∈ LW := lw_in (i := 606) (by decide +kernel) (by decide +kernel)
theorem mt_607 : Cond.code ⟨"TypeBenchModel", "count", "(I)I"⟩ prog_5_method_30_code 4 (some FieldType.int) ∈ LW := lw_in (i := 607) (by decide +kernel) (by decide +kernel)
theorem mt_608 : Cond.arrayClass FieldType.long ∈ LW := lw_in (i := 608) (by decide +kernel) (by decide +kernel)
theorem ms_0 : Cond.selects "TypeBench" ⟨"TypeBench", "begin", "()V"⟩ ⟨"TypeBench", "begin", "()V"⟩ ∈ LW := List.mem_filter.mpr ⟨List.mem_append_left _ (List.mem_of_getElem? (i := 0) (by decide +kernel)), by decide +kernel⟩
theorem ms_1 : Cond.selects "TypeBench$Shapes" ⟨"TypeBench$Shapes", "forgetWholes", "()V"⟩ ⟨"TypeBench$Shapes", "forgetWholes", "()V"⟩ ∈ LW := List.mem_filter.mpr ⟨List.mem_append_left _ (List.mem_of_getElem? (i := 1) (by decide +kernel)), by decide +kernel⟩
theorem ms_2 : Cond.selects "TypeBench$Shapes" ⟨"TypeBench$Shapes", "write", "(IIII)V"⟩ ⟨"TypeBench$Shapes", "write", "(IIII)V"⟩ ∈ LW := List.mem_filter.mpr ⟨List.mem_append_left _ (List.mem_of_getElem? (i := 2) (by decide +kernel)), by decide +kernel⟩
theorem ms_3 : Cond.selects "TypeBench" ⟨"TypeBench", "addLeader", "(I)V"⟩ ⟨"TypeBench", "addLeader", "(I)V"⟩ ∈ LW := List.mem_filter.mpr ⟨List.mem_append_left _ (List.mem_of_getElem? (i := 3) (by decide +kernel)), by decide +kernel⟩
theorem ms_4 : Cond.selects "TypeBench" ⟨"TypeBench", "countFreeLeaders", "()I"⟩ ⟨"TypeBench", "countFreeLeaders", "()I"⟩ ∈ LW := List.mem_filter.mpr ⟨List.mem_append_left _ (List.mem_of_getElem? (i := 4) (by decide +kernel)), by decide +kernel⟩
theorem ms_5 : Cond.selects "TypeBench" ⟨"TypeBench", "nextNumber", "()I"⟩ ⟨"TypeBench", "nextNumber", "()I"⟩ ∈ LW := List.mem_filter.mpr ⟨List.mem_append_left _ (List.mem_of_getElem? (i := 5) (by decide +kernel)), by decide +kernel⟩
theorem ms_6 : Cond.selects "java/lang/Throwable" ⟨"java/lang/Throwable", "fillInStackTrace", "(I)Ljava/lang/Throwable;"⟩ ⟨"java/lang/Throwable", "fillInStackTrace", "(I)Ljava/lang/Throwable;"⟩ ∈ LW := List.mem_filter.mpr ⟨List.mem_append_left _ (List.mem_of_getElem? (i := 6) (by decide +kernel)), by decide +kernel⟩
theorem ms_7 : Cond.selects "TypeBench" ⟨"TypeBench", "leaderOf", "(I)I"⟩ ⟨"TypeBench", "leaderOf", "(I)I"⟩ ∈ LW := List.mem_filter.mpr ⟨List.mem_append_left _ (List.mem_of_getElem? (i := 7) (by decide +kernel)), by decide +kernel⟩
theorem ms_8 : Cond.selects "TypeBench" ⟨"TypeBench", "makeWhole", "(III)I"⟩ ⟨"TypeBench", "makeWhole", "(III)I"⟩ ∈ LW := List.mem_filter.mpr ⟨List.mem_append_left _ (List.mem_of_getElem? (i := 8) (by decide +kernel)), by decide +kernel⟩
theorem ms_9 : Cond.selects "TypeBench$Shapes" ⟨"TypeBench$Shapes", "twinOf", "(I)I"⟩ ⟨"TypeBench$Shapes", "twinOf", "(I)I"⟩ ∈ LW := List.mem_filter.mpr ⟨List.mem_append_left _ (List.mem_of_getElem? (i := 9) (by decide +kernel)), by decide +kernel⟩
theorem ms_10 : Cond.selects "TypeBench$Shapes" ⟨"TypeBench$Shapes", "slotOf", "(I)I"⟩ ⟨"TypeBench$Shapes", "slotOf", "(I)I"⟩ ∈ LW := List.mem_filter.mpr ⟨List.mem_append_left _ (List.mem_of_getElem? (i := 10) (by decide +kernel)), by decide +kernel⟩
theorem ms_11 : Cond.selects "TypeBench$Shapes" ⟨"TypeBench$Shapes", "equalShapes", "(II)Z"⟩ ⟨"TypeBench$Shapes", "equalShapes", "(II)Z"⟩ ∈ LW := List.mem_filter.mpr ⟨List.mem_append_left _ (List.mem_of_getElem? (i := 11) (by decide +kernel)), by decide +kernel⟩
theorem ms_12 : Cond.selects "TypeBench$Shapes" ⟨"TypeBench$Shapes", "enter", "(I)V"⟩ ⟨"TypeBench$Shapes", "enter", "(I)V"⟩ ∈ LW := List.mem_filter.mpr ⟨List.mem_append_left _ (List.mem_of_getElem? (i := 12) (by decide +kernel)), by decide +kernel⟩
theorem ms_13 : Cond.selects "TypeBench" ⟨"TypeBench", "tryToLink", "(II)Z"⟩ ⟨"TypeBench", "tryToLink", "(II)Z"⟩ ∈ LW := List.mem_filter.mpr ⟨List.mem_append_left _ (List.mem_of_getElem? (i := 13) (by decide +kernel)), by decide +kernel⟩
theorem ms_14 : Cond.selects "TypeBench" ⟨"TypeBench", "linkAll", "(II)Z"⟩ ⟨"TypeBench", "linkAll", "(II)Z"⟩ ∈ LW := List.mem_filter.mpr ⟨List.mem_append_left _ (List.mem_of_getElem? (i := 14) (by decide +kernel)), by decide +kernel⟩
theorem ms_15 : Cond.selects "TypeBench$Pile" ⟨"TypeBench$Pile", "startWith", "(II)V"⟩ ⟨"TypeBench$Pile", "startWith", "(II)V"⟩ ∈ LW := List.mem_filter.mpr ⟨List.mem_append_left _ (List.mem_of_getElem? (i := 15) (by decide +kernel)), by decide +kernel⟩
theorem ms_16 : Cond.selects "TypeBench$Pile" ⟨"TypeBench$Pile", "take", "()I"⟩ ⟨"TypeBench$Pile", "take", "()I"⟩ ∈ LW := List.mem_filter.mpr ⟨List.mem_append_left _ (List.mem_of_getElem? (i := 16) (by decide +kernel)), by decide +kernel⟩
theorem ms_17 : Cond.selects "TypeBench" ⟨"TypeBench", "root", "(I)I"⟩ ⟨"TypeBench", "root", "(I)I"⟩ ∈ LW := List.mem_filter.mpr ⟨List.mem_append_left _ (List.mem_of_getElem? (i := 17) (by decide +kernel)), by decide +kernel⟩
theorem ms_18 : Cond.selects "TypeBench" ⟨"TypeBench", "linkTwo", "(II)Z"⟩ ⟨"TypeBench", "linkTwo", "(II)Z"⟩ ∈ LW := List.mem_filter.mpr ⟨List.mem_append_left _ (List.mem_of_getElem? (i := 18) (by decide +kernel)), by decide +kernel⟩
theorem ms_19 : Cond.selects "TypeBench" ⟨"TypeBench", "putPartsOfBoth", "(II)V"⟩ ⟨"TypeBench", "putPartsOfBoth", "(II)V"⟩ ∈ LW := List.mem_filter.mpr ⟨List.mem_append_left _ (List.mem_of_getElem? (i := 19) (by decide +kernel)), by decide +kernel⟩
theorem ms_20 : Cond.selects "TypeBench$Shapes" ⟨"TypeBench$Shapes", "hasParts", "(I)Z"⟩ ⟨"TypeBench$Shapes", "hasParts", "(I)Z"⟩ ∈ LW := List.mem_filter.mpr ⟨List.mem_append_left _ (List.mem_of_getElem? (i := 20) (by decide +kernel)), by decide +kernel⟩
theorem ms_21 : Cond.selects "TypeBench$Pile" ⟨"TypeBench$Pile", "put", "(I)V"⟩ ⟨"TypeBench$Pile", "put", "(I)V"⟩ ∈ LW := List.mem_filter.mpr ⟨List.mem_append_left _ (List.mem_of_getElem? (i := 21) (by decide +kernel)), by decide +kernel⟩
theorem ms_22 : Cond.selects "TypeBench" ⟨"TypeBench", "layOut", "()Z"⟩ ⟨"TypeBench", "layOut", "()Z"⟩ ∈ LW := List.mem_filter.mpr ⟨List.mem_append_left _ (List.mem_of_getElem? (i := 22) (by decide +kernel)), by decide +kernel⟩
theorem ms_23 : Cond.selects "TypeBench" ⟨"TypeBench", "layOutFrom", "(I)Z"⟩ ⟨"TypeBench", "layOutFrom", "(I)Z"⟩ ∈ LW := List.mem_filter.mpr ⟨List.mem_append_left _ (List.mem_of_getElem? (i := 23) (by decide +kernel)), by decide +kernel⟩
theorem ms_24 : Cond.selects "TypeBench$Pile" ⟨"TypeBench$Pile", "top", "()I"⟩ ⟨"TypeBench$Pile", "top", "()I"⟩ ∈ LW := List.mem_filter.mpr ⟨List.mem_append_left _ (List.mem_of_getElem? (i := 24) (by decide +kernel)), by decide +kernel⟩
theorem ms_25 : Cond.selects "TypeBench" ⟨"TypeBench", "putUnseenParts", "(I)Z"⟩ ⟨"TypeBench", "putUnseenParts", "(I)Z"⟩ ∈ LW := List.mem_filter.mpr ⟨List.mem_append_left _ (List.mem_of_getElem? (i := 25) (by decide +kernel)), by decide +kernel⟩
theorem ms_26 : Cond.selects "TypeBench" ⟨"TypeBench", "putUnseen", "(I)Z"⟩ ⟨"TypeBench", "putUnseen", "(I)Z"⟩ ∈ LW := List.mem_filter.mpr ⟨List.mem_append_left _ (List.mem_of_getElem? (i := 26) (by decide +kernel)), by decide +kernel⟩
theorem ms_27 : Cond.selects "TypeBench" ⟨"TypeBench", "layDown", "(I)V"⟩ ⟨"TypeBench", "layDown", "(I)V"⟩ ∈ LW := List.mem_filter.mpr ⟨List.mem_append_left _ (List.mem_of_getElem? (i := 27) (by decide +kernel)), by decide +kernel⟩
theorem ms_28 : Cond.selects "TypeBench" ⟨"TypeBench", "keepLinks", "()V"⟩ ⟨"TypeBench", "keepLinks", "()V"⟩ ∈ LW := List.mem_filter.mpr ⟨List.mem_append_left _ (List.mem_of_getElem? (i := 28) (by decide +kernel)), by decide +kernel⟩
theorem ms_29 : Cond.selects "TypeBench" ⟨"TypeBench", "keepRoot", "(I)V"⟩ ⟨"TypeBench", "keepRoot", "(I)V"⟩ ∈ LW := List.mem_filter.mpr ⟨List.mem_append_left _ (List.mem_of_getElem? (i := 29) (by decide +kernel)), by decide +kernel⟩
theorem ms_30 : Cond.selects "TypeBench" ⟨"TypeBench", "matchAll", "(II)Z"⟩ ⟨"TypeBench", "matchAll", "(II)Z"⟩ ∈ LW := List.mem_filter.mpr ⟨List.mem_append_left _ (List.mem_of_getElem? (i := 30) (by decide +kernel)), by decide +kernel⟩
theorem ms_31 : Cond.selects "TypeBench" ⟨"TypeBench", "matchTwo", "(II)Z"⟩ ⟨"TypeBench", "matchTwo", "(II)Z"⟩ ∈ LW := List.mem_filter.mpr ⟨List.mem_append_left _ (List.mem_of_getElem? (i := 31) (by decide +kernel)), by decide +kernel⟩
theorem ms_32 : Cond.selects "TypeBench" ⟨"TypeBench", "sizeByParts", "(I)I"⟩ ⟨"TypeBench", "sizeByParts", "(I)I"⟩ ∈ LW := List.mem_filter.mpr ⟨List.mem_append_left _ (List.mem_of_getElem? (i := 32) (by decide +kernel)), by decide +kernel⟩
theorem ms_33 : Cond.selects "TypeBench" ⟨"TypeBench", "valuesByParts", "(I)I"⟩ ⟨"TypeBench", "valuesByParts", "(I)I"⟩ ∈ LW := List.mem_filter.mpr ⟨List.mem_append_left _ (List.mem_of_getElem? (i := 33) (by decide +kernel)), by decide +kernel⟩
theorem ms_34 : Cond.selects "TypeBench" ⟨"TypeBench", "markParts", "(I)V"⟩ ⟨"TypeBench", "markParts", "(I)V"⟩ ∈ LW := List.mem_filter.mpr ⟨List.mem_append_left _ (List.mem_of_getElem? (i := 34) (by decide +kernel)), by decide +kernel⟩
theorem ms_35 : Cond.selects "TypeBenchModel" ⟨"TypeBenchModel", "begin", "()V"⟩ ⟨"TypeBenchModel", "begin", "()V"⟩ ∈ LW := List.mem_filter.mpr ⟨List.mem_append_left _ (List.mem_of_getElem? (i := 35) (by decide +kernel)), by decide +kernel⟩
theorem ms_36 : Cond.selects "TypeBenchModel" ⟨"TypeBenchModel", "make", "(III)I"⟩ ⟨"TypeBenchModel", "make", "(III)I"⟩ ∈ LW := List.mem_filter.mpr ⟨List.mem_append_left _ (List.mem_of_getElem? (i := 36) (by decide +kernel)), by decide +kernel⟩
theorem ms_37 : Cond.selects "TypeBenchModel" ⟨"TypeBenchModel", "refuse", "(IZ)Z"⟩ ⟨"TypeBenchModel", "refuse", "(IZ)Z"⟩ ∈ LW := List.mem_filter.mpr ⟨List.mem_append_left _ (List.mem_of_getElem? (i := 37) (by decide +kernel)), by decide +kernel⟩
theorem ms_38 : Cond.selects "TypeBenchModel" ⟨"TypeBenchModel", "made", "(III)I"⟩ ⟨"TypeBenchModel", "made", "(III)I"⟩ ∈ LW := List.mem_filter.mpr ⟨List.mem_append_left _ (List.mem_of_getElem? (i := 38) (by decide +kernel)), by decide +kernel⟩
theorem ms_39 : Cond.selects "TypeBenchModel" ⟨"TypeBenchModel", "none", "(I)Z"⟩ ⟨"TypeBenchModel", "none", "(I)Z"⟩ ∈ LW := List.mem_filter.mpr ⟨List.mem_append_left _ (List.mem_of_getElem? (i := 39) (by decide +kernel)), by decide +kernel⟩
theorem ms_40 : Cond.selects "TypeBenchModel" ⟨"TypeBenchModel", "tried", "(II)Z"⟩ ⟨"TypeBenchModel", "tried", "(II)Z"⟩ ∈ LW := List.mem_filter.mpr ⟨List.mem_append_left _ (List.mem_of_getElem? (i := 40) (by decide +kernel)), by decide +kernel⟩
theorem ms_41 : Cond.selects "TypeBenchModel" ⟨"TypeBenchModel", "one", "(II)Z"⟩ ⟨"TypeBenchModel", "one", "(II)Z"⟩ ∈ LW := List.mem_filter.mpr ⟨List.mem_append_left _ (List.mem_of_getElem? (i := 41) (by decide +kernel)), by decide +kernel⟩
theorem ms_42 : Cond.selects "TypeBenchModel" ⟨"TypeBenchModel", "is", "(I)I"⟩ ⟨"TypeBenchModel", "is", "(I)I"⟩ ∈ LW := List.mem_filter.mpr ⟨List.mem_append_left _ (List.mem_of_getElem? (i := 42) (by decide +kernel)), by decide +kernel⟩
theorem ms_43 : Cond.selects "TypeBenchModel" ⟨"TypeBenchModel", "endless", "(I)Z"⟩ ⟨"TypeBenchModel", "endless", "(I)Z"⟩ ∈ LW := List.mem_filter.mpr ⟨List.mem_append_left _ (List.mem_of_getElem? (i := 43) (by decide +kernel)), by decide +kernel⟩
theorem ms_44 : Cond.selects "TypeBenchModel" ⟨"TypeBenchModel", "undone", "()V"⟩ ⟨"TypeBenchModel", "undone", "()V"⟩ ∈ LW := List.mem_filter.mpr ⟨List.mem_append_left _ (List.mem_of_getElem? (i := 44) (by decide +kernel)), by decide +kernel⟩
theorem ms_45 : Cond.selects "TypeBenchModel" ⟨"TypeBenchModel", "unknown", "(I)Z"⟩ ⟨"TypeBenchModel", "unknown", "(I)Z"⟩ ∈ LW := List.mem_filter.mpr ⟨List.mem_append_left _ (List.mem_of_getElem? (i := 45) (by decide +kernel)), by decide +kernel⟩
theorem ms_46 : Cond.selects "TypeBenchModel" ⟨"TypeBenchModel", "number", "()V"⟩ ⟨"TypeBenchModel", "number", "()V"⟩ ∈ LW := List.mem_filter.mpr ⟨List.mem_append_left _ (List.mem_of_getElem? (i := 46) (by decide +kernel)), by decide +kernel⟩
theorem ms_47 : Cond.selects "TypeBenchModel" ⟨"TypeBenchModel", "numbered", "(I)I"⟩ ⟨"TypeBenchModel", "numbered", "(I)I"⟩ ∈ LW := List.mem_filter.mpr ⟨List.mem_append_left _ (List.mem_of_getElem? (i := 47) (by decide +kernel)), by decide +kernel⟩
theorem ms_48 : Cond.selects "TypeBenchModel" ⟨"TypeBenchModel", "put", "(II)Z"⟩ ⟨"TypeBenchModel", "put", "(II)Z"⟩ ∈ LW := List.mem_filter.mpr ⟨List.mem_append_left _ (List.mem_of_getElem? (i := 48) (by decide +kernel)), by decide +kernel⟩
theorem in_X : ∀ w ∈ u_ws "TypeBench" F_X 11, w ∈ LW := by
  intro w hw
  obtain ⟨k, hk, rfl⟩ := List.mem_map.mp hw
  have hk := List.mem_range.mp hk
  match k, hk with
  | 0, _ => exact mt_91
  | 1, _ => exact mt_93
  | 2, _ => exact mt_95
  | 3, _ => exact mt_97
  | 4, _ => exact mt_99
  | 5, _ => exact mt_101
  | 6, _ => exact mt_103
  | 7, _ => exact mt_105
  | 8, _ => exact mt_107
  | 9, _ => exact mt_109
  | 10, _ => exact mt_111
  | k + 11, h => omega
theorem in_S : ∀ w ∈ u_ws "TypeBench$Shapes" F_S 5, w ∈ LW := by
  intro w hw
  obtain ⟨k, hk, rfl⟩ := List.mem_map.mp hw
  have hk := List.mem_range.mp hk
  match k, hk with
  | 0, _ => exact mt_35
  | 1, _ => exact mt_37
  | 2, _ => exact mt_39
  | 3, _ => exact mt_41
  | 4, _ => exact mt_43
  | k + 5, h => omega
theorem in_P : ∀ w ∈ u_ws "TypeBench$Pile" F_P 2, w ∈ LW := by
  intro w hw
  obtain ⟨k, hk, rfl⟩ := List.mem_map.mp hw
  have hk := List.mem_range.mp hk
  match k, hk with
  | 0, _ => exact mt_56
  | 1, _ => exact mt_58
  | k + 2, h => omega
theorem in_M : ∀ w ∈ u_ws "TypeBenchModel" F_M 18, w ∈ LW := by
  intro w hw
  obtain ⟨k, hk, rfl⟩ := List.mem_map.mp hw
  have hk := List.mem_range.mp hk
  match k, hk with
  | 0, _ => exact mt_457
  | 1, _ => exact mt_459
  | 2, _ => exact mt_461
  | 3, _ => exact mt_463
  | 4, _ => exact mt_465
  | 5, _ => exact mt_467
  | 6, _ => exact mt_469
  | 7, _ => exact mt_471
  | 8, _ => exact mt_473
  | 9, _ => exact mt_475
  | 10, _ => exact mt_477
  | 11, _ => exact mt_479
  | 12, _ => exact mt_481
  | 13, _ => exact mt_483
  | 14, _ => exact mt_485
  | 15, _ => exact mt_487
  | 16, _ => exact mt_489
  | 17, _ => exact mt_491
  | k + 18, h => omega
def NW : List Cond := [Cond.methodLinkNest "TypeBench" 9 ⟨"TypeBench$Shapes", "<init>", "()V"⟩ "TypeBench", Cond.fieldLinkNest "TypeBench" 75 "TypeBench$Shapes" "kinds" "[I" "TypeBench", Cond.fieldLinkNest "TypeBench" 88 "TypeBench$Shapes" "firsts" "[I" "TypeBench", Cond.fieldLinkNest "TypeBench" 85 "TypeBench$Shapes" "seconds" "[I" "TypeBench", Cond.methodLinkNest "TypeBench" 34 ⟨"TypeBench$Pile", "<init>", "()V"⟩ "TypeBench", Cond.fieldLinkNest "TypeBench" 160 "TypeBench$Pile" "height" "I" "TypeBench", Cond.methodLinkNest "TypeBench" 116 ⟨"TypeBench$Shapes", "forgetWholes", "()V"⟩ "TypeBench", Cond.methodLinkNest "TypeBench" 49 ⟨"TypeBench$Shapes", "write", "(IIII)V"⟩ "TypeBench", Cond.methodLinkNest "TypeBench" 122 ⟨"TypeBench$Shapes", "twinOf", "(I)I"⟩ "TypeBench", Cond.methodLinkNest "TypeBench" 125 ⟨"TypeBench$Shapes", "enter", "(I)V"⟩ "TypeBench", Cond.methodLinkNest "TypeBench" 156 ⟨"TypeBench$Pile", "startWith", "(II)V"⟩ "TypeBench", Cond.methodLinkNest "TypeBench" 163 ⟨"TypeBench$Pile", "take", "()I"⟩ "TypeBench", Cond.methodLinkNest "TypeBench" 78 ⟨"TypeBench$Shapes", "hasParts", "(I)Z"⟩ "TypeBench", Cond.methodLinkNest "TypeBench" 175 ⟨"TypeBench$Pile", "put", "(I)V"⟩ "TypeBench", Cond.methodLinkNest "TypeBench" 184 ⟨"TypeBench$Pile", "top", "()I"⟩ "TypeBench", Cond.declares ⟨"java/lang/RuntimeException", "<init>", "()V"⟩, Cond.declares ⟨"java/lang/RuntimeException", "<init>", "(Ljava/lang/String;)V"⟩, Cond.declares ⟨"java/lang/Exception", "<init>", "()V"⟩, Cond.declares ⟨"java/lang/Exception", "<init>", "(Ljava/lang/String;)V"⟩, Cond.declares ⟨"java/lang/Throwable", "<init>", "()V"⟩, Cond.declares ⟨"java/lang/Throwable", "<init>", "(Ljava/lang/String;)V"⟩, Cond.castable "java/lang/IllegalStateException" "java/lang/IllegalStateException", Cond.castable "java/util/NoSuchElementException" "java/util/NoSuchElementException"]
