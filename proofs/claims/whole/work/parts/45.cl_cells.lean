/-! The cells, as conditions. -/
abbrev b_CE_init : ByteArray := prog_4_method_1_code
def y_CE_init : MethodName := ⟨"FormulaSheet$Cells", "<init>", "()V"⟩
theorem d_CE_init_0 : decode b_CE_init 0 = .ok (.aload_n 0, 1) := by decide +kernel
theorem d_CE_init_1 : decode b_CE_init 1 = .ok (.invokespecial 3, 3) := by decide +kernel
theorem d_CE_init_4 : decode b_CE_init 4 = .ok (.aload_n 0, 1) := by decide +kernel
theorem d_CE_init_5 : decode b_CE_init 5 = .ok (.bipush 80, 2) := by decide +kernel
theorem d_CE_init_7 : decode b_CE_init 7 = .ok (.newarray .boolean, 2) := by decide +kernel
theorem d_CE_init_9 : decode b_CE_init 9 = .ok (.putfield 9, 3) := by decide +kernel
theorem d_CE_init_12 : decode b_CE_init 12 = .ok (.aload_n 0, 1) := by decide +kernel
theorem d_CE_init_13 : decode b_CE_init 13 = .ok (.bipush 80, 2) := by decide +kernel
theorem d_CE_init_15 : decode b_CE_init 15 = .ok (.anewarray 15, 3) := by decide +kernel
theorem d_CE_init_18 : decode b_CE_init 18 = .ok (.putfield 17, 3) := by decide +kernel
theorem d_CE_init_21 : decode b_CE_init 21 = .ok (.aload_n 0, 1) := by decide +kernel
theorem d_CE_init_22 : decode b_CE_init 22 = .ok (.bipush 80, 2) := by decide +kernel
theorem d_CE_init_24 : decode b_CE_init 24 = .ok (.newarray .double, 2) := by decide +kernel
theorem d_CE_init_26 : decode b_CE_init 26 = .ok (.putfield 21, 3) := by decide +kernel
theorem d_CE_init_29 : decode b_CE_init 29 = .ok (.aload_n 0, 1) := by decide +kernel
theorem d_CE_init_30 : decode b_CE_init 30 = .ok (.bipush 80, 2) := by decide +kernel
theorem d_CE_init_32 : decode b_CE_init 32 = .ok (.anewarray 25, 3) := by decide +kernel
theorem d_CE_init_35 : decode b_CE_init 35 = .ok (.putfield 27, 3) := by decide +kernel
theorem d_CE_init_38 : decode b_CE_init 38 = .ok (.aload_n 0, 1) := by decide +kernel
theorem d_CE_init_39 : decode b_CE_init 39 = .ok (.bipush 80, 2) := by decide +kernel
theorem d_CE_init_41 : decode b_CE_init 41 = .ok (.newarray .double, 2) := by decide +kernel
theorem d_CE_init_43 : decode b_CE_init 43 = .ok (.putfield 31, 3) := by decide +kernel
theorem d_CE_init_46 : decode b_CE_init 46 = .ok (.aload_n 0, 1) := by decide +kernel
theorem d_CE_init_47 : decode b_CE_init 47 = .ok (.bipush 80, 2) := by decide +kernel
theorem d_CE_init_49 : decode b_CE_init 49 = .ok (.newarray .int, 2) := by decide +kernel
theorem d_CE_init_51 : decode b_CE_init 51 = .ok (.putfield 34, 3) := by decide +kernel
theorem d_CE_init_54 : decode b_CE_init 54 = .ok (.iconst 0, 1) := by decide +kernel
theorem d_CE_init_55 : decode b_CE_init 55 = .ok (.istore_n 1, 1) := by decide +kernel
theorem d_CE_init_56 : decode b_CE_init 56 = .ok (.iload_n 1, 1) := by decide +kernel
theorem d_CE_init_57 : decode b_CE_init 57 = .ok (.bipush 80, 2) := by decide +kernel
theorem d_CE_init_59 : decode b_CE_init 59 = .ok (.if_icmp .ge 22, 3) := by decide +kernel
theorem d_CE_init_62 : decode b_CE_init 62 = .ok (.aload_n 0, 1) := by decide +kernel
theorem d_CE_init_63 : decode b_CE_init 63 = .ok (.getfield 27, 3) := by decide +kernel
theorem d_CE_init_66 : decode b_CE_init 66 = .ok (.iload_n 1, 1) := by decide +kernel
theorem d_CE_init_67 : decode b_CE_init 67 = .ok (.new 25, 3) := by decide +kernel
theorem d_CE_init_70 : decode b_CE_init 70 = .ok (.dup, 1) := by decide +kernel
theorem d_CE_init_71 : decode b_CE_init 71 = .ok (.invokespecial 38, 3) := by decide +kernel
theorem d_CE_init_74 : decode b_CE_init 74 = .ok (.aastore, 1) := by decide +kernel
theorem d_CE_init_75 : decode b_CE_init 75 = .ok (.iinc 1 1, 3) := by decide +kernel
theorem d_CE_init_78 : decode b_CE_init 78 = .ok (.goto (-22), 3) := by decide +kernel
theorem d_CE_init_81 : decode b_CE_init 81 = .ok (.return_, 1) := by decide +kernel
abbrev b_CE_fill : ByteArray := prog_4_method_5_code
def y_CE_fill : MethodName := ⟨"FormulaSheet$Cells", "fill", "(IZDLFormulaSheet$Part;)V"⟩
theorem d_CE_fill_0 : decode b_CE_fill 0 = .ok (.aload_n 0, 1) := by decide +kernel
theorem d_CE_fill_1 : decode b_CE_fill 1 = .ok (.getfield 9, 3) := by decide +kernel
theorem d_CE_fill_4 : decode b_CE_fill 4 = .ok (.iload_n 1, 1) := by decide +kernel
theorem d_CE_fill_5 : decode b_CE_fill 5 = .ok (.iload_n 2, 1) := by decide +kernel
theorem d_CE_fill_6 : decode b_CE_fill 6 = .ok (.bastore, 1) := by decide +kernel
theorem d_CE_fill_7 : decode b_CE_fill 7 = .ok (.aload_n 0, 1) := by decide +kernel
theorem d_CE_fill_8 : decode b_CE_fill 8 = .ok (.getfield 21, 3) := by decide +kernel
theorem d_CE_fill_11 : decode b_CE_fill 11 = .ok (.iload_n 1, 1) := by decide +kernel
theorem d_CE_fill_12 : decode b_CE_fill 12 = .ok (.dload_n 3, 1) := by decide +kernel
theorem d_CE_fill_13 : decode b_CE_fill 13 = .ok (.dastore, 1) := by decide +kernel
theorem d_CE_fill_14 : decode b_CE_fill 14 = .ok (.aload_n 0, 1) := by decide +kernel
theorem d_CE_fill_15 : decode b_CE_fill 15 = .ok (.getfield 17, 3) := by decide +kernel
theorem d_CE_fill_18 : decode b_CE_fill 18 = .ok (.iload_n 1, 1) := by decide +kernel
theorem d_CE_fill_19 : decode b_CE_fill 19 = .ok (.aload 5, 2) := by decide +kernel
theorem d_CE_fill_21 : decode b_CE_fill 21 = .ok (.aastore, 1) := by decide +kernel
theorem d_CE_fill_22 : decode b_CE_fill 22 = .ok (.aload_n 0, 1) := by decide +kernel
theorem d_CE_fill_23 : decode b_CE_fill 23 = .ok (.iconst 0, 1) := by decide +kernel
theorem d_CE_fill_24 : decode b_CE_fill 24 = .ok (.putfield 43, 3) := by decide +kernel
theorem d_CE_fill_27 : decode b_CE_fill 27 = .ok (.return_, 1) := by decide +kernel
abbrev b_CE_setNumber : ByteArray := prog_4_method_2_code
def y_CE_setNumber : MethodName := ⟨"FormulaSheet$Cells", "setNumber", "(ID)V"⟩
theorem d_CE_setNumber_0 : decode b_CE_setNumber 0 = .ok (.aload_n 0, 1) := by decide +kernel
theorem d_CE_setNumber_1 : decode b_CE_setNumber 1 = .ok (.iload_n 1, 1) := by decide +kernel
theorem d_CE_setNumber_2 : decode b_CE_setNumber 2 = .ok (.iconst 1, 1) := by decide +kernel
theorem d_CE_setNumber_3 : decode b_CE_setNumber 3 = .ok (.dload_n 2, 1) := by decide +kernel
theorem d_CE_setNumber_4 : decode b_CE_setNumber 4 = .ok (.aconst_null, 1) := by decide +kernel
theorem d_CE_setNumber_5 : decode b_CE_setNumber 5 = .ok (.invokevirtual 39, 3) := by decide +kernel
theorem d_CE_setNumber_8 : decode b_CE_setNumber 8 = .ok (.return_, 1) := by decide +kernel
abbrev b_CE_setFormula : ByteArray := prog_4_method_3_code
def y_CE_setFormula : MethodName := ⟨"FormulaSheet$Cells", "setFormula", "(ILFormulaSheet$Part;)V"⟩
theorem d_CE_setFormula_0 : decode b_CE_setFormula 0 = .ok (.aload_n 0, 1) := by decide +kernel
theorem d_CE_setFormula_1 : decode b_CE_setFormula 1 = .ok (.iload_n 1, 1) := by decide +kernel
theorem d_CE_setFormula_2 : decode b_CE_setFormula 2 = .ok (.iconst 1, 1) := by decide +kernel
theorem d_CE_setFormula_3 : decode b_CE_setFormula 3 = .ok (.dconst 0, 1) := by decide +kernel
theorem d_CE_setFormula_4 : decode b_CE_setFormula 4 = .ok (.aload_n 2, 1) := by decide +kernel
theorem d_CE_setFormula_5 : decode b_CE_setFormula 5 = .ok (.invokevirtual 39, 3) := by decide +kernel
theorem d_CE_setFormula_8 : decode b_CE_setFormula 8 = .ok (.return_, 1) := by decide +kernel
abbrev b_CE_empty : ByteArray := prog_4_method_4_code
def y_CE_empty : MethodName := ⟨"FormulaSheet$Cells", "empty", "(I)V"⟩
theorem d_CE_empty_0 : decode b_CE_empty 0 = .ok (.aload_n 0, 1) := by decide +kernel
theorem d_CE_empty_1 : decode b_CE_empty 1 = .ok (.iload_n 1, 1) := by decide +kernel
theorem d_CE_empty_2 : decode b_CE_empty 2 = .ok (.iconst 0, 1) := by decide +kernel
theorem d_CE_empty_3 : decode b_CE_empty 3 = .ok (.dconst 0, 1) := by decide +kernel
theorem d_CE_empty_4 : decode b_CE_empty 4 = .ok (.aconst_null, 1) := by decide +kernel
theorem d_CE_empty_5 : decode b_CE_empty 5 = .ok (.invokevirtual 39, 3) := by decide +kernel
theorem d_CE_empty_8 : decode b_CE_empty 8 = .ok (.return_, 1) := by decide +kernel
abbrev b_CE_take : ByteArray := prog_4_method_8_code
def y_CE_take : MethodName := ⟨"FormulaSheet$Cells", "take", "(II)V"⟩
theorem d_CE_take_0 : decode b_CE_take 0 = .ok (.aload_n 0, 1) := by decide +kernel
theorem d_CE_take_1 : decode b_CE_take 1 = .ok (.iload_n 1, 1) := by decide +kernel
theorem d_CE_take_2 : decode b_CE_take 2 = .ok (.aload_n 0, 1) := by decide +kernel
theorem d_CE_take_3 : decode b_CE_take 3 = .ok (.getfield 9, 3) := by decide +kernel
theorem d_CE_take_6 : decode b_CE_take 6 = .ok (.iload_n 2, 1) := by decide +kernel
theorem d_CE_take_7 : decode b_CE_take 7 = .ok (.baload, 1) := by decide +kernel
theorem d_CE_take_8 : decode b_CE_take 8 = .ok (.aload_n 0, 1) := by decide +kernel
theorem d_CE_take_9 : decode b_CE_take 9 = .ok (.getfield 21, 3) := by decide +kernel
theorem d_CE_take_12 : decode b_CE_take 12 = .ok (.iload_n 2, 1) := by decide +kernel
theorem d_CE_take_13 : decode b_CE_take 13 = .ok (.daload, 1) := by decide +kernel
theorem d_CE_take_14 : decode b_CE_take 14 = .ok (.aload_n 0, 1) := by decide +kernel
theorem d_CE_take_15 : decode b_CE_take 15 = .ok (.getfield 17, 3) := by decide +kernel
theorem d_CE_take_18 : decode b_CE_take 18 = .ok (.iload_n 2, 1) := by decide +kernel
theorem d_CE_take_19 : decode b_CE_take 19 = .ok (.aaload, 1) := by decide +kernel
theorem d_CE_take_20 : decode b_CE_take 20 = .ok (.invokevirtual 39, 3) := by decide +kernel
theorem d_CE_take_23 : decode b_CE_take 23 = .ok (.return_, 1) := by decide +kernel
abbrev b_CE_emptyRow : ByteArray := prog_4_method_9_code
def y_CE_emptyRow : MethodName := ⟨"FormulaSheet$Cells", "emptyRow", "(I)V"⟩
theorem d_CE_emptyRow_0 : decode b_CE_emptyRow 0 = .ok (.iconst 0, 1) := by decide +kernel
theorem d_CE_emptyRow_1 : decode b_CE_emptyRow 1 = .ok (.istore_n 2, 1) := by decide +kernel
theorem d_CE_emptyRow_2 : decode b_CE_emptyRow 2 = .ok (.iload_n 2, 1) := by decide +kernel
theorem d_CE_emptyRow_3 : decode b_CE_emptyRow 3 = .ok (.bipush 8, 2) := by decide +kernel
theorem d_CE_emptyRow_5 : decode b_CE_emptyRow 5 = .ok (.if_icmp .ge 19, 3) := by decide +kernel
theorem d_CE_emptyRow_8 : decode b_CE_emptyRow 8 = .ok (.aload_n 0, 1) := by decide +kernel
theorem d_CE_emptyRow_9 : decode b_CE_emptyRow 9 = .ok (.iload_n 1, 1) := by decide +kernel
theorem d_CE_emptyRow_10 : decode b_CE_emptyRow 10 = .ok (.bipush 8, 2) := by decide +kernel
theorem d_CE_emptyRow_12 : decode b_CE_emptyRow 12 = .ok (.imul, 1) := by decide +kernel
theorem d_CE_emptyRow_13 : decode b_CE_emptyRow 13 = .ok (.iload_n 2, 1) := by decide +kernel
theorem d_CE_emptyRow_14 : decode b_CE_emptyRow 14 = .ok (.iadd, 1) := by decide +kernel
theorem d_CE_emptyRow_15 : decode b_CE_emptyRow 15 = .ok (.invokevirtual 65, 3) := by decide +kernel
theorem d_CE_emptyRow_18 : decode b_CE_emptyRow 18 = .ok (.iinc 2 1, 3) := by decide +kernel
theorem d_CE_emptyRow_21 : decode b_CE_emptyRow 21 = .ok (.goto (-19), 3) := by decide +kernel
theorem d_CE_emptyRow_24 : decode b_CE_emptyRow 24 = .ok (.return_, 1) := by decide +kernel
abbrev b_CE_filledFrom : ByteArray := prog_4_method_10_code
def y_CE_filledFrom : MethodName := ⟨"FormulaSheet$Cells", "filledFrom", "(II)I"⟩
theorem d_CE_filledFrom_0 : decode b_CE_filledFrom 0 = .ok (.iconst 0, 1) := by decide +kernel
theorem d_CE_filledFrom_1 : decode b_CE_filledFrom 1 = .ok (.istore_n 3, 1) := by decide +kernel
theorem d_CE_filledFrom_2 : decode b_CE_filledFrom 2 = .ok (.iload_n 1, 1) := by decide +kernel
theorem d_CE_filledFrom_3 : decode b_CE_filledFrom 3 = .ok (.istore 4, 2) := by decide +kernel
theorem d_CE_filledFrom_5 : decode b_CE_filledFrom 5 = .ok (.iload 4, 2) := by decide +kernel
theorem d_CE_filledFrom_7 : decode b_CE_filledFrom 7 = .ok (.iload_n 2, 1) := by decide +kernel
theorem d_CE_filledFrom_8 : decode b_CE_filledFrom 8 = .ok (.if_icmp .ge 22, 3) := by decide +kernel
theorem d_CE_filledFrom_11 : decode b_CE_filledFrom 11 = .ok (.aload_n 0, 1) := by decide +kernel
theorem d_CE_filledFrom_12 : decode b_CE_filledFrom 12 = .ok (.getfield 9, 3) := by decide +kernel
theorem d_CE_filledFrom_15 : decode b_CE_filledFrom 15 = .ok (.iload 4, 2) := by decide +kernel
theorem d_CE_filledFrom_17 : decode b_CE_filledFrom 17 = .ok (.baload, 1) := by decide +kernel
theorem d_CE_filledFrom_18 : decode b_CE_filledFrom 18 = .ok (.ifCond .eq 6, 3) := by decide +kernel
theorem d_CE_filledFrom_21 : decode b_CE_filledFrom 21 = .ok (.iinc 3 1, 3) := by decide +kernel
theorem d_CE_filledFrom_24 : decode b_CE_filledFrom 24 = .ok (.iinc 4 1, 3) := by decide +kernel
theorem d_CE_filledFrom_27 : decode b_CE_filledFrom 27 = .ok (.goto (-22), 3) := by decide +kernel
theorem d_CE_filledFrom_30 : decode b_CE_filledFrom 30 = .ok (.iload_n 3, 1) := by decide +kernel
theorem d_CE_filledFrom_31 : decode b_CE_filledFrom 31 = .ok (.ireturn, 1) := by decide +kernel
abbrev b_CE_formulasInAll : ByteArray := prog_4_method_11_code
def y_CE_formulasInAll : MethodName := ⟨"FormulaSheet$Cells", "formulasInAll", "()I"⟩
theorem d_CE_formulasInAll_0 : decode b_CE_formulasInAll 0 = .ok (.iconst 0, 1) := by decide +kernel
theorem d_CE_formulasInAll_1 : decode b_CE_formulasInAll 1 = .ok (.istore_n 1, 1) := by decide +kernel
theorem d_CE_formulasInAll_2 : decode b_CE_formulasInAll 2 = .ok (.iconst 0, 1) := by decide +kernel
theorem d_CE_formulasInAll_3 : decode b_CE_formulasInAll 3 = .ok (.istore_n 2, 1) := by decide +kernel
theorem d_CE_formulasInAll_4 : decode b_CE_formulasInAll 4 = .ok (.iload_n 2, 1) := by decide +kernel
theorem d_CE_formulasInAll_5 : decode b_CE_formulasInAll 5 = .ok (.bipush 80, 2) := by decide +kernel
theorem d_CE_formulasInAll_7 : decode b_CE_formulasInAll 7 = .ok (.if_icmp .ge 21, 3) := by decide +kernel
theorem d_CE_formulasInAll_10 : decode b_CE_formulasInAll 10 = .ok (.aload_n 0, 1) := by decide +kernel
theorem d_CE_formulasInAll_11 : decode b_CE_formulasInAll 11 = .ok (.getfield 17, 3) := by decide +kernel
theorem d_CE_formulasInAll_14 : decode b_CE_formulasInAll 14 = .ok (.iload_n 2, 1) := by decide +kernel
theorem d_CE_formulasInAll_15 : decode b_CE_formulasInAll 15 = .ok (.aaload, 1) := by decide +kernel
theorem d_CE_formulasInAll_16 : decode b_CE_formulasInAll 16 = .ok (.ifnull 6, 3) := by decide +kernel
theorem d_CE_formulasInAll_19 : decode b_CE_formulasInAll 19 = .ok (.iinc 1 1, 3) := by decide +kernel
theorem d_CE_formulasInAll_22 : decode b_CE_formulasInAll 22 = .ok (.iinc 2 1, 3) := by decide +kernel
theorem d_CE_formulasInAll_25 : decode b_CE_formulasInAll 25 = .ok (.goto (-21), 3) := by decide +kernel
theorem d_CE_formulasInAll_28 : decode b_CE_formulasInAll 28 = .ok (.iload_n 1, 1) := by decide +kernel
theorem d_CE_formulasInAll_29 : decode b_CE_formulasInAll 29 = .ok (.ireturn, 1) := by decide +kernel
abbrev b_CE_isCircular : ByteArray := prog_4_method_15_code
def y_CE_isCircular : MethodName := ⟨"FormulaSheet$Cells", "isCircular", "(I)Z"⟩
theorem d_CE_isCircular_0 : decode b_CE_isCircular 0 = .ok (.aload_n 0, 1) := by decide +kernel
theorem d_CE_isCircular_1 : decode b_CE_isCircular 1 = .ok (.getfield 27, 3) := by decide +kernel
theorem d_CE_isCircular_4 : decode b_CE_isCircular 4 = .ok (.iload_n 1, 1) := by decide +kernel
theorem d_CE_isCircular_5 : decode b_CE_isCircular 5 = .ok (.aaload, 1) := by decide +kernel
theorem d_CE_isCircular_6 : decode b_CE_isCircular 6 = .ok (.iload_n 1, 1) := by decide +kernel
theorem d_CE_isCircular_7 : decode b_CE_isCircular 7 = .ok (.invokevirtual 83, 3) := by decide +kernel
theorem d_CE_isCircular_10 : decode b_CE_isCircular 10 = .ok (.ireturn, 1) := by decide +kernel
abbrev b_CE_goOnFrom : ByteArray := prog_4_method_18_code
def y_CE_goOnFrom : MethodName := ⟨"FormulaSheet$Cells", "goOnFrom", "(I)V"⟩
theorem d_CE_goOnFrom_0 : decode b_CE_goOnFrom 0 = .ok (.iconst 0, 1) := by decide +kernel
theorem d_CE_goOnFrom_1 : decode b_CE_goOnFrom 1 = .ok (.istore_n 2, 1) := by decide +kernel
theorem d_CE_goOnFrom_2 : decode b_CE_goOnFrom 2 = .ok (.iload_n 2, 1) := by decide +kernel
theorem d_CE_goOnFrom_3 : decode b_CE_goOnFrom 3 = .ok (.bipush 80, 2) := by decide +kernel
theorem d_CE_goOnFrom_5 : decode b_CE_goOnFrom 5 = .ok (.if_icmp .ge 37, 3) := by decide +kernel
theorem d_CE_goOnFrom_8 : decode b_CE_goOnFrom 8 = .ok (.aload_n 0, 1) := by decide +kernel
theorem d_CE_goOnFrom_9 : decode b_CE_goOnFrom 9 = .ok (.getfield 27, 3) := by decide +kernel
theorem d_CE_goOnFrom_12 : decode b_CE_goOnFrom 12 = .ok (.iload_n 2, 1) := by decide +kernel
theorem d_CE_goOnFrom_13 : decode b_CE_goOnFrom 13 = .ok (.aaload, 1) := by decide +kernel
theorem d_CE_goOnFrom_14 : decode b_CE_goOnFrom 14 = .ok (.iload_n 1, 1) := by decide +kernel
theorem d_CE_goOnFrom_15 : decode b_CE_goOnFrom 15 = .ok (.invokevirtual 83, 3) := by decide +kernel
theorem d_CE_goOnFrom_18 : decode b_CE_goOnFrom 18 = .ok (.ifCond .eq 18, 3) := by decide +kernel
theorem d_CE_goOnFrom_21 : decode b_CE_goOnFrom 21 = .ok (.aload_n 0, 1) := by decide +kernel
theorem d_CE_goOnFrom_22 : decode b_CE_goOnFrom 22 = .ok (.getfield 27, 3) := by decide +kernel
theorem d_CE_goOnFrom_25 : decode b_CE_goOnFrom 25 = .ok (.iload_n 2, 1) := by decide +kernel
theorem d_CE_goOnFrom_26 : decode b_CE_goOnFrom 26 = .ok (.aaload, 1) := by decide +kernel
theorem d_CE_goOnFrom_27 : decode b_CE_goOnFrom 27 = .ok (.aload_n 0, 1) := by decide +kernel
theorem d_CE_goOnFrom_28 : decode b_CE_goOnFrom 28 = .ok (.getfield 27, 3) := by decide +kernel
theorem d_CE_goOnFrom_31 : decode b_CE_goOnFrom 31 = .ok (.iload_n 1, 1) := by decide +kernel
theorem d_CE_goOnFrom_32 : decode b_CE_goOnFrom 32 = .ok (.aaload, 1) := by decide +kernel
theorem d_CE_goOnFrom_33 : decode b_CE_goOnFrom 33 = .ok (.invokevirtual 102, 3) := by decide +kernel
theorem d_CE_goOnFrom_36 : decode b_CE_goOnFrom 36 = .ok (.iinc 2 1, 3) := by decide +kernel
theorem d_CE_goOnFrom_39 : decode b_CE_goOnFrom 39 = .ok (.goto (-37), 3) := by decide +kernel
theorem d_CE_goOnFrom_42 : decode b_CE_goOnFrom 42 = .ok (.return_, 1) := by decide +kernel
abbrev b_CE_findReached : ByteArray := prog_4_method_17_code
def y_CE_findReached : MethodName := ⟨"FormulaSheet$Cells", "findReached", "()V"⟩
theorem d_CE_findReached_0 : decode b_CE_findReached 0 = .ok (.iconst 0, 1) := by decide +kernel
theorem d_CE_findReached_1 : decode b_CE_findReached 1 = .ok (.istore_n 1, 1) := by decide +kernel
theorem d_CE_findReached_2 : decode b_CE_findReached 2 = .ok (.iload_n 1, 1) := by decide +kernel
theorem d_CE_findReached_3 : decode b_CE_findReached 3 = .ok (.bipush 80, 2) := by decide +kernel
theorem d_CE_findReached_5 : decode b_CE_findReached 5 = .ok (.if_icmp .ge 42, 3) := by decide +kernel
theorem d_CE_findReached_8 : decode b_CE_findReached 8 = .ok (.aload_n 0, 1) := by decide +kernel
theorem d_CE_findReached_9 : decode b_CE_findReached 9 = .ok (.getfield 27, 3) := by decide +kernel
theorem d_CE_findReached_12 : decode b_CE_findReached 12 = .ok (.iload_n 1, 1) := by decide +kernel
theorem d_CE_findReached_13 : decode b_CE_findReached 13 = .ok (.aaload, 1) := by decide +kernel
theorem d_CE_findReached_14 : decode b_CE_findReached 14 = .ok (.invokevirtual 92, 3) := by decide +kernel
theorem d_CE_findReached_17 : decode b_CE_findReached 17 = .ok (.aload_n 0, 1) := by decide +kernel
theorem d_CE_findReached_18 : decode b_CE_findReached 18 = .ok (.getfield 17, 3) := by decide +kernel
theorem d_CE_findReached_21 : decode b_CE_findReached 21 = .ok (.iload_n 1, 1) := by decide +kernel
theorem d_CE_findReached_22 : decode b_CE_findReached 22 = .ok (.aaload, 1) := by decide +kernel
theorem d_CE_findReached_23 : decode b_CE_findReached 23 = .ok (.ifnull 18, 3) := by decide +kernel
theorem d_CE_findReached_26 : decode b_CE_findReached 26 = .ok (.aload_n 0, 1) := by decide +kernel
theorem d_CE_findReached_27 : decode b_CE_findReached 27 = .ok (.getfield 17, 3) := by decide +kernel
theorem d_CE_findReached_30 : decode b_CE_findReached 30 = .ok (.iload_n 1, 1) := by decide +kernel
theorem d_CE_findReached_31 : decode b_CE_findReached 31 = .ok (.aaload, 1) := by decide +kernel
theorem d_CE_findReached_32 : decode b_CE_findReached 32 = .ok (.aload_n 0, 1) := by decide +kernel
theorem d_CE_findReached_33 : decode b_CE_findReached 33 = .ok (.getfield 27, 3) := by decide +kernel
theorem d_CE_findReached_36 : decode b_CE_findReached 36 = .ok (.iload_n 1, 1) := by decide +kernel
theorem d_CE_findReached_37 : decode b_CE_findReached 37 = .ok (.aaload, 1) := by decide +kernel
theorem d_CE_findReached_38 : decode b_CE_findReached 38 = .ok (.invokevirtual 95, 3) := by decide +kernel
theorem d_CE_findReached_41 : decode b_CE_findReached 41 = .ok (.iinc 1 1, 3) := by decide +kernel
theorem d_CE_findReached_44 : decode b_CE_findReached 44 = .ok (.goto (-42), 3) := by decide +kernel
theorem d_CE_findReached_47 : decode b_CE_findReached 47 = .ok (.iconst 0, 1) := by decide +kernel
theorem d_CE_findReached_48 : decode b_CE_findReached 48 = .ok (.istore_n 1, 1) := by decide +kernel
theorem d_CE_findReached_49 : decode b_CE_findReached 49 = .ok (.iload_n 1, 1) := by decide +kernel
theorem d_CE_findReached_50 : decode b_CE_findReached 50 = .ok (.bipush 80, 2) := by decide +kernel
theorem d_CE_findReached_52 : decode b_CE_findReached 52 = .ok (.if_icmp .ge 23, 3) := by decide +kernel
theorem d_CE_findReached_55 : decode b_CE_findReached 55 = .ok (.aload_n 0, 1) := by decide +kernel
theorem d_CE_findReached_56 : decode b_CE_findReached 56 = .ok (.getfield 17, 3) := by decide +kernel
theorem d_CE_findReached_59 : decode b_CE_findReached 59 = .ok (.iload_n 1, 1) := by decide +kernel
theorem d_CE_findReached_60 : decode b_CE_findReached 60 = .ok (.aaload, 1) := by decide +kernel
theorem d_CE_findReached_61 : decode b_CE_findReached 61 = .ok (.ifnull 8, 3) := by decide +kernel
theorem d_CE_findReached_64 : decode b_CE_findReached 64 = .ok (.aload_n 0, 1) := by decide +kernel
theorem d_CE_findReached_65 : decode b_CE_findReached 65 = .ok (.iload_n 1, 1) := by decide +kernel
theorem d_CE_findReached_66 : decode b_CE_findReached 66 = .ok (.invokevirtual 99, 3) := by decide +kernel
theorem d_CE_findReached_69 : decode b_CE_findReached 69 = .ok (.iinc 1 1, 3) := by decide +kernel
theorem d_CE_findReached_72 : decode b_CE_findReached 72 = .ok (.goto (-23), 3) := by decide +kernel
theorem d_CE_findReached_75 : decode b_CE_findReached 75 = .ok (.return_, 1) := by decide +kernel
abbrev b_CE_placeInOrder : ByteArray := prog_4_method_20_code
def y_CE_placeInOrder : MethodName := ⟨"FormulaSheet$Cells", "placeInOrder", "(II)V"⟩
theorem d_CE_placeInOrder_0 : decode b_CE_placeInOrder 0 = .ok (.aload_n 0, 1) := by decide +kernel
theorem d_CE_placeInOrder_1 : decode b_CE_placeInOrder 1 = .ok (.getfield 27, 3) := by decide +kernel
theorem d_CE_placeInOrder_4 : decode b_CE_placeInOrder 4 = .ok (.iload_n 1, 1) := by decide +kernel
theorem d_CE_placeInOrder_5 : decode b_CE_placeInOrder 5 = .ok (.aaload, 1) := by decide +kernel
theorem d_CE_placeInOrder_6 : decode b_CE_placeInOrder 6 = .ok (.invokevirtual 114, 3) := by decide +kernel
theorem d_CE_placeInOrder_9 : decode b_CE_placeInOrder 9 = .ok (.istore_n 3, 1) := by decide +kernel
theorem d_CE_placeInOrder_10 : decode b_CE_placeInOrder 10 = .ok (.iload_n 2, 1) := by decide +kernel
theorem d_CE_placeInOrder_11 : decode b_CE_placeInOrder 11 = .ok (.istore 4, 2) := by decide +kernel
theorem d_CE_placeInOrder_13 : decode b_CE_placeInOrder 13 = .ok (.iload 4, 2) := by decide +kernel
theorem d_CE_placeInOrder_15 : decode b_CE_placeInOrder 15 = .ok (.ifCond .le 46, 3) := by decide +kernel
theorem d_CE_placeInOrder_18 : decode b_CE_placeInOrder 18 = .ok (.aload_n 0, 1) := by decide +kernel
theorem d_CE_placeInOrder_19 : decode b_CE_placeInOrder 19 = .ok (.getfield 27, 3) := by decide +kernel
theorem d_CE_placeInOrder_22 : decode b_CE_placeInOrder 22 = .ok (.aload_n 0, 1) := by decide +kernel
theorem d_CE_placeInOrder_23 : decode b_CE_placeInOrder 23 = .ok (.getfield 34, 3) := by decide +kernel
theorem d_CE_placeInOrder_26 : decode b_CE_placeInOrder 26 = .ok (.iload 4, 2) := by decide +kernel
theorem d_CE_placeInOrder_28 : decode b_CE_placeInOrder 28 = .ok (.iconst 1, 1) := by decide +kernel
theorem d_CE_placeInOrder_29 : decode b_CE_placeInOrder 29 = .ok (.isub, 1) := by decide +kernel
theorem d_CE_placeInOrder_30 : decode b_CE_placeInOrder 30 = .ok (.iaload, 1) := by decide +kernel
theorem d_CE_placeInOrder_31 : decode b_CE_placeInOrder 31 = .ok (.aaload, 1) := by decide +kernel
theorem d_CE_placeInOrder_32 : decode b_CE_placeInOrder 32 = .ok (.invokevirtual 114, 3) := by decide +kernel
theorem d_CE_placeInOrder_35 : decode b_CE_placeInOrder 35 = .ok (.iload_n 3, 1) := by decide +kernel
theorem d_CE_placeInOrder_36 : decode b_CE_placeInOrder 36 = .ok (.if_icmp .le 25, 3) := by decide +kernel
theorem d_CE_placeInOrder_39 : decode b_CE_placeInOrder 39 = .ok (.aload_n 0, 1) := by decide +kernel
theorem d_CE_placeInOrder_40 : decode b_CE_placeInOrder 40 = .ok (.getfield 34, 3) := by decide +kernel
theorem d_CE_placeInOrder_43 : decode b_CE_placeInOrder 43 = .ok (.iload 4, 2) := by decide +kernel
theorem d_CE_placeInOrder_45 : decode b_CE_placeInOrder 45 = .ok (.aload_n 0, 1) := by decide +kernel
theorem d_CE_placeInOrder_46 : decode b_CE_placeInOrder 46 = .ok (.getfield 34, 3) := by decide +kernel
theorem d_CE_placeInOrder_49 : decode b_CE_placeInOrder 49 = .ok (.iload 4, 2) := by decide +kernel
theorem d_CE_placeInOrder_51 : decode b_CE_placeInOrder 51 = .ok (.iconst 1, 1) := by decide +kernel
theorem d_CE_placeInOrder_52 : decode b_CE_placeInOrder 52 = .ok (.isub, 1) := by decide +kernel
theorem d_CE_placeInOrder_53 : decode b_CE_placeInOrder 53 = .ok (.iaload, 1) := by decide +kernel
theorem d_CE_placeInOrder_54 : decode b_CE_placeInOrder 54 = .ok (.iastore, 1) := by decide +kernel
theorem d_CE_placeInOrder_55 : decode b_CE_placeInOrder 55 = .ok (.iinc 4 (-1), 3) := by decide +kernel
theorem d_CE_placeInOrder_58 : decode b_CE_placeInOrder 58 = .ok (.goto (-45), 3) := by decide +kernel
theorem d_CE_placeInOrder_61 : decode b_CE_placeInOrder 61 = .ok (.aload_n 0, 1) := by decide +kernel
theorem d_CE_placeInOrder_62 : decode b_CE_placeInOrder 62 = .ok (.getfield 34, 3) := by decide +kernel
theorem d_CE_placeInOrder_65 : decode b_CE_placeInOrder 65 = .ok (.iload 4, 2) := by decide +kernel
theorem d_CE_placeInOrder_67 : decode b_CE_placeInOrder 67 = .ok (.iload_n 1, 1) := by decide +kernel
theorem d_CE_placeInOrder_68 : decode b_CE_placeInOrder 68 = .ok (.iastore, 1) := by decide +kernel
theorem d_CE_placeInOrder_69 : decode b_CE_placeInOrder 69 = .ok (.return_, 1) := by decide +kernel
abbrev b_CE_workOut : ByteArray := prog_4_method_19_code
def y_CE_workOut : MethodName := ⟨"FormulaSheet$Cells", "workOut", "()V"⟩
theorem d_CE_workOut_0 : decode b_CE_workOut 0 = .ok (.iconst 0, 1) := by decide +kernel
theorem d_CE_workOut_1 : decode b_CE_workOut 1 = .ok (.istore_n 1, 1) := by decide +kernel
theorem d_CE_workOut_2 : decode b_CE_workOut 2 = .ok (.iconst 0, 1) := by decide +kernel
theorem d_CE_workOut_3 : decode b_CE_workOut 3 = .ok (.istore_n 2, 1) := by decide +kernel
theorem d_CE_workOut_4 : decode b_CE_workOut 4 = .ok (.iload_n 2, 1) := by decide +kernel
theorem d_CE_workOut_5 : decode b_CE_workOut 5 = .ok (.bipush 80, 2) := by decide +kernel
theorem d_CE_workOut_7 : decode b_CE_workOut 7 = .ok (.if_icmp .ge 47, 3) := by decide +kernel
theorem d_CE_workOut_10 : decode b_CE_workOut 10 = .ok (.aload_n 0, 1) := by decide +kernel
theorem d_CE_workOut_11 : decode b_CE_workOut 11 = .ok (.iload_n 2, 1) := by decide +kernel
theorem d_CE_workOut_12 : decode b_CE_workOut 12 = .ok (.invokevirtual 71, 3) := by decide +kernel
theorem d_CE_workOut_15 : decode b_CE_workOut 15 = .ok (.ifCond .eq 15, 3) := by decide +kernel
theorem d_CE_workOut_18 : decode b_CE_workOut 18 = .ok (.aload_n 0, 1) := by decide +kernel
theorem d_CE_workOut_19 : decode b_CE_workOut 19 = .ok (.getfield 21, 3) := by decide +kernel
theorem d_CE_workOut_22 : decode b_CE_workOut 22 = .ok (.iload_n 2, 1) := by decide +kernel
theorem d_CE_workOut_23 : decode b_CE_workOut 23 = .ok (.ldc2_w 105, 3) := by decide +kernel
theorem d_CE_workOut_26 : decode b_CE_workOut 26 = .ok (.dastore, 1) := by decide +kernel
theorem d_CE_workOut_27 : decode b_CE_workOut 27 = .ok (.goto 21, 3) := by decide +kernel
theorem d_CE_workOut_30 : decode b_CE_workOut 30 = .ok (.aload_n 0, 1) := by decide +kernel
theorem d_CE_workOut_31 : decode b_CE_workOut 31 = .ok (.getfield 17, 3) := by decide +kernel
theorem d_CE_workOut_34 : decode b_CE_workOut 34 = .ok (.iload_n 2, 1) := by decide +kernel
theorem d_CE_workOut_35 : decode b_CE_workOut 35 = .ok (.aaload, 1) := by decide +kernel
theorem d_CE_workOut_36 : decode b_CE_workOut 36 = .ok (.ifnull 12, 3) := by decide +kernel
theorem d_CE_workOut_39 : decode b_CE_workOut 39 = .ok (.aload_n 0, 1) := by decide +kernel
theorem d_CE_workOut_40 : decode b_CE_workOut 40 = .ok (.iload_n 2, 1) := by decide +kernel
theorem d_CE_workOut_41 : decode b_CE_workOut 41 = .ok (.iload_n 1, 1) := by decide +kernel
theorem d_CE_workOut_42 : decode b_CE_workOut 42 = .ok (.invokevirtual 107, 3) := by decide +kernel
theorem d_CE_workOut_45 : decode b_CE_workOut 45 = .ok (.iinc 1 1, 3) := by decide +kernel
theorem d_CE_workOut_48 : decode b_CE_workOut 48 = .ok (.iinc 2 1, 3) := by decide +kernel
theorem d_CE_workOut_51 : decode b_CE_workOut 51 = .ok (.goto (-47), 3) := by decide +kernel
theorem d_CE_workOut_54 : decode b_CE_workOut 54 = .ok (.iconst 0, 1) := by decide +kernel
theorem d_CE_workOut_55 : decode b_CE_workOut 55 = .ok (.istore_n 2, 1) := by decide +kernel
theorem d_CE_workOut_56 : decode b_CE_workOut 56 = .ok (.iload_n 2, 1) := by decide +kernel
theorem d_CE_workOut_57 : decode b_CE_workOut 57 = .ok (.iload_n 1, 1) := by decide +kernel
theorem d_CE_workOut_58 : decode b_CE_workOut 58 = .ok (.if_icmp .ge 35, 3) := by decide +kernel
theorem d_CE_workOut_61 : decode b_CE_workOut 61 = .ok (.aload_n 0, 1) := by decide +kernel
theorem d_CE_workOut_62 : decode b_CE_workOut 62 = .ok (.getfield 21, 3) := by decide +kernel
theorem d_CE_workOut_65 : decode b_CE_workOut 65 = .ok (.aload_n 0, 1) := by decide +kernel
theorem d_CE_workOut_66 : decode b_CE_workOut 66 = .ok (.getfield 34, 3) := by decide +kernel
theorem d_CE_workOut_69 : decode b_CE_workOut 69 = .ok (.iload_n 2, 1) := by decide +kernel
theorem d_CE_workOut_70 : decode b_CE_workOut 70 = .ok (.iaload, 1) := by decide +kernel
theorem d_CE_workOut_71 : decode b_CE_workOut 71 = .ok (.aload_n 0, 1) := by decide +kernel
theorem d_CE_workOut_72 : decode b_CE_workOut 72 = .ok (.getfield 17, 3) := by decide +kernel
theorem d_CE_workOut_75 : decode b_CE_workOut 75 = .ok (.aload_n 0, 1) := by decide +kernel
theorem d_CE_workOut_76 : decode b_CE_workOut 76 = .ok (.getfield 34, 3) := by decide +kernel
theorem d_CE_workOut_79 : decode b_CE_workOut 79 = .ok (.iload_n 2, 1) := by decide +kernel
theorem d_CE_workOut_80 : decode b_CE_workOut 80 = .ok (.iaload, 1) := by decide +kernel
theorem d_CE_workOut_81 : decode b_CE_workOut 81 = .ok (.aaload, 1) := by decide +kernel
theorem d_CE_workOut_82 : decode b_CE_workOut 82 = .ok (.aload_n 0, 1) := by decide +kernel
theorem d_CE_workOut_83 : decode b_CE_workOut 83 = .ok (.invokevirtual 110, 3) := by decide +kernel
theorem d_CE_workOut_86 : decode b_CE_workOut 86 = .ok (.dastore, 1) := by decide +kernel
theorem d_CE_workOut_87 : decode b_CE_workOut 87 = .ok (.iinc 2 1, 3) := by decide +kernel
theorem d_CE_workOut_90 : decode b_CE_workOut 90 = .ok (.goto (-34), 3) := by decide +kernel
theorem d_CE_workOut_93 : decode b_CE_workOut 93 = .ok (.return_, 1) := by decide +kernel
abbrev b_CE_settle : ByteArray := prog_4_method_16_code
def y_CE_settle : MethodName := ⟨"FormulaSheet$Cells", "settle", "()V"⟩
theorem d_CE_settle_0 : decode b_CE_settle 0 = .ok (.aload_n 0, 1) := by decide +kernel
theorem d_CE_settle_1 : decode b_CE_settle 1 = .ok (.getfield 43, 3) := by decide +kernel
theorem d_CE_settle_4 : decode b_CE_settle 4 = .ok (.ifCond .eq 4, 3) := by decide +kernel
theorem d_CE_settle_7 : decode b_CE_settle 7 = .ok (.return_, 1) := by decide +kernel
theorem d_CE_settle_8 : decode b_CE_settle 8 = .ok (.aload_n 0, 1) := by decide +kernel
theorem d_CE_settle_9 : decode b_CE_settle 9 = .ok (.invokevirtual 86, 3) := by decide +kernel
theorem d_CE_settle_12 : decode b_CE_settle 12 = .ok (.aload_n 0, 1) := by decide +kernel
theorem d_CE_settle_13 : decode b_CE_settle 13 = .ok (.invokevirtual 89, 3) := by decide +kernel
theorem d_CE_settle_16 : decode b_CE_settle 16 = .ok (.aload_n 0, 1) := by decide +kernel
theorem d_CE_settle_17 : decode b_CE_settle 17 = .ok (.iconst 1, 1) := by decide +kernel
theorem d_CE_settle_18 : decode b_CE_settle 18 = .ok (.putfield 43, 3) := by decide +kernel
theorem d_CE_settle_21 : decode b_CE_settle 21 = .ok (.return_, 1) := by decide +kernel
abbrev b_CE_rowIn : ByteArray := prog_4_method_6_code
def y_CE_rowIn : MethodName := ⟨"FormulaSheet$Cells", "rowIn", "(I)I"⟩
theorem d_CE_rowIn_0 : decode b_CE_rowIn 0 = .ok (.aload_n 0, 1) := by decide +kernel
theorem d_CE_rowIn_1 : decode b_CE_rowIn 1 = .ok (.bipush 72, 2) := by decide +kernel
theorem d_CE_rowIn_3 : decode b_CE_rowIn 3 = .ok (.bipush 80, 2) := by decide +kernel
theorem d_CE_rowIn_5 : decode b_CE_rowIn 5 = .ok (.invokevirtual 47, 3) := by decide +kernel
theorem d_CE_rowIn_8 : decode b_CE_rowIn 8 = .ok (.istore_n 2, 1) := by decide +kernel
theorem d_CE_rowIn_9 : decode b_CE_rowIn 9 = .ok (.bipush 79, 2) := by decide +kernel
theorem d_CE_rowIn_11 : decode b_CE_rowIn 11 = .ok (.istore_n 3, 1) := by decide +kernel
theorem d_CE_rowIn_12 : decode b_CE_rowIn 12 = .ok (.iload_n 3, 1) := by decide +kernel
theorem d_CE_rowIn_13 : decode b_CE_rowIn 13 = .ok (.iload_n 1, 1) := by decide +kernel
theorem d_CE_rowIn_14 : decode b_CE_rowIn 14 = .ok (.iconst 1, 1) := by decide +kernel
theorem d_CE_rowIn_15 : decode b_CE_rowIn 15 = .ok (.iadd, 1) := by decide +kernel
theorem d_CE_rowIn_16 : decode b_CE_rowIn 16 = .ok (.bipush 8, 2) := by decide +kernel
theorem d_CE_rowIn_18 : decode b_CE_rowIn 18 = .ok (.imul, 1) := by decide +kernel
theorem d_CE_rowIn_19 : decode b_CE_rowIn 19 = .ok (.if_icmp .lt 18, 3) := by decide +kernel
theorem d_CE_rowIn_22 : decode b_CE_rowIn 22 = .ok (.aload_n 0, 1) := by decide +kernel
theorem d_CE_rowIn_23 : decode b_CE_rowIn 23 = .ok (.iload_n 3, 1) := by decide +kernel
theorem d_CE_rowIn_24 : decode b_CE_rowIn 24 = .ok (.iload_n 3, 1) := by decide +kernel
theorem d_CE_rowIn_25 : decode b_CE_rowIn 25 = .ok (.bipush 8, 2) := by decide +kernel
theorem d_CE_rowIn_27 : decode b_CE_rowIn 27 = .ok (.isub, 1) := by decide +kernel
theorem d_CE_rowIn_28 : decode b_CE_rowIn 28 = .ok (.invokevirtual 51, 3) := by decide +kernel
theorem d_CE_rowIn_31 : decode b_CE_rowIn 31 = .ok (.iinc 3 (-1), 3) := by decide +kernel
theorem d_CE_rowIn_34 : decode b_CE_rowIn 34 = .ok (.goto (-22), 3) := by decide +kernel
theorem d_CE_rowIn_37 : decode b_CE_rowIn 37 = .ok (.aload_n 0, 1) := by decide +kernel
theorem d_CE_rowIn_38 : decode b_CE_rowIn 38 = .ok (.iload_n 1, 1) := by decide +kernel
theorem d_CE_rowIn_39 : decode b_CE_rowIn 39 = .ok (.invokevirtual 55, 3) := by decide +kernel
theorem d_CE_rowIn_42 : decode b_CE_rowIn 42 = .ok (.iconst 0, 1) := by decide +kernel
theorem d_CE_rowIn_43 : decode b_CE_rowIn 43 = .ok (.istore_n 3, 1) := by decide +kernel
theorem d_CE_rowIn_44 : decode b_CE_rowIn 44 = .ok (.iload_n 3, 1) := by decide +kernel
theorem d_CE_rowIn_45 : decode b_CE_rowIn 45 = .ok (.bipush 80, 2) := by decide +kernel
theorem d_CE_rowIn_47 : decode b_CE_rowIn 47 = .ok (.if_icmp .ge 28, 3) := by decide +kernel
theorem d_CE_rowIn_50 : decode b_CE_rowIn 50 = .ok (.aload_n 0, 1) := by decide +kernel
theorem d_CE_rowIn_51 : decode b_CE_rowIn 51 = .ok (.getfield 17, 3) := by decide +kernel
theorem d_CE_rowIn_54 : decode b_CE_rowIn 54 = .ok (.iload_n 3, 1) := by decide +kernel
theorem d_CE_rowIn_55 : decode b_CE_rowIn 55 = .ok (.aaload, 1) := by decide +kernel
theorem d_CE_rowIn_56 : decode b_CE_rowIn 56 = .ok (.ifnull 13, 3) := by decide +kernel
theorem d_CE_rowIn_59 : decode b_CE_rowIn 59 = .ok (.aload_n 0, 1) := by decide +kernel
theorem d_CE_rowIn_60 : decode b_CE_rowIn 60 = .ok (.getfield 17, 3) := by decide +kernel
theorem d_CE_rowIn_63 : decode b_CE_rowIn 63 = .ok (.iload_n 3, 1) := by decide +kernel
theorem d_CE_rowIn_64 : decode b_CE_rowIn 64 = .ok (.aaload, 1) := by decide +kernel
theorem d_CE_rowIn_65 : decode b_CE_rowIn 65 = .ok (.iload_n 1, 1) := by decide +kernel
theorem d_CE_rowIn_66 : decode b_CE_rowIn 66 = .ok (.invokevirtual 59, 3) := by decide +kernel
theorem d_CE_rowIn_69 : decode b_CE_rowIn 69 = .ok (.iinc 3 1, 3) := by decide +kernel
theorem d_CE_rowIn_72 : decode b_CE_rowIn 72 = .ok (.goto (-28), 3) := by decide +kernel
theorem d_CE_rowIn_75 : decode b_CE_rowIn 75 = .ok (.iload_n 2, 1) := by decide +kernel
theorem d_CE_rowIn_76 : decode b_CE_rowIn 76 = .ok (.ireturn, 1) := by decide +kernel
abbrev b_CE_rowOut : ByteArray := prog_4_method_7_code
def y_CE_rowOut : MethodName := ⟨"FormulaSheet$Cells", "rowOut", "(I)I"⟩
theorem d_CE_rowOut_0 : decode b_CE_rowOut 0 = .ok (.aload_n 0, 1) := by decide +kernel
theorem d_CE_rowOut_1 : decode b_CE_rowOut 1 = .ok (.iload_n 1, 1) := by decide +kernel
theorem d_CE_rowOut_2 : decode b_CE_rowOut 2 = .ok (.bipush 8, 2) := by decide +kernel
theorem d_CE_rowOut_4 : decode b_CE_rowOut 4 = .ok (.imul, 1) := by decide +kernel
theorem d_CE_rowOut_5 : decode b_CE_rowOut 5 = .ok (.iload_n 1, 1) := by decide +kernel
theorem d_CE_rowOut_6 : decode b_CE_rowOut 6 = .ok (.iconst 1, 1) := by decide +kernel
theorem d_CE_rowOut_7 : decode b_CE_rowOut 7 = .ok (.iadd, 1) := by decide +kernel
theorem d_CE_rowOut_8 : decode b_CE_rowOut 8 = .ok (.bipush 8, 2) := by decide +kernel
theorem d_CE_rowOut_10 : decode b_CE_rowOut 10 = .ok (.imul, 1) := by decide +kernel
theorem d_CE_rowOut_11 : decode b_CE_rowOut 11 = .ok (.invokevirtual 47, 3) := by decide +kernel
theorem d_CE_rowOut_14 : decode b_CE_rowOut 14 = .ok (.istore_n 2, 1) := by decide +kernel
theorem d_CE_rowOut_15 : decode b_CE_rowOut 15 = .ok (.iload_n 1, 1) := by decide +kernel
theorem d_CE_rowOut_16 : decode b_CE_rowOut 16 = .ok (.bipush 8, 2) := by decide +kernel
theorem d_CE_rowOut_18 : decode b_CE_rowOut 18 = .ok (.imul, 1) := by decide +kernel
theorem d_CE_rowOut_19 : decode b_CE_rowOut 19 = .ok (.istore_n 3, 1) := by decide +kernel
theorem d_CE_rowOut_20 : decode b_CE_rowOut 20 = .ok (.iload_n 3, 1) := by decide +kernel
theorem d_CE_rowOut_21 : decode b_CE_rowOut 21 = .ok (.bipush 72, 2) := by decide +kernel
theorem d_CE_rowOut_23 : decode b_CE_rowOut 23 = .ok (.if_icmp .ge 18, 3) := by decide +kernel
theorem d_CE_rowOut_26 : decode b_CE_rowOut 26 = .ok (.aload_n 0, 1) := by decide +kernel
theorem d_CE_rowOut_27 : decode b_CE_rowOut 27 = .ok (.iload_n 3, 1) := by decide +kernel
theorem d_CE_rowOut_28 : decode b_CE_rowOut 28 = .ok (.iload_n 3, 1) := by decide +kernel
theorem d_CE_rowOut_29 : decode b_CE_rowOut 29 = .ok (.bipush 8, 2) := by decide +kernel
theorem d_CE_rowOut_31 : decode b_CE_rowOut 31 = .ok (.iadd, 1) := by decide +kernel
theorem d_CE_rowOut_32 : decode b_CE_rowOut 32 = .ok (.invokevirtual 51, 3) := by decide +kernel
theorem d_CE_rowOut_35 : decode b_CE_rowOut 35 = .ok (.iinc 3 1, 3) := by decide +kernel
theorem d_CE_rowOut_38 : decode b_CE_rowOut 38 = .ok (.goto (-18), 3) := by decide +kernel
theorem d_CE_rowOut_41 : decode b_CE_rowOut 41 = .ok (.aload_n 0, 1) := by decide +kernel
theorem d_CE_rowOut_42 : decode b_CE_rowOut 42 = .ok (.bipush 9, 2) := by decide +kernel
theorem d_CE_rowOut_44 : decode b_CE_rowOut 44 = .ok (.invokevirtual 55, 3) := by decide +kernel
theorem d_CE_rowOut_47 : decode b_CE_rowOut 47 = .ok (.iconst 0, 1) := by decide +kernel
theorem d_CE_rowOut_48 : decode b_CE_rowOut 48 = .ok (.istore_n 3, 1) := by decide +kernel
theorem d_CE_rowOut_49 : decode b_CE_rowOut 49 = .ok (.iload_n 3, 1) := by decide +kernel
theorem d_CE_rowOut_50 : decode b_CE_rowOut 50 = .ok (.bipush 80, 2) := by decide +kernel
theorem d_CE_rowOut_52 : decode b_CE_rowOut 52 = .ok (.if_icmp .ge 28, 3) := by decide +kernel
theorem d_CE_rowOut_55 : decode b_CE_rowOut 55 = .ok (.aload_n 0, 1) := by decide +kernel
theorem d_CE_rowOut_56 : decode b_CE_rowOut 56 = .ok (.getfield 17, 3) := by decide +kernel
theorem d_CE_rowOut_59 : decode b_CE_rowOut 59 = .ok (.iload_n 3, 1) := by decide +kernel
theorem d_CE_rowOut_60 : decode b_CE_rowOut 60 = .ok (.aaload, 1) := by decide +kernel
theorem d_CE_rowOut_61 : decode b_CE_rowOut 61 = .ok (.ifnull 13, 3) := by decide +kernel
theorem d_CE_rowOut_64 : decode b_CE_rowOut 64 = .ok (.aload_n 0, 1) := by decide +kernel
theorem d_CE_rowOut_65 : decode b_CE_rowOut 65 = .ok (.getfield 17, 3) := by decide +kernel
theorem d_CE_rowOut_68 : decode b_CE_rowOut 68 = .ok (.iload_n 3, 1) := by decide +kernel
theorem d_CE_rowOut_69 : decode b_CE_rowOut 69 = .ok (.aaload, 1) := by decide +kernel
theorem d_CE_rowOut_70 : decode b_CE_rowOut 70 = .ok (.iload_n 1, 1) := by decide +kernel
theorem d_CE_rowOut_71 : decode b_CE_rowOut 71 = .ok (.invokevirtual 62, 3) := by decide +kernel
theorem d_CE_rowOut_74 : decode b_CE_rowOut 74 = .ok (.iinc 3 1, 3) := by decide +kernel
theorem d_CE_rowOut_77 : decode b_CE_rowOut 77 = .ok (.goto (-28), 3) := by decide +kernel
theorem d_CE_rowOut_80 : decode b_CE_rowOut 80 = .ok (.iload_n 2, 1) := by decide +kernel
theorem d_CE_rowOut_81 : decode b_CE_rowOut 81 = .ok (.ireturn, 1) := by decide +kernel
abbrev b_CE_circularInAll : ByteArray := prog_4_method_12_code
def y_CE_circularInAll : MethodName := ⟨"FormulaSheet$Cells", "circularInAll", "()I"⟩
theorem d_CE_circularInAll_0 : decode b_CE_circularInAll 0 = .ok (.aload_n 0, 1) := by decide +kernel
theorem d_CE_circularInAll_1 : decode b_CE_circularInAll 1 = .ok (.invokevirtual 68, 3) := by decide +kernel
theorem d_CE_circularInAll_4 : decode b_CE_circularInAll 4 = .ok (.iconst 0, 1) := by decide +kernel
theorem d_CE_circularInAll_5 : decode b_CE_circularInAll 5 = .ok (.istore_n 1, 1) := by decide +kernel
theorem d_CE_circularInAll_6 : decode b_CE_circularInAll 6 = .ok (.iconst 0, 1) := by decide +kernel
theorem d_CE_circularInAll_7 : decode b_CE_circularInAll 7 = .ok (.istore_n 2, 1) := by decide +kernel
theorem d_CE_circularInAll_8 : decode b_CE_circularInAll 8 = .ok (.iload_n 2, 1) := by decide +kernel
theorem d_CE_circularInAll_9 : decode b_CE_circularInAll 9 = .ok (.bipush 80, 2) := by decide +kernel
theorem d_CE_circularInAll_11 : decode b_CE_circularInAll 11 = .ok (.if_icmp .ge 20, 3) := by decide +kernel
theorem d_CE_circularInAll_14 : decode b_CE_circularInAll 14 = .ok (.aload_n 0, 1) := by decide +kernel
theorem d_CE_circularInAll_15 : decode b_CE_circularInAll 15 = .ok (.iload_n 2, 1) := by decide +kernel
theorem d_CE_circularInAll_16 : decode b_CE_circularInAll 16 = .ok (.invokevirtual 71, 3) := by decide +kernel
theorem d_CE_circularInAll_19 : decode b_CE_circularInAll 19 = .ok (.ifCond .eq 6, 3) := by decide +kernel
theorem d_CE_circularInAll_22 : decode b_CE_circularInAll 22 = .ok (.iinc 1 1, 3) := by decide +kernel
theorem d_CE_circularInAll_25 : decode b_CE_circularInAll 25 = .ok (.iinc 2 1, 3) := by decide +kernel
theorem d_CE_circularInAll_28 : decode b_CE_circularInAll 28 = .ok (.goto (-20), 3) := by decide +kernel
theorem d_CE_circularInAll_31 : decode b_CE_circularInAll 31 = .ok (.iload_n 1, 1) := by decide +kernel
theorem d_CE_circularInAll_32 : decode b_CE_circularInAll 32 = .ok (.ireturn, 1) := by decide +kernel
abbrev b_CE_badInAll : ByteArray := prog_4_method_13_code
def y_CE_badInAll : MethodName := ⟨"FormulaSheet$Cells", "badInAll", "()I"⟩
theorem d_CE_badInAll_0 : decode b_CE_badInAll 0 = .ok (.aload_n 0, 1) := by decide +kernel
theorem d_CE_badInAll_1 : decode b_CE_badInAll 1 = .ok (.invokevirtual 68, 3) := by decide +kernel
theorem d_CE_badInAll_4 : decode b_CE_badInAll 4 = .ok (.iconst 0, 1) := by decide +kernel
theorem d_CE_badInAll_5 : decode b_CE_badInAll 5 = .ok (.istore_n 1, 1) := by decide +kernel
theorem d_CE_badInAll_6 : decode b_CE_badInAll 6 = .ok (.iconst 0, 1) := by decide +kernel
theorem d_CE_badInAll_7 : decode b_CE_badInAll 7 = .ok (.istore_n 2, 1) := by decide +kernel
theorem d_CE_badInAll_8 : decode b_CE_badInAll 8 = .ok (.iload_n 2, 1) := by decide +kernel
theorem d_CE_badInAll_9 : decode b_CE_badInAll 9 = .ok (.bipush 80, 2) := by decide +kernel
theorem d_CE_badInAll_11 : decode b_CE_badInAll 11 = .ok (.if_icmp .ge 24, 3) := by decide +kernel
theorem d_CE_badInAll_14 : decode b_CE_badInAll 14 = .ok (.aload_n 0, 1) := by decide +kernel
theorem d_CE_badInAll_15 : decode b_CE_badInAll 15 = .ok (.getfield 21, 3) := by decide +kernel
theorem d_CE_badInAll_18 : decode b_CE_badInAll 18 = .ok (.iload_n 2, 1) := by decide +kernel
theorem d_CE_badInAll_19 : decode b_CE_badInAll 19 = .ok (.daload, 1) := by decide +kernel
theorem d_CE_badInAll_20 : decode b_CE_badInAll 20 = .ok (.invokestatic 75, 3) := by decide +kernel
theorem d_CE_badInAll_23 : decode b_CE_badInAll 23 = .ok (.ifCond .eq 6, 3) := by decide +kernel
theorem d_CE_badInAll_26 : decode b_CE_badInAll 26 = .ok (.iinc 1 1, 3) := by decide +kernel
theorem d_CE_badInAll_29 : decode b_CE_badInAll 29 = .ok (.iinc 2 1, 3) := by decide +kernel
theorem d_CE_badInAll_32 : decode b_CE_badInAll 32 = .ok (.goto (-24), 3) := by decide +kernel
theorem d_CE_badInAll_35 : decode b_CE_badInAll 35 = .ok (.iload_n 1, 1) := by decide +kernel
theorem d_CE_badInAll_36 : decode b_CE_badInAll 36 = .ok (.ireturn, 1) := by decide +kernel
abbrev b_CE_lostInAll : ByteArray := prog_4_method_14_code
def y_CE_lostInAll : MethodName := ⟨"FormulaSheet$Cells", "lostInAll", "()I"⟩
theorem d_CE_lostInAll_0 : decode b_CE_lostInAll 0 = .ok (.iconst 0, 1) := by decide +kernel
theorem d_CE_lostInAll_1 : decode b_CE_lostInAll 1 = .ok (.istore_n 1, 1) := by decide +kernel
theorem d_CE_lostInAll_2 : decode b_CE_lostInAll 2 = .ok (.iconst 0, 1) := by decide +kernel
theorem d_CE_lostInAll_3 : decode b_CE_lostInAll 3 = .ok (.istore_n 2, 1) := by decide +kernel
theorem d_CE_lostInAll_4 : decode b_CE_lostInAll 4 = .ok (.iload_n 2, 1) := by decide +kernel
theorem d_CE_lostInAll_5 : decode b_CE_lostInAll 5 = .ok (.bipush 80, 2) := by decide +kernel
theorem d_CE_lostInAll_7 : decode b_CE_lostInAll 7 = .ok (.if_icmp .ge 30, 3) := by decide +kernel
theorem d_CE_lostInAll_10 : decode b_CE_lostInAll 10 = .ok (.aload_n 0, 1) := by decide +kernel
theorem d_CE_lostInAll_11 : decode b_CE_lostInAll 11 = .ok (.getfield 17, 3) := by decide +kernel
theorem d_CE_lostInAll_14 : decode b_CE_lostInAll 14 = .ok (.iload_n 2, 1) := by decide +kernel
theorem d_CE_lostInAll_15 : decode b_CE_lostInAll 15 = .ok (.aaload, 1) := by decide +kernel
theorem d_CE_lostInAll_16 : decode b_CE_lostInAll 16 = .ok (.ifnull 15, 3) := by decide +kernel
theorem d_CE_lostInAll_19 : decode b_CE_lostInAll 19 = .ok (.iload_n 1, 1) := by decide +kernel
theorem d_CE_lostInAll_20 : decode b_CE_lostInAll 20 = .ok (.aload_n 0, 1) := by decide +kernel
theorem d_CE_lostInAll_21 : decode b_CE_lostInAll 21 = .ok (.getfield 17, 3) := by decide +kernel
theorem d_CE_lostInAll_24 : decode b_CE_lostInAll 24 = .ok (.iload_n 2, 1) := by decide +kernel
theorem d_CE_lostInAll_25 : decode b_CE_lostInAll 25 = .ok (.aaload, 1) := by decide +kernel
theorem d_CE_lostInAll_26 : decode b_CE_lostInAll 26 = .ok (.invokevirtual 79, 3) := by decide +kernel
theorem d_CE_lostInAll_29 : decode b_CE_lostInAll 29 = .ok (.iadd, 1) := by decide +kernel
theorem d_CE_lostInAll_30 : decode b_CE_lostInAll 30 = .ok (.istore_n 1, 1) := by decide +kernel
theorem d_CE_lostInAll_31 : decode b_CE_lostInAll 31 = .ok (.iinc 2 1, 3) := by decide +kernel
theorem d_CE_lostInAll_34 : decode b_CE_lostInAll 34 = .ok (.goto (-30), 3) := by decide +kernel
theorem d_CE_lostInAll_37 : decode b_CE_lostInAll 37 = .ok (.iload_n 1, 1) := by decide +kernel
theorem d_CE_lostInAll_38 : decode b_CE_lostInAll 38 = .ok (.ireturn, 1) := by decide +kernel
theorem tw_0 : lw_tbl[0]? = some (Cond.selects "FormulaSheet$Cells" ⟨"FormulaSheet$Cells", "findReached", "()V"⟩ ⟨"FormulaSheet$Cells", "findReached", "()V"⟩) := by decide +kernel
theorem tw_7 : lw_tbl[7]? = some (Cond.selects "FormulaSheet$Cells" ⟨"FormulaSheet$Cells", "goOnFrom", "(I)V"⟩ ⟨"FormulaSheet$Cells", "goOnFrom", "(I)V"⟩) := by decide +kernel
theorem tw_8 : lw_tbl[8]? = some (Cond.selects "FormulaSheet$Cells" ⟨"FormulaSheet$Cells", "workOut", "()V"⟩ ⟨"FormulaSheet$Cells", "workOut", "()V"⟩) := by decide +kernel
theorem tw_9 : lw_tbl[9]? = some (Cond.selects "FormulaSheet$Cells" ⟨"FormulaSheet$Cells", "placeInOrder", "(II)V"⟩ ⟨"FormulaSheet$Cells", "placeInOrder", "(II)V"⟩) := by decide +kernel
theorem tw_36 : lw_tbl[36]? = some (Cond.selects "FormulaSheet$Cells" ⟨"FormulaSheet$Cells", "fill", "(IZDLFormulaSheet$Part;)V"⟩ ⟨"FormulaSheet$Cells", "fill", "(IZDLFormulaSheet$Part;)V"⟩) := by decide +kernel
theorem tw_38 : lw_tbl[38]? = some (Cond.selects "FormulaSheet$Cells" ⟨"FormulaSheet$Cells", "take", "(II)V"⟩ ⟨"FormulaSheet$Cells", "take", "(II)V"⟩) := by decide +kernel
theorem tw_39 : lw_tbl[39]? = some (Cond.selects "FormulaSheet$Cells" ⟨"FormulaSheet$Cells", "emptyRow", "(I)V"⟩ ⟨"FormulaSheet$Cells", "emptyRow", "(I)V"⟩) := by decide +kernel
theorem tw_90 : lw_tbl[90]? = some (Jvm.Cond.initialized "FormulaSheet$Cells") := by decide +kernel
theorem tw_160 : lw_tbl[160]? = some (Jvm.Cond.methodLink "FormulaSheet$Cells" (3 : Nat) ({ cls := "java/lang/Object", name := "<init>", desc := "()V" } : Jvm.MethodName)) := by decide +kernel
theorem tw_161 : lw_tbl[161]? = some (Jvm.Cond.classLink "FormulaSheet$Cells" (15 : Nat) "FormulaSheet$Part") := by decide +kernel
theorem tw_163 : lw_tbl[163]? = some (Jvm.Cond.classLink "FormulaSheet$Cells" (25 : Nat) "FormulaSheet$CellSet") := by decide +kernel
theorem tw_164 : lw_tbl[164]? = some (Jvm.Cond.arrayOver (Jvm.ClassFile.FieldType.object "FormulaSheet$CellSet")) := by decide +kernel
theorem tw_165 : lw_tbl[165]? = some (Jvm.Cond.instantiable "FormulaSheet$CellSet" (2 : Nat)) := by decide +kernel
theorem tw_166 : lw_tbl[166]? = some (Jvm.Cond.methodLinkNest "FormulaSheet$Cells" (38 : Nat) ({ cls := "FormulaSheet$CellSet", name := "<init>", desc := "()V" } : Jvm.MethodName) "FormulaSheet") := by decide +kernel
theorem tw_167 : lw_tbl[167]? = some (Jvm.Cond.instanceMethod ({ cls := "FormulaSheet$CellSet", name := "<init>", desc := "()V" } : Jvm.MethodName)) := by decide +kernel
theorem tw_168 : lw_tbl[168]? = some (Jvm.Cond.code ({ cls := "FormulaSheet$CellSet", name := "<init>", desc := "()V" } : Jvm.MethodName) prog_3_method_1_code (1 : Nat) (Option.none : Option Jvm.ClassFile.FieldType)) := by decide +kernel
theorem tw_177 : lw_tbl[177]? = some (Jvm.Cond.arrayClass Jvm.ClassFile.FieldType.boolean) := by decide +kernel
theorem tw_178 : lw_tbl[178]? = some (Jvm.Cond.arrayClass Jvm.ClassFile.FieldType.double) := by decide +kernel
theorem tw_179 : lw_tbl[179]? = some (Jvm.Cond.arrayClass Jvm.ClassFile.FieldType.int) := by decide +kernel
theorem tw_180 : lw_tbl[180]? = some (Jvm.Cond.fieldLink "FormulaSheet$Cells" (9 : Nat) "FormulaSheet$Cells" "filled" "[Z") := by decide +kernel
theorem tw_184 : lw_tbl[184]? = some (Jvm.Cond.fieldLink "FormulaSheet$Cells" (17 : Nat) "FormulaSheet$Cells" "formulas" "[LFormulaSheet$Part;") := by decide +kernel
theorem tw_186 : lw_tbl[186]? = some (Jvm.Cond.fieldLink "FormulaSheet$Cells" (21 : Nat) "FormulaSheet$Cells" "values" "[D") := by decide +kernel
theorem tw_190 : lw_tbl[190]? = some (Jvm.Cond.fieldLink "FormulaSheet$Cells" (27 : Nat) "FormulaSheet$Cells" "reached" "[LFormulaSheet$CellSet;") := by decide +kernel
theorem tw_192 : lw_tbl[192]? = some (Jvm.Cond.fieldLink "FormulaSheet$Cells" (31 : Nat) "FormulaSheet$Cells" "gathered" "[D") := by decide +kernel
theorem tw_194 : lw_tbl[194]? = some (Jvm.Cond.fieldLink "FormulaSheet$Cells" (34 : Nat) "FormulaSheet$Cells" "order" "[I") := by decide +kernel
theorem tw_195 : lw_tbl[195]? = some (Jvm.Cond.fieldLink "FormulaSheet$Cells" (43 : Nat) "FormulaSheet$Cells" "settled" "Z") := by decide +kernel
theorem tw_266 : lw_tbl[266]? = some (Jvm.Cond.instanceMethod ({ cls := "FormulaSheet$Cells", name := "filledFrom", desc := "(II)I" } : Jvm.MethodName)) := by decide +kernel
theorem tw_267 : lw_tbl[267]? = some (Jvm.Cond.selects "FormulaSheet$Cells" ({ cls := "FormulaSheet$Cells", name := "filledFrom", desc := "(II)I" } : Jvm.MethodName) ({ cls := "FormulaSheet$Cells", name := "filledFrom", desc := "(II)I" } : Jvm.MethodName)) := by decide +kernel
theorem tw_268 : lw_tbl[268]? = some (Jvm.Cond.code ({ cls := "FormulaSheet$Cells", name := "filledFrom", desc := "(II)I" } : Jvm.MethodName) prog_4_method_10_code (5 : Nat) (Option.some Jvm.ClassFile.FieldType.int)) := by decide +kernel
theorem tw_277 : lw_tbl[277]? = some (Jvm.Cond.methodLink "FormulaSheet$Cells" (68 : Nat) ({ cls := "FormulaSheet$Cells", name := "settle", desc := "()V" } : Jvm.MethodName)) := by decide +kernel
theorem tw_278 : lw_tbl[278]? = some (Jvm.Cond.instanceMethod ({ cls := "FormulaSheet$Cells", name := "settle", desc := "()V" } : Jvm.MethodName)) := by decide +kernel
theorem tw_279 : lw_tbl[279]? = some (Jvm.Cond.selects "FormulaSheet$Cells" ({ cls := "FormulaSheet$Cells", name := "settle", desc := "()V" } : Jvm.MethodName) ({ cls := "FormulaSheet$Cells", name := "settle", desc := "()V" } : Jvm.MethodName)) := by decide +kernel
theorem tw_280 : lw_tbl[280]? = some (Jvm.Cond.code ({ cls := "FormulaSheet$Cells", name := "settle", desc := "()V" } : Jvm.MethodName) prog_4_method_16_code (1 : Nat) (Option.none : Option Jvm.ClassFile.FieldType)) := by decide +kernel
theorem tw_281 : lw_tbl[281]? = some (Jvm.Cond.methodLink "FormulaSheet$Cells" (86 : Nat) ({ cls := "FormulaSheet$Cells", name := "findReached", desc := "()V" } : Jvm.MethodName)) := by decide +kernel
theorem tw_283 : lw_tbl[283]? = some (Jvm.Cond.instanceMethod ({ cls := "FormulaSheet$Cells", name := "findReached", desc := "()V" } : Jvm.MethodName)) := by decide +kernel
theorem tw_284 : lw_tbl[284]? = some (Jvm.Cond.code ({ cls := "FormulaSheet$Cells", name := "findReached", desc := "()V" } : Jvm.MethodName) prog_4_method_17_code (2 : Nat) (Option.none : Option Jvm.ClassFile.FieldType)) := by decide +kernel
theorem tw_285 : lw_tbl[285]? = some (Jvm.Cond.methodLink "FormulaSheet$Cells" (92 : Nat) ({ cls := "FormulaSheet$CellSet", name := "clear", desc := "()V" } : Jvm.MethodName)) := by decide +kernel
theorem tw_286 : lw_tbl[286]? = some (Jvm.Cond.instanceMethod ({ cls := "FormulaSheet$CellSet", name := "clear", desc := "()V" } : Jvm.MethodName)) := by decide +kernel
theorem tw_287 : lw_tbl[287]? = some (Jvm.Cond.selects "FormulaSheet$CellSet" ({ cls := "FormulaSheet$CellSet", name := "clear", desc := "()V" } : Jvm.MethodName) ({ cls := "FormulaSheet$CellSet", name := "clear", desc := "()V" } : Jvm.MethodName)) := by decide +kernel
theorem tw_288 : lw_tbl[288]? = some (Jvm.Cond.code ({ cls := "FormulaSheet$CellSet", name := "clear", desc := "()V" } : Jvm.MethodName) prog_3_method_2_code (1 : Nat) (Option.none : Option Jvm.ClassFile.FieldType)) := by decide +kernel
theorem tw_289 : lw_tbl[289]? = some (Jvm.Cond.methodLink "FormulaSheet$Cells" (95 : Nat) ({ cls := "FormulaSheet$Part", name := "addCells", desc := "(LFormulaSheet$CellSet;)V" } : Jvm.MethodName)) := by decide +kernel
theorem tw_341 : lw_tbl[341]? = some (Jvm.Cond.methodLink "FormulaSheet$Cells" (99 : Nat) ({ cls := "FormulaSheet$Cells", name := "goOnFrom", desc := "(I)V" } : Jvm.MethodName)) := by decide +kernel
theorem tw_343 : lw_tbl[343]? = some (Jvm.Cond.instanceMethod ({ cls := "FormulaSheet$Cells", name := "goOnFrom", desc := "(I)V" } : Jvm.MethodName)) := by decide +kernel
theorem tw_344 : lw_tbl[344]? = some (Jvm.Cond.code ({ cls := "FormulaSheet$Cells", name := "goOnFrom", desc := "(I)V" } : Jvm.MethodName) prog_4_method_18_code (3 : Nat) (Option.none : Option Jvm.ClassFile.FieldType)) := by decide +kernel
theorem tw_345 : lw_tbl[345]? = some (Jvm.Cond.methodLink "FormulaSheet$Cells" (83 : Nat) ({ cls := "FormulaSheet$CellSet", name := "has", desc := "(I)Z" } : Jvm.MethodName)) := by decide +kernel
theorem tw_346 : lw_tbl[346]? = some (Jvm.Cond.instanceMethod ({ cls := "FormulaSheet$CellSet", name := "has", desc := "(I)Z" } : Jvm.MethodName)) := by decide +kernel
theorem tw_347 : lw_tbl[347]? = some (Jvm.Cond.selects "FormulaSheet$CellSet" ({ cls := "FormulaSheet$CellSet", name := "has", desc := "(I)Z" } : Jvm.MethodName) ({ cls := "FormulaSheet$CellSet", name := "has", desc := "(I)Z" } : Jvm.MethodName)) := by decide +kernel
theorem tw_348 : lw_tbl[348]? = some (Jvm.Cond.code ({ cls := "FormulaSheet$CellSet", name := "has", desc := "(I)Z" } : Jvm.MethodName) prog_3_method_5_code (4 : Nat) (Option.some Jvm.ClassFile.FieldType.boolean)) := by decide +kernel
theorem tw_349 : lw_tbl[349]? = some (Jvm.Cond.methodLink "FormulaSheet$Cells" (102 : Nat) ({ cls := "FormulaSheet$CellSet", name := "addAll", desc := "(LFormulaSheet$CellSet;)V" } : Jvm.MethodName)) := by decide +kernel
theorem tw_350 : lw_tbl[350]? = some (Jvm.Cond.instanceMethod ({ cls := "FormulaSheet$CellSet", name := "addAll", desc := "(LFormulaSheet$CellSet;)V" } : Jvm.MethodName)) := by decide +kernel
theorem tw_351 : lw_tbl[351]? = some (Jvm.Cond.selects "FormulaSheet$CellSet" ({ cls := "FormulaSheet$CellSet", name := "addAll", desc := "(LFormulaSheet$CellSet;)V" } : Jvm.MethodName) ({ cls := "FormulaSheet$CellSet", name := "addAll", desc := "(LFormulaSheet$CellSet;)V" } : Jvm.MethodName)) := by decide +kernel
theorem tw_352 : lw_tbl[352]? = some (Jvm.Cond.code ({ cls := "FormulaSheet$CellSet", name := "addAll", desc := "(LFormulaSheet$CellSet;)V" } : Jvm.MethodName) prog_3_method_4_code (2 : Nat) (Option.none : Option Jvm.ClassFile.FieldType)) := by decide +kernel
theorem tw_353 : lw_tbl[353]? = some (Jvm.Cond.methodLink "FormulaSheet$Cells" (89 : Nat) ({ cls := "FormulaSheet$Cells", name := "workOut", desc := "()V" } : Jvm.MethodName)) := by decide +kernel
theorem tw_355 : lw_tbl[355]? = some (Jvm.Cond.instanceMethod ({ cls := "FormulaSheet$Cells", name := "workOut", desc := "()V" } : Jvm.MethodName)) := by decide +kernel
theorem tw_356 : lw_tbl[356]? = some (Jvm.Cond.code ({ cls := "FormulaSheet$Cells", name := "workOut", desc := "()V" } : Jvm.MethodName) prog_4_method_19_code (3 : Nat) (Option.none : Option Jvm.ClassFile.FieldType)) := by decide +kernel
theorem tw_357 : lw_tbl[357]? = some (Jvm.Cond.methodLink "FormulaSheet$Cells" (71 : Nat) ({ cls := "FormulaSheet$Cells", name := "isCircular", desc := "(I)Z" } : Jvm.MethodName)) := by decide +kernel
theorem tw_358 : lw_tbl[358]? = some (Jvm.Cond.instanceMethod ({ cls := "FormulaSheet$Cells", name := "isCircular", desc := "(I)Z" } : Jvm.MethodName)) := by decide +kernel
theorem tw_359 : lw_tbl[359]? = some (Jvm.Cond.selects "FormulaSheet$Cells" ({ cls := "FormulaSheet$Cells", name := "isCircular", desc := "(I)Z" } : Jvm.MethodName) ({ cls := "FormulaSheet$Cells", name := "isCircular", desc := "(I)Z" } : Jvm.MethodName)) := by decide +kernel
theorem tw_360 : lw_tbl[360]? = some (Jvm.Cond.code ({ cls := "FormulaSheet$Cells", name := "isCircular", desc := "(I)Z" } : Jvm.MethodName) prog_4_method_15_code (2 : Nat) (Option.some Jvm.ClassFile.FieldType.boolean)) := by decide +kernel
theorem tw_361 : lw_tbl[361]? = some (Jvm.Cond.constantDouble "FormulaSheet$Cells" (105 : Nat) (4836865999795912704 : UInt64)) := by decide +kernel
theorem tw_362 : lw_tbl[362]? = some (Jvm.Cond.methodLink "FormulaSheet$Cells" (107 : Nat) ({ cls := "FormulaSheet$Cells", name := "placeInOrder", desc := "(II)V" } : Jvm.MethodName)) := by decide +kernel
theorem tw_364 : lw_tbl[364]? = some (Jvm.Cond.instanceMethod ({ cls := "FormulaSheet$Cells", name := "placeInOrder", desc := "(II)V" } : Jvm.MethodName)) := by decide +kernel
theorem tw_365 : lw_tbl[365]? = some (Jvm.Cond.code ({ cls := "FormulaSheet$Cells", name := "placeInOrder", desc := "(II)V" } : Jvm.MethodName) prog_4_method_20_code (5 : Nat) (Option.none : Option Jvm.ClassFile.FieldType)) := by decide +kernel
theorem tw_366 : lw_tbl[366]? = some (Jvm.Cond.methodLink "FormulaSheet$Cells" (114 : Nat) ({ cls := "FormulaSheet$CellSet", name := "size", desc := "()I" } : Jvm.MethodName)) := by decide +kernel
theorem tw_367 : lw_tbl[367]? = some (Jvm.Cond.instanceMethod ({ cls := "FormulaSheet$CellSet", name := "size", desc := "()I" } : Jvm.MethodName)) := by decide +kernel
theorem tw_368 : lw_tbl[368]? = some (Jvm.Cond.selects "FormulaSheet$CellSet" ({ cls := "FormulaSheet$CellSet", name := "size", desc := "()I" } : Jvm.MethodName) ({ cls := "FormulaSheet$CellSet", name := "size", desc := "()I" } : Jvm.MethodName)) := by decide +kernel
theorem tw_369 : lw_tbl[369]? = some (Jvm.Cond.code ({ cls := "FormulaSheet$CellSet", name := "size", desc := "()I" } : Jvm.MethodName) prog_3_method_6_code (1 : Nat) (Option.some Jvm.ClassFile.FieldType.int)) := by decide +kernel
theorem tw_376 : lw_tbl[376]? = some (Jvm.Cond.methodLink "FormulaSheet$Cells" (110 : Nat) ({ cls := "FormulaSheet$Part", name := "worth", desc := "(LFormulaSheet$Cells;)D" } : Jvm.MethodName)) := by decide +kernel
theorem tw_465 : lw_tbl[465]? = some (Jvm.Cond.methodLinkNest "FormulaSheet$Cells" (75 : Nat) ({ cls := "FormulaSheet", name := "isBad", desc := "(D)Z" } : Jvm.MethodName) "FormulaSheet") := by decide +kernel
theorem tw_470 : lw_tbl[470]? = some (Jvm.Cond.methodLink "FormulaSheet$Cells" (79 : Nat) ({ cls := "FormulaSheet$Part", name := "lostReferences", desc := "()I" } : Jvm.MethodName)) := by decide +kernel
theorem tw_861 : lw_tbl[861]? = some (Jvm.Cond.methodLink "FormulaSheet$Cells" (39 : Nat) ({ cls := "FormulaSheet$Cells", name := "fill", desc := "(IZDLFormulaSheet$Part;)V" } : Jvm.MethodName)) := by decide +kernel
theorem tw_863 : lw_tbl[863]? = some (Jvm.Cond.instanceMethod ({ cls := "FormulaSheet$Cells", name := "fill", desc := "(IZDLFormulaSheet$Part;)V" } : Jvm.MethodName)) := by decide +kernel
theorem tw_864 : lw_tbl[864]? = some (Jvm.Cond.code ({ cls := "FormulaSheet$Cells", name := "fill", desc := "(IZDLFormulaSheet$Part;)V" } : Jvm.MethodName) prog_4_method_5_code (6 : Nat) (Option.none : Option Jvm.ClassFile.FieldType)) := by decide +kernel
theorem tw_908 : lw_tbl[908]? = some (Jvm.Cond.instanceMethod ({ cls := "FormulaSheet$Cells", name := "empty", desc := "(I)V" } : Jvm.MethodName)) := by decide +kernel
theorem tw_909 : lw_tbl[909]? = some (Jvm.Cond.selects "FormulaSheet$Cells" ({ cls := "FormulaSheet$Cells", name := "empty", desc := "(I)V" } : Jvm.MethodName) ({ cls := "FormulaSheet$Cells", name := "empty", desc := "(I)V" } : Jvm.MethodName)) := by decide +kernel
theorem tw_910 : lw_tbl[910]? = some (Jvm.Cond.code ({ cls := "FormulaSheet$Cells", name := "empty", desc := "(I)V" } : Jvm.MethodName) prog_4_method_4_code (2 : Nat) (Option.none : Option Jvm.ClassFile.FieldType)) := by decide +kernel
theorem tw_978 : lw_tbl[978]? = some (Jvm.Cond.methodLink "FormulaSheet$Cells" (47 : Nat) ({ cls := "FormulaSheet$Cells", name := "filledFrom", desc := "(II)I" } : Jvm.MethodName)) := by decide +kernel
theorem tw_979 : lw_tbl[979]? = some (Jvm.Cond.methodLink "FormulaSheet$Cells" (51 : Nat) ({ cls := "FormulaSheet$Cells", name := "take", desc := "(II)V" } : Jvm.MethodName)) := by decide +kernel
theorem tw_981 : lw_tbl[981]? = some (Jvm.Cond.instanceMethod ({ cls := "FormulaSheet$Cells", name := "take", desc := "(II)V" } : Jvm.MethodName)) := by decide +kernel
theorem tw_982 : lw_tbl[982]? = some (Jvm.Cond.code ({ cls := "FormulaSheet$Cells", name := "take", desc := "(II)V" } : Jvm.MethodName) prog_4_method_8_code (3 : Nat) (Option.none : Option Jvm.ClassFile.FieldType)) := by decide +kernel
theorem tw_983 : lw_tbl[983]? = some (Jvm.Cond.methodLink "FormulaSheet$Cells" (55 : Nat) ({ cls := "FormulaSheet$Cells", name := "emptyRow", desc := "(I)V" } : Jvm.MethodName)) := by decide +kernel
theorem tw_985 : lw_tbl[985]? = some (Jvm.Cond.instanceMethod ({ cls := "FormulaSheet$Cells", name := "emptyRow", desc := "(I)V" } : Jvm.MethodName)) := by decide +kernel
theorem tw_986 : lw_tbl[986]? = some (Jvm.Cond.code ({ cls := "FormulaSheet$Cells", name := "emptyRow", desc := "(I)V" } : Jvm.MethodName) prog_4_method_9_code (3 : Nat) (Option.none : Option Jvm.ClassFile.FieldType)) := by decide +kernel
theorem tw_987 : lw_tbl[987]? = some (Jvm.Cond.methodLink "FormulaSheet$Cells" (65 : Nat) ({ cls := "FormulaSheet$Cells", name := "empty", desc := "(I)V" } : Jvm.MethodName)) := by decide +kernel
theorem tw_988 : lw_tbl[988]? = some (Jvm.Cond.methodLink "FormulaSheet$Cells" (59 : Nat) ({ cls := "FormulaSheet$Part", name := "followRowIn", desc := "(I)V" } : Jvm.MethodName)) := by decide +kernel
theorem tw_1019 : lw_tbl[1019]? = some (Jvm.Cond.methodLink "FormulaSheet$Cells" (62 : Nat) ({ cls := "FormulaSheet$Part", name := "followRowOut", desc := "(I)V" } : Jvm.MethodName)) := by decide +kernel
def w_CE_init_L56 (E : fs_E) (K : Nat → Nat → fs_Hp → Prop) (Post : fs_Ps) : Nat → Nat → Int32 → Nat → Nat → fs_Hp → Prop
  | 0 => fun _ _ _ _ _ => False
  | n + 1 => fun z0 z1 bc bs h1 => (if 80 ≤ z1 then K bc bs h1 else fs_gr h1 z0 2 3 (fun a120 => 1 ≤ bc ∧ 2 ≤ bs ∧ ∀ a121 : Nat, h1 a121 = none → (fun h122 : fs_Hp => w_CS_init E h122 a121 (fs_kv (fun h123 => fs_isc h123 a121 3 ∧ (fs_sq h123 a120 (E.1.2 7) z1 (some a121) (fun h124 => (w_CE_init_L56 E K Post n) z0 (z1 + 1) (bc - 1) (bs - 2) h124))) (fun C_ h_ => Post (.inr C_) h_))) (fs_up h1 a121 (.inr (3, [.long 0, .long 0])))))
def w_CE_init (mc ms : Nat) (E : fs_E) (h : fs_Hp) (a0 : Nat) (Post : fs_Ps) : Prop := ¬ (80 : Int32) < 0 ∧ (Int32.toNatClampNeg 80) * 1 ≤ 536870912 ∧ 1 ≤ mc ∧ (Int32.toNatClampNeg 80) ≤ ms ∧ ∀ a101 : Nat, h a101 = none → (fun h102 : fs_Hp => fs_pw h102 a0 2 0 (.ref a101) (fun h103 => ¬ (80 : Int32) < 0 ∧ (Int32.toNatClampNeg 80) * 4 ≤ 536870912 ∧ 1 ≤ (mc - 1) ∧ (Int32.toNatClampNeg 80) ≤ (ms - (Int32.toNatClampNeg 80)) ∧ ∀ a104 : Nat, h103 a104 = none → (fun h105 : fs_Hp => fs_pw h105 a0 2 1 (.ref a104) (fun h106 => ¬ (80 : Int32) < 0 ∧ (Int32.toNatClampNeg 80) * 8 ≤ 536870912 ∧ 1 ≤ ((mc - 1) - 1) ∧ (Int32.toNatClampNeg 80) ≤ ((ms - (Int32.toNatClampNeg 80)) - (Int32.toNatClampNeg 80)) ∧ ∀ a107 : Nat, h106 a107 = none → (fun h108 : fs_Hp => fs_pw h108 a0 2 2 (.ref a107) (fun h109 => ¬ (80 : Int32) < 0 ∧ (Int32.toNatClampNeg 80) * 4 ≤ 536870912 ∧ 1 ≤ (((mc - 1) - 1) - 1) ∧ (Int32.toNatClampNeg 80) ≤ (((ms - (Int32.toNatClampNeg 80)) - (Int32.toNatClampNeg 80)) - (Int32.toNatClampNeg 80)) ∧ ∀ a110 : Nat, h109 a110 = none → (fun h111 : fs_Hp => fs_pw h111 a0 2 3 (.ref a110) (fun h112 => ¬ (80 : Int32) < 0 ∧ (Int32.toNatClampNeg 80) * 8 ≤ 536870912 ∧ 1 ≤ ((((mc - 1) - 1) - 1) - 1) ∧ (Int32.toNatClampNeg 80) ≤ ((((ms - (Int32.toNatClampNeg 80)) - (Int32.toNatClampNeg 80)) - (Int32.toNatClampNeg 80)) - (Int32.toNatClampNeg 80)) ∧ ∀ a113 : Nat, h112 a113 = none → (fun h114 : fs_Hp => fs_pw h114 a0 2 4 (.ref a113) (fun h115 => ¬ (80 : Int32) < 0 ∧ (Int32.toNatClampNeg 80) * 4 ≤ 536870912 ∧ 1 ≤ (((((mc - 1) - 1) - 1) - 1) - 1) ∧ (Int32.toNatClampNeg 80) ≤ (((((ms - (Int32.toNatClampNeg 80)) - (Int32.toNatClampNeg 80)) - (Int32.toNatClampNeg 80)) - (Int32.toNatClampNeg 80)) - (Int32.toNatClampNeg 80)) ∧ ∀ a116 : Nat, h115 a116 = none → (fun h117 : fs_Hp => fs_pw h117 a0 2 5 (.ref a116) (fun h118 => (∃ n130 : Nat, w_CE_init_L56 E (fun bc126 bs127 h125 => Post (.inl none) h125) Post n130 a0 0 ((((((mc - 1) - 1) - 1) - 1) - 1) - 1) ((((((ms - (Int32.toNatClampNeg 80)) - (Int32.toNatClampNeg 80)) - (Int32.toNatClampNeg 80)) - (Int32.toNatClampNeg 80)) - (Int32.toNatClampNeg 80)) - (Int32.toNatClampNeg 80)) h118))) (fs_up h115 a116 (.inl (E.1.2 0, (Int32.toNatClampNeg 80), .inl (fun _ : Nat => (0 : Int32))))))) (fs_up h112 a113 (.inl (E.1.2 2, (Int32.toNatClampNeg 80), .inr (.inr (.inr (.inl (fun _ : Nat => (0 : UInt64)))))))))) (fs_up h109 a110 (.inl (E.1.2 7, (Int32.toNatClampNeg 80), .inr (.inr (.inr (.inr (fun _ => none))))))))) (fs_up h106 a107 (.inl (E.1.2 2, (Int32.toNatClampNeg 80), .inr (.inr (.inr (.inl (fun _ : Nat => (0 : UInt64)))))))))) (fs_up h103 a104 (.inl (E.1.2 6, (Int32.toNatClampNeg 80), .inr (.inr (.inr (.inr (fun _ => none))))))))) (fs_up h a101 (.inl (E.1.2 3, (Int32.toNatClampNeg 80), .inl (fun _ : Nat => (0 : Int32)))))
set_option maxHeartbeats 4000000 in
set_option maxRecDepth 100000 in
theorem lw_w_CE_init_56 {p : Program} {l : Launch} {e : Env} {R : Room} {s : State} {m : MethodId} {args : Array Value} {below : List Frame} {meth : Method} {c : Code} {s00 : State} {E : fs_E} {Post : fs_Ps} {mc ms : Nat} (hE : fs_SE l s00 E) (B : fs_B p l e s m args meth c s00 E.1 y_CE_init b_CE_init 2 none) (hout : ∀ pc, ∀ x ∈ c.exceptionTable.toList, covers x pc = false) (hRf : 2 ≤ R.frames) (hRl : 35 ≤ R.locals) (hRc : mc ≤ R.cells) (hRs : ms ≤ R.slots) (K : Nat → Nat → fs_Hp → Prop) : ∀ (n : Nat) (z0 : Nat) (z1 : Int32) (bc bs uc us : Nat) (h1 : fs_Hp) (H : Heap) (locs : List Loc) (ls : Array Slot), w_CE_init_L56 E K Post n z0 z1 bc bs h1 → fs_P E.1.1 fs_cl (fs_A s00) h1 H → va_S (fs_A s00) s00.heap H locs → uc + bc ≤ mc → us + bs ≤ ms → lv_has ls 2 [(0, .ref z0), (1, .int z1)] → (∀  (bc bs uc us : Nat) (h' : fs_Hp) (H : Heap) (locs : List Loc) (ls : Array Slot), K  bc bs h' → fs_P E.1.1 fs_cl (fs_A s00) h' H → va_S (fs_A s00) s00.heap H locs → uc + bc ≤ mc → us + bs ≤ ms → lv_has ls 2 [(0, .ref z0)] → W p l e R s m args below meth c H locs uc us (fx_MQ below (fs_Qc s00 E.1 Post) args s mc ms (fs_A s00)) (F0 m 81 ls [])) → W p l e R s m args below meth c H locs uc us (fx_MQ below (fs_Qc s00 E.1 Post) args s mc ms (fs_A s00)) (F0 m 56 ls []) := by
  obtain ⟨hx, hb, hr, hml, hown, hts, hlocks, hname, hK, hw, htr⟩ := id B
  have hown : s.vm.findClass "FormulaSheet$Cells" = some m.cls := hown
  intro n
  induction n with
  | zero => intro z0 z1 bc bs uc us h1 H locs ls hq; exact False.elim hq
  | succ n ih =>
    intro z0 z1 bc bs uc us h1 H locs ls hq hP hS hu1 hu2 hl kk
    rw [w_CE_init_L56] at hq
    refine lv_iload_n hx hb d_CE_init_56 rfl (lv_at hl 1 rfl) ?_
    refine lv_bipush (v := 80) hx hb d_CE_init_57 (by decide) ?_
    refine lv_icmp_ge (tgt := 81) hx hb d_CE_init_59 (by decide) (fun c_119 => ?_) (fun c_119 => ?_)
    · have hq := fs_wifp c_119 hq
      exact kk  bc bs uc us _ _ _ _ hq hP hS (by omega) (by omega) (show lv_has ls 2 [(0, .ref z0)] from lv_sub hl [0] rfl)
    · have hq := fs_wifn c_119 hq
      refine lv_aload_n hx hb d_CE_init_62 rfl (lv_at hl 0 rfl) ?_
      obtain ⟨fs_, a120, he_, hv_, hq⟩ := fs_gr_some hq
      refine fs_get hx hb hts hown hK c_CE hP he_ 3 (by decide) (hts _ (fs_tb_at 190 tw_190 rfl)) (fun _ h9 => h9) hv_ d_CE_init_63 ?_
      refine lv_iload_n hx hb d_CE_init_66 rfl (lv_at hl 1 rfl) ?_
      obtain ⟨hc_, hs_, hq⟩ := hq
      refine fs_new (fs := [.long 0, .long 0]) hx hb hts hown hK c_CS hP hS (fun _ h9 => h9) (hts _ (fs_tb_at 163 tw_163 rfl)) (hts _ (fs_tb_at 165 tw_165 rfl)) (hts _ (fs_tb_at 91 tw_91 rfl)) (by decide) (by omega) (by omega) d_CE_init_67 (fun a121 H hn_ hP hS => ?_)
      have hq := hq a121 hn_
      generalize eh_ : fs_up h1 a121 (.inr (3, [.long 0, .long 0])) = h122 at hP hq
      refine lv_dup hx hb d_CE_init_70 rfl ?_
      refine fs_cIN B hl.1 hP hS (kw_CS_init hE hq) (fs_tb_at 166 tw_166 rfl) (fs_tb_at 167 tw_167 rfl) rfl (fs_tb_at 91 tw_91 rfl) (fs_tb_at 168 tw_168 rfl) (by decide) (show (parseMethodDescriptor y_CS_init.desc).map (fun d => d.parameters.length) = some 0 by decide +kernel) rfl d_CE_init_71 (fs_rm (k := 3) (by omega) (by omega) (by omega) (by omega) rfl) (fun v_ h123 H locs hq hP hS => ?_) (fun C_ a_ h_ H locs hq hP hS hX => fs_out (hout _) hlocks hw hP hS hX (show (uc + 1) ≤ mc by omega) (show (us + 2) ≤ ms by omega) hq)
      refine fs_cs (k := (uc + 1)) (n := (us + 2)) rfl rfl ?_
      replace hq := fs_kv_some hq
      obtain ⟨rfl, hq⟩ := hq
      refine W.eq (g2 := F0 m 74 ls (.ref a121 :: .int z1 :: .ref a120 :: [])) rfl ?_
      obtain ⟨hc_, hq⟩ := hq
      obtain ⟨vs_, hv_⟩ := fs_isc_some hc_
      obtain ⟨n_, f_, h124, e_, hi_, eh_, hq⟩ := fs_sq_some hq
      refine fs_aast hx hb hK hP hS 7 3 e_ rfl hv_ rfl hi_ d_CE_init_74 (fun H locs hP hS => ?_)
      rw [← eh_] at hP
      refine lv_iinc (v := z1 + 1) (lv' := [(1, .int (z1 + 1)), (0, .ref z0)]) hx hb d_CE_init_75 hl (k := 1) rfl rfl (by decide) rfl (fun ls hl => ?_)
      refine lv_goto (tgt := 56) hx hb d_CE_init_78 (by decide) ?_
      exact ih z0 (z1 + 1) (bc - 1) (bs - 2) (uc + 1) (us + 2) _ _ _ _ hq hP hS (by omega) (by omega) (show lv_has ls 2 [(0, .ref z0), (1, .int (z1 + 1))] from lv_sub hl [1, 0] rfl) kk
set_option maxHeartbeats 4000000 in
set_option maxRecDepth 100000 in
theorem kw_CE_init {l : Launch} {s00 : State} {E : fs_E} (hE : fs_SE l s00 E) {mc ms : Nat} {h : fs_Hp} {a0 : Nat} {Post : fs_Ps} (hq : w_CE_init mc ms E h a0 Post) : fs_Ct l s00 E.1 y_CE_init (.code y_CE_init b_CE_init 2 none) { frames := 2, cells := mc, slots := ms, locals := 35 } [.ref a0] h Post := by
  refine fs_Ct.ofR hE.1 (by decide) ?_
  intro p e R s m below meth c hRf hRl hRc hRs B hout hP
  skip
  obtain ⟨hx, hb, hr, hml, hown, hts, hlocks, hname, hK, hw, htr⟩ := id B
  have hown : s.vm.findClass "FormulaSheet$Cells" = some m.cls := hown
  have hS := hw.S
  have hl := lv_entry ([.ref a0]) (n := 2) (Nat.le_of_ble_eq_true rfl)
  rw [lg_entry_eq]
  generalize (lg_sl ([.ref a0]) ++ List.replicate (2 - (lg_sl ([.ref a0])).length) Slot.unset).toArray = ls at hl ⊢
  have hl : lv_has ls 2 [(0, .ref a0)] := hl
  unfold w_CE_init at hq
  refine lv_aload_n hx hb d_CE_init_0 rfl (lv_at hl 0 rfl) ?_
  refine W.objInit hx hb hown (hts _ (fs_tb_at 160 tw_160 rfl)) (hts _ (fs_tb_at 131 tw_131 rfl)) (hts _ (fs_tb_at 132 tw_132 rfl)) rfl (by rw [hml]; exact hl.1) rfl d_CE_init_1 (Nat.le_trans (Nat.le_of_ble_eq_true rfl) hRf) (Nat.le_trans (Nat.le_of_ble_eq_true rfl) hRl) ?_
  refine W.eq (g2 := F0 m 4 ls ([])) rfl ?_
  refine lv_aload_n hx hb d_CE_init_4 rfl (lv_at hl 0 rfl) ?_
  refine lv_bipush (v := 80) hx hb d_CE_init_5 (by decide) ?_
  obtain ⟨hn_, hb_, hc_, hs_, hq⟩ := hq
  refine fs_newa (atype := .boolean) (a0 := ((Int32.toNatClampNeg 80), .inl (fun _ : Nat => (0 : Int32)))) hx hb (hts _ (fs_tb_at 177 tw_177 rfl)) rfl (by intro C9 h9; cases h9) hK 3 rfl hP hS (fun _ h9 => h9) (fun _ => rfl) hn_ rfl hb_ (by omega) (by omega) d_CE_init_7 (fun a101 H hn_ hP hS => ?_)
  have hq := hq a101 hn_
  generalize eh_ : fs_up h a101 (.inl (E.1.2 3, (Int32.toNatClampNeg 80), .inl (fun _ : Nat => (0 : Int32)))) = h102 at hP hq
  obtain ⟨fs_, h103, e_, hl_, eh_, hq⟩ := fs_pw_some hq
  refine fs_putF hx hb hts hown hK c_CE hP hS e_ 0 (by decide) (hts _ (fs_tb_at 180 tw_180 rfl)) (fun _ h9 => h9) rfl hname rfl rfl rfl hl_ d_CE_init_9 (fun H locs hP hS => ?_)
  rw [← eh_] at hP
  refine lv_aload_n hx hb d_CE_init_12 rfl (lv_at hl 0 rfl) ?_
  refine lv_bipush (v := 80) hx hb d_CE_init_13 (by decide) ?_
  obtain ⟨hn_, hb_, hc_, hs_, hq⟩ := hq
  refine fs_newq hx hb hown (hts _ (fs_tb_at 161 tw_161 rfl)) (fs_ao hE.1 hw (List.mem_of_getElem? tw_162) rfl) hK 6 rfl hP hS (fun _ h9 => h9) hn_ rfl hb_ (by omega) (by omega) d_CE_init_15 (fun a104 H hn_ hP hS => ?_)
  have hq := hq a104 hn_
  generalize eh_ : fs_up h103 a104 (.inl (E.1.2 6, (Int32.toNatClampNeg 80), .inr (.inr (.inr (.inr (fun _ => none)))))) = h105 at hP hq
  obtain ⟨fs_, h106, e_, hl_, eh_, hq⟩ := fs_pw_some hq
  refine fs_putF hx hb hts hown hK c_CE hP hS e_ 1 (by decide) (hts _ (fs_tb_at 184 tw_184 rfl)) (fun _ h9 => h9) rfl hname rfl rfl rfl hl_ d_CE_init_18 (fun H locs hP hS => ?_)
  rw [← eh_] at hP
  refine lv_aload_n hx hb d_CE_init_21 rfl (lv_at hl 0 rfl) ?_
  refine lv_bipush (v := 80) hx hb d_CE_init_22 (by decide) ?_
  obtain ⟨hn_, hb_, hc_, hs_, hq⟩ := hq
  refine fs_newa (atype := .double) (a0 := ((Int32.toNatClampNeg 80), .inr (.inr (.inr (.inl (fun _ : Nat => (0 : UInt64))))))) hx hb (hts _ (fs_tb_at 178 tw_178 rfl)) rfl (by intro C9 h9; cases h9) hK 2 rfl hP hS (fun _ h9 => h9) (fun _ => rfl) hn_ rfl hb_ (by omega) (by omega) d_CE_init_24 (fun a107 H hn_ hP hS => ?_)
  have hq := hq a107 hn_
  generalize eh_ : fs_up h106 a107 (.inl (E.1.2 2, (Int32.toNatClampNeg 80), .inr (.inr (.inr (.inl (fun _ : Nat => (0 : UInt64))))))) = h108 at hP hq
  obtain ⟨fs_, h109, e_, hl_, eh_, hq⟩ := fs_pw_some hq
  refine fs_putF hx hb hts hown hK c_CE hP hS e_ 2 (by decide) (hts _ (fs_tb_at 186 tw_186 rfl)) (fun _ h9 => h9) rfl hname rfl rfl rfl hl_ d_CE_init_26 (fun H locs hP hS => ?_)
  rw [← eh_] at hP
  refine lv_aload_n hx hb d_CE_init_29 rfl (lv_at hl 0 rfl) ?_
  refine lv_bipush (v := 80) hx hb d_CE_init_30 (by decide) ?_
  obtain ⟨hn_, hb_, hc_, hs_, hq⟩ := hq
  refine fs_newq hx hb hown (hts _ (fs_tb_at 163 tw_163 rfl)) (fs_ao hE.1 hw (List.mem_of_getElem? tw_164) rfl) hK 7 rfl hP hS (fun _ h9 => h9) hn_ rfl hb_ (by omega) (by omega) d_CE_init_32 (fun a110 H hn_ hP hS => ?_)
  have hq := hq a110 hn_
  generalize eh_ : fs_up h109 a110 (.inl (E.1.2 7, (Int32.toNatClampNeg 80), .inr (.inr (.inr (.inr (fun _ => none)))))) = h111 at hP hq
  obtain ⟨fs_, h112, e_, hl_, eh_, hq⟩ := fs_pw_some hq
  refine fs_putF hx hb hts hown hK c_CE hP hS e_ 3 (by decide) (hts _ (fs_tb_at 190 tw_190 rfl)) (fun _ h9 => h9) rfl hname rfl rfl rfl hl_ d_CE_init_35 (fun H locs hP hS => ?_)
  rw [← eh_] at hP
  refine lv_aload_n hx hb d_CE_init_38 rfl (lv_at hl 0 rfl) ?_
  refine lv_bipush (v := 80) hx hb d_CE_init_39 (by decide) ?_
  obtain ⟨hn_, hb_, hc_, hs_, hq⟩ := hq
  refine fs_newa (atype := .double) (a0 := ((Int32.toNatClampNeg 80), .inr (.inr (.inr (.inl (fun _ : Nat => (0 : UInt64))))))) hx hb (hts _ (fs_tb_at 178 tw_178 rfl)) rfl (by intro C9 h9; cases h9) hK 2 rfl hP hS (fun _ h9 => h9) (fun _ => rfl) hn_ rfl hb_ (by omega) (by omega) d_CE_init_41 (fun a113 H hn_ hP hS => ?_)
  have hq := hq a113 hn_
  generalize eh_ : fs_up h112 a113 (.inl (E.1.2 2, (Int32.toNatClampNeg 80), .inr (.inr (.inr (.inl (fun _ : Nat => (0 : UInt64))))))) = h114 at hP hq
  obtain ⟨fs_, h115, e_, hl_, eh_, hq⟩ := fs_pw_some hq
  refine fs_putF hx hb hts hown hK c_CE hP hS e_ 4 (by decide) (hts _ (fs_tb_at 192 tw_192 rfl)) (fun _ h9 => h9) rfl hname rfl rfl rfl hl_ d_CE_init_43 (fun H locs hP hS => ?_)
  rw [← eh_] at hP
  refine lv_aload_n hx hb d_CE_init_46 rfl (lv_at hl 0 rfl) ?_
  refine lv_bipush (v := 80) hx hb d_CE_init_47 (by decide) ?_
  obtain ⟨hn_, hb_, hc_, hs_, hq⟩ := hq
  refine fs_newa (atype := .int) (a0 := ((Int32.toNatClampNeg 80), .inl (fun _ : Nat => (0 : Int32)))) hx hb (hts _ (fs_tb_at 179 tw_179 rfl)) rfl (by intro C9 h9; cases h9) hK 0 rfl hP hS (fun _ h9 => h9) (fun _ => rfl) hn_ rfl hb_ (by omega) (by omega) d_CE_init_49 (fun a116 H hn_ hP hS => ?_)
  have hq := hq a116 hn_
  generalize eh_ : fs_up h115 a116 (.inl (E.1.2 0, (Int32.toNatClampNeg 80), .inl (fun _ : Nat => (0 : Int32)))) = h117 at hP hq
  obtain ⟨fs_, h118, e_, hl_, eh_, hq⟩ := fs_pw_some hq
  refine fs_putF hx hb hts hown hK c_CE hP hS e_ 5 (by decide) (hts _ (fs_tb_at 194 tw_194 rfl)) (fun _ h9 => h9) rfl hname rfl rfl rfl hl_ d_CE_init_51 (fun H locs hP hS => ?_)
  rw [← eh_] at hP
  refine lv_iconst (v := 0) hx hb d_CE_init_54 (by decide) ?_
  refine lv_istore_n (lv' := [(1, .int 0), (0, .ref a0)]) hx hb d_CE_init_55 rfl hl (by decide) rfl (fun ls hl => ?_)
  obtain ⟨n130, hq⟩ := hq
  refine lw_w_CE_init_56 hE B hout (by omega) (by omega) hRc hRs _ n130 a0 0 ((((((mc - 1) - 1) - 1) - 1) - 1) - 1) ((((((ms - (Int32.toNatClampNeg 80)) - (Int32.toNatClampNeg 80)) - (Int32.toNatClampNeg 80)) - (Int32.toNatClampNeg 80)) - (Int32.toNatClampNeg 80)) - (Int32.toNatClampNeg 80)) ((((((0 + 1) + 1) + 1) + 1) + 1) + 1) ((((((0 + (Int32.toNatClampNeg 80)) + (Int32.toNatClampNeg 80)) + (Int32.toNatClampNeg 80)) + (Int32.toNatClampNeg 80)) + (Int32.toNatClampNeg 80)) + (Int32.toNatClampNeg 80)) _ _ _ _ hq hP hS (by omega) (by omega) (show lv_has ls 2 [(0, .ref a0), (1, .int 0)] from lv_sub hl [1, 0] rfl) (fun  bc126 bs127 uc128 us129 h125 H locs ls hq hP hS hu1 hu2 hl => ?_)
  exact fs_vret hx hb hr hlocks hw hP hS (by omega) (by omega) hq d_CE_init_81
def w_CE_fill (E : fs_E) (h : fs_Hp) (a0 : Nat) (x1 : Int32) (x2 : Int32) (x3 : UInt64) (x4 : Option Nat) (Post : fs_Ps) : Prop := (match x4 with | none => fs_gr h a0 2 0 (fun a102 => fs_si h a102 (E.1.2 3) x1 (vp_nar .boolean x2) (fun h103 => fs_gr h103 a0 2 2 (fun a104 => fs_sd h103 a104 (E.1.2 2) x1 x3 (fun h105 => fs_gr h105 a0 2 1 (fun a106 => fs_sq h105 a106 (E.1.2 6) x1 none (fun h107 => fs_pw h107 a0 2 6 (.int 0) (fun h108 => Post (.inl none) h108))))))) | some a109 => fs_gr h a0 2 0 (fun a110 => fs_si h a110 (E.1.2 3) x1 (vp_nar .boolean x2) (fun h111 => fs_gr h111 a0 2 2 (fun a112 => fs_sd h111 a112 (E.1.2 2) x1 x3 (fun h113 => fs_gr h113 a0 2 1 (fun a114 => fs_isP h113 a109 ∧ (fs_sq h113 a114 (E.1.2 6) x1 (some a109) (fun h115 => fs_pw h115 a0 2 6 (.int 0) (fun h116 => Post (.inl none) h116)))))))))
set_option maxHeartbeats 4000000 in
set_option maxRecDepth 100000 in
theorem kw_CE_fill {l : Launch} {s00 : State} {E : fs_E} (hE : fs_SE l s00 E) {h : fs_Hp} {a0 : Nat} {x1 : Int32} {x2 : Int32} {x3 : UInt64} {x4 : Option Nat} {Post : fs_Ps} (hq : w_CE_fill E h a0 x1 x2 x3 x4 Post) : fs_Ct l s00 E.1 y_CE_fill (.code y_CE_fill b_CE_fill 6 none) { frames := 0, cells := 0, slots := 0, locals := 0 } [.ref a0, .int x1, .int x2, .double x3, va_rf x4] h Post := by
  refine fs_Ct.ofR hE.1 (by decide) ?_
  intro p e R s m below meth c hRf hRl hRc hRs B hout hP
  skip
  obtain ⟨hx, hb, hr, hml, hown, hts, hlocks, hname, hK, hw, htr⟩ := id B
  have hown : s.vm.findClass "FormulaSheet$Cells" = some m.cls := hown
  have hS := hw.S
  have hl := lv_entry ([.ref a0, .int x1, .int x2, .double x3, va_rf x4]) (n := 6) (by cases x4 <;> exact Nat.le_of_ble_eq_true rfl)
  rw [lg_entry_eq]
  generalize (lg_sl ([.ref a0, .int x1, .int x2, .double x3, va_rf x4]) ++ List.replicate (6 - (lg_sl ([.ref a0, .int x1, .int x2, .double x3, va_rf x4])).length) Slot.unset).toArray = ls at hl ⊢
  have hl : lv_has ls 6 [(0, .ref a0), (1, .int x1), (2, .int x2), (3, .double x3), (5, va_rf x4)] := by cases x4 <;> exact hl
  unfold w_CE_fill at hq
  cases x4 with
  | none =>
    have hl : lv_has ls 6 [(0, .ref a0), (1, .int x1), (2, .int x2), (3, .double x3), (5, .null)] := hl
    refine lv_aload_n hx hb d_CE_fill_0 rfl (lv_at hl 0 rfl) ?_
    obtain ⟨fs_, a102, he_, hv_, hq⟩ := fs_gr_some hq
    refine fs_get hx hb hts hown hK c_CE hP he_ 0 (by decide) (hts _ (fs_tb_at 180 tw_180 rfl)) (fun _ h9 => h9) hv_ d_CE_fill_1 ?_
    refine lv_iload_n hx hb d_CE_fill_4 rfl (lv_at hl 1 rfl) ?_
    refine lv_iload_n hx hb d_CE_fill_5 rfl (lv_at hl 2 rfl) ?_
    obtain ⟨n_, f_, h103, e_, hi_, eh_, hq⟩ := fs_si_some hq
    refine fs_zast hx hb hK hP hS 3 e_ rfl hi_ d_CE_fill_6 (fun H locs hP hS => ?_)
    rw [← eh_] at hP
    refine lv_aload_n hx hb d_CE_fill_7 rfl (lv_at hl 0 rfl) ?_
    obtain ⟨fs_, a104, he_, hv_, hq⟩ := fs_gr_some hq
    refine fs_get hx hb hts hown hK c_CE hP he_ 2 (by decide) (hts _ (fs_tb_at 186 tw_186 rfl)) (fun _ h9 => h9) hv_ d_CE_fill_8 ?_
    refine lv_iload_n hx hb d_CE_fill_11 rfl (lv_at hl 1 rfl) ?_
    refine lv_dload_n hx hb d_CE_fill_12 rfl (lv_at hl 3 rfl) ?_
    obtain ⟨n_, f_, h105, e_, hi_, eh_, hq⟩ := fs_sd_some hq
    refine fs_dast hx hb hK hP hS 2 e_ rfl hi_ d_CE_fill_13 (fun H locs hP hS => ?_)
    rw [← eh_] at hP
    refine lv_aload_n hx hb d_CE_fill_14 rfl (lv_at hl 0 rfl) ?_
    obtain ⟨fs_, a106, he_, hv_, hq⟩ := fs_gr_some hq
    refine fs_get hx hb hts hown hK c_CE hP he_ 1 (by decide) (hts _ (fs_tb_at 184 tw_184 rfl)) (fun _ h9 => h9) hv_ d_CE_fill_15 ?_
    refine lv_iload_n hx hb d_CE_fill_18 rfl (lv_at hl 1 rfl) ?_
    refine lv_aloadN hx hb d_CE_fill_19 (lv_at hl 4 rfl) ?_
    obtain ⟨n_, f_, h107, e_, hi_, eh_, hq⟩ := fs_sq_some hq
    refine fs_aastN hx hb hK hP hS 6 e_ rfl hi_ d_CE_fill_21 (fun H locs hP hS => ?_)
    rw [← eh_] at hP
    refine lv_aload_n hx hb d_CE_fill_22 rfl (lv_at hl 0 rfl) ?_
    refine lv_iconst (v := 0) hx hb d_CE_fill_23 (by decide) ?_
    obtain ⟨fs_, h108, e_, hl_, eh_, hq⟩ := fs_pw_some hq
    refine fs_put hx hb hts hown hK c_CE hP hS e_ 6 (by decide) (hts _ (fs_tb_at 195 tw_195 rfl)) (fun _ h9 => h9) rfl (by decide) (by decide) hl_ d_CE_fill_24 (fun H locs hP hS => ?_)
    rw [← eh_] at hP
    exact fs_vret hx hb hr hlocks hw hP hS (Nat.le_refl _) (Nat.le_refl _) hq d_CE_fill_27
  | some a109 =>
    have hl : lv_has ls 6 [(0, .ref a0), (1, .int x1), (2, .int x2), (3, .double x3), (5, .ref a109)] := hl
    refine lv_aload_n hx hb d_CE_fill_0 rfl (lv_at hl 0 rfl) ?_
    obtain ⟨fs_, a110, he_, hv_, hq⟩ := fs_gr_some hq
    refine fs_get hx hb hts hown hK c_CE hP he_ 0 (by decide) (hts _ (fs_tb_at 180 tw_180 rfl)) (fun _ h9 => h9) hv_ d_CE_fill_1 ?_
    refine lv_iload_n hx hb d_CE_fill_4 rfl (lv_at hl 1 rfl) ?_
    refine lv_iload_n hx hb d_CE_fill_5 rfl (lv_at hl 2 rfl) ?_
    obtain ⟨n_, f_, h111, e_, hi_, eh_, hq⟩ := fs_si_some hq
    refine fs_zast hx hb hK hP hS 3 e_ rfl hi_ d_CE_fill_6 (fun H locs hP hS => ?_)
    rw [← eh_] at hP
    refine lv_aload_n hx hb d_CE_fill_7 rfl (lv_at hl 0 rfl) ?_
    obtain ⟨fs_, a112, he_, hv_, hq⟩ := fs_gr_some hq
    refine fs_get hx hb hts hown hK c_CE hP he_ 2 (by decide) (hts _ (fs_tb_at 186 tw_186 rfl)) (fun _ h9 => h9) hv_ d_CE_fill_8 ?_
    refine lv_iload_n hx hb d_CE_fill_11 rfl (lv_at hl 1 rfl) ?_
    refine lv_dload_n hx hb d_CE_fill_12 rfl (lv_at hl 3 rfl) ?_
    obtain ⟨n_, f_, h113, e_, hi_, eh_, hq⟩ := fs_sd_some hq
    refine fs_dast hx hb hK hP hS 2 e_ rfl hi_ d_CE_fill_13 (fun H locs hP hS => ?_)
    rw [← eh_] at hP
    refine lv_aload_n hx hb d_CE_fill_14 rfl (lv_at hl 0 rfl) ?_
    obtain ⟨fs_, a114, he_, hv_, hq⟩ := fs_gr_some hq
    refine fs_get hx hb hts hown hK c_CE hP he_ 1 (by decide) (hts _ (fs_tb_at 184 tw_184 rfl)) (fun _ h9 => h9) hv_ d_CE_fill_15 ?_
    refine lv_iload_n hx hb d_CE_fill_18 rfl (lv_at hl 1 rfl) ?_
    refine lv_aload hx hb d_CE_fill_19 (lv_at hl 4 rfl) ?_
    obtain ⟨hc_, hq⟩ := hq
    obtain ⟨n_, f_, h115, e_, hi_, eh_, hq⟩ := fs_sq_some hq
    refine fs_aastP hx hb hts hK hP hS e_ hc_ hi_ d_CE_fill_21 (fun H locs hP hS => ?_)
    rw [← eh_] at hP
    refine lv_aload_n hx hb d_CE_fill_22 rfl (lv_at hl 0 rfl) ?_
    refine lv_iconst (v := 0) hx hb d_CE_fill_23 (by decide) ?_
    obtain ⟨fs_, h116, e_, hl_, eh_, hq⟩ := fs_pw_some hq
    refine fs_put hx hb hts hown hK c_CE hP hS e_ 6 (by decide) (hts _ (fs_tb_at 195 tw_195 rfl)) (fun _ h9 => h9) rfl (by decide) (by decide) hl_ d_CE_fill_24 (fun H locs hP hS => ?_)
    rw [← eh_] at hP
    exact fs_vret hx hb hr hlocks hw hP hS (Nat.le_refl _) (Nat.le_refl _) hq d_CE_fill_27
def w_CE_setNumber (E : fs_E) (h : fs_Hp) (a0 : Nat) (x1 : Int32) (x2 : UInt64) (Post : fs_Ps) : Prop := fs_isc h a0 2 ∧ (w_CE_fill E h a0 x1 1 x2 none (fs_kv (fun h101 => Post (.inl none) h101) (fun C_ h_ => Post (.inr C_) h_)))
set_option maxHeartbeats 4000000 in
set_option maxRecDepth 100000 in
theorem kw_CE_setNumber {l : Launch} {s00 : State} {E : fs_E} (hE : fs_SE l s00 E) {h : fs_Hp} {a0 : Nat} {x1 : Int32} {x2 : UInt64} {Post : fs_Ps} (hq : w_CE_setNumber E h a0 x1 x2 Post) : fs_Ct l s00 E.1 y_CE_setNumber (.code y_CE_setNumber b_CE_setNumber 4 none) { frames := 1, cells := 0, slots := 0, locals := 17 } [.ref a0, .int x1, .double x2] h Post := by
  refine fs_Ct.ofR hE.1 (by decide) ?_
  intro p e R s m below meth c hRf hRl hRc hRs B hout hP
  skip
  obtain ⟨hx, hb, hr, hml, hown, hts, hlocks, hname, hK, hw, htr⟩ := id B
  have hown : s.vm.findClass "FormulaSheet$Cells" = some m.cls := hown
  have hS := hw.S
  have hl := lv_entry ([.ref a0, .int x1, .double x2]) (n := 4) (Nat.le_of_ble_eq_true rfl)
  rw [lg_entry_eq]
  generalize (lg_sl ([.ref a0, .int x1, .double x2]) ++ List.replicate (4 - (lg_sl ([.ref a0, .int x1, .double x2])).length) Slot.unset).toArray = ls at hl ⊢
  have hl : lv_has ls 4 [(0, .ref a0), (1, .int x1), (2, .double x2)] := hl
  unfold w_CE_setNumber at hq
  refine lv_aload_n hx hb d_CE_setNumber_0 rfl (lv_at hl 0 rfl) ?_
  refine lv_iload_n hx hb d_CE_setNumber_1 rfl (lv_at hl 1 rfl) ?_
  refine lv_iconst (v := 1) hx hb d_CE_setNumber_2 (by decide) ?_
  refine lv_dload_n hx hb d_CE_setNumber_3 rfl (lv_at hl 2 rfl) ?_
  refine lv_null hx hb d_CE_setNumber_4 ?_
  obtain ⟨hi_, hq⟩ := hq
  obtain ⟨fs_, he_⟩ := fs_isc_some hi_
  refine fs_cV B hl.1 hP hS (kw_CE_fill hE hq) (fs_tb_at 861 tw_861 rfl) he_ rfl (fs_tb_at 863 tw_863 rfl) (fs_tb_at 36 tw_36 rfl) (fs_tb_at 90 tw_90 rfl) (fs_tb_at 864 tw_864 rfl) (by decide) (show (parseMethodDescriptor y_CE_fill.desc).map (fun d => d.parameters.length) = some 4 by decide +kernel) rfl d_CE_setNumber_5 (fs_rm (k := 0) (by omega) (by omega) (by omega) (by omega) rfl) (fun v_ h101 H locs hq hP hS => ?_) (fun C_ a_ h_ H locs hq hP hS hX => fs_out (hout _) hlocks hw hP hS hX (Nat.le_of_ble_eq_true rfl) (Nat.le_of_ble_eq_true rfl) hq)
  refine fs_cs (k := 0) (n := 0) rfl rfl ?_
  replace hq := fs_kv_some hq
  obtain ⟨rfl, hq⟩ := hq
  refine W.eq (g2 := F0 m 8 ls ([])) rfl ?_
  exact fs_vret hx hb hr hlocks hw hP hS (Nat.le_refl _) (Nat.le_refl _) hq d_CE_setNumber_8
def w_CE_setFormula (E : fs_E) (h : fs_Hp) (a0 : Nat) (x1 : Int32) (x2 : Nat) (Post : fs_Ps) : Prop := fs_isc h a0 2 ∧ (w_CE_fill E h a0 x1 1 FP.dconst0 (some x2) (fs_kv (fun h101 => Post (.inl none) h101) (fun C_ h_ => Post (.inr C_) h_)))
set_option maxHeartbeats 4000000 in
set_option maxRecDepth 100000 in
theorem kw_CE_setFormula {l : Launch} {s00 : State} {E : fs_E} (hE : fs_SE l s00 E) {h : fs_Hp} {a0 : Nat} {x1 : Int32} {x2 : Nat} {Post : fs_Ps} (hq : w_CE_setFormula E h a0 x1 x2 Post) : fs_Ct l s00 E.1 y_CE_setFormula (.code y_CE_setFormula b_CE_setFormula 3 none) { frames := 1, cells := 0, slots := 0, locals := 17 } [.ref a0, .int x1, .ref x2] h Post := by
  refine fs_Ct.ofR hE.1 (by decide) ?_
  intro p e R s m below meth c hRf hRl hRc hRs B hout hP
  skip
  obtain ⟨hx, hb, hr, hml, hown, hts, hlocks, hname, hK, hw, htr⟩ := id B
  have hown : s.vm.findClass "FormulaSheet$Cells" = some m.cls := hown
  have hS := hw.S
  have hl := lv_entry ([.ref a0, .int x1, .ref x2]) (n := 3) (Nat.le_of_ble_eq_true rfl)
  rw [lg_entry_eq]
  generalize (lg_sl ([.ref a0, .int x1, .ref x2]) ++ List.replicate (3 - (lg_sl ([.ref a0, .int x1, .ref x2])).length) Slot.unset).toArray = ls at hl ⊢
  have hl : lv_has ls 3 [(0, .ref a0), (1, .int x1), (2, .ref x2)] := hl
  unfold w_CE_setFormula at hq
  refine lv_aload_n hx hb d_CE_setFormula_0 rfl (lv_at hl 0 rfl) ?_
  refine lv_iload_n hx hb d_CE_setFormula_1 rfl (lv_at hl 1 rfl) ?_
  refine lv_iconst (v := 1) hx hb d_CE_setFormula_2 (by decide) ?_
  refine lv_dconst0 hx hb d_CE_setFormula_3 ?_
  refine lv_aload_n hx hb d_CE_setFormula_4 rfl (lv_at hl 2 rfl) ?_
  obtain ⟨hi_, hq⟩ := hq
  obtain ⟨fs_, he_⟩ := fs_isc_some hi_
  refine fs_cV B hl.1 hP hS (kw_CE_fill hE hq) (fs_tb_at 861 tw_861 rfl) he_ rfl (fs_tb_at 863 tw_863 rfl) (fs_tb_at 36 tw_36 rfl) (fs_tb_at 90 tw_90 rfl) (fs_tb_at 864 tw_864 rfl) (by decide) (show (parseMethodDescriptor y_CE_fill.desc).map (fun d => d.parameters.length) = some 4 by decide +kernel) rfl d_CE_setFormula_5 (fs_rm (k := 0) (by omega) (by omega) (by omega) (by omega) rfl) (fun v_ h101 H locs hq hP hS => ?_) (fun C_ a_ h_ H locs hq hP hS hX => fs_out (hout _) hlocks hw hP hS hX (Nat.le_of_ble_eq_true rfl) (Nat.le_of_ble_eq_true rfl) hq)
  refine fs_cs (k := 0) (n := 0) rfl rfl ?_
  replace hq := fs_kv_some hq
  obtain ⟨rfl, hq⟩ := hq
  refine W.eq (g2 := F0 m 8 ls ([])) rfl ?_
  exact fs_vret hx hb hr hlocks hw hP hS (Nat.le_refl _) (Nat.le_refl _) hq d_CE_setFormula_8
def w_CE_empty (E : fs_E) (h : fs_Hp) (a0 : Nat) (x1 : Int32) (Post : fs_Ps) : Prop := fs_isc h a0 2 ∧ (w_CE_fill E h a0 x1 0 FP.dconst0 none (fs_kv (fun h101 => Post (.inl none) h101) (fun C_ h_ => Post (.inr C_) h_)))
set_option maxHeartbeats 4000000 in
set_option maxRecDepth 100000 in
theorem kw_CE_empty {l : Launch} {s00 : State} {E : fs_E} (hE : fs_SE l s00 E) {h : fs_Hp} {a0 : Nat} {x1 : Int32} {Post : fs_Ps} (hq : w_CE_empty E h a0 x1 Post) : fs_Ct l s00 E.1 y_CE_empty (.code y_CE_empty b_CE_empty 2 none) { frames := 1, cells := 0, slots := 0, locals := 17 } [.ref a0, .int x1] h Post := by
  refine fs_Ct.ofR hE.1 (by decide) ?_
  intro p e R s m below meth c hRf hRl hRc hRs B hout hP
  skip
  obtain ⟨hx, hb, hr, hml, hown, hts, hlocks, hname, hK, hw, htr⟩ := id B
  have hown : s.vm.findClass "FormulaSheet$Cells" = some m.cls := hown
  have hS := hw.S
  have hl := lv_entry ([.ref a0, .int x1]) (n := 2) (Nat.le_of_ble_eq_true rfl)
  rw [lg_entry_eq]
  generalize (lg_sl ([.ref a0, .int x1]) ++ List.replicate (2 - (lg_sl ([.ref a0, .int x1])).length) Slot.unset).toArray = ls at hl ⊢
  have hl : lv_has ls 2 [(0, .ref a0), (1, .int x1)] := hl
  unfold w_CE_empty at hq
  refine lv_aload_n hx hb d_CE_empty_0 rfl (lv_at hl 0 rfl) ?_
  refine lv_iload_n hx hb d_CE_empty_1 rfl (lv_at hl 1 rfl) ?_
  refine lv_iconst (v := 0) hx hb d_CE_empty_2 (by decide) ?_
  refine lv_dconst0 hx hb d_CE_empty_3 ?_
  refine lv_null hx hb d_CE_empty_4 ?_
  obtain ⟨hi_, hq⟩ := hq
  obtain ⟨fs_, he_⟩ := fs_isc_some hi_
  refine fs_cV B hl.1 hP hS (kw_CE_fill hE hq) (fs_tb_at 861 tw_861 rfl) he_ rfl (fs_tb_at 863 tw_863 rfl) (fs_tb_at 36 tw_36 rfl) (fs_tb_at 90 tw_90 rfl) (fs_tb_at 864 tw_864 rfl) (by decide) (show (parseMethodDescriptor y_CE_fill.desc).map (fun d => d.parameters.length) = some 4 by decide +kernel) rfl d_CE_empty_5 (fs_rm (k := 0) (by omega) (by omega) (by omega) (by omega) rfl) (fun v_ h101 H locs hq hP hS => ?_) (fun C_ a_ h_ H locs hq hP hS hX => fs_out (hout _) hlocks hw hP hS hX (Nat.le_of_ble_eq_true rfl) (Nat.le_of_ble_eq_true rfl) hq)
  refine fs_cs (k := 0) (n := 0) rfl rfl ?_
  replace hq := fs_kv_some hq
  obtain ⟨rfl, hq⟩ := hq
  refine W.eq (g2 := F0 m 8 ls ([])) rfl ?_
  exact fs_vret hx hb hr hlocks hw hP hS (Nat.le_refl _) (Nat.le_refl _) hq d_CE_empty_8
def w_CE_take (E : fs_E) (h : fs_Hp) (a0 : Nat) (x1 : Int32) (x2 : Int32) (Post : fs_Ps) : Prop := fs_gr h a0 2 0 (fun a101 => fs_ai h a101 (E.1.2 3) x2 (fun x102 => fs_gr h a0 2 2 (fun a103 => fs_ad h a103 (E.1.2 2) x2 (fun x104 => fs_gr h a0 2 1 (fun a105 => fs_aq h a105 (E.1.2 6) x2 (fun o9 => match o9 with | none => fs_isc h a0 2 ∧ (w_CE_fill E h a0 x1 x102 x104 none (fs_kv (fun h108 => Post (.inl none) h108) (fun C_ h_ => Post (.inr C_) h_))) | some a109 => fs_isc h a0 2 ∧ (w_CE_fill E h a0 x1 x102 x104 (some a109) (fs_kv (fun h110 => Post (.inl none) h110) (fun C_ h_ => Post (.inr C_) h_)))))))))
set_option maxHeartbeats 4000000 in
set_option maxRecDepth 100000 in
theorem kw_CE_take {l : Launch} {s00 : State} {E : fs_E} (hE : fs_SE l s00 E) {h : fs_Hp} {a0 : Nat} {x1 : Int32} {x2 : Int32} {Post : fs_Ps} (hq : w_CE_take E h a0 x1 x2 Post) : fs_Ct l s00 E.1 y_CE_take (.code y_CE_take b_CE_take 3 none) { frames := 1, cells := 0, slots := 0, locals := 17 } [.ref a0, .int x1, .int x2] h Post := by
  refine fs_Ct.ofR hE.1 (by decide) ?_
  intro p e R s m below meth c hRf hRl hRc hRs B hout hP
  skip
  obtain ⟨hx, hb, hr, hml, hown, hts, hlocks, hname, hK, hw, htr⟩ := id B
  have hown : s.vm.findClass "FormulaSheet$Cells" = some m.cls := hown
  have hS := hw.S
  have hl := lv_entry ([.ref a0, .int x1, .int x2]) (n := 3) (Nat.le_of_ble_eq_true rfl)
  rw [lg_entry_eq]
  generalize (lg_sl ([.ref a0, .int x1, .int x2]) ++ List.replicate (3 - (lg_sl ([.ref a0, .int x1, .int x2])).length) Slot.unset).toArray = ls at hl ⊢
  have hl : lv_has ls 3 [(0, .ref a0), (1, .int x1), (2, .int x2)] := hl
  unfold w_CE_take at hq
  refine lv_aload_n hx hb d_CE_take_0 rfl (lv_at hl 0 rfl) ?_
  refine lv_iload_n hx hb d_CE_take_1 rfl (lv_at hl 1 rfl) ?_
  refine lv_aload_n hx hb d_CE_take_2 rfl (lv_at hl 0 rfl) ?_
  obtain ⟨fs_, a101, he_, hv_, hq⟩ := fs_gr_some hq
  refine fs_get hx hb hts hown hK c_CE hP he_ 0 (by decide) (hts _ (fs_tb_at 180 tw_180 rfl)) (fun _ h9 => h9) hv_ d_CE_take_3 ?_
  refine lv_iload_n hx hb d_CE_take_6 rfl (lv_at hl 2 rfl) ?_
  obtain ⟨n_, f_, x102, e_, hi_, ex_, hq⟩ := fs_ai_some hq
  refine fs_zald hx hb hK hP 3 e_ rfl hi_ d_CE_take_7 ?_
  rw [← ex_]
  refine lv_aload_n hx hb d_CE_take_8 rfl (lv_at hl 0 rfl) ?_
  obtain ⟨fs_, a103, he_, hv_, hq⟩ := fs_gr_some hq
  refine fs_get hx hb hts hown hK c_CE hP he_ 2 (by decide) (hts _ (fs_tb_at 186 tw_186 rfl)) (fun _ h9 => h9) hv_ d_CE_take_9 ?_
  refine lv_iload_n hx hb d_CE_take_12 rfl (lv_at hl 2 rfl) ?_
  obtain ⟨n_, f_, x104, e_, hi_, ex_, hq⟩ := fs_ad_some hq
  refine fs_dald hx hb hK hP 2 e_ rfl hi_ d_CE_take_13 ?_
  rw [← ex_]
  refine lv_aload_n hx hb d_CE_take_14 rfl (lv_at hl 0 rfl) ?_
  obtain ⟨fs_, a105, he_, hv_, hq⟩ := fs_gr_some hq
  refine fs_get hx hb hts hown hK c_CE hP he_ 1 (by decide) (hts _ (fs_tb_at 184 tw_184 rfl)) (fun _ h9 => h9) hv_ d_CE_take_15 ?_
  refine lv_iload_n hx hb d_CE_take_18 rfl (lv_at hl 2 rfl) ?_
  obtain ⟨n_, f_, o106, e_, hi_, ex_, hq⟩ := fs_aq_some hq
  refine fs_aald hx hb hK hP 6 e_ rfl hi_ d_CE_take_19 ?_
  rw [← ex_]
  cases o106 with
  | none =>
    refine W.eq (g2 := F0 m 20 ls (.null :: .double x104 :: .int x102 :: .int x1 :: .ref a0 :: [])) rfl ?_
    obtain ⟨hi_, hq⟩ := hq
    obtain ⟨fs_, he_⟩ := fs_isc_some hi_
    refine fs_cV B hl.1 hP hS (kw_CE_fill hE hq) (fs_tb_at 861 tw_861 rfl) he_ rfl (fs_tb_at 863 tw_863 rfl) (fs_tb_at 36 tw_36 rfl) (fs_tb_at 90 tw_90 rfl) (fs_tb_at 864 tw_864 rfl) (by decide) (show (parseMethodDescriptor y_CE_fill.desc).map (fun d => d.parameters.length) = some 4 by decide +kernel) rfl d_CE_take_20 (fs_rm (k := 0) (by omega) (by omega) (by omega) (by omega) rfl) (fun v_ h108 H locs hq hP hS => ?_) (fun C_ a_ h_ H locs hq hP hS hX => fs_out (hout _) hlocks hw hP hS hX (Nat.le_of_ble_eq_true rfl) (Nat.le_of_ble_eq_true rfl) hq)
    refine fs_cs (k := 0) (n := 0) rfl rfl ?_
    replace hq := fs_kv_some hq
    obtain ⟨rfl, hq⟩ := hq
    refine W.eq (g2 := F0 m 23 ls ([])) rfl ?_
    exact fs_vret hx hb hr hlocks hw hP hS (Nat.le_refl _) (Nat.le_refl _) hq d_CE_take_23
  | some a109 =>
    refine W.eq (g2 := F0 m 20 ls (.ref a109 :: .double x104 :: .int x102 :: .int x1 :: .ref a0 :: [])) rfl ?_
    obtain ⟨hi_, hq⟩ := hq
    obtain ⟨fs_, he_⟩ := fs_isc_some hi_
    refine fs_cV B hl.1 hP hS (kw_CE_fill hE hq) (fs_tb_at 861 tw_861 rfl) he_ rfl (fs_tb_at 863 tw_863 rfl) (fs_tb_at 36 tw_36 rfl) (fs_tb_at 90 tw_90 rfl) (fs_tb_at 864 tw_864 rfl) (by decide) (show (parseMethodDescriptor y_CE_fill.desc).map (fun d => d.parameters.length) = some 4 by decide +kernel) rfl d_CE_take_20 (fs_rm (k := 0) (by omega) (by omega) (by omega) (by omega) rfl) (fun v_ h110 H locs hq hP hS => ?_) (fun C_ a_ h_ H locs hq hP hS hX => fs_out (hout _) hlocks hw hP hS hX (Nat.le_of_ble_eq_true rfl) (Nat.le_of_ble_eq_true rfl) hq)
    refine fs_cs (k := 0) (n := 0) rfl rfl ?_
    replace hq := fs_kv_some hq
    obtain ⟨rfl, hq⟩ := hq
    refine W.eq (g2 := F0 m 23 ls ([])) rfl ?_
    exact fs_vret hx hb hr hlocks hw hP hS (Nat.le_refl _) (Nat.le_refl _) hq d_CE_take_23
def w_CE_emptyRow_L2 (E : fs_E) (K : fs_Hp → Prop) (Post : fs_Ps) : Nat → Nat → Int32 → Int32 → fs_Hp → Prop
  | 0 => fun _ _ _ _ => False
  | n + 1 => fun z0 z1 z2 h1 => (if 8 ≤ z2 then K h1 else fs_isc h1 z0 2 ∧ (w_CE_empty E h1 z0 ((z1 * 8) + z2) (fs_kv (fun h102 => (w_CE_emptyRow_L2 E K Post n) z0 z1 (z2 + 1) h102) (fun C_ h_ => Post (.inr C_) h_))))
def w_CE_emptyRow (E : fs_E) (h : fs_Hp) (a0 : Nat) (x1 : Int32) (Post : fs_Ps) : Prop := (∃ n104 : Nat, w_CE_emptyRow_L2 E (fun h103 => Post (.inl none) h103) Post n104 a0 x1 0 h)
set_option maxHeartbeats 4000000 in
set_option maxRecDepth 100000 in
theorem lw_w_CE_emptyRow_2 {p : Program} {l : Launch} {e : Env} {R : Room} {s : State} {m : MethodId} {args : Array Value} {below : List Frame} {meth : Method} {c : Code} {s00 : State} {E : fs_E} {Post : fs_Ps} (hE : fs_SE l s00 E) (B : fs_B p l e s m args meth c s00 E.1 y_CE_emptyRow b_CE_emptyRow 3 none) (hout : ∀ pc, ∀ x ∈ c.exceptionTable.toList, covers x pc = false) (hRf : 2 ≤ R.frames) (hRl : 30 ≤ R.locals) (K : fs_Hp → Prop) : ∀ (n : Nat) (z0 : Nat) (z1 : Int32) (z2 : Int32) (h1 : fs_Hp) (H : Heap) (locs : List Loc) (ls : Array Slot), w_CE_emptyRow_L2 E K Post n z0 z1 z2 h1 → fs_P E.1.1 fs_cl (fs_A s00) h1 H → va_S (fs_A s00) s00.heap H locs → lv_has ls 3 [(0, .ref z0), (1, .int z1), (2, .int z2)] → (∀  (h' : fs_Hp) (H : Heap) (locs : List Loc) (ls : Array Slot), K  h' → fs_P E.1.1 fs_cl (fs_A s00) h' H → va_S (fs_A s00) s00.heap H locs → lv_has ls 3 [(0, .ref z0), (1, .int z1)] → W p l e R s m args below meth c H locs 0 0 (fx_MQ below (fs_Qc s00 E.1 Post) args s 0 0 (fs_A s00)) (F0 m 24 ls [])) → W p l e R s m args below meth c H locs 0 0 (fx_MQ below (fs_Qc s00 E.1 Post) args s 0 0 (fs_A s00)) (F0 m 2 ls []) := by
  obtain ⟨hx, hb, hr, hml, hown, hts, hlocks, hname, hK, hw, htr⟩ := id B
  have hown : s.vm.findClass "FormulaSheet$Cells" = some m.cls := hown
  intro n
  induction n with
  | zero => intro z0 z1 z2 h1 H locs ls hq; exact False.elim hq
  | succ n ih =>
    intro z0 z1 z2 h1 H locs ls hq hP hS hl kk
    rw [w_CE_emptyRow_L2] at hq
    refine lv_iload_n hx hb d_CE_emptyRow_2 rfl (lv_at hl 2 rfl) ?_
    refine lv_bipush (v := 8) hx hb d_CE_emptyRow_3 (by decide) ?_
    refine lv_icmp_ge (tgt := 24) hx hb d_CE_emptyRow_5 (by decide) (fun c_101 => ?_) (fun c_101 => ?_)
    · have hq := fs_wifp c_101 hq
      exact kk  _ _ _ _ hq hP hS (show lv_has ls 3 [(0, .ref z0), (1, .int z1)] from lv_sub hl [0, 1] rfl)
    · have hq := fs_wifn c_101 hq
      refine lv_aload_n hx hb d_CE_emptyRow_8 rfl (lv_at hl 0 rfl) ?_
      refine lv_iload_n hx hb d_CE_emptyRow_9 rfl (lv_at hl 1 rfl) ?_
      refine lv_bipush (v := 8) hx hb d_CE_emptyRow_10 (by decide) ?_
      refine lv_imul hx hb d_CE_emptyRow_12 ?_
      refine lv_iload_n hx hb d_CE_emptyRow_13 rfl (lv_at hl 2 rfl) ?_
      refine lv_iadd hx hb d_CE_emptyRow_14 ?_
      obtain ⟨hi_, hq⟩ := hq
      obtain ⟨fs_, he_⟩ := fs_isc_some hi_
      refine fs_cV B hl.1 hP hS (kw_CE_empty hE hq) (fs_tb_at 987 tw_987 rfl) he_ rfl (fs_tb_at 908 tw_908 rfl) (fs_tb_at 909 tw_909 rfl) (fs_tb_at 90 tw_90 rfl) (fs_tb_at 910 tw_910 rfl) (by decide) (show (parseMethodDescriptor y_CE_empty.desc).map (fun d => d.parameters.length) = some 1 by decide +kernel) rfl d_CE_emptyRow_15 (fs_rm (k := 0) (by omega) (by omega) (by omega) (by omega) rfl) (fun v_ h102 H locs hq hP hS => ?_) (fun C_ a_ h_ H locs hq hP hS hX => fs_out (hout _) hlocks hw hP hS hX (Nat.le_of_ble_eq_true rfl) (Nat.le_of_ble_eq_true rfl) hq)
      refine fs_cs (k := 0) (n := 0) rfl rfl ?_
      replace hq := fs_kv_some hq
      obtain ⟨rfl, hq⟩ := hq
      refine W.eq (g2 := F0 m 18 ls ([])) rfl ?_
      refine lv_iinc (v := z2 + 1) (lv' := [(2, .int (z2 + 1)), (0, .ref z0), (1, .int z1)]) hx hb d_CE_emptyRow_18 hl (k := 2) rfl rfl (by decide) rfl (fun ls hl => ?_)
      refine lv_goto (tgt := 2) hx hb d_CE_emptyRow_21 (by decide) ?_
      exact ih z0 z1 (z2 + 1) _ _ _ _ hq hP hS (show lv_has ls 3 [(0, .ref z0), (1, .int z1), (2, .int (z2 + 1))] from lv_sub hl [1, 2, 0] rfl) kk
set_option maxHeartbeats 4000000 in
set_option maxRecDepth 100000 in
theorem kw_CE_emptyRow {l : Launch} {s00 : State} {E : fs_E} (hE : fs_SE l s00 E) {h : fs_Hp} {a0 : Nat} {x1 : Int32} {Post : fs_Ps} (hq : w_CE_emptyRow E h a0 x1 Post) : fs_Ct l s00 E.1 y_CE_emptyRow (.code y_CE_emptyRow b_CE_emptyRow 3 none) { frames := 2, cells := 0, slots := 0, locals := 30 } [.ref a0, .int x1] h Post := by
  refine fs_Ct.ofR hE.1 (by decide) ?_
  intro p e R s m below meth c hRf hRl hRc hRs B hout hP
  skip
  obtain ⟨hx, hb, hr, hml, hown, hts, hlocks, hname, hK, hw, htr⟩ := id B
  have hown : s.vm.findClass "FormulaSheet$Cells" = some m.cls := hown
  have hS := hw.S
  have hl := lv_entry ([.ref a0, .int x1]) (n := 3) (Nat.le_of_ble_eq_true rfl)
  rw [lg_entry_eq]
  generalize (lg_sl ([.ref a0, .int x1]) ++ List.replicate (3 - (lg_sl ([.ref a0, .int x1])).length) Slot.unset).toArray = ls at hl ⊢
  have hl : lv_has ls 3 [(0, .ref a0), (1, .int x1)] := hl
  unfold w_CE_emptyRow at hq
  refine lv_iconst (v := 0) hx hb d_CE_emptyRow_0 (by decide) ?_
  refine lv_istore_n (lv' := [(2, .int 0), (0, .ref a0), (1, .int x1)]) hx hb d_CE_emptyRow_1 rfl hl (by decide) rfl (fun ls hl => ?_)
  obtain ⟨n104, hq⟩ := hq
  refine lw_w_CE_emptyRow_2 hE B hout (by omega) (by omega) _ n104 a0 x1 0 _ _ _ _ hq hP hS (show lv_has ls 3 [(0, .ref a0), (1, .int x1), (2, .int 0)] from lv_sub hl [1, 2, 0] rfl) (fun  h103 H locs ls hq hP hS hl => ?_)
  exact fs_vret hx hb hr hlocks hw hP hS (Nat.le_refl _) (Nat.le_refl _) hq d_CE_emptyRow_24
def w_CE_filledFrom_L5 (E : fs_E) (K : Int32 → fs_Hp → Prop) (Post : fs_Ps) : Nat → Nat → Int32 → Int32 → Int32 → fs_Hp → Prop
  | 0 => fun _ _ _ _ _ => False
  | n + 1 => fun z0 z2 z3 z4 h1 => (if z2 ≤ z4 then K z3 h1 else fs_gr h1 z0 2 0 (fun a102 => fs_ai h1 a102 (E.1.2 3) z4 (fun x103 => (if x103 = 0 then (w_CE_filledFrom_L5 E K Post n) z0 z2 z3 (z4 + 1) h1 else (w_CE_filledFrom_L5 E K Post n) z0 z2 (z3 + 1) (z4 + 1) h1))))
def w_CE_filledFrom (E : fs_E) (h : fs_Hp) (a0 : Nat) (x1 : Int32) (x2 : Int32) (Post : fs_Ps) : Prop := (∃ n107 : Nat, w_CE_filledFrom_L5 E (fun y105 h106 => Post (.inl (some (.int y105))) h106) Post n107 a0 x2 0 x1 h)
set_option maxHeartbeats 4000000 in
set_option maxRecDepth 100000 in
theorem lw_w_CE_filledFrom_5 {p : Program} {l : Launch} {e : Env} {R : Room} {s : State} {m : MethodId} {args : Array Value} {below : List Frame} {meth : Method} {c : Code} {s00 : State} {E : fs_E} {Post : fs_Ps} (hE : fs_SE l s00 E) (B : fs_B p l e s m args meth c s00 E.1 y_CE_filledFrom b_CE_filledFrom 5 (some .int)) (hout : ∀ pc, ∀ x ∈ c.exceptionTable.toList, covers x pc = false) (hRf : 0 ≤ R.frames) (hRl : 0 ≤ R.locals) (K : Int32 → fs_Hp → Prop) : ∀ (n : Nat) (z0 : Nat) (z2 : Int32) (z3 : Int32) (z4 : Int32) (h1 : fs_Hp) (H : Heap) (locs : List Loc) (ls : Array Slot), w_CE_filledFrom_L5 E K Post n z0 z2 z3 z4 h1 → fs_P E.1.1 fs_cl (fs_A s00) h1 H → va_S (fs_A s00) s00.heap H locs → lv_has ls 5 [(0, .ref z0), (2, .int z2), (3, .int z3), (4, .int z4)] → (∀ (y3 : Int32) (h' : fs_Hp) (H : Heap) (locs : List Loc) (ls : Array Slot), K y3 h' → fs_P E.1.1 fs_cl (fs_A s00) h' H → va_S (fs_A s00) s00.heap H locs → lv_has ls 5 [(0, .ref z0), (2, .int z2), (3, .int y3)] → W p l e R s m args below meth c H locs 0 0 (fx_MQ below (fs_Qc s00 E.1 Post) args s 0 0 (fs_A s00)) (F0 m 30 ls [])) → W p l e R s m args below meth c H locs 0 0 (fx_MQ below (fs_Qc s00 E.1 Post) args s 0 0 (fs_A s00)) (F0 m 5 ls []) := by
  obtain ⟨hx, hb, hr, hml, hown, hts, hlocks, hname, hK, hw, htr⟩ := id B
  have hown : s.vm.findClass "FormulaSheet$Cells" = some m.cls := hown
  intro n
  induction n with
  | zero => intro z0 z2 z3 z4 h1 H locs ls hq; exact False.elim hq
  | succ n ih =>
    intro z0 z2 z3 z4 h1 H locs ls hq hP hS hl kk
    rw [w_CE_filledFrom_L5] at hq
    refine lv_iload hx hb d_CE_filledFrom_5 (lv_at hl 3 rfl) ?_
    refine lv_iload_n hx hb d_CE_filledFrom_7 rfl (lv_at hl 1 rfl) ?_
    refine lv_icmp_ge (tgt := 30) hx hb d_CE_filledFrom_8 (by decide) (fun c_101 => ?_) (fun c_101 => ?_)
    · have hq := fs_wifp c_101 hq
      exact kk z3 _ _ _ _ hq hP hS (show lv_has ls 5 [(0, .ref z0), (2, .int z2), (3, .int z3)] from lv_sub hl [0, 1, 2] rfl)
    · have hq := fs_wifn c_101 hq
      refine lv_aload_n hx hb d_CE_filledFrom_11 rfl (lv_at hl 0 rfl) ?_
      obtain ⟨fs_, a102, he_, hv_, hq⟩ := fs_gr_some hq
      refine fs_get hx hb hts hown hK c_CE hP he_ 0 (by decide) (hts _ (fs_tb_at 180 tw_180 rfl)) (fun _ h9 => h9) hv_ d_CE_filledFrom_12 ?_
      refine lv_iload hx hb d_CE_filledFrom_15 (lv_at hl 3 rfl) ?_
      obtain ⟨n_, f_, x103, e_, hi_, ex_, hq⟩ := fs_ai_some hq
      refine fs_zald hx hb hK hP 3 e_ rfl hi_ d_CE_filledFrom_17 ?_
      rw [← ex_]
      refine lv_if_eq (tgt := 24) hx hb d_CE_filledFrom_18 (by decide) (fun c_104 => ?_) (fun c_104 => ?_)
      · have hq := fs_wifp c_104 hq
        refine lv_iinc (v := z4 + 1) (lv' := [(4, .int (z4 + 1)), (0, .ref z0), (2, .int z2), (3, .int z3)]) hx hb d_CE_filledFrom_24 hl (k := 3) rfl rfl (by decide) rfl (fun ls hl => ?_)
        refine lv_goto (tgt := 5) hx hb d_CE_filledFrom_27 (by decide) ?_
        exact ih z0 z2 z3 (z4 + 1) _ _ _ _ hq hP hS (show lv_has ls 5 [(0, .ref z0), (2, .int z2), (3, .int z3), (4, .int (z4 + 1))] from lv_sub hl [1, 2, 3, 0] rfl) kk
      · have hq := fs_wifn c_104 hq
        refine lv_iinc (v := z3 + 1) (lv' := [(3, .int (z3 + 1)), (0, .ref z0), (2, .int z2), (4, .int z4)]) hx hb d_CE_filledFrom_21 hl (k := 2) rfl rfl (by decide) rfl (fun ls hl => ?_)
        refine lv_iinc (v := z4 + 1) (lv' := [(4, .int (z4 + 1)), (3, .int (z3 + 1)), (0, .ref z0), (2, .int z2)]) hx hb d_CE_filledFrom_24 hl (k := 3) rfl rfl (by decide) rfl (fun ls hl => ?_)
        refine lv_goto (tgt := 5) hx hb d_CE_filledFrom_27 (by decide) ?_
        exact ih z0 z2 (z3 + 1) (z4 + 1) _ _ _ _ hq hP hS (show lv_has ls 5 [(0, .ref z0), (2, .int z2), (3, .int (z3 + 1)), (4, .int (z4 + 1))] from lv_sub hl [2, 3, 1, 0] rfl) kk
set_option maxHeartbeats 4000000 in
set_option maxRecDepth 100000 in
theorem kw_CE_filledFrom {l : Launch} {s00 : State} {E : fs_E} (hE : fs_SE l s00 E) {h : fs_Hp} {a0 : Nat} {x1 : Int32} {x2 : Int32} {Post : fs_Ps} (hq : w_CE_filledFrom E h a0 x1 x2 Post) : fs_Ct l s00 E.1 y_CE_filledFrom (.code y_CE_filledFrom b_CE_filledFrom 5 (some .int)) { frames := 0, cells := 0, slots := 0, locals := 0 } [.ref a0, .int x1, .int x2] h Post := by
  refine fs_Ct.ofR hE.1 (by decide) ?_
  intro p e R s m below meth c hRf hRl hRc hRs B hout hP
  skip
  obtain ⟨hx, hb, hr, hml, hown, hts, hlocks, hname, hK, hw, htr⟩ := id B
  have hown : s.vm.findClass "FormulaSheet$Cells" = some m.cls := hown
  have hS := hw.S
  have hl := lv_entry ([.ref a0, .int x1, .int x2]) (n := 5) (Nat.le_of_ble_eq_true rfl)
  rw [lg_entry_eq]
  generalize (lg_sl ([.ref a0, .int x1, .int x2]) ++ List.replicate (5 - (lg_sl ([.ref a0, .int x1, .int x2])).length) Slot.unset).toArray = ls at hl ⊢
  have hl : lv_has ls 5 [(0, .ref a0), (1, .int x1), (2, .int x2)] := hl
  unfold w_CE_filledFrom at hq
  refine lv_iconst (v := 0) hx hb d_CE_filledFrom_0 (by decide) ?_
  refine lv_istore_n (lv' := [(3, .int 0), (0, .ref a0), (1, .int x1), (2, .int x2)]) hx hb d_CE_filledFrom_1 rfl hl (by decide) rfl (fun ls hl => ?_)
  refine lv_iload_n hx hb d_CE_filledFrom_2 rfl (lv_at hl 2 rfl) ?_
  refine lv_istore (lv' := [(4, .int x1), (3, .int 0), (0, .ref a0), (1, .int x1), (2, .int x2)]) hx hb d_CE_filledFrom_3 hl (by decide) rfl (fun ls hl => ?_)
  obtain ⟨n107, hq⟩ := hq
  refine lw_w_CE_filledFrom_5 hE B hout (by omega) (by omega) _ n107 a0 x2 0 x1 _ _ _ _ hq hP hS (show lv_has ls 5 [(0, .ref a0), (2, .int x2), (3, .int 0), (4, .int x1)] from lv_sub hl [2, 4, 1, 0] rfl) (fun y105 h106 H locs ls hq hP hS hl => ?_)
  refine lv_iload_n hx hb d_CE_filledFrom_30 rfl (lv_at hl 2 rfl) ?_
  exact fs_iret hx hb hr hlocks hw hP hS (vp_nar_int _) (Nat.le_refl _) (Nat.le_refl _) hq d_CE_filledFrom_31
def w_CE_formulasInAll_L4 (E : fs_E) (K : Int32 → fs_Hp → Prop) (Post : fs_Ps) : Nat → Nat → Int32 → Int32 → fs_Hp → Prop
  | 0 => fun _ _ _ _ => False
  | n + 1 => fun z0 z1 z2 h1 => (if 80 ≤ z2 then K z1 h1 else fs_gr h1 z0 2 1 (fun a102 => fs_aq h1 a102 (E.1.2 6) z2 (fun o9 => match o9 with | none => (w_CE_formulasInAll_L4 E K Post n) z0 z1 (z2 + 1) h1 | some a105 => (w_CE_formulasInAll_L4 E K Post n) z0 (z1 + 1) (z2 + 1) h1)))
def w_CE_formulasInAll (E : fs_E) (h : fs_Hp) (a0 : Nat) (Post : fs_Ps) : Prop := (∃ n108 : Nat, w_CE_formulasInAll_L4 E (fun y106 h107 => Post (.inl (some (.int y106))) h107) Post n108 a0 0 0 h)
set_option maxHeartbeats 4000000 in
set_option maxRecDepth 100000 in
theorem lw_w_CE_formulasInAll_4 {p : Program} {l : Launch} {e : Env} {R : Room} {s : State} {m : MethodId} {args : Array Value} {below : List Frame} {meth : Method} {c : Code} {s00 : State} {E : fs_E} {Post : fs_Ps} (hE : fs_SE l s00 E) (B : fs_B p l e s m args meth c s00 E.1 y_CE_formulasInAll b_CE_formulasInAll 3 (some .int)) (hout : ∀ pc, ∀ x ∈ c.exceptionTable.toList, covers x pc = false) (hRf : 0 ≤ R.frames) (hRl : 0 ≤ R.locals) (K : Int32 → fs_Hp → Prop) : ∀ (n : Nat) (z0 : Nat) (z1 : Int32) (z2 : Int32) (h1 : fs_Hp) (H : Heap) (locs : List Loc) (ls : Array Slot), w_CE_formulasInAll_L4 E K Post n z0 z1 z2 h1 → fs_P E.1.1 fs_cl (fs_A s00) h1 H → va_S (fs_A s00) s00.heap H locs → lv_has ls 3 [(0, .ref z0), (1, .int z1), (2, .int z2)] → (∀ (y1 : Int32) (h' : fs_Hp) (H : Heap) (locs : List Loc) (ls : Array Slot), K y1 h' → fs_P E.1.1 fs_cl (fs_A s00) h' H → va_S (fs_A s00) s00.heap H locs → lv_has ls 3 [(0, .ref z0), (1, .int y1)] → W p l e R s m args below meth c H locs 0 0 (fx_MQ below (fs_Qc s00 E.1 Post) args s 0 0 (fs_A s00)) (F0 m 28 ls [])) → W p l e R s m args below meth c H locs 0 0 (fx_MQ below (fs_Qc s00 E.1 Post) args s 0 0 (fs_A s00)) (F0 m 4 ls []) := by
  obtain ⟨hx, hb, hr, hml, hown, hts, hlocks, hname, hK, hw, htr⟩ := id B
  have hown : s.vm.findClass "FormulaSheet$Cells" = some m.cls := hown
  intro n
  induction n with
  | zero => intro z0 z1 z2 h1 H locs ls hq; exact False.elim hq
  | succ n ih =>
    intro z0 z1 z2 h1 H locs ls hq hP hS hl kk
    rw [w_CE_formulasInAll_L4] at hq
    refine lv_iload_n hx hb d_CE_formulasInAll_4 rfl (lv_at hl 2 rfl) ?_
    refine lv_bipush (v := 80) hx hb d_CE_formulasInAll_5 (by decide) ?_
    refine lv_icmp_ge (tgt := 28) hx hb d_CE_formulasInAll_7 (by decide) (fun c_101 => ?_) (fun c_101 => ?_)
    · have hq := fs_wifp c_101 hq
      exact kk z1 _ _ _ _ hq hP hS (show lv_has ls 3 [(0, .ref z0), (1, .int z1)] from lv_sub hl [0, 1] rfl)
    · have hq := fs_wifn c_101 hq
      refine lv_aload_n hx hb d_CE_formulasInAll_10 rfl (lv_at hl 0 rfl) ?_
      obtain ⟨fs_, a102, he_, hv_, hq⟩ := fs_gr_some hq
      refine fs_get hx hb hts hown hK c_CE hP he_ 1 (by decide) (hts _ (fs_tb_at 184 tw_184 rfl)) (fun _ h9 => h9) hv_ d_CE_formulasInAll_11 ?_
      refine lv_iload_n hx hb d_CE_formulasInAll_14 rfl (lv_at hl 2 rfl) ?_
      obtain ⟨n_, f_, o103, e_, hi_, ex_, hq⟩ := fs_aq_some hq
      refine fs_aald hx hb hK hP 6 e_ rfl hi_ d_CE_formulasInAll_15 ?_
      rw [← ex_]
      cases o103 with
      | none =>
        refine W.eq (g2 := F0 m 16 ls (.null :: [])) rfl ?_
        refine lv_ifnullN (tgt := 22) hx hb d_CE_formulasInAll_16 (by decide) ?_
        refine lv_iinc (v := z2 + 1) (lv' := [(2, .int (z2 + 1)), (0, .ref z0), (1, .int z1)]) hx hb d_CE_formulasInAll_22 hl (k := 2) rfl rfl (by decide) rfl (fun ls hl => ?_)
        refine lv_goto (tgt := 4) hx hb d_CE_formulasInAll_25 (by decide) ?_
        exact ih z0 z1 (z2 + 1) _ _ _ _ hq hP hS (show lv_has ls 3 [(0, .ref z0), (1, .int z1), (2, .int (z2 + 1))] from lv_sub hl [1, 2, 0] rfl) kk
      | some a105 =>
        refine W.eq (g2 := F0 m 16 ls (.ref a105 :: [])) rfl ?_
        refine lv_ifnull hx hb d_CE_formulasInAll_16 ?_
        refine lv_iinc (v := z1 + 1) (lv' := [(1, .int (z1 + 1)), (0, .ref z0), (2, .int z2)]) hx hb d_CE_formulasInAll_19 hl (k := 1) rfl rfl (by decide) rfl (fun ls hl => ?_)
        refine lv_iinc (v := z2 + 1) (lv' := [(2, .int (z2 + 1)), (1, .int (z1 + 1)), (0, .ref z0)]) hx hb d_CE_formulasInAll_22 hl (k := 2) rfl rfl (by decide) rfl (fun ls hl => ?_)
        refine lv_goto (tgt := 4) hx hb d_CE_formulasInAll_25 (by decide) ?_
        exact ih z0 (z1 + 1) (z2 + 1) _ _ _ _ hq hP hS (show lv_has ls 3 [(0, .ref z0), (1, .int (z1 + 1)), (2, .int (z2 + 1))] from lv_sub hl [2, 1, 0] rfl) kk
set_option maxHeartbeats 4000000 in
set_option maxRecDepth 100000 in
theorem kw_CE_formulasInAll {l : Launch} {s00 : State} {E : fs_E} (hE : fs_SE l s00 E) {h : fs_Hp} {a0 : Nat} {Post : fs_Ps} (hq : w_CE_formulasInAll E h a0 Post) : fs_Ct l s00 E.1 y_CE_formulasInAll (.code y_CE_formulasInAll b_CE_formulasInAll 3 (some .int)) { frames := 0, cells := 0, slots := 0, locals := 0 } [.ref a0] h Post := by
  refine fs_Ct.ofR hE.1 (by decide) ?_
  intro p e R s m below meth c hRf hRl hRc hRs B hout hP
  skip
  obtain ⟨hx, hb, hr, hml, hown, hts, hlocks, hname, hK, hw, htr⟩ := id B
  have hown : s.vm.findClass "FormulaSheet$Cells" = some m.cls := hown
  have hS := hw.S
  have hl := lv_entry ([.ref a0]) (n := 3) (Nat.le_of_ble_eq_true rfl)
  rw [lg_entry_eq]
  generalize (lg_sl ([.ref a0]) ++ List.replicate (3 - (lg_sl ([.ref a0])).length) Slot.unset).toArray = ls at hl ⊢
  have hl : lv_has ls 3 [(0, .ref a0)] := hl
  unfold w_CE_formulasInAll at hq
  refine lv_iconst (v := 0) hx hb d_CE_formulasInAll_0 (by decide) ?_
  refine lv_istore_n (lv' := [(1, .int 0), (0, .ref a0)]) hx hb d_CE_formulasInAll_1 rfl hl (by decide) rfl (fun ls hl => ?_)
  refine lv_iconst (v := 0) hx hb d_CE_formulasInAll_2 (by decide) ?_
  refine lv_istore_n (lv' := [(2, .int 0), (1, .int 0), (0, .ref a0)]) hx hb d_CE_formulasInAll_3 rfl hl (by decide) rfl (fun ls hl => ?_)
  obtain ⟨n108, hq⟩ := hq
  refine lw_w_CE_formulasInAll_4 hE B hout (by omega) (by omega) _ n108 a0 0 0 _ _ _ _ hq hP hS (show lv_has ls 3 [(0, .ref a0), (1, .int 0), (2, .int 0)] from lv_sub hl [2, 1, 0] rfl) (fun y106 h107 H locs ls hq hP hS hl => ?_)
  refine lv_iload_n hx hb d_CE_formulasInAll_28 rfl (lv_at hl 1 rfl) ?_
  exact fs_iret hx hb hr hlocks hw hP hS (vp_nar_int _) (Nat.le_refl _) (Nat.le_refl _) hq d_CE_formulasInAll_29
def w_CE_isCircular (E : fs_E) (h : fs_Hp) (a0 : Nat) (x1 : Int32) (Post : fs_Ps) : Prop := fs_gr h a0 2 3 (fun a101 => fs_aq h a101 (E.1.2 7) x1 (fun o9 => match o9 with | none => False | some a104 => fs_isc h a104 3 ∧ (w_CS_has E h a104 x1 (fs_ki (fun x106 h105 => (narrow .boolean (.int x106) = (.int x106)) ∧ (Post (.inl (some (.int x106))) h105)) (fun C_ h_ => Post (.inr C_) h_)))))
set_option maxHeartbeats 4000000 in
set_option maxRecDepth 100000 in
theorem kw_CE_isCircular {l : Launch} {s00 : State} {E : fs_E} (hE : fs_SE l s00 E) {h : fs_Hp} {a0 : Nat} {x1 : Int32} {Post : fs_Ps} (hq : w_CE_isCircular E h a0 x1 Post) : fs_Ct l s00 E.1 y_CE_isCircular (.code y_CE_isCircular b_CE_isCircular 2 (some .boolean)) { frames := 1, cells := 0, slots := 0, locals := 15 } [.ref a0, .int x1] h Post := by
  refine fs_Ct.ofR hE.1 (by decide) ?_
  intro p e R s m below meth c hRf hRl hRc hRs B hout hP
  skip
  obtain ⟨hx, hb, hr, hml, hown, hts, hlocks, hname, hK, hw, htr⟩ := id B
  have hown : s.vm.findClass "FormulaSheet$Cells" = some m.cls := hown
  have hS := hw.S
  have hl := lv_entry ([.ref a0, .int x1]) (n := 2) (Nat.le_of_ble_eq_true rfl)
  rw [lg_entry_eq]
  generalize (lg_sl ([.ref a0, .int x1]) ++ List.replicate (2 - (lg_sl ([.ref a0, .int x1])).length) Slot.unset).toArray = ls at hl ⊢
  have hl : lv_has ls 2 [(0, .ref a0), (1, .int x1)] := hl
  unfold w_CE_isCircular at hq
  refine lv_aload_n hx hb d_CE_isCircular_0 rfl (lv_at hl 0 rfl) ?_
  obtain ⟨fs_, a101, he_, hv_, hq⟩ := fs_gr_some hq
  refine fs_get hx hb hts hown hK c_CE hP he_ 3 (by decide) (hts _ (fs_tb_at 190 tw_190 rfl)) (fun _ h9 => h9) hv_ d_CE_isCircular_1 ?_
  refine lv_iload_n hx hb d_CE_isCircular_4 rfl (lv_at hl 1 rfl) ?_
  obtain ⟨n_, f_, o102, e_, hi_, ex_, hq⟩ := fs_aq_some hq
  refine fs_aald hx hb hK hP 7 e_ rfl hi_ d_CE_isCircular_5 ?_
  rw [← ex_]
  cases o102 with
  | none =>
    refine W.eq (g2 := F0 m 6 ls (.null :: [])) rfl ?_
    refine lv_iload_n hx hb d_CE_isCircular_6 rfl (lv_at hl 1 rfl) ?_
    exact False.elim hq
  | some a104 =>
    refine W.eq (g2 := F0 m 6 ls (.ref a104 :: [])) rfl ?_
    refine lv_iload_n hx hb d_CE_isCircular_6 rfl (lv_at hl 1 rfl) ?_
    obtain ⟨hi_, hq⟩ := hq
    obtain ⟨fs_, he_⟩ := fs_isc_some hi_
    refine fs_cV B hl.1 hP hS (kw_CS_has hE hq) (fs_tb_at 345 tw_345 rfl) he_ rfl (fs_tb_at 346 tw_346 rfl) (fs_tb_at 347 tw_347 rfl) (fs_tb_at 91 tw_91 rfl) (fs_tb_at 348 tw_348 rfl) (by decide) (show (parseMethodDescriptor y_CS_has.desc).map (fun d => d.parameters.length) = some 1 by decide +kernel) rfl d_CE_isCircular_7 (fs_rm (k := 0) (by omega) (by omega) (by omega) (by omega) rfl) (fun v_ h105 H locs hq hP hS => ?_) (fun C_ a_ h_ H locs hq hP hS hX => fs_out (hout _) hlocks hw hP hS hX (Nat.le_of_ble_eq_true rfl) (Nat.le_of_ble_eq_true rfl) hq)
    refine fs_cs (k := 0) (n := 0) rfl rfl ?_
    replace hq := fs_ki_some hq
    obtain ⟨x106, rfl, hq⟩ := hq
    refine W.eq (g2 := F0 m 10 ls (.int x106 :: [])) rfl ?_
    obtain ⟨hn_, hq⟩ := hq
    exact fs_iret hx hb hr hlocks hw hP hS hn_ (Nat.le_refl _) (Nat.le_refl _) hq d_CE_isCircular_10
def w_CE_goOnFrom_L2 (E : fs_E) (K : fs_Hp → Prop) (Post : fs_Ps) : Nat → Nat → Int32 → Int32 → fs_Hp → Prop
  | 0 => fun _ _ _ _ => False
  | n + 1 => fun z0 z1 z2 h1 => (if 80 ≤ z2 then K h1 else fs_gr h1 z0 2 3 (fun a102 => fs_aq h1 a102 (E.1.2 7) z2 (fun o9 => match o9 with | none => False | some a105 => fs_isc h1 a105 3 ∧ (w_CS_has E h1 a105 z1 (fs_ki (fun x107 h106 => (if x107 = 0 then (w_CE_goOnFrom_L2 E K Post n) z0 z1 (z2 + 1) h106 else fs_gr h106 z0 2 3 (fun a109 => fs_aq h106 a109 (E.1.2 7) z2 (fun o9 => match o9 with | none => fs_gr h106 z0 2 3 (fun a112 => fs_aq h106 a112 (E.1.2 7) z1 (fun o9 => match o9 with | none => False | some a115 => False)) | some a116 => fs_gr h106 z0 2 3 (fun a117 => fs_aq h106 a117 (E.1.2 7) z1 (fun o9 => match o9 with | none => False | some a120 => fs_isc h106 a116 3 ∧ (w_CS_addAll E h106 a116 a120 (fs_kv (fun h121 => (w_CE_goOnFrom_L2 E K Post n) z0 z1 (z2 + 1) h121) (fun C_ h_ => Post (.inr C_) h_))))))))) (fun C_ h_ => Post (.inr C_) h_))))))
def w_CE_goOnFrom (E : fs_E) (h : fs_Hp) (a0 : Nat) (x1 : Int32) (Post : fs_Ps) : Prop := (∃ n123 : Nat, w_CE_goOnFrom_L2 E (fun h122 => Post (.inl none) h122) Post n123 a0 x1 0 h)
set_option maxHeartbeats 4000000 in
set_option maxRecDepth 100000 in
theorem lw_w_CE_goOnFrom_2 {p : Program} {l : Launch} {e : Env} {R : Room} {s : State} {m : MethodId} {args : Array Value} {below : List Frame} {meth : Method} {c : Code} {s00 : State} {E : fs_E} {Post : fs_Ps} (hE : fs_SE l s00 E) (B : fs_B p l e s m args meth c s00 E.1 y_CE_goOnFrom b_CE_goOnFrom 3 none) (hout : ∀ pc, ∀ x ∈ c.exceptionTable.toList, covers x pc = false) (hRf : 1 ≤ R.frames) (hRl : 15 ≤ R.locals) (K : fs_Hp → Prop) : ∀ (n : Nat) (z0 : Nat) (z1 : Int32) (z2 : Int32) (h1 : fs_Hp) (H : Heap) (locs : List Loc) (ls : Array Slot), w_CE_goOnFrom_L2 E K Post n z0 z1 z2 h1 → fs_P E.1.1 fs_cl (fs_A s00) h1 H → va_S (fs_A s00) s00.heap H locs → lv_has ls 3 [(0, .ref z0), (1, .int z1), (2, .int z2)] → (∀  (h' : fs_Hp) (H : Heap) (locs : List Loc) (ls : Array Slot), K  h' → fs_P E.1.1 fs_cl (fs_A s00) h' H → va_S (fs_A s00) s00.heap H locs → lv_has ls 3 [(0, .ref z0), (1, .int z1)] → W p l e R s m args below meth c H locs 0 0 (fx_MQ below (fs_Qc s00 E.1 Post) args s 0 0 (fs_A s00)) (F0 m 42 ls [])) → W p l e R s m args below meth c H locs 0 0 (fx_MQ below (fs_Qc s00 E.1 Post) args s 0 0 (fs_A s00)) (F0 m 2 ls []) := by
  obtain ⟨hx, hb, hr, hml, hown, hts, hlocks, hname, hK, hw, htr⟩ := id B
  have hown : s.vm.findClass "FormulaSheet$Cells" = some m.cls := hown
  intro n
  induction n with
  | zero => intro z0 z1 z2 h1 H locs ls hq; exact False.elim hq
  | succ n ih =>
    intro z0 z1 z2 h1 H locs ls hq hP hS hl kk
    rw [w_CE_goOnFrom_L2] at hq
    refine lv_iload_n hx hb d_CE_goOnFrom_2 rfl (lv_at hl 2 rfl) ?_
    refine lv_bipush (v := 80) hx hb d_CE_goOnFrom_3 (by decide) ?_
    refine lv_icmp_ge (tgt := 42) hx hb d_CE_goOnFrom_5 (by decide) (fun c_101 => ?_) (fun c_101 => ?_)
    · have hq := fs_wifp c_101 hq
      exact kk  _ _ _ _ hq hP hS (show lv_has ls 3 [(0, .ref z0), (1, .int z1)] from lv_sub hl [0, 1] rfl)
    · have hq := fs_wifn c_101 hq
      refine lv_aload_n hx hb d_CE_goOnFrom_8 rfl (lv_at hl 0 rfl) ?_
      obtain ⟨fs_, a102, he_, hv_, hq⟩ := fs_gr_some hq
      refine fs_get hx hb hts hown hK c_CE hP he_ 3 (by decide) (hts _ (fs_tb_at 190 tw_190 rfl)) (fun _ h9 => h9) hv_ d_CE_goOnFrom_9 ?_
      refine lv_iload_n hx hb d_CE_goOnFrom_12 rfl (lv_at hl 2 rfl) ?_
      obtain ⟨n_, f_, o103, e_, hi_, ex_, hq⟩ := fs_aq_some hq
      refine fs_aald hx hb hK hP 7 e_ rfl hi_ d_CE_goOnFrom_13 ?_
      rw [← ex_]
      cases o103 with
      | none =>
        refine W.eq (g2 := F0 m 14 ls (.null :: [])) rfl ?_
        refine lv_iload_n hx hb d_CE_goOnFrom_14 rfl (lv_at hl 1 rfl) ?_
        exact False.elim hq
      | some a105 =>
        refine W.eq (g2 := F0 m 14 ls (.ref a105 :: [])) rfl ?_
        refine lv_iload_n hx hb d_CE_goOnFrom_14 rfl (lv_at hl 1 rfl) ?_
        obtain ⟨hi_, hq⟩ := hq
        obtain ⟨fs_, he_⟩ := fs_isc_some hi_
        refine fs_cV B hl.1 hP hS (kw_CS_has hE hq) (fs_tb_at 345 tw_345 rfl) he_ rfl (fs_tb_at 346 tw_346 rfl) (fs_tb_at 347 tw_347 rfl) (fs_tb_at 91 tw_91 rfl) (fs_tb_at 348 tw_348 rfl) (by decide) (show (parseMethodDescriptor y_CS_has.desc).map (fun d => d.parameters.length) = some 1 by decide +kernel) rfl d_CE_goOnFrom_15 (fs_rm (k := 0) (by omega) (by omega) (by omega) (by omega) rfl) (fun v_ h106 H locs hq hP hS => ?_) (fun C_ a_ h_ H locs hq hP hS hX => fs_out (hout _) hlocks hw hP hS hX (Nat.le_of_ble_eq_true rfl) (Nat.le_of_ble_eq_true rfl) hq)
        refine fs_cs (k := 0) (n := 0) rfl rfl ?_
        replace hq := fs_ki_some hq
        obtain ⟨x107, rfl, hq⟩ := hq
        refine W.eq (g2 := F0 m 18 ls (.int x107 :: [])) rfl ?_
        refine lv_if_eq (tgt := 36) hx hb d_CE_goOnFrom_18 (by decide) (fun c_108 => ?_) (fun c_108 => ?_)
        · have hq := fs_wifp c_108 hq
          refine lv_iinc (v := z2 + 1) (lv' := [(2, .int (z2 + 1)), (0, .ref z0), (1, .int z1)]) hx hb d_CE_goOnFrom_36 hl (k := 2) rfl rfl (by decide) rfl (fun ls hl => ?_)
          refine lv_goto (tgt := 2) hx hb d_CE_goOnFrom_39 (by decide) ?_
          exact ih z0 z1 (z2 + 1) _ _ _ _ hq hP hS (show lv_has ls 3 [(0, .ref z0), (1, .int z1), (2, .int (z2 + 1))] from lv_sub hl [1, 2, 0] rfl) kk
        · have hq := fs_wifn c_108 hq
          refine lv_aload_n hx hb d_CE_goOnFrom_21 rfl (lv_at hl 0 rfl) ?_
          obtain ⟨fs_, a109, he_, hv_, hq⟩ := fs_gr_some hq
          refine fs_get hx hb hts hown hK c_CE hP he_ 3 (by decide) (hts _ (fs_tb_at 190 tw_190 rfl)) (fun _ h9 => h9) hv_ d_CE_goOnFrom_22 ?_
          refine lv_iload_n hx hb d_CE_goOnFrom_25 rfl (lv_at hl 2 rfl) ?_
          obtain ⟨n_, f_, o110, e_, hi_, ex_, hq⟩ := fs_aq_some hq
          refine fs_aald hx hb hK hP 7 e_ rfl hi_ d_CE_goOnFrom_26 ?_
          rw [← ex_]
          cases o110 with
          | none =>
            refine W.eq (g2 := F0 m 27 ls (.null :: [])) rfl ?_
            refine lv_aload_n hx hb d_CE_goOnFrom_27 rfl (lv_at hl 0 rfl) ?_
            obtain ⟨fs_, a112, he_, hv_, hq⟩ := fs_gr_some hq
            refine fs_get hx hb hts hown hK c_CE hP he_ 3 (by decide) (hts _ (fs_tb_at 190 tw_190 rfl)) (fun _ h9 => h9) hv_ d_CE_goOnFrom_28 ?_
            refine lv_iload_n hx hb d_CE_goOnFrom_31 rfl (lv_at hl 1 rfl) ?_
            obtain ⟨n_, f_, o113, e_, hi_, ex_, hq⟩ := fs_aq_some hq
            refine fs_aald hx hb hK hP 7 e_ rfl hi_ d_CE_goOnFrom_32 ?_
            rw [← ex_]
            cases o113 with
            | none =>
              refine W.eq (g2 := F0 m 33 ls (.null :: .null :: [])) rfl ?_
              exact False.elim hq
            | some a115 =>
              refine W.eq (g2 := F0 m 33 ls (.ref a115 :: .null :: [])) rfl ?_
              exact False.elim hq
          | some a116 =>
            refine W.eq (g2 := F0 m 27 ls (.ref a116 :: [])) rfl ?_
            refine lv_aload_n hx hb d_CE_goOnFrom_27 rfl (lv_at hl 0 rfl) ?_
            obtain ⟨fs_, a117, he_, hv_, hq⟩ := fs_gr_some hq
            refine fs_get hx hb hts hown hK c_CE hP he_ 3 (by decide) (hts _ (fs_tb_at 190 tw_190 rfl)) (fun _ h9 => h9) hv_ d_CE_goOnFrom_28 ?_
            refine lv_iload_n hx hb d_CE_goOnFrom_31 rfl (lv_at hl 1 rfl) ?_
            obtain ⟨n_, f_, o118, e_, hi_, ex_, hq⟩ := fs_aq_some hq
            refine fs_aald hx hb hK hP 7 e_ rfl hi_ d_CE_goOnFrom_32 ?_
            rw [← ex_]
            cases o118 with
            | none =>
              refine W.eq (g2 := F0 m 33 ls (.null :: .ref a116 :: [])) rfl ?_
              exact False.elim hq
            | some a120 =>
              refine W.eq (g2 := F0 m 33 ls (.ref a120 :: .ref a116 :: [])) rfl ?_
              obtain ⟨hi_, hq⟩ := hq
              obtain ⟨fs_, he_⟩ := fs_isc_some hi_
              refine fs_cV B hl.1 hP hS (kw_CS_addAll hE hq) (fs_tb_at 349 tw_349 rfl) he_ rfl (fs_tb_at 350 tw_350 rfl) (fs_tb_at 351 tw_351 rfl) (fs_tb_at 91 tw_91 rfl) (fs_tb_at 352 tw_352 rfl) (by decide) (show (parseMethodDescriptor y_CS_addAll.desc).map (fun d => d.parameters.length) = some 1 by decide +kernel) rfl d_CE_goOnFrom_33 (fs_rm (k := 0) (by omega) (by omega) (by omega) (by omega) rfl) (fun v_ h121 H locs hq hP hS => ?_) (fun C_ a_ h_ H locs hq hP hS hX => fs_out (hout _) hlocks hw hP hS hX (Nat.le_of_ble_eq_true rfl) (Nat.le_of_ble_eq_true rfl) hq)
              refine fs_cs (k := 0) (n := 0) rfl rfl ?_
              replace hq := fs_kv_some hq
              obtain ⟨rfl, hq⟩ := hq
              refine W.eq (g2 := F0 m 36 ls ([])) rfl ?_
              refine lv_iinc (v := z2 + 1) (lv' := [(2, .int (z2 + 1)), (0, .ref z0), (1, .int z1)]) hx hb d_CE_goOnFrom_36 hl (k := 2) rfl rfl (by decide) rfl (fun ls hl => ?_)
              refine lv_goto (tgt := 2) hx hb d_CE_goOnFrom_39 (by decide) ?_
              exact ih z0 z1 (z2 + 1) _ _ _ _ hq hP hS (show lv_has ls 3 [(0, .ref z0), (1, .int z1), (2, .int (z2 + 1))] from lv_sub hl [1, 2, 0] rfl) kk
set_option maxHeartbeats 4000000 in
set_option maxRecDepth 100000 in
theorem kw_CE_goOnFrom {l : Launch} {s00 : State} {E : fs_E} (hE : fs_SE l s00 E) {h : fs_Hp} {a0 : Nat} {x1 : Int32} {Post : fs_Ps} (hq : w_CE_goOnFrom E h a0 x1 Post) : fs_Ct l s00 E.1 y_CE_goOnFrom (.code y_CE_goOnFrom b_CE_goOnFrom 3 none) { frames := 1, cells := 0, slots := 0, locals := 15 } [.ref a0, .int x1] h Post := by
  refine fs_Ct.ofR hE.1 (by decide) ?_
  intro p e R s m below meth c hRf hRl hRc hRs B hout hP
  skip
  obtain ⟨hx, hb, hr, hml, hown, hts, hlocks, hname, hK, hw, htr⟩ := id B
  have hown : s.vm.findClass "FormulaSheet$Cells" = some m.cls := hown
  have hS := hw.S
  have hl := lv_entry ([.ref a0, .int x1]) (n := 3) (Nat.le_of_ble_eq_true rfl)
  rw [lg_entry_eq]
  generalize (lg_sl ([.ref a0, .int x1]) ++ List.replicate (3 - (lg_sl ([.ref a0, .int x1])).length) Slot.unset).toArray = ls at hl ⊢
  have hl : lv_has ls 3 [(0, .ref a0), (1, .int x1)] := hl
  unfold w_CE_goOnFrom at hq
  refine lv_iconst (v := 0) hx hb d_CE_goOnFrom_0 (by decide) ?_
  refine lv_istore_n (lv' := [(2, .int 0), (0, .ref a0), (1, .int x1)]) hx hb d_CE_goOnFrom_1 rfl hl (by decide) rfl (fun ls hl => ?_)
  obtain ⟨n123, hq⟩ := hq
  refine lw_w_CE_goOnFrom_2 hE B hout (by omega) (by omega) _ n123 a0 x1 0 _ _ _ _ hq hP hS (show lv_has ls 3 [(0, .ref a0), (1, .int x1), (2, .int 0)] from lv_sub hl [1, 2, 0] rfl) (fun  h122 H locs ls hq hP hS hl => ?_)
  exact fs_vret hx hb hr hlocks hw hP hS (Nat.le_refl _) (Nat.le_refl _) hq d_CE_goOnFrom_42
def w_CE_findReached_L2 (E : fs_E) (K : fs_Hp → Prop) (Post : fs_Ps) : Nat → Nat → Int32 → fs_Hp → Prop
  | 0 => fun _ _ _ => False
  | n + 1 => fun z0 z1 h1 => (if 80 ≤ z1 then K h1 else fs_gr h1 z0 2 3 (fun a102 => fs_aq h1 a102 (E.1.2 7) z1 (fun o9 => match o9 with | none => False | some a105 => fs_isc h1 a105 3 ∧ (w_CS_clear E h1 a105 (fs_kv (fun h106 => fs_gr h106 z0 2 1 (fun a107 => fs_aq h106 a107 (E.1.2 6) z1 (fun o9 => match o9 with | none => (w_CE_findReached_L2 E K Post n) z0 (z1 + 1) h106 | some a110 => fs_gr h106 z0 2 1 (fun a111 => fs_aq h106 a111 (E.1.2 6) z1 (fun o9 => match o9 with | none => fs_gr h106 z0 2 3 (fun a114 => fs_aq h106 a114 (E.1.2 7) z1 (fun o9 => match o9 with | none => False | some a117 => False)) | some a118 => fs_gr h106 z0 2 3 (fun a119 => fs_aq h106 a119 (E.1.2 7) z1 (fun o9 => match o9 with | none => False | some a122 => w_N_addCells 42 E h106 a118 a122 (fs_kv (fun h123 => (w_CE_findReached_L2 E K Post n) z0 (z1 + 1) h123) (fun C_ h_ => Post (.inr C_) h_))))))))) (fun C_ h_ => Post (.inr C_) h_))))))
def w_CE_findReached_L49 (E : fs_E) (K : fs_Hp → Prop) (Post : fs_Ps) : Nat → Nat → Int32 → fs_Hp → Prop
  | 0 => fun _ _ _ => False
  | n + 1 => fun z0 z1 h1 => (if 80 ≤ z1 then K h1 else fs_gr h1 z0 2 1 (fun a127 => fs_aq h1 a127 (E.1.2 6) z1 (fun o9 => match o9 with | none => (w_CE_findReached_L49 E K Post n) z0 (z1 + 1) h1 | some a130 => fs_isc h1 z0 2 ∧ (w_CE_goOnFrom E h1 z0 z1 (fs_kv (fun h131 => (w_CE_findReached_L49 E K Post n) z0 (z1 + 1) h131) (fun C_ h_ => Post (.inr C_) h_))))))
def w_CE_findReached (E : fs_E) (h : fs_Hp) (a0 : Nat) (Post : fs_Ps) : Prop := (∃ n125 : Nat, w_CE_findReached_L2 E (fun h124 => (∃ n133 : Nat, w_CE_findReached_L49 E (fun h132 => Post (.inl none) h132) Post n133 a0 0 h124)) Post n125 a0 0 h)
set_option maxHeartbeats 4000000 in
set_option maxRecDepth 100000 in
theorem lw_w_CE_findReached_2 {p : Program} {l : Launch} {e : Env} {R : Room} {s : State} {m : MethodId} {args : Array Value} {below : List Frame} {meth : Method} {c : Code} {s00 : State} {E : fs_E} {Post : fs_Ps} (hE : fs_SE l s00 E) (B : fs_B p l e s m args meth c s00 E.1 y_CE_findReached b_CE_findReached 2 none) (hout : ∀ pc, ∀ x ∈ c.exceptionTable.toList, covers x pc = false) (hRf : 85 ≤ R.frames) (hRl : 1107 ≤ R.locals) (K : fs_Hp → Prop) : ∀ (n : Nat) (z0 : Nat) (z1 : Int32) (h1 : fs_Hp) (H : Heap) (locs : List Loc) (ls : Array Slot), w_CE_findReached_L2 E K Post n z0 z1 h1 → fs_P E.1.1 fs_cl (fs_A s00) h1 H → va_S (fs_A s00) s00.heap H locs → lv_has ls 2 [(0, .ref z0), (1, .int z1)] → (∀  (h' : fs_Hp) (H : Heap) (locs : List Loc) (ls : Array Slot), K  h' → fs_P E.1.1 fs_cl (fs_A s00) h' H → va_S (fs_A s00) s00.heap H locs → lv_has ls 2 [(0, .ref z0)] → W p l e R s m args below meth c H locs 0 0 (fx_MQ below (fs_Qc s00 E.1 Post) args s 0 0 (fs_A s00)) (F0 m 47 ls [])) → W p l e R s m args below meth c H locs 0 0 (fx_MQ below (fs_Qc s00 E.1 Post) args s 0 0 (fs_A s00)) (F0 m 2 ls []) := by
  obtain ⟨hx, hb, hr, hml, hown, hts, hlocks, hname, hK, hw, htr⟩ := id B
  have hown : s.vm.findClass "FormulaSheet$Cells" = some m.cls := hown
  intro n
  induction n with
  | zero => intro z0 z1 h1 H locs ls hq; exact False.elim hq
  | succ n ih =>
    intro z0 z1 h1 H locs ls hq hP hS hl kk
    rw [w_CE_findReached_L2] at hq
    refine lv_iload_n hx hb d_CE_findReached_2 rfl (lv_at hl 1 rfl) ?_
    refine lv_bipush (v := 80) hx hb d_CE_findReached_3 (by decide) ?_
    refine lv_icmp_ge (tgt := 47) hx hb d_CE_findReached_5 (by decide) (fun c_101 => ?_) (fun c_101 => ?_)
    · have hq := fs_wifp c_101 hq
      exact kk  _ _ _ _ hq hP hS (show lv_has ls 2 [(0, .ref z0)] from lv_sub hl [0] rfl)
    · have hq := fs_wifn c_101 hq
      refine lv_aload_n hx hb d_CE_findReached_8 rfl (lv_at hl 0 rfl) ?_
      obtain ⟨fs_, a102, he_, hv_, hq⟩ := fs_gr_some hq
      refine fs_get hx hb hts hown hK c_CE hP he_ 3 (by decide) (hts _ (fs_tb_at 190 tw_190 rfl)) (fun _ h9 => h9) hv_ d_CE_findReached_9 ?_
      refine lv_iload_n hx hb d_CE_findReached_12 rfl (lv_at hl 1 rfl) ?_
      obtain ⟨n_, f_, o103, e_, hi_, ex_, hq⟩ := fs_aq_some hq
      refine fs_aald hx hb hK hP 7 e_ rfl hi_ d_CE_findReached_13 ?_
      rw [← ex_]
      cases o103 with
      | none =>
        refine W.eq (g2 := F0 m 14 ls (.null :: [])) rfl ?_
        exact False.elim hq
      | some a105 =>
        refine W.eq (g2 := F0 m 14 ls (.ref a105 :: [])) rfl ?_
        obtain ⟨hi_, hq⟩ := hq
        obtain ⟨fs_, he_⟩ := fs_isc_some hi_
        refine fs_cV B hl.1 hP hS (kw_CS_clear hE hq) (fs_tb_at 285 tw_285 rfl) he_ rfl (fs_tb_at 286 tw_286 rfl) (fs_tb_at 287 tw_287 rfl) (fs_tb_at 91 tw_91 rfl) (fs_tb_at 288 tw_288 rfl) (by decide) (show (parseMethodDescriptor y_CS_clear.desc).map (fun d => d.parameters.length) = some 0 by decide +kernel) rfl d_CE_findReached_14 (fs_rm (k := 0) (by omega) (by omega) (by omega) (by omega) rfl) (fun v_ h106 H locs hq hP hS => ?_) (fun C_ a_ h_ H locs hq hP hS hX => fs_out (hout _) hlocks hw hP hS hX (Nat.le_of_ble_eq_true rfl) (Nat.le_of_ble_eq_true rfl) hq)
        refine fs_cs (k := 0) (n := 0) rfl rfl ?_
        replace hq := fs_kv_some hq
        obtain ⟨rfl, hq⟩ := hq
        refine W.eq (g2 := F0 m 17 ls ([])) rfl ?_
        refine lv_aload_n hx hb d_CE_findReached_17 rfl (lv_at hl 0 rfl) ?_
        obtain ⟨fs_, a107, he_, hv_, hq⟩ := fs_gr_some hq
        refine fs_get hx hb hts hown hK c_CE hP he_ 1 (by decide) (hts _ (fs_tb_at 184 tw_184 rfl)) (fun _ h9 => h9) hv_ d_CE_findReached_18 ?_
        refine lv_iload_n hx hb d_CE_findReached_21 rfl (lv_at hl 1 rfl) ?_
        obtain ⟨n_, f_, o108, e_, hi_, ex_, hq⟩ := fs_aq_some hq
        refine fs_aald hx hb hK hP 6 e_ rfl hi_ d_CE_findReached_22 ?_
        rw [← ex_]
        cases o108 with
        | none =>
          refine W.eq (g2 := F0 m 23 ls (.null :: [])) rfl ?_
          refine lv_ifnullN (tgt := 41) hx hb d_CE_findReached_23 (by decide) ?_
          refine lv_iinc (v := z1 + 1) (lv' := [(1, .int (z1 + 1)), (0, .ref z0)]) hx hb d_CE_findReached_41 hl (k := 1) rfl rfl (by decide) rfl (fun ls hl => ?_)
          refine lv_goto (tgt := 2) hx hb d_CE_findReached_44 (by decide) ?_
          exact ih z0 (z1 + 1) _ _ _ _ hq hP hS (show lv_has ls 2 [(0, .ref z0), (1, .int (z1 + 1))] from lv_sub hl [1, 0] rfl) kk
        | some a110 =>
          refine W.eq (g2 := F0 m 23 ls (.ref a110 :: [])) rfl ?_
          refine lv_ifnull hx hb d_CE_findReached_23 ?_
          refine lv_aload_n hx hb d_CE_findReached_26 rfl (lv_at hl 0 rfl) ?_
          obtain ⟨fs_, a111, he_, hv_, hq⟩ := fs_gr_some hq
          refine fs_get hx hb hts hown hK c_CE hP he_ 1 (by decide) (hts _ (fs_tb_at 184 tw_184 rfl)) (fun _ h9 => h9) hv_ d_CE_findReached_27 ?_
          refine lv_iload_n hx hb d_CE_findReached_30 rfl (lv_at hl 1 rfl) ?_
          obtain ⟨n_, f_, o112, e_, hi_, ex_, hq⟩ := fs_aq_some hq
          refine fs_aald hx hb hK hP 6 e_ rfl hi_ d_CE_findReached_31 ?_
          rw [← ex_]
          cases o112 with
          | none =>
            refine W.eq (g2 := F0 m 32 ls (.null :: [])) rfl ?_
            refine lv_aload_n hx hb d_CE_findReached_32 rfl (lv_at hl 0 rfl) ?_
            obtain ⟨fs_, a114, he_, hv_, hq⟩ := fs_gr_some hq
            refine fs_get hx hb hts hown hK c_CE hP he_ 3 (by decide) (hts _ (fs_tb_at 190 tw_190 rfl)) (fun _ h9 => h9) hv_ d_CE_findReached_33 ?_
            refine lv_iload_n hx hb d_CE_findReached_36 rfl (lv_at hl 1 rfl) ?_
            obtain ⟨n_, f_, o115, e_, hi_, ex_, hq⟩ := fs_aq_some hq
            refine fs_aald hx hb hK hP 7 e_ rfl hi_ d_CE_findReached_37 ?_
            rw [← ex_]
            cases o115 with
            | none =>
              refine W.eq (g2 := F0 m 38 ls (.null :: .null :: [])) rfl ?_
              exact False.elim hq
            | some a117 =>
              refine W.eq (g2 := F0 m 38 ls (.ref a117 :: .null :: [])) rfl ?_
              exact False.elim hq
          | some a118 =>
            refine W.eq (g2 := F0 m 32 ls (.ref a118 :: [])) rfl ?_
            refine lv_aload_n hx hb d_CE_findReached_32 rfl (lv_at hl 0 rfl) ?_
            obtain ⟨fs_, a119, he_, hv_, hq⟩ := fs_gr_some hq
            refine fs_get hx hb hts hown hK c_CE hP he_ 3 (by decide) (hts _ (fs_tb_at 190 tw_190 rfl)) (fun _ h9 => h9) hv_ d_CE_findReached_33 ?_
            refine lv_iload_n hx hb d_CE_findReached_36 rfl (lv_at hl 1 rfl) ?_
            obtain ⟨n_, f_, o120, e_, hi_, ex_, hq⟩ := fs_aq_some hq
            refine fs_aald hx hb hK hP 7 e_ rfl hi_ d_CE_findReached_37 ?_
            rw [← ex_]
            cases o120 with
            | none =>
              refine W.eq (g2 := F0 m 38 ls (.null :: .ref a118 :: [])) rfl ?_
              exact False.elim hq
            | some a122 =>
              refine W.eq (g2 := F0 m 38 ls (.ref a122 :: .ref a118 :: [])) rfl ?_
              refine fs_cVV (owner := "FormulaSheet$Part") B hl.1 hP hS (kN_addCells hE hq) (fs_tb_at 289 tw_289 rfl) (fs_tb_at 291 tw_291 rfl) (fs_dclC (fs_tb_at 290 tw_290 rfl) (fs_tb_at 339 tw_339 rfl)) (by decide) (show (parseMethodDescriptor y_PT_addCells.desc).map (fun d => d.parameters.length) = some 1 by decide +kernel) rfl d_CE_findReached_38 (fs_rm (k := 0) (by omega) (by omega) (by omega) (by omega) rfl) (fun v_ h123 H locs hq hP hS => ?_) (fun C_ a_ h_ H locs hq hP hS hX => fs_out (hout _) hlocks hw hP hS hX (Nat.le_of_ble_eq_true rfl) (Nat.le_of_ble_eq_true rfl) hq)
              refine fs_cs (k := 0) (n := 0) rfl rfl ?_
              replace hq := fs_kv_some hq
              obtain ⟨rfl, hq⟩ := hq
              refine W.eq (g2 := F0 m 41 ls ([])) rfl ?_
              refine lv_iinc (v := z1 + 1) (lv' := [(1, .int (z1 + 1)), (0, .ref z0)]) hx hb d_CE_findReached_41 hl (k := 1) rfl rfl (by decide) rfl (fun ls hl => ?_)
              refine lv_goto (tgt := 2) hx hb d_CE_findReached_44 (by decide) ?_
              exact ih z0 (z1 + 1) _ _ _ _ hq hP hS (show lv_has ls 2 [(0, .ref z0), (1, .int (z1 + 1))] from lv_sub hl [1, 0] rfl) kk
set_option maxHeartbeats 4000000 in
set_option maxRecDepth 100000 in
theorem lw_w_CE_findReached_49 {p : Program} {l : Launch} {e : Env} {R : Room} {s : State} {m : MethodId} {args : Array Value} {below : List Frame} {meth : Method} {c : Code} {s00 : State} {E : fs_E} {Post : fs_Ps} (hE : fs_SE l s00 E) (B : fs_B p l e s m args meth c s00 E.1 y_CE_findReached b_CE_findReached 2 none) (hout : ∀ pc, ∀ x ∈ c.exceptionTable.toList, covers x pc = false) (hRf : 85 ≤ R.frames) (hRl : 1107 ≤ R.locals) (K : fs_Hp → Prop) : ∀ (n : Nat) (z0 : Nat) (z1 : Int32) (h1 : fs_Hp) (H : Heap) (locs : List Loc) (ls : Array Slot), w_CE_findReached_L49 E K Post n z0 z1 h1 → fs_P E.1.1 fs_cl (fs_A s00) h1 H → va_S (fs_A s00) s00.heap H locs → lv_has ls 2 [(0, .ref z0), (1, .int z1)] → (∀  (h' : fs_Hp) (H : Heap) (locs : List Loc) (ls : Array Slot), K  h' → fs_P E.1.1 fs_cl (fs_A s00) h' H → va_S (fs_A s00) s00.heap H locs → lv_has ls 2 [(0, .ref z0)] → W p l e R s m args below meth c H locs 0 0 (fx_MQ below (fs_Qc s00 E.1 Post) args s 0 0 (fs_A s00)) (F0 m 75 ls [])) → W p l e R s m args below meth c H locs 0 0 (fx_MQ below (fs_Qc s00 E.1 Post) args s 0 0 (fs_A s00)) (F0 m 49 ls []) := by
  obtain ⟨hx, hb, hr, hml, hown, hts, hlocks, hname, hK, hw, htr⟩ := id B
  have hown : s.vm.findClass "FormulaSheet$Cells" = some m.cls := hown
  intro n
  induction n with
  | zero => intro z0 z1 h1 H locs ls hq; exact False.elim hq
  | succ n ih =>
    intro z0 z1 h1 H locs ls hq hP hS hl kk
    rw [w_CE_findReached_L49] at hq
    refine lv_iload_n hx hb d_CE_findReached_49 rfl (lv_at hl 1 rfl) ?_
    refine lv_bipush (v := 80) hx hb d_CE_findReached_50 (by decide) ?_
    refine lv_icmp_ge (tgt := 75) hx hb d_CE_findReached_52 (by decide) (fun c_126 => ?_) (fun c_126 => ?_)
    · have hq := fs_wifp c_126 hq
      exact kk  _ _ _ _ hq hP hS (show lv_has ls 2 [(0, .ref z0)] from lv_sub hl [0] rfl)
    · have hq := fs_wifn c_126 hq
      refine lv_aload_n hx hb d_CE_findReached_55 rfl (lv_at hl 0 rfl) ?_
      obtain ⟨fs_, a127, he_, hv_, hq⟩ := fs_gr_some hq
      refine fs_get hx hb hts hown hK c_CE hP he_ 1 (by decide) (hts _ (fs_tb_at 184 tw_184 rfl)) (fun _ h9 => h9) hv_ d_CE_findReached_56 ?_
      refine lv_iload_n hx hb d_CE_findReached_59 rfl (lv_at hl 1 rfl) ?_
      obtain ⟨n_, f_, o128, e_, hi_, ex_, hq⟩ := fs_aq_some hq
      refine fs_aald hx hb hK hP 6 e_ rfl hi_ d_CE_findReached_60 ?_
      rw [← ex_]
      cases o128 with
      | none =>
        refine W.eq (g2 := F0 m 61 ls (.null :: [])) rfl ?_
        refine lv_ifnullN (tgt := 69) hx hb d_CE_findReached_61 (by decide) ?_
        refine lv_iinc (v := z1 + 1) (lv' := [(1, .int (z1 + 1)), (0, .ref z0)]) hx hb d_CE_findReached_69 hl (k := 1) rfl rfl (by decide) rfl (fun ls hl => ?_)
        refine lv_goto (tgt := 49) hx hb d_CE_findReached_72 (by decide) ?_
        exact ih z0 (z1 + 1) _ _ _ _ hq hP hS (show lv_has ls 2 [(0, .ref z0), (1, .int (z1 + 1))] from lv_sub hl [1, 0] rfl) kk
      | some a130 =>
        refine W.eq (g2 := F0 m 61 ls (.ref a130 :: [])) rfl ?_
        refine lv_ifnull hx hb d_CE_findReached_61 ?_
        refine lv_aload_n hx hb d_CE_findReached_64 rfl (lv_at hl 0 rfl) ?_
        refine lv_iload_n hx hb d_CE_findReached_65 rfl (lv_at hl 1 rfl) ?_
        obtain ⟨hi_, hq⟩ := hq
        obtain ⟨fs_, he_⟩ := fs_isc_some hi_
        refine fs_cV B hl.1 hP hS (kw_CE_goOnFrom hE hq) (fs_tb_at 341 tw_341 rfl) he_ rfl (fs_tb_at 343 tw_343 rfl) (fs_tb_at 7 tw_7 rfl) (fs_tb_at 90 tw_90 rfl) (fs_tb_at 344 tw_344 rfl) (by decide) (show (parseMethodDescriptor y_CE_goOnFrom.desc).map (fun d => d.parameters.length) = some 1 by decide +kernel) rfl d_CE_findReached_66 (fs_rm (k := 0) (by omega) (by omega) (by omega) (by omega) rfl) (fun v_ h131 H locs hq hP hS => ?_) (fun C_ a_ h_ H locs hq hP hS hX => fs_out (hout _) hlocks hw hP hS hX (Nat.le_of_ble_eq_true rfl) (Nat.le_of_ble_eq_true rfl) hq)
        refine fs_cs (k := 0) (n := 0) rfl rfl ?_
        replace hq := fs_kv_some hq
        obtain ⟨rfl, hq⟩ := hq
        refine W.eq (g2 := F0 m 69 ls ([])) rfl ?_
        refine lv_iinc (v := z1 + 1) (lv' := [(1, .int (z1 + 1)), (0, .ref z0)]) hx hb d_CE_findReached_69 hl (k := 1) rfl rfl (by decide) rfl (fun ls hl => ?_)
        refine lv_goto (tgt := 49) hx hb d_CE_findReached_72 (by decide) ?_
        exact ih z0 (z1 + 1) _ _ _ _ hq hP hS (show lv_has ls 2 [(0, .ref z0), (1, .int (z1 + 1))] from lv_sub hl [1, 0] rfl) kk
set_option maxHeartbeats 4000000 in
set_option maxRecDepth 100000 in
theorem kw_CE_findReached {l : Launch} {s00 : State} {E : fs_E} (hE : fs_SE l s00 E) {h : fs_Hp} {a0 : Nat} {Post : fs_Ps} (hq : w_CE_findReached E h a0 Post) : fs_Ct l s00 E.1 y_CE_findReached (.code y_CE_findReached b_CE_findReached 2 none) { frames := 85, cells := 0, slots := 0, locals := 1107 } [.ref a0] h Post := by
  refine fs_Ct.ofR hE.1 (by decide) ?_
  intro p e R s m below meth c hRf hRl hRc hRs B hout hP
  skip
  obtain ⟨hx, hb, hr, hml, hown, hts, hlocks, hname, hK, hw, htr⟩ := id B
  have hown : s.vm.findClass "FormulaSheet$Cells" = some m.cls := hown
  have hS := hw.S
  have hl := lv_entry ([.ref a0]) (n := 2) (Nat.le_of_ble_eq_true rfl)
  rw [lg_entry_eq]
  generalize (lg_sl ([.ref a0]) ++ List.replicate (2 - (lg_sl ([.ref a0])).length) Slot.unset).toArray = ls at hl ⊢
  have hl : lv_has ls 2 [(0, .ref a0)] := hl
  unfold w_CE_findReached at hq
  refine lv_iconst (v := 0) hx hb d_CE_findReached_0 (by decide) ?_
  refine lv_istore_n (lv' := [(1, .int 0), (0, .ref a0)]) hx hb d_CE_findReached_1 rfl hl (by decide) rfl (fun ls hl => ?_)
  obtain ⟨n125, hq⟩ := hq
  refine lw_w_CE_findReached_2 hE B hout (by omega) (by omega) _ n125 a0 0 _ _ _ _ hq hP hS (show lv_has ls 2 [(0, .ref a0), (1, .int 0)] from lv_sub hl [1, 0] rfl) (fun  h124 H locs ls hq hP hS hl => ?_)
  refine lv_iconst (v := 0) hx hb d_CE_findReached_47 (by decide) ?_
  refine lv_istore_n (lv' := [(1, .int 0), (0, .ref a0)]) hx hb d_CE_findReached_48 rfl hl (by decide) rfl (fun ls hl => ?_)
  obtain ⟨n133, hq⟩ := hq
  refine lw_w_CE_findReached_49 hE B hout (by omega) (by omega) _ n133 a0 0 _ _ _ _ hq hP hS (show lv_has ls 2 [(0, .ref a0), (1, .int 0)] from lv_sub hl [1, 0] rfl) (fun  h132 H locs ls hq hP hS hl => ?_)
  exact fs_vret hx hb hr hlocks hw hP hS (Nat.le_refl _) (Nat.le_refl _) hq d_CE_findReached_75
def w_CE_placeInOrder_L13 (E : fs_E) (K : Int32 → fs_Hp → Prop) (Post : fs_Ps) : Nat → Nat → Int32 → Int32 → Int32 → fs_Hp → Prop
  | 0 => fun _ _ _ _ _ => False
  | n + 1 => fun z0 z1 z3 z4 h1 => (if z4 ≤ 0 then K z4 h1 else fs_gr h1 z0 2 3 (fun a108 => fs_gr h1 z0 2 5 (fun a109 => fs_ai h1 a109 (E.1.2 0) (z4 - 1) (fun x110 => fs_aq h1 a108 (E.1.2 7) x110 (fun o9 => match o9 with | none => False | some a113 => fs_isc h1 a113 3 ∧ (w_CS_size E h1 a113 (fs_ki (fun x115 h114 => (if x115 ≤ z3 then K z4 h114 else fs_gr h114 z0 2 5 (fun a117 => fs_gr h114 z0 2 5 (fun a118 => fs_ai h114 a118 (E.1.2 0) (z4 - 1) (fun x119 => fs_si h114 a117 (E.1.2 0) z4 x119 (fun h120 => (w_CE_placeInOrder_L13 E K Post n) z0 z1 z3 (z4 - 1) h120)))))) (fun C_ h_ => Post (.inr C_) h_))))))))
def w_CE_placeInOrder (E : fs_E) (h : fs_Hp) (a0 : Nat) (x1 : Int32) (x2 : Int32) (Post : fs_Ps) : Prop := fs_gr h a0 2 3 (fun a101 => fs_aq h a101 (E.1.2 7) x1 (fun o9 => match o9 with | none => False | some a104 => fs_isc h a104 3 ∧ (w_CS_size E h a104 (fs_ki (fun x106 h105 => (∃ n123 : Nat, w_CE_placeInOrder_L13 E (fun y121 h122 => fs_gr h122 a0 2 5 (fun a124 => fs_si h122 a124 (E.1.2 0) y121 x1 (fun h125 => Post (.inl none) h125))) Post n123 a0 x1 x106 x2 h105)) (fun C_ h_ => Post (.inr C_) h_)))))
set_option maxHeartbeats 4000000 in
set_option maxRecDepth 100000 in
theorem lw_w_CE_placeInOrder_13 {p : Program} {l : Launch} {e : Env} {R : Room} {s : State} {m : MethodId} {args : Array Value} {below : List Frame} {meth : Method} {c : Code} {s00 : State} {E : fs_E} {Post : fs_Ps} (hE : fs_SE l s00 E) (B : fs_B p l e s m args meth c s00 E.1 y_CE_placeInOrder b_CE_placeInOrder 5 none) (hout : ∀ pc, ∀ x ∈ c.exceptionTable.toList, covers x pc = false) (hRf : 2 ≤ R.frames) (hRl : 26 ≤ R.locals) (K : Int32 → fs_Hp → Prop) : ∀ (n : Nat) (z0 : Nat) (z1 : Int32) (z3 : Int32) (z4 : Int32) (h1 : fs_Hp) (H : Heap) (locs : List Loc) (ls : Array Slot), w_CE_placeInOrder_L13 E K Post n z0 z1 z3 z4 h1 → fs_P E.1.1 fs_cl (fs_A s00) h1 H → va_S (fs_A s00) s00.heap H locs → lv_has ls 5 [(0, .ref z0), (1, .int z1), (3, .int z3), (4, .int z4)] → (∀ (y4 : Int32) (h' : fs_Hp) (H : Heap) (locs : List Loc) (ls : Array Slot), K y4 h' → fs_P E.1.1 fs_cl (fs_A s00) h' H → va_S (fs_A s00) s00.heap H locs → lv_has ls 5 [(0, .ref z0), (1, .int z1), (3, .int z3), (4, .int y4)] → W p l e R s m args below meth c H locs 0 0 (fx_MQ below (fs_Qc s00 E.1 Post) args s 0 0 (fs_A s00)) (F0 m 61 ls [])) → W p l e R s m args below meth c H locs 0 0 (fx_MQ below (fs_Qc s00 E.1 Post) args s 0 0 (fs_A s00)) (F0 m 13 ls []) := by
  obtain ⟨hx, hb, hr, hml, hown, hts, hlocks, hname, hK, hw, htr⟩ := id B
  have hown : s.vm.findClass "FormulaSheet$Cells" = some m.cls := hown
  intro n
  induction n with
  | zero => intro z0 z1 z3 z4 h1 H locs ls hq; exact False.elim hq
  | succ n ih =>
    intro z0 z1 z3 z4 h1 H locs ls hq hP hS hl kk
    rw [w_CE_placeInOrder_L13] at hq
    refine lv_iload hx hb d_CE_placeInOrder_13 (lv_at hl 3 rfl) ?_
    refine lv_if_le (tgt := 61) hx hb d_CE_placeInOrder_15 (by decide) (fun c_107 => ?_) (fun c_107 => ?_)
    · have hq := fs_wifp c_107 hq
      exact kk z4 _ _ _ _ hq hP hS (show lv_has ls 5 [(0, .ref z0), (1, .int z1), (3, .int z3), (4, .int z4)] from lv_sub hl [0, 1, 2, 3] rfl)
    · have hq := fs_wifn c_107 hq
      refine lv_aload_n hx hb d_CE_placeInOrder_18 rfl (lv_at hl 0 rfl) ?_
      obtain ⟨fs_, a108, he_, hv_, hq⟩ := fs_gr_some hq
      refine fs_get hx hb hts hown hK c_CE hP he_ 3 (by decide) (hts _ (fs_tb_at 190 tw_190 rfl)) (fun _ h9 => h9) hv_ d_CE_placeInOrder_19 ?_
      refine lv_aload_n hx hb d_CE_placeInOrder_22 rfl (lv_at hl 0 rfl) ?_
      obtain ⟨fs_, a109, he_, hv_, hq⟩ := fs_gr_some hq
      refine fs_get hx hb hts hown hK c_CE hP he_ 5 (by decide) (hts _ (fs_tb_at 194 tw_194 rfl)) (fun _ h9 => h9) hv_ d_CE_placeInOrder_23 ?_
      refine lv_iload hx hb d_CE_placeInOrder_26 (lv_at hl 3 rfl) ?_
      refine lv_iconst (v := 1) hx hb d_CE_placeInOrder_28 (by decide) ?_
      refine lv_isub hx hb d_CE_placeInOrder_29 ?_
      obtain ⟨n_, f_, x110, e_, hi_, ex_, hq⟩ := fs_ai_some hq
      refine fs_iald hx hb hK hP 0 e_ rfl hi_ d_CE_placeInOrder_30 ?_
      rw [← ex_]
      obtain ⟨n_, f_, o111, e_, hi_, ex_, hq⟩ := fs_aq_some hq
      refine fs_aald hx hb hK hP 7 e_ rfl hi_ d_CE_placeInOrder_31 ?_
      rw [← ex_]
      cases o111 with
      | none =>
        refine W.eq (g2 := F0 m 32 ls (.null :: [])) rfl ?_
        exact False.elim hq
      | some a113 =>
        refine W.eq (g2 := F0 m 32 ls (.ref a113 :: [])) rfl ?_
        obtain ⟨hi_, hq⟩ := hq
        obtain ⟨fs_, he_⟩ := fs_isc_some hi_
        refine fs_cV B hl.1 hP hS (kw_CS_size hE hq) (fs_tb_at 366 tw_366 rfl) he_ rfl (fs_tb_at 367 tw_367 rfl) (fs_tb_at 368 tw_368 rfl) (fs_tb_at 91 tw_91 rfl) (fs_tb_at 369 tw_369 rfl) (by decide) (show (parseMethodDescriptor y_CS_size.desc).map (fun d => d.parameters.length) = some 0 by decide +kernel) rfl d_CE_placeInOrder_32 (fs_rm (k := 0) (by omega) (by omega) (by omega) (by omega) rfl) (fun v_ h114 H locs hq hP hS => ?_) (fun C_ a_ h_ H locs hq hP hS hX => fs_out (hout _) hlocks hw hP hS hX (Nat.le_of_ble_eq_true rfl) (Nat.le_of_ble_eq_true rfl) hq)
        refine fs_cs (k := 0) (n := 0) rfl rfl ?_
        replace hq := fs_ki_some hq
        obtain ⟨x115, rfl, hq⟩ := hq
        refine W.eq (g2 := F0 m 35 ls (.int x115 :: [])) rfl ?_
        refine lv_iload_n hx hb d_CE_placeInOrder_35 rfl (lv_at hl 2 rfl) ?_
        refine lv_icmp_le (tgt := 61) hx hb d_CE_placeInOrder_36 (by decide) (fun c_116 => ?_) (fun c_116 => ?_)
        · have hq := fs_wifp c_116 hq
          exact kk z4 _ _ _ _ hq hP hS (show lv_has ls 5 [(0, .ref z0), (1, .int z1), (3, .int z3), (4, .int z4)] from lv_sub hl [0, 1, 2, 3] rfl)
        · have hq := fs_wifn c_116 hq
          refine lv_aload_n hx hb d_CE_placeInOrder_39 rfl (lv_at hl 0 rfl) ?_
          obtain ⟨fs_, a117, he_, hv_, hq⟩ := fs_gr_some hq
          refine fs_get hx hb hts hown hK c_CE hP he_ 5 (by decide) (hts _ (fs_tb_at 194 tw_194 rfl)) (fun _ h9 => h9) hv_ d_CE_placeInOrder_40 ?_
          refine lv_iload hx hb d_CE_placeInOrder_43 (lv_at hl 3 rfl) ?_
          refine lv_aload_n hx hb d_CE_placeInOrder_45 rfl (lv_at hl 0 rfl) ?_
          obtain ⟨fs_, a118, he_, hv_, hq⟩ := fs_gr_some hq
          refine fs_get hx hb hts hown hK c_CE hP he_ 5 (by decide) (hts _ (fs_tb_at 194 tw_194 rfl)) (fun _ h9 => h9) hv_ d_CE_placeInOrder_46 ?_
          refine lv_iload hx hb d_CE_placeInOrder_49 (lv_at hl 3 rfl) ?_
          refine lv_iconst (v := 1) hx hb d_CE_placeInOrder_51 (by decide) ?_
          refine lv_isub hx hb d_CE_placeInOrder_52 ?_
          obtain ⟨n_, f_, x119, e_, hi_, ex_, hq⟩ := fs_ai_some hq
          refine fs_iald hx hb hK hP 0 e_ rfl hi_ d_CE_placeInOrder_53 ?_
          rw [← ex_]
          obtain ⟨n_, f_, h120, e_, hi_, eh_, hq⟩ := fs_si_some hq
          refine fs_iast hx hb hK hP hS 0 e_ rfl hi_ d_CE_placeInOrder_54 (fun H locs hP hS => ?_)
          rw [← eh_] at hP
          refine lv_iinc (v := z4 - 1) (lv' := [(4, .int (z4 - 1)), (0, .ref z0), (1, .int z1), (3, .int z3)]) hx hb d_CE_placeInOrder_55 hl (k := 3) rfl (fs_dec1 _) (by decide) rfl (fun ls hl => ?_)
          refine lv_goto (tgt := 13) hx hb d_CE_placeInOrder_58 (by decide) ?_
          exact ih z0 z1 z3 (z4 - 1) _ _ _ _ hq hP hS (show lv_has ls 5 [(0, .ref z0), (1, .int z1), (3, .int z3), (4, .int (z4 - 1))] from lv_sub hl [1, 2, 3, 0] rfl) kk
set_option maxHeartbeats 4000000 in
set_option maxRecDepth 100000 in
theorem kw_CE_placeInOrder {l : Launch} {s00 : State} {E : fs_E} (hE : fs_SE l s00 E) {h : fs_Hp} {a0 : Nat} {x1 : Int32} {x2 : Int32} {Post : fs_Ps} (hq : w_CE_placeInOrder E h a0 x1 x2 Post) : fs_Ct l s00 E.1 y_CE_placeInOrder (.code y_CE_placeInOrder b_CE_placeInOrder 5 none) { frames := 2, cells := 0, slots := 0, locals := 26 } [.ref a0, .int x1, .int x2] h Post := by
  refine fs_Ct.ofR hE.1 (by decide) ?_
  intro p e R s m below meth c hRf hRl hRc hRs B hout hP
  skip
  obtain ⟨hx, hb, hr, hml, hown, hts, hlocks, hname, hK, hw, htr⟩ := id B
  have hown : s.vm.findClass "FormulaSheet$Cells" = some m.cls := hown
  have hS := hw.S
  have hl := lv_entry ([.ref a0, .int x1, .int x2]) (n := 5) (Nat.le_of_ble_eq_true rfl)
  rw [lg_entry_eq]
  generalize (lg_sl ([.ref a0, .int x1, .int x2]) ++ List.replicate (5 - (lg_sl ([.ref a0, .int x1, .int x2])).length) Slot.unset).toArray = ls at hl ⊢
  have hl : lv_has ls 5 [(0, .ref a0), (1, .int x1), (2, .int x2)] := hl
  unfold w_CE_placeInOrder at hq
  refine lv_aload_n hx hb d_CE_placeInOrder_0 rfl (lv_at hl 0 rfl) ?_
  obtain ⟨fs_, a101, he_, hv_, hq⟩ := fs_gr_some hq
  refine fs_get hx hb hts hown hK c_CE hP he_ 3 (by decide) (hts _ (fs_tb_at 190 tw_190 rfl)) (fun _ h9 => h9) hv_ d_CE_placeInOrder_1 ?_
  refine lv_iload_n hx hb d_CE_placeInOrder_4 rfl (lv_at hl 1 rfl) ?_
  obtain ⟨n_, f_, o102, e_, hi_, ex_, hq⟩ := fs_aq_some hq
  refine fs_aald hx hb hK hP 7 e_ rfl hi_ d_CE_placeInOrder_5 ?_
  rw [← ex_]
  cases o102 with
  | none =>
    refine W.eq (g2 := F0 m 6 ls (.null :: [])) rfl ?_
    exact False.elim hq
  | some a104 =>
    refine W.eq (g2 := F0 m 6 ls (.ref a104 :: [])) rfl ?_
    obtain ⟨hi_, hq⟩ := hq
    obtain ⟨fs_, he_⟩ := fs_isc_some hi_
    refine fs_cV B hl.1 hP hS (kw_CS_size hE hq) (fs_tb_at 366 tw_366 rfl) he_ rfl (fs_tb_at 367 tw_367 rfl) (fs_tb_at 368 tw_368 rfl) (fs_tb_at 91 tw_91 rfl) (fs_tb_at 369 tw_369 rfl) (by decide) (show (parseMethodDescriptor y_CS_size.desc).map (fun d => d.parameters.length) = some 0 by decide +kernel) rfl d_CE_placeInOrder_6 (fs_rm (k := 0) (by omega) (by omega) (by omega) (by omega) rfl) (fun v_ h105 H locs hq hP hS => ?_) (fun C_ a_ h_ H locs hq hP hS hX => fs_out (hout _) hlocks hw hP hS hX (Nat.le_of_ble_eq_true rfl) (Nat.le_of_ble_eq_true rfl) hq)
    refine fs_cs (k := 0) (n := 0) rfl rfl ?_
    replace hq := fs_ki_some hq
    obtain ⟨x106, rfl, hq⟩ := hq
    refine W.eq (g2 := F0 m 9 ls (.int x106 :: [])) rfl ?_
    refine lv_istore_n (lv' := [(3, .int x106), (0, .ref a0), (1, .int x1), (2, .int x2)]) hx hb d_CE_placeInOrder_9 rfl hl (by decide) rfl (fun ls hl => ?_)
    refine lv_iload_n hx hb d_CE_placeInOrder_10 rfl (lv_at hl 3 rfl) ?_
    refine lv_istore (lv' := [(4, .int x2), (3, .int x106), (0, .ref a0), (1, .int x1), (2, .int x2)]) hx hb d_CE_placeInOrder_11 hl (by decide) rfl (fun ls hl => ?_)
    obtain ⟨n123, hq⟩ := hq
    refine lw_w_CE_placeInOrder_13 hE B hout (by omega) (by omega) _ n123 a0 x1 x106 x2 _ _ _ _ hq hP hS (show lv_has ls 5 [(0, .ref a0), (1, .int x1), (3, .int x106), (4, .int x2)] from lv_sub hl [2, 3, 1, 0] rfl) (fun y121 h122 H locs ls hq hP hS hl => ?_)
    refine lv_aload_n hx hb d_CE_placeInOrder_61 rfl (lv_at hl 0 rfl) ?_
    obtain ⟨fs_, a124, he_, hv_, hq⟩ := fs_gr_some hq
    refine fs_get hx hb hts hown hK c_CE hP he_ 5 (by decide) (hts _ (fs_tb_at 194 tw_194 rfl)) (fun _ h9 => h9) hv_ d_CE_placeInOrder_62 ?_
    refine lv_iload hx hb d_CE_placeInOrder_65 (lv_at hl 3 rfl) ?_
    refine lv_iload_n hx hb d_CE_placeInOrder_67 rfl (lv_at hl 1 rfl) ?_
    obtain ⟨n_, f_, h125, e_, hi_, eh_, hq⟩ := fs_si_some hq
    refine fs_iast hx hb hK hP hS 0 e_ rfl hi_ d_CE_placeInOrder_68 (fun H locs hP hS => ?_)
    rw [← eh_] at hP
    exact fs_vret hx hb hr hlocks hw hP hS (Nat.le_refl _) (Nat.le_refl _) hq d_CE_placeInOrder_69
def w_CE_workOut_L4 (E : fs_E) (K : Int32 → fs_Hp → Prop) (Post : fs_Ps) : Nat → Nat → Int32 → Int32 → fs_Hp → Prop
  | 0 => fun _ _ _ _ => False
  | n + 1 => fun z0 z1 z2 h1 => (if 80 ≤ z2 then K z1 h1 else fs_isc h1 z0 2 ∧ (w_CE_isCircular E h1 z0 z2 (fs_ki (fun x103 h102 => (if x103 = 0 then fs_gr h102 z0 2 1 (fun a105 => fs_aq h102 a105 (E.1.2 6) z2 (fun o9 => match o9 with | none => (w_CE_workOut_L4 E K Post n) z0 z1 (z2 + 1) h102 | some a108 => fs_isc h102 z0 2 ∧ (w_CE_placeInOrder E h102 z0 z2 z1 (fs_kv (fun h109 => (w_CE_workOut_L4 E K Post n) z0 (z1 + 1) (z2 + 1) h109) (fun C_ h_ => Post (.inr C_) h_))))) else fs_gr h102 z0 2 2 (fun a110 => fs_sd h102 a110 (E.1.2 2) z2 4836865999795912704 (fun h111 => (w_CE_workOut_L4 E K Post n) z0 z1 (z2 + 1) h111)))) (fun C_ h_ => Post (.inr C_) h_))))
def w_CE_workOut_L56 (E : fs_E) (K : fs_Hp → Prop) (Post : fs_Ps) : Nat → Nat → Int32 → Int32 → fs_Hp → Prop
  | 0 => fun _ _ _ _ => False
  | n + 1 => fun z0 z1 z2 h1 => (if z1 ≤ z2 then K h1 else fs_gr h1 z0 2 2 (fun a116 => fs_gr h1 z0 2 5 (fun a117 => fs_ai h1 a117 (E.1.2 0) z2 (fun x118 => fs_gr h1 z0 2 1 (fun a119 => fs_gr h1 z0 2 5 (fun a120 => fs_ai h1 a120 (E.1.2 0) z2 (fun x121 => fs_aq h1 a119 (E.1.2 6) x121 (fun o9 => match o9 with | none => False | some a124 => w_N_worth 42 E h1 a124 z0 (fs_kd (fun x126 h125 => fs_sd h125 a116 (E.1.2 2) x118 x126 (fun h127 => (w_CE_workOut_L56 E K Post n) z0 z1 (z2 + 1) h127)) (fun C_ h_ => Post (.inr C_) h_))))))))))
def w_CE_workOut (E : fs_E) (h : fs_Hp) (a0 : Nat) (Post : fs_Ps) : Prop := (∃ n114 : Nat, w_CE_workOut_L4 E (fun y112 h113 => (∃ n129 : Nat, w_CE_workOut_L56 E (fun h128 => Post (.inl none) h128) Post n129 a0 y112 0 h113)) Post n114 a0 0 0 h)
set_option maxHeartbeats 4000000 in
set_option maxRecDepth 100000 in
theorem lw_w_CE_workOut_4 {p : Program} {l : Launch} {e : Env} {R : Room} {s : State} {m : MethodId} {args : Array Value} {below : List Frame} {meth : Method} {c : Code} {s00 : State} {E : fs_E} {Post : fs_Ps} (hE : fs_SE l s00 E) (B : fs_B p l e s m args meth c s00 E.1 y_CE_workOut b_CE_workOut 3 none) (hout : ∀ pc, ∀ x ∈ c.exceptionTable.toList, covers x pc = false) (hRf : 127 ≤ R.frames) (hRl : 1910 ≤ R.locals) (K : Int32 → fs_Hp → Prop) : ∀ (n : Nat) (z0 : Nat) (z1 : Int32) (z2 : Int32) (h1 : fs_Hp) (H : Heap) (locs : List Loc) (ls : Array Slot), w_CE_workOut_L4 E K Post n z0 z1 z2 h1 → fs_P E.1.1 fs_cl (fs_A s00) h1 H → va_S (fs_A s00) s00.heap H locs → lv_has ls 3 [(0, .ref z0), (1, .int z1), (2, .int z2)] → (∀ (y1 : Int32) (h' : fs_Hp) (H : Heap) (locs : List Loc) (ls : Array Slot), K y1 h' → fs_P E.1.1 fs_cl (fs_A s00) h' H → va_S (fs_A s00) s00.heap H locs → lv_has ls 3 [(0, .ref z0), (1, .int y1)] → W p l e R s m args below meth c H locs 0 0 (fx_MQ below (fs_Qc s00 E.1 Post) args s 0 0 (fs_A s00)) (F0 m 54 ls [])) → W p l e R s m args below meth c H locs 0 0 (fx_MQ below (fs_Qc s00 E.1 Post) args s 0 0 (fs_A s00)) (F0 m 4 ls []) := by
  obtain ⟨hx, hb, hr, hml, hown, hts, hlocks, hname, hK, hw, htr⟩ := id B
  have hown : s.vm.findClass "FormulaSheet$Cells" = some m.cls := hown
  intro n
  induction n with
  | zero => intro z0 z1 z2 h1 H locs ls hq; exact False.elim hq
  | succ n ih =>
    intro z0 z1 z2 h1 H locs ls hq hP hS hl kk
    rw [w_CE_workOut_L4] at hq
    refine lv_iload_n hx hb d_CE_workOut_4 rfl (lv_at hl 2 rfl) ?_
    refine lv_bipush (v := 80) hx hb d_CE_workOut_5 (by decide) ?_
    refine lv_icmp_ge (tgt := 54) hx hb d_CE_workOut_7 (by decide) (fun c_101 => ?_) (fun c_101 => ?_)
    · have hq := fs_wifp c_101 hq
      exact kk z1 _ _ _ _ hq hP hS (show lv_has ls 3 [(0, .ref z0), (1, .int z1)] from lv_sub hl [0, 1] rfl)
    · have hq := fs_wifn c_101 hq
      refine lv_aload_n hx hb d_CE_workOut_10 rfl (lv_at hl 0 rfl) ?_
      refine lv_iload_n hx hb d_CE_workOut_11 rfl (lv_at hl 2 rfl) ?_
      obtain ⟨hi_, hq⟩ := hq
      obtain ⟨fs_, he_⟩ := fs_isc_some hi_
      refine fs_cV B hl.1 hP hS (kw_CE_isCircular hE hq) (fs_tb_at 357 tw_357 rfl) he_ rfl (fs_tb_at 358 tw_358 rfl) (fs_tb_at 359 tw_359 rfl) (fs_tb_at 90 tw_90 rfl) (fs_tb_at 360 tw_360 rfl) (by decide) (show (parseMethodDescriptor y_CE_isCircular.desc).map (fun d => d.parameters.length) = some 1 by decide +kernel) rfl d_CE_workOut_12 (fs_rm (k := 0) (by omega) (by omega) (by omega) (by omega) rfl) (fun v_ h102 H locs hq hP hS => ?_) (fun C_ a_ h_ H locs hq hP hS hX => fs_out (hout _) hlocks hw hP hS hX (Nat.le_of_ble_eq_true rfl) (Nat.le_of_ble_eq_true rfl) hq)
      refine fs_cs (k := 0) (n := 0) rfl rfl ?_
      replace hq := fs_ki_some hq
      obtain ⟨x103, rfl, hq⟩ := hq
      refine W.eq (g2 := F0 m 15 ls (.int x103 :: [])) rfl ?_
      refine lv_if_eq (tgt := 30) hx hb d_CE_workOut_15 (by decide) (fun c_104 => ?_) (fun c_104 => ?_)
      · have hq := fs_wifp c_104 hq
        refine lv_aload_n hx hb d_CE_workOut_30 rfl (lv_at hl 0 rfl) ?_
        obtain ⟨fs_, a105, he_, hv_, hq⟩ := fs_gr_some hq
        refine fs_get hx hb hts hown hK c_CE hP he_ 1 (by decide) (hts _ (fs_tb_at 184 tw_184 rfl)) (fun _ h9 => h9) hv_ d_CE_workOut_31 ?_
        refine lv_iload_n hx hb d_CE_workOut_34 rfl (lv_at hl 2 rfl) ?_
        obtain ⟨n_, f_, o106, e_, hi_, ex_, hq⟩ := fs_aq_some hq
        refine fs_aald hx hb hK hP 6 e_ rfl hi_ d_CE_workOut_35 ?_
        rw [← ex_]
        cases o106 with
        | none =>
          refine W.eq (g2 := F0 m 36 ls (.null :: [])) rfl ?_
          refine lv_ifnullN (tgt := 48) hx hb d_CE_workOut_36 (by decide) ?_
          refine lv_iinc (v := z2 + 1) (lv' := [(2, .int (z2 + 1)), (0, .ref z0), (1, .int z1)]) hx hb d_CE_workOut_48 hl (k := 2) rfl rfl (by decide) rfl (fun ls hl => ?_)
          refine lv_goto (tgt := 4) hx hb d_CE_workOut_51 (by decide) ?_
          exact ih z0 z1 (z2 + 1) _ _ _ _ hq hP hS (show lv_has ls 3 [(0, .ref z0), (1, .int z1), (2, .int (z2 + 1))] from lv_sub hl [1, 2, 0] rfl) kk
        | some a108 =>
          refine W.eq (g2 := F0 m 36 ls (.ref a108 :: [])) rfl ?_
          refine lv_ifnull hx hb d_CE_workOut_36 ?_
          refine lv_aload_n hx hb d_CE_workOut_39 rfl (lv_at hl 0 rfl) ?_
          refine lv_iload_n hx hb d_CE_workOut_40 rfl (lv_at hl 2 rfl) ?_
          refine lv_iload_n hx hb d_CE_workOut_41 rfl (lv_at hl 1 rfl) ?_
          obtain ⟨hi_, hq⟩ := hq
          obtain ⟨fs_, he_⟩ := fs_isc_some hi_
          refine fs_cV B hl.1 hP hS (kw_CE_placeInOrder hE hq) (fs_tb_at 362 tw_362 rfl) he_ rfl (fs_tb_at 364 tw_364 rfl) (fs_tb_at 9 tw_9 rfl) (fs_tb_at 90 tw_90 rfl) (fs_tb_at 365 tw_365 rfl) (by decide) (show (parseMethodDescriptor y_CE_placeInOrder.desc).map (fun d => d.parameters.length) = some 2 by decide +kernel) rfl d_CE_workOut_42 (fs_rm (k := 0) (by omega) (by omega) (by omega) (by omega) rfl) (fun v_ h109 H locs hq hP hS => ?_) (fun C_ a_ h_ H locs hq hP hS hX => fs_out (hout _) hlocks hw hP hS hX (Nat.le_of_ble_eq_true rfl) (Nat.le_of_ble_eq_true rfl) hq)
          refine fs_cs (k := 0) (n := 0) rfl rfl ?_
          replace hq := fs_kv_some hq
          obtain ⟨rfl, hq⟩ := hq
          refine W.eq (g2 := F0 m 45 ls ([])) rfl ?_
          refine lv_iinc (v := z1 + 1) (lv' := [(1, .int (z1 + 1)), (0, .ref z0), (2, .int z2)]) hx hb d_CE_workOut_45 hl (k := 1) rfl rfl (by decide) rfl (fun ls hl => ?_)
          refine lv_iinc (v := z2 + 1) (lv' := [(2, .int (z2 + 1)), (1, .int (z1 + 1)), (0, .ref z0)]) hx hb d_CE_workOut_48 hl (k := 2) rfl rfl (by decide) rfl (fun ls hl => ?_)
          refine lv_goto (tgt := 4) hx hb d_CE_workOut_51 (by decide) ?_
          exact ih z0 (z1 + 1) (z2 + 1) _ _ _ _ hq hP hS (show lv_has ls 3 [(0, .ref z0), (1, .int (z1 + 1)), (2, .int (z2 + 1))] from lv_sub hl [2, 1, 0] rfl) kk
      · have hq := fs_wifn c_104 hq
        refine lv_aload_n hx hb d_CE_workOut_18 rfl (lv_at hl 0 rfl) ?_
        obtain ⟨fs_, a110, he_, hv_, hq⟩ := fs_gr_some hq
        refine fs_get hx hb hts hown hK c_CE hP he_ 2 (by decide) (hts _ (fs_tb_at 186 tw_186 rfl)) (fun _ h9 => h9) hv_ d_CE_workOut_19 ?_
        refine lv_iload_n hx hb d_CE_workOut_22 rfl (lv_at hl 2 rfl) ?_
        refine lv_ldc2d (v := 4836865999795912704) hx hb hown (hts _ (fs_tb_at 361 tw_361 rfl)) d_CE_workOut_23 ?_
        obtain ⟨n_, f_, h111, e_, hi_, eh_, hq⟩ := fs_sd_some hq
        refine fs_dast hx hb hK hP hS 2 e_ rfl hi_ d_CE_workOut_26 (fun H locs hP hS => ?_)
        rw [← eh_] at hP
        refine lv_goto (tgt := 48) hx hb d_CE_workOut_27 (by decide) ?_
        refine lv_iinc (v := z2 + 1) (lv' := [(2, .int (z2 + 1)), (0, .ref z0), (1, .int z1)]) hx hb d_CE_workOut_48 hl (k := 2) rfl rfl (by decide) rfl (fun ls hl => ?_)
        refine lv_goto (tgt := 4) hx hb d_CE_workOut_51 (by decide) ?_
        exact ih z0 z1 (z2 + 1) _ _ _ _ hq hP hS (show lv_has ls 3 [(0, .ref z0), (1, .int z1), (2, .int (z2 + 1))] from lv_sub hl [1, 2, 0] rfl) kk
set_option maxHeartbeats 4000000 in
set_option maxRecDepth 100000 in
theorem lw_w_CE_workOut_56 {p : Program} {l : Launch} {e : Env} {R : Room} {s : State} {m : MethodId} {args : Array Value} {below : List Frame} {meth : Method} {c : Code} {s00 : State} {E : fs_E} {Post : fs_Ps} (hE : fs_SE l s00 E) (B : fs_B p l e s m args meth c s00 E.1 y_CE_workOut b_CE_workOut 3 none) (hout : ∀ pc, ∀ x ∈ c.exceptionTable.toList, covers x pc = false) (hRf : 127 ≤ R.frames) (hRl : 1910 ≤ R.locals) (K : fs_Hp → Prop) : ∀ (n : Nat) (z0 : Nat) (z1 : Int32) (z2 : Int32) (h1 : fs_Hp) (H : Heap) (locs : List Loc) (ls : Array Slot), w_CE_workOut_L56 E K Post n z0 z1 z2 h1 → fs_P E.1.1 fs_cl (fs_A s00) h1 H → va_S (fs_A s00) s00.heap H locs → lv_has ls 3 [(0, .ref z0), (1, .int z1), (2, .int z2)] → (∀  (h' : fs_Hp) (H : Heap) (locs : List Loc) (ls : Array Slot), K  h' → fs_P E.1.1 fs_cl (fs_A s00) h' H → va_S (fs_A s00) s00.heap H locs → lv_has ls 3 [(0, .ref z0), (1, .int z1)] → W p l e R s m args below meth c H locs 0 0 (fx_MQ below (fs_Qc s00 E.1 Post) args s 0 0 (fs_A s00)) (F0 m 93 ls [])) → W p l e R s m args below meth c H locs 0 0 (fx_MQ below (fs_Qc s00 E.1 Post) args s 0 0 (fs_A s00)) (F0 m 56 ls []) := by
  obtain ⟨hx, hb, hr, hml, hown, hts, hlocks, hname, hK, hw, htr⟩ := id B
  have hown : s.vm.findClass "FormulaSheet$Cells" = some m.cls := hown
  intro n
  induction n with
  | zero => intro z0 z1 z2 h1 H locs ls hq; exact False.elim hq
  | succ n ih =>
    intro z0 z1 z2 h1 H locs ls hq hP hS hl kk
    rw [w_CE_workOut_L56] at hq
    refine lv_iload_n hx hb d_CE_workOut_56 rfl (lv_at hl 2 rfl) ?_
    refine lv_iload_n hx hb d_CE_workOut_57 rfl (lv_at hl 1 rfl) ?_
    refine lv_icmp_ge (tgt := 93) hx hb d_CE_workOut_58 (by decide) (fun c_115 => ?_) (fun c_115 => ?_)
    · have hq := fs_wifp c_115 hq
      exact kk  _ _ _ _ hq hP hS (show lv_has ls 3 [(0, .ref z0), (1, .int z1)] from lv_sub hl [0, 1] rfl)
    · have hq := fs_wifn c_115 hq
      refine lv_aload_n hx hb d_CE_workOut_61 rfl (lv_at hl 0 rfl) ?_
      obtain ⟨fs_, a116, he_, hv_, hq⟩ := fs_gr_some hq
      refine fs_get hx hb hts hown hK c_CE hP he_ 2 (by decide) (hts _ (fs_tb_at 186 tw_186 rfl)) (fun _ h9 => h9) hv_ d_CE_workOut_62 ?_
      refine lv_aload_n hx hb d_CE_workOut_65 rfl (lv_at hl 0 rfl) ?_
      obtain ⟨fs_, a117, he_, hv_, hq⟩ := fs_gr_some hq
      refine fs_get hx hb hts hown hK c_CE hP he_ 5 (by decide) (hts _ (fs_tb_at 194 tw_194 rfl)) (fun _ h9 => h9) hv_ d_CE_workOut_66 ?_
      refine lv_iload_n hx hb d_CE_workOut_69 rfl (lv_at hl 2 rfl) ?_
      obtain ⟨n_, f_, x118, e_, hi_, ex_, hq⟩ := fs_ai_some hq
      refine fs_iald hx hb hK hP 0 e_ rfl hi_ d_CE_workOut_70 ?_
      rw [← ex_]
      refine lv_aload_n hx hb d_CE_workOut_71 rfl (lv_at hl 0 rfl) ?_
      obtain ⟨fs_, a119, he_, hv_, hq⟩ := fs_gr_some hq
      refine fs_get hx hb hts hown hK c_CE hP he_ 1 (by decide) (hts _ (fs_tb_at 184 tw_184 rfl)) (fun _ h9 => h9) hv_ d_CE_workOut_72 ?_
      refine lv_aload_n hx hb d_CE_workOut_75 rfl (lv_at hl 0 rfl) ?_
      obtain ⟨fs_, a120, he_, hv_, hq⟩ := fs_gr_some hq
      refine fs_get hx hb hts hown hK c_CE hP he_ 5 (by decide) (hts _ (fs_tb_at 194 tw_194 rfl)) (fun _ h9 => h9) hv_ d_CE_workOut_76 ?_
      refine lv_iload_n hx hb d_CE_workOut_79 rfl (lv_at hl 2 rfl) ?_
      obtain ⟨n_, f_, x121, e_, hi_, ex_, hq⟩ := fs_ai_some hq
      refine fs_iald hx hb hK hP 0 e_ rfl hi_ d_CE_workOut_80 ?_
      rw [← ex_]
      obtain ⟨n_, f_, o122, e_, hi_, ex_, hq⟩ := fs_aq_some hq
      refine fs_aald hx hb hK hP 6 e_ rfl hi_ d_CE_workOut_81 ?_
      rw [← ex_]
      cases o122 with
      | none =>
        refine W.eq (g2 := F0 m 82 ls (.null :: .int x118 :: .ref a116 :: [])) rfl ?_
        refine lv_aload_n hx hb d_CE_workOut_82 rfl (lv_at hl 0 rfl) ?_
        exact False.elim hq
      | some a124 =>
        refine W.eq (g2 := F0 m 82 ls (.ref a124 :: .int x118 :: .ref a116 :: [])) rfl ?_
        refine lv_aload_n hx hb d_CE_workOut_82 rfl (lv_at hl 0 rfl) ?_
        refine fs_cVV (owner := "FormulaSheet$Part") B hl.1 hP hS (kN_worth hE hq) (fs_tb_at 376 tw_376 rfl) (fs_tb_at 378 tw_378 rfl) (fs_dclA (fs_tb_at 377 tw_377 rfl)) (by decide) (show (parseMethodDescriptor y_PT_worth.desc).map (fun d => d.parameters.length) = some 1 by decide +kernel) rfl d_CE_workOut_83 (fs_rm (k := 2) (by omega) (by omega) (by omega) (by omega) rfl) (fun v_ h125 H locs hq hP hS => ?_) (fun C_ a_ h_ H locs hq hP hS hX => fs_out (hout _) hlocks hw hP hS hX (Nat.le_of_ble_eq_true rfl) (Nat.le_of_ble_eq_true rfl) hq)
        refine fs_cs (k := 0) (n := 0) rfl rfl ?_
        replace hq := fs_kd_some hq
        obtain ⟨x126, rfl, hq⟩ := hq
        refine W.eq (g2 := F0 m 86 ls (.double x126 :: .int x118 :: .ref a116 :: [])) rfl ?_
        obtain ⟨n_, f_, h127, e_, hi_, eh_, hq⟩ := fs_sd_some hq
        refine fs_dast hx hb hK hP hS 2 e_ rfl hi_ d_CE_workOut_86 (fun H locs hP hS => ?_)
        rw [← eh_] at hP
        refine lv_iinc (v := z2 + 1) (lv' := [(2, .int (z2 + 1)), (0, .ref z0), (1, .int z1)]) hx hb d_CE_workOut_87 hl (k := 2) rfl rfl (by decide) rfl (fun ls hl => ?_)
        refine lv_goto (tgt := 56) hx hb d_CE_workOut_90 (by decide) ?_
        exact ih z0 z1 (z2 + 1) _ _ _ _ hq hP hS (show lv_has ls 3 [(0, .ref z0), (1, .int z1), (2, .int (z2 + 1))] from lv_sub hl [1, 2, 0] rfl) kk
set_option maxHeartbeats 4000000 in
set_option maxRecDepth 100000 in
theorem kw_CE_workOut {l : Launch} {s00 : State} {E : fs_E} (hE : fs_SE l s00 E) {h : fs_Hp} {a0 : Nat} {Post : fs_Ps} (hq : w_CE_workOut E h a0 Post) : fs_Ct l s00 E.1 y_CE_workOut (.code y_CE_workOut b_CE_workOut 3 none) { frames := 127, cells := 0, slots := 0, locals := 1910 } [.ref a0] h Post := by
  refine fs_Ct.ofR hE.1 (by decide) ?_
  intro p e R s m below meth c hRf hRl hRc hRs B hout hP
  skip
  obtain ⟨hx, hb, hr, hml, hown, hts, hlocks, hname, hK, hw, htr⟩ := id B
  have hown : s.vm.findClass "FormulaSheet$Cells" = some m.cls := hown
  have hS := hw.S
  have hl := lv_entry ([.ref a0]) (n := 3) (Nat.le_of_ble_eq_true rfl)
  rw [lg_entry_eq]
  generalize (lg_sl ([.ref a0]) ++ List.replicate (3 - (lg_sl ([.ref a0])).length) Slot.unset).toArray = ls at hl ⊢
  have hl : lv_has ls 3 [(0, .ref a0)] := hl
  unfold w_CE_workOut at hq
  refine lv_iconst (v := 0) hx hb d_CE_workOut_0 (by decide) ?_
  refine lv_istore_n (lv' := [(1, .int 0), (0, .ref a0)]) hx hb d_CE_workOut_1 rfl hl (by decide) rfl (fun ls hl => ?_)
  refine lv_iconst (v := 0) hx hb d_CE_workOut_2 (by decide) ?_
  refine lv_istore_n (lv' := [(2, .int 0), (1, .int 0), (0, .ref a0)]) hx hb d_CE_workOut_3 rfl hl (by decide) rfl (fun ls hl => ?_)
  obtain ⟨n114, hq⟩ := hq
  refine lw_w_CE_workOut_4 hE B hout (by omega) (by omega) _ n114 a0 0 0 _ _ _ _ hq hP hS (show lv_has ls 3 [(0, .ref a0), (1, .int 0), (2, .int 0)] from lv_sub hl [2, 1, 0] rfl) (fun y112 h113 H locs ls hq hP hS hl => ?_)
  refine lv_iconst (v := 0) hx hb d_CE_workOut_54 (by decide) ?_
  refine lv_istore_n (lv' := [(2, .int 0), (0, .ref a0), (1, .int y112)]) hx hb d_CE_workOut_55 rfl hl (by decide) rfl (fun ls hl => ?_)
  obtain ⟨n129, hq⟩ := hq
  refine lw_w_CE_workOut_56 hE B hout (by omega) (by omega) _ n129 a0 y112 0 _ _ _ _ hq hP hS (show lv_has ls 3 [(0, .ref a0), (1, .int y112), (2, .int 0)] from lv_sub hl [1, 2, 0] rfl) (fun  h128 H locs ls hq hP hS hl => ?_)
  exact fs_vret hx hb hr hlocks hw hP hS (Nat.le_refl _) (Nat.le_refl _) hq d_CE_workOut_93
def w_CE_settle (E : fs_E) (h : fs_Hp) (a0 : Nat) (Post : fs_Ps) : Prop := fs_gi h a0 2 6 (fun x101 => (if x101 = 0 then fs_isc h a0 2 ∧ (w_CE_findReached E h a0 (fs_kv (fun h103 => fs_isc h103 a0 2 ∧ (w_CE_workOut E h103 a0 (fs_kv (fun h104 => fs_pw h104 a0 2 6 (.int 1) (fun h105 => Post (.inl none) h105)) (fun C_ h_ => Post (.inr C_) h_)))) (fun C_ h_ => Post (.inr C_) h_))) else Post (.inl none) h))
set_option maxHeartbeats 4000000 in
set_option maxRecDepth 100000 in
theorem kw_CE_settle {l : Launch} {s00 : State} {E : fs_E} (hE : fs_SE l s00 E) {h : fs_Hp} {a0 : Nat} {Post : fs_Ps} (hq : w_CE_settle E h a0 Post) : fs_Ct l s00 E.1 y_CE_settle (.code y_CE_settle b_CE_settle 1 none) { frames := 128, cells := 0, slots := 0, locals := 1924 } [.ref a0] h Post := by
  refine fs_Ct.ofR hE.1 (by decide) ?_
  intro p e R s m below meth c hRf hRl hRc hRs B hout hP
  skip
  obtain ⟨hx, hb, hr, hml, hown, hts, hlocks, hname, hK, hw, htr⟩ := id B
  have hown : s.vm.findClass "FormulaSheet$Cells" = some m.cls := hown
  have hS := hw.S
  have hl := lv_entry ([.ref a0]) (n := 1) (Nat.le_of_ble_eq_true rfl)
  rw [lg_entry_eq]
  generalize (lg_sl ([.ref a0]) ++ List.replicate (1 - (lg_sl ([.ref a0])).length) Slot.unset).toArray = ls at hl ⊢
  have hl : lv_has ls 1 [(0, .ref a0)] := hl
  unfold w_CE_settle at hq
  refine lv_aload_n hx hb d_CE_settle_0 rfl (lv_at hl 0 rfl) ?_
  obtain ⟨fs_, x101, he_, hv_, hq⟩ := fs_gi_some hq
  refine fs_get hx hb hts hown hK c_CE hP he_ 6 (by decide) (hts _ (fs_tb_at 195 tw_195 rfl)) (fun _ h9 => h9) hv_ d_CE_settle_1 ?_
  refine lv_if_eq (tgt := 8) hx hb d_CE_settle_4 (by decide) (fun c_102 => ?_) (fun c_102 => ?_)
  · have hq := fs_wifp c_102 hq
    refine lv_aload_n hx hb d_CE_settle_8 rfl (lv_at hl 0 rfl) ?_
    obtain ⟨hi_, hq⟩ := hq
    obtain ⟨fs_, he_⟩ := fs_isc_some hi_
    refine fs_cV B hl.1 hP hS (kw_CE_findReached hE hq) (fs_tb_at 281 tw_281 rfl) he_ rfl (fs_tb_at 283 tw_283 rfl) (fs_tb_at 0 tw_0 rfl) (fs_tb_at 90 tw_90 rfl) (fs_tb_at 284 tw_284 rfl) (by decide) (show (parseMethodDescriptor y_CE_findReached.desc).map (fun d => d.parameters.length) = some 0 by decide +kernel) rfl d_CE_settle_9 (fs_rm (k := 0) (by omega) (by omega) (by omega) (by omega) rfl) (fun v_ h103 H locs hq hP hS => ?_) (fun C_ a_ h_ H locs hq hP hS hX => fs_out (hout _) hlocks hw hP hS hX (Nat.le_of_ble_eq_true rfl) (Nat.le_of_ble_eq_true rfl) hq)
    refine fs_cs (k := 0) (n := 0) rfl rfl ?_
    replace hq := fs_kv_some hq
    obtain ⟨rfl, hq⟩ := hq
    refine W.eq (g2 := F0 m 12 ls ([])) rfl ?_
    refine lv_aload_n hx hb d_CE_settle_12 rfl (lv_at hl 0 rfl) ?_
    obtain ⟨hi_, hq⟩ := hq
    obtain ⟨fs_, he_⟩ := fs_isc_some hi_
    refine fs_cV B hl.1 hP hS (kw_CE_workOut hE hq) (fs_tb_at 353 tw_353 rfl) he_ rfl (fs_tb_at 355 tw_355 rfl) (fs_tb_at 8 tw_8 rfl) (fs_tb_at 90 tw_90 rfl) (fs_tb_at 356 tw_356 rfl) (by decide) (show (parseMethodDescriptor y_CE_workOut.desc).map (fun d => d.parameters.length) = some 0 by decide +kernel) rfl d_CE_settle_13 (fs_rm (k := 0) (by omega) (by omega) (by omega) (by omega) rfl) (fun v_ h104 H locs hq hP hS => ?_) (fun C_ a_ h_ H locs hq hP hS hX => fs_out (hout _) hlocks hw hP hS hX (Nat.le_of_ble_eq_true rfl) (Nat.le_of_ble_eq_true rfl) hq)
    refine fs_cs (k := 0) (n := 0) rfl rfl ?_
    replace hq := fs_kv_some hq
    obtain ⟨rfl, hq⟩ := hq
    refine W.eq (g2 := F0 m 16 ls ([])) rfl ?_
    refine lv_aload_n hx hb d_CE_settle_16 rfl (lv_at hl 0 rfl) ?_
    refine lv_iconst (v := 1) hx hb d_CE_settle_17 (by decide) ?_
    obtain ⟨fs_, h105, e_, hl_, eh_, hq⟩ := fs_pw_some hq
    refine fs_put hx hb hts hown hK c_CE hP hS e_ 6 (by decide) (hts _ (fs_tb_at 195 tw_195 rfl)) (fun _ h9 => h9) rfl (by decide) (by decide) hl_ d_CE_settle_18 (fun H locs hP hS => ?_)
    rw [← eh_] at hP
    exact fs_vret hx hb hr hlocks hw hP hS (Nat.le_refl _) (Nat.le_refl _) hq d_CE_settle_21
  · have hq := fs_wifn c_102 hq
    exact fs_vret hx hb hr hlocks hw hP hS (Nat.le_refl _) (Nat.le_refl _) hq d_CE_settle_7
def w_CE_rowIn_L12 (E : fs_E) (K : fs_Hp → Prop) (Post : fs_Ps) : Nat → Nat → Int32 → Int32 → Int32 → fs_Hp → Prop
  | 0 => fun _ _ _ _ _ => False
  | n + 1 => fun z0 z1 z2 z3 h1 => (if z3 < ((z1 + 1) * 8) then K h1 else fs_isc h1 z0 2 ∧ (w_CE_take E h1 z0 z3 (z3 - 8) (fs_kv (fun h104 => (w_CE_rowIn_L12 E K Post n) z0 z1 z2 (z3 - 1) h104) (fun C_ h_ => Post (.inr C_) h_))))
def w_CE_rowIn_L44 (E : fs_E) (K : fs_Hp → Prop) (Post : fs_Ps) : Nat → Nat → Int32 → Int32 → Int32 → fs_Hp → Prop
  | 0 => fun _ _ _ _ _ => False
  | n + 1 => fun z0 z1 z2 z3 h1 => (if 80 ≤ z3 then K h1 else fs_gr h1 z0 2 1 (fun a109 => fs_aq h1 a109 (E.1.2 6) z3 (fun o9 => match o9 with | none => (w_CE_rowIn_L44 E K Post n) z0 z1 z2 (z3 + 1) h1 | some a112 => fs_gr h1 z0 2 1 (fun a113 => fs_aq h1 a113 (E.1.2 6) z3 (fun o9 => match o9 with | none => False | some a116 => w_N_followRowIn 42 E h1 a116 z1 (fs_kv (fun h117 => (w_CE_rowIn_L44 E K Post n) z0 z1 z2 (z3 + 1) h117) (fun C_ h_ => Post (.inr C_) h_)))))))
def w_CE_rowIn (E : fs_E) (h : fs_Hp) (a0 : Nat) (x1 : Int32) (Post : fs_Ps) : Prop := fs_isc h a0 2 ∧ (w_CE_filledFrom E h a0 72 80 (fs_ki (fun x102 h101 => (∃ n106 : Nat, w_CE_rowIn_L12 E (fun h105 => fs_isc h105 a0 2 ∧ (w_CE_emptyRow E h105 a0 x1 (fs_kv (fun h107 => (∃ n119 : Nat, w_CE_rowIn_L44 E (fun h118 => Post (.inl (some (.int x102))) h118) Post n119 a0 x1 x102 0 h107)) (fun C_ h_ => Post (.inr C_) h_)))) Post n106 a0 x1 x102 79 h101)) (fun C_ h_ => Post (.inr C_) h_)))
set_option maxHeartbeats 4000000 in
set_option maxRecDepth 100000 in
theorem lw_w_CE_rowIn_12 {p : Program} {l : Launch} {e : Env} {R : Room} {s : State} {m : MethodId} {args : Array Value} {below : List Frame} {meth : Method} {c : Code} {s00 : State} {E : fs_E} {Post : fs_Ps} (hE : fs_SE l s00 E) (B : fs_B p l e s m args meth c s00 E.1 y_CE_rowIn b_CE_rowIn 4 (some .int)) (hout : ∀ pc, ∀ x ∈ c.exceptionTable.toList, covers x pc = false) (hRf : 43 ≤ R.frames) (hRl : 645 ≤ R.locals) (K : fs_Hp → Prop) : ∀ (n : Nat) (z0 : Nat) (z1 : Int32) (z2 : Int32) (z3 : Int32) (h1 : fs_Hp) (H : Heap) (locs : List Loc) (ls : Array Slot), w_CE_rowIn_L12 E K Post n z0 z1 z2 z3 h1 → fs_P E.1.1 fs_cl (fs_A s00) h1 H → va_S (fs_A s00) s00.heap H locs → lv_has ls 4 [(0, .ref z0), (1, .int z1), (2, .int z2), (3, .int z3)] → (∀  (h' : fs_Hp) (H : Heap) (locs : List Loc) (ls : Array Slot), K  h' → fs_P E.1.1 fs_cl (fs_A s00) h' H → va_S (fs_A s00) s00.heap H locs → lv_has ls 4 [(0, .ref z0), (1, .int z1), (2, .int z2)] → W p l e R s m args below meth c H locs 0 0 (fx_MQ below (fs_Qc s00 E.1 Post) args s 0 0 (fs_A s00)) (F0 m 37 ls [])) → W p l e R s m args below meth c H locs 0 0 (fx_MQ below (fs_Qc s00 E.1 Post) args s 0 0 (fs_A s00)) (F0 m 12 ls []) := by
  obtain ⟨hx, hb, hr, hml, hown, hts, hlocks, hname, hK, hw, htr⟩ := id B
  have hown : s.vm.findClass "FormulaSheet$Cells" = some m.cls := hown
  intro n
  induction n with
  | zero => intro z0 z1 z2 z3 h1 H locs ls hq; exact False.elim hq
  | succ n ih =>
    intro z0 z1 z2 z3 h1 H locs ls hq hP hS hl kk
    rw [w_CE_rowIn_L12] at hq
    refine lv_iload_n hx hb d_CE_rowIn_12 rfl (lv_at hl 3 rfl) ?_
    refine lv_iload_n hx hb d_CE_rowIn_13 rfl (lv_at hl 1 rfl) ?_
    refine lv_iconst (v := 1) hx hb d_CE_rowIn_14 (by decide) ?_
    refine lv_iadd hx hb d_CE_rowIn_15 ?_
    refine lv_bipush (v := 8) hx hb d_CE_rowIn_16 (by decide) ?_
    refine lv_imul hx hb d_CE_rowIn_18 ?_
    refine lv_icmp_lt (tgt := 37) hx hb d_CE_rowIn_19 (by decide) (fun c_103 => ?_) (fun c_103 => ?_)
    · have hq := fs_wifp c_103 hq
      exact kk  _ _ _ _ hq hP hS (show lv_has ls 4 [(0, .ref z0), (1, .int z1), (2, .int z2)] from lv_sub hl [0, 1, 2] rfl)
    · have hq := fs_wifn c_103 hq
      refine lv_aload_n hx hb d_CE_rowIn_22 rfl (lv_at hl 0 rfl) ?_
      refine lv_iload_n hx hb d_CE_rowIn_23 rfl (lv_at hl 3 rfl) ?_
      refine lv_iload_n hx hb d_CE_rowIn_24 rfl (lv_at hl 3 rfl) ?_
      refine lv_bipush (v := 8) hx hb d_CE_rowIn_25 (by decide) ?_
      refine lv_isub hx hb d_CE_rowIn_27 ?_
      obtain ⟨hi_, hq⟩ := hq
      obtain ⟨fs_, he_⟩ := fs_isc_some hi_
      refine fs_cV B hl.1 hP hS (kw_CE_take hE hq) (fs_tb_at 979 tw_979 rfl) he_ rfl (fs_tb_at 981 tw_981 rfl) (fs_tb_at 38 tw_38 rfl) (fs_tb_at 90 tw_90 rfl) (fs_tb_at 982 tw_982 rfl) (by decide) (show (parseMethodDescriptor y_CE_take.desc).map (fun d => d.parameters.length) = some 2 by decide +kernel) rfl d_CE_rowIn_28 (fs_rm (k := 0) (by omega) (by omega) (by omega) (by omega) rfl) (fun v_ h104 H locs hq hP hS => ?_) (fun C_ a_ h_ H locs hq hP hS hX => fs_out (hout _) hlocks hw hP hS hX (Nat.le_of_ble_eq_true rfl) (Nat.le_of_ble_eq_true rfl) hq)
      refine fs_cs (k := 0) (n := 0) rfl rfl ?_
      replace hq := fs_kv_some hq
      obtain ⟨rfl, hq⟩ := hq
      refine W.eq (g2 := F0 m 31 ls ([])) rfl ?_
      refine lv_iinc (v := z3 - 1) (lv' := [(3, .int (z3 - 1)), (0, .ref z0), (1, .int z1), (2, .int z2)]) hx hb d_CE_rowIn_31 hl (k := 3) rfl (fs_dec1 _) (by decide) rfl (fun ls hl => ?_)
      refine lv_goto (tgt := 12) hx hb d_CE_rowIn_34 (by decide) ?_
      exact ih z0 z1 z2 (z3 - 1) _ _ _ _ hq hP hS (show lv_has ls 4 [(0, .ref z0), (1, .int z1), (2, .int z2), (3, .int (z3 - 1))] from lv_sub hl [1, 2, 3, 0] rfl) kk
set_option maxHeartbeats 4000000 in
set_option maxRecDepth 100000 in
theorem lw_w_CE_rowIn_44 {p : Program} {l : Launch} {e : Env} {R : Room} {s : State} {m : MethodId} {args : Array Value} {below : List Frame} {meth : Method} {c : Code} {s00 : State} {E : fs_E} {Post : fs_Ps} (hE : fs_SE l s00 E) (B : fs_B p l e s m args meth c s00 E.1 y_CE_rowIn b_CE_rowIn 4 (some .int)) (hout : ∀ pc, ∀ x ∈ c.exceptionTable.toList, covers x pc = false) (hRf : 43 ≤ R.frames) (hRl : 645 ≤ R.locals) (K : fs_Hp → Prop) : ∀ (n : Nat) (z0 : Nat) (z1 : Int32) (z2 : Int32) (z3 : Int32) (h1 : fs_Hp) (H : Heap) (locs : List Loc) (ls : Array Slot), w_CE_rowIn_L44 E K Post n z0 z1 z2 z3 h1 → fs_P E.1.1 fs_cl (fs_A s00) h1 H → va_S (fs_A s00) s00.heap H locs → lv_has ls 4 [(0, .ref z0), (1, .int z1), (2, .int z2), (3, .int z3)] → (∀  (h' : fs_Hp) (H : Heap) (locs : List Loc) (ls : Array Slot), K  h' → fs_P E.1.1 fs_cl (fs_A s00) h' H → va_S (fs_A s00) s00.heap H locs → lv_has ls 4 [(0, .ref z0), (1, .int z1), (2, .int z2)] → W p l e R s m args below meth c H locs 0 0 (fx_MQ below (fs_Qc s00 E.1 Post) args s 0 0 (fs_A s00)) (F0 m 75 ls [])) → W p l e R s m args below meth c H locs 0 0 (fx_MQ below (fs_Qc s00 E.1 Post) args s 0 0 (fs_A s00)) (F0 m 44 ls []) := by
  obtain ⟨hx, hb, hr, hml, hown, hts, hlocks, hname, hK, hw, htr⟩ := id B
  have hown : s.vm.findClass "FormulaSheet$Cells" = some m.cls := hown
  intro n
  induction n with
  | zero => intro z0 z1 z2 z3 h1 H locs ls hq; exact False.elim hq
  | succ n ih =>
    intro z0 z1 z2 z3 h1 H locs ls hq hP hS hl kk
    rw [w_CE_rowIn_L44] at hq
    refine lv_iload_n hx hb d_CE_rowIn_44 rfl (lv_at hl 3 rfl) ?_
    refine lv_bipush (v := 80) hx hb d_CE_rowIn_45 (by decide) ?_
    refine lv_icmp_ge (tgt := 75) hx hb d_CE_rowIn_47 (by decide) (fun c_108 => ?_) (fun c_108 => ?_)
    · have hq := fs_wifp c_108 hq
      exact kk  _ _ _ _ hq hP hS (show lv_has ls 4 [(0, .ref z0), (1, .int z1), (2, .int z2)] from lv_sub hl [0, 1, 2] rfl)
    · have hq := fs_wifn c_108 hq
      refine lv_aload_n hx hb d_CE_rowIn_50 rfl (lv_at hl 0 rfl) ?_
      obtain ⟨fs_, a109, he_, hv_, hq⟩ := fs_gr_some hq
      refine fs_get hx hb hts hown hK c_CE hP he_ 1 (by decide) (hts _ (fs_tb_at 184 tw_184 rfl)) (fun _ h9 => h9) hv_ d_CE_rowIn_51 ?_
      refine lv_iload_n hx hb d_CE_rowIn_54 rfl (lv_at hl 3 rfl) ?_
      obtain ⟨n_, f_, o110, e_, hi_, ex_, hq⟩ := fs_aq_some hq
      refine fs_aald hx hb hK hP 6 e_ rfl hi_ d_CE_rowIn_55 ?_
      rw [← ex_]
      cases o110 with
      | none =>
        refine W.eq (g2 := F0 m 56 ls (.null :: [])) rfl ?_
        refine lv_ifnullN (tgt := 69) hx hb d_CE_rowIn_56 (by decide) ?_
        refine lv_iinc (v := z3 + 1) (lv' := [(3, .int (z3 + 1)), (0, .ref z0), (1, .int z1), (2, .int z2)]) hx hb d_CE_rowIn_69 hl (k := 3) rfl rfl (by decide) rfl (fun ls hl => ?_)
        refine lv_goto (tgt := 44) hx hb d_CE_rowIn_72 (by decide) ?_
        exact ih z0 z1 z2 (z3 + 1) _ _ _ _ hq hP hS (show lv_has ls 4 [(0, .ref z0), (1, .int z1), (2, .int z2), (3, .int (z3 + 1))] from lv_sub hl [1, 2, 3, 0] rfl) kk
      | some a112 =>
        refine W.eq (g2 := F0 m 56 ls (.ref a112 :: [])) rfl ?_
        refine lv_ifnull hx hb d_CE_rowIn_56 ?_
        refine lv_aload_n hx hb d_CE_rowIn_59 rfl (lv_at hl 0 rfl) ?_
        obtain ⟨fs_, a113, he_, hv_, hq⟩ := fs_gr_some hq
        refine fs_get hx hb hts hown hK c_CE hP he_ 1 (by decide) (hts _ (fs_tb_at 184 tw_184 rfl)) (fun _ h9 => h9) hv_ d_CE_rowIn_60 ?_
        refine lv_iload_n hx hb d_CE_rowIn_63 rfl (lv_at hl 3 rfl) ?_
        obtain ⟨n_, f_, o114, e_, hi_, ex_, hq⟩ := fs_aq_some hq
        refine fs_aald hx hb hK hP 6 e_ rfl hi_ d_CE_rowIn_64 ?_
        rw [← ex_]
        cases o114 with
        | none =>
          refine W.eq (g2 := F0 m 65 ls (.null :: [])) rfl ?_
          refine lv_iload_n hx hb d_CE_rowIn_65 rfl (lv_at hl 1 rfl) ?_
          exact False.elim hq
        | some a116 =>
          refine W.eq (g2 := F0 m 65 ls (.ref a116 :: [])) rfl ?_
          refine lv_iload_n hx hb d_CE_rowIn_65 rfl (lv_at hl 1 rfl) ?_
          refine fs_cVV (owner := "FormulaSheet$Part") B hl.1 hP hS (kN_followRowIn hE hq) (fs_tb_at 988 tw_988 rfl) (fs_tb_at 990 tw_990 rfl) (fs_dclC (fs_tb_at 989 tw_989 rfl) (fs_tb_at 1006 tw_1006 rfl)) (by decide) (show (parseMethodDescriptor y_PT_followRowIn.desc).map (fun d => d.parameters.length) = some 1 by decide +kernel) rfl d_CE_rowIn_66 (fs_rm (k := 0) (by omega) (by omega) (by omega) (by omega) rfl) (fun v_ h117 H locs hq hP hS => ?_) (fun C_ a_ h_ H locs hq hP hS hX => fs_out (hout _) hlocks hw hP hS hX (Nat.le_of_ble_eq_true rfl) (Nat.le_of_ble_eq_true rfl) hq)
          refine fs_cs (k := 0) (n := 0) rfl rfl ?_
          replace hq := fs_kv_some hq
          obtain ⟨rfl, hq⟩ := hq
          refine W.eq (g2 := F0 m 69 ls ([])) rfl ?_
          refine lv_iinc (v := z3 + 1) (lv' := [(3, .int (z3 + 1)), (0, .ref z0), (1, .int z1), (2, .int z2)]) hx hb d_CE_rowIn_69 hl (k := 3) rfl rfl (by decide) rfl (fun ls hl => ?_)
          refine lv_goto (tgt := 44) hx hb d_CE_rowIn_72 (by decide) ?_
          exact ih z0 z1 z2 (z3 + 1) _ _ _ _ hq hP hS (show lv_has ls 4 [(0, .ref z0), (1, .int z1), (2, .int z2), (3, .int (z3 + 1))] from lv_sub hl [1, 2, 3, 0] rfl) kk
set_option maxHeartbeats 4000000 in
set_option maxRecDepth 100000 in
theorem kw_CE_rowIn {l : Launch} {s00 : State} {E : fs_E} (hE : fs_SE l s00 E) {h : fs_Hp} {a0 : Nat} {x1 : Int32} {Post : fs_Ps} (hq : w_CE_rowIn E h a0 x1 Post) : fs_Ct l s00 E.1 y_CE_rowIn (.code y_CE_rowIn b_CE_rowIn 4 (some .int)) { frames := 43, cells := 0, slots := 0, locals := 645 } [.ref a0, .int x1] h Post := by
  refine fs_Ct.ofR hE.1 (by decide) ?_
  intro p e R s m below meth c hRf hRl hRc hRs B hout hP
  skip
  obtain ⟨hx, hb, hr, hml, hown, hts, hlocks, hname, hK, hw, htr⟩ := id B
  have hown : s.vm.findClass "FormulaSheet$Cells" = some m.cls := hown
  have hS := hw.S
  have hl := lv_entry ([.ref a0, .int x1]) (n := 4) (Nat.le_of_ble_eq_true rfl)
  rw [lg_entry_eq]
  generalize (lg_sl ([.ref a0, .int x1]) ++ List.replicate (4 - (lg_sl ([.ref a0, .int x1])).length) Slot.unset).toArray = ls at hl ⊢
  have hl : lv_has ls 4 [(0, .ref a0), (1, .int x1)] := hl
  unfold w_CE_rowIn at hq
  refine lv_aload_n hx hb d_CE_rowIn_0 rfl (lv_at hl 0 rfl) ?_
  refine lv_bipush (v := 72) hx hb d_CE_rowIn_1 (by decide) ?_
  refine lv_bipush (v := 80) hx hb d_CE_rowIn_3 (by decide) ?_
  obtain ⟨hi_, hq⟩ := hq
  obtain ⟨fs_, he_⟩ := fs_isc_some hi_
  refine fs_cV B hl.1 hP hS (kw_CE_filledFrom hE hq) (fs_tb_at 978 tw_978 rfl) he_ rfl (fs_tb_at 266 tw_266 rfl) (fs_tb_at 267 tw_267 rfl) (fs_tb_at 90 tw_90 rfl) (fs_tb_at 268 tw_268 rfl) (by decide) (show (parseMethodDescriptor y_CE_filledFrom.desc).map (fun d => d.parameters.length) = some 2 by decide +kernel) rfl d_CE_rowIn_5 (fs_rm (k := 0) (by omega) (by omega) (by omega) (by omega) rfl) (fun v_ h101 H locs hq hP hS => ?_) (fun C_ a_ h_ H locs hq hP hS hX => fs_out (hout _) hlocks hw hP hS hX (Nat.le_of_ble_eq_true rfl) (Nat.le_of_ble_eq_true rfl) hq)
  refine fs_cs (k := 0) (n := 0) rfl rfl ?_
  replace hq := fs_ki_some hq
  obtain ⟨x102, rfl, hq⟩ := hq
  refine W.eq (g2 := F0 m 8 ls (.int x102 :: [])) rfl ?_
  refine lv_istore_n (lv' := [(2, .int x102), (0, .ref a0), (1, .int x1)]) hx hb d_CE_rowIn_8 rfl hl (by decide) rfl (fun ls hl => ?_)
  refine lv_bipush (v := 79) hx hb d_CE_rowIn_9 (by decide) ?_
  refine lv_istore_n (lv' := [(3, .int 79), (2, .int x102), (0, .ref a0), (1, .int x1)]) hx hb d_CE_rowIn_11 rfl hl (by decide) rfl (fun ls hl => ?_)
  obtain ⟨n106, hq⟩ := hq
  refine lw_w_CE_rowIn_12 hE B hout (by omega) (by omega) _ n106 a0 x1 x102 79 _ _ _ _ hq hP hS (show lv_has ls 4 [(0, .ref a0), (1, .int x1), (2, .int x102), (3, .int 79)] from lv_sub hl [2, 3, 1, 0] rfl) (fun  h105 H locs ls hq hP hS hl => ?_)
  refine lv_aload_n hx hb d_CE_rowIn_37 rfl (lv_at hl 0 rfl) ?_
  refine lv_iload_n hx hb d_CE_rowIn_38 rfl (lv_at hl 1 rfl) ?_
  obtain ⟨hi_, hq⟩ := hq
  obtain ⟨fs_, he_⟩ := fs_isc_some hi_
  refine fs_cV B hl.1 hP hS (kw_CE_emptyRow hE hq) (fs_tb_at 983 tw_983 rfl) he_ rfl (fs_tb_at 985 tw_985 rfl) (fs_tb_at 39 tw_39 rfl) (fs_tb_at 90 tw_90 rfl) (fs_tb_at 986 tw_986 rfl) (by decide) (show (parseMethodDescriptor y_CE_emptyRow.desc).map (fun d => d.parameters.length) = some 1 by decide +kernel) rfl d_CE_rowIn_39 (fs_rm (k := 0) (by omega) (by omega) (by omega) (by omega) rfl) (fun v_ h107 H locs hq hP hS => ?_) (fun C_ a_ h_ H locs hq hP hS hX => fs_out (hout _) hlocks hw hP hS hX (Nat.le_of_ble_eq_true rfl) (Nat.le_of_ble_eq_true rfl) hq)
  refine fs_cs (k := 0) (n := 0) rfl rfl ?_
  replace hq := fs_kv_some hq
  obtain ⟨rfl, hq⟩ := hq
  refine W.eq (g2 := F0 m 42 ls ([])) rfl ?_
  refine lv_iconst (v := 0) hx hb d_CE_rowIn_42 (by decide) ?_
  refine lv_istore_n (lv' := [(3, .int 0), (0, .ref a0), (1, .int x1), (2, .int x102)]) hx hb d_CE_rowIn_43 rfl hl (by decide) rfl (fun ls hl => ?_)
  obtain ⟨n119, hq⟩ := hq
  refine lw_w_CE_rowIn_44 hE B hout (by omega) (by omega) _ n119 a0 x1 x102 0 _ _ _ _ hq hP hS (show lv_has ls 4 [(0, .ref a0), (1, .int x1), (2, .int x102), (3, .int 0)] from lv_sub hl [1, 2, 3, 0] rfl) (fun  h118 H locs ls hq hP hS hl => ?_)
  refine lv_iload_n hx hb d_CE_rowIn_75 rfl (lv_at hl 2 rfl) ?_
  exact fs_iret hx hb hr hlocks hw hP hS (vp_nar_int _) (Nat.le_refl _) (Nat.le_refl _) hq d_CE_rowIn_76
def w_CE_rowOut_L20 (E : fs_E) (K : fs_Hp → Prop) (Post : fs_Ps) : Nat → Nat → Int32 → Int32 → Int32 → fs_Hp → Prop
  | 0 => fun _ _ _ _ _ => False
  | n + 1 => fun z0 z1 z2 z3 h1 => (if 72 ≤ z3 then K h1 else fs_isc h1 z0 2 ∧ (w_CE_take E h1 z0 z3 (z3 + 8) (fs_kv (fun h104 => (w_CE_rowOut_L20 E K Post n) z0 z1 z2 (z3 + 1) h104) (fun C_ h_ => Post (.inr C_) h_))))
def w_CE_rowOut_L49 (E : fs_E) (K : fs_Hp → Prop) (Post : fs_Ps) : Nat → Nat → Int32 → Int32 → Int32 → fs_Hp → Prop
  | 0 => fun _ _ _ _ _ => False
  | n + 1 => fun z0 z1 z2 z3 h1 => (if 80 ≤ z3 then K h1 else fs_gr h1 z0 2 1 (fun a109 => fs_aq h1 a109 (E.1.2 6) z3 (fun o9 => match o9 with | none => (w_CE_rowOut_L49 E K Post n) z0 z1 z2 (z3 + 1) h1 | some a112 => fs_gr h1 z0 2 1 (fun a113 => fs_aq h1 a113 (E.1.2 6) z3 (fun o9 => match o9 with | none => False | some a116 => w_N_followRowOut 42 E h1 a116 z1 (fs_kv (fun h117 => (w_CE_rowOut_L49 E K Post n) z0 z1 z2 (z3 + 1) h117) (fun C_ h_ => Post (.inr C_) h_)))))))
def w_CE_rowOut (E : fs_E) (h : fs_Hp) (a0 : Nat) (x1 : Int32) (Post : fs_Ps) : Prop := fs_isc h a0 2 ∧ (w_CE_filledFrom E h a0 (x1 * 8) ((x1 + 1) * 8) (fs_ki (fun x102 h101 => (∃ n106 : Nat, w_CE_rowOut_L20 E (fun h105 => fs_isc h105 a0 2 ∧ (w_CE_emptyRow E h105 a0 9 (fs_kv (fun h107 => (∃ n119 : Nat, w_CE_rowOut_L49 E (fun h118 => Post (.inl (some (.int x102))) h118) Post n119 a0 x1 x102 0 h107)) (fun C_ h_ => Post (.inr C_) h_)))) Post n106 a0 x1 x102 (x1 * 8) h101)) (fun C_ h_ => Post (.inr C_) h_)))
set_option maxHeartbeats 4000000 in
set_option maxRecDepth 100000 in
theorem lw_w_CE_rowOut_20 {p : Program} {l : Launch} {e : Env} {R : Room} {s : State} {m : MethodId} {args : Array Value} {below : List Frame} {meth : Method} {c : Code} {s00 : State} {E : fs_E} {Post : fs_Ps} (hE : fs_SE l s00 E) (B : fs_B p l e s m args meth c s00 E.1 y_CE_rowOut b_CE_rowOut 4 (some .int)) (hout : ∀ pc, ∀ x ∈ c.exceptionTable.toList, covers x pc = false) (hRf : 43 ≤ R.frames) (hRl : 645 ≤ R.locals) (K : fs_Hp → Prop) : ∀ (n : Nat) (z0 : Nat) (z1 : Int32) (z2 : Int32) (z3 : Int32) (h1 : fs_Hp) (H : Heap) (locs : List Loc) (ls : Array Slot), w_CE_rowOut_L20 E K Post n z0 z1 z2 z3 h1 → fs_P E.1.1 fs_cl (fs_A s00) h1 H → va_S (fs_A s00) s00.heap H locs → lv_has ls 4 [(0, .ref z0), (1, .int z1), (2, .int z2), (3, .int z3)] → (∀  (h' : fs_Hp) (H : Heap) (locs : List Loc) (ls : Array Slot), K  h' → fs_P E.1.1 fs_cl (fs_A s00) h' H → va_S (fs_A s00) s00.heap H locs → lv_has ls 4 [(0, .ref z0), (1, .int z1), (2, .int z2)] → W p l e R s m args below meth c H locs 0 0 (fx_MQ below (fs_Qc s00 E.1 Post) args s 0 0 (fs_A s00)) (F0 m 41 ls [])) → W p l e R s m args below meth c H locs 0 0 (fx_MQ below (fs_Qc s00 E.1 Post) args s 0 0 (fs_A s00)) (F0 m 20 ls []) := by
  obtain ⟨hx, hb, hr, hml, hown, hts, hlocks, hname, hK, hw, htr⟩ := id B
  have hown : s.vm.findClass "FormulaSheet$Cells" = some m.cls := hown
  intro n
  induction n with
  | zero => intro z0 z1 z2 z3 h1 H locs ls hq; exact False.elim hq
  | succ n ih =>
    intro z0 z1 z2 z3 h1 H locs ls hq hP hS hl kk
    rw [w_CE_rowOut_L20] at hq
    refine lv_iload_n hx hb d_CE_rowOut_20 rfl (lv_at hl 3 rfl) ?_
    refine lv_bipush (v := 72) hx hb d_CE_rowOut_21 (by decide) ?_
    refine lv_icmp_ge (tgt := 41) hx hb d_CE_rowOut_23 (by decide) (fun c_103 => ?_) (fun c_103 => ?_)
    · have hq := fs_wifp c_103 hq
      exact kk  _ _ _ _ hq hP hS (show lv_has ls 4 [(0, .ref z0), (1, .int z1), (2, .int z2)] from lv_sub hl [0, 1, 2] rfl)
    · have hq := fs_wifn c_103 hq
      refine lv_aload_n hx hb d_CE_rowOut_26 rfl (lv_at hl 0 rfl) ?_
      refine lv_iload_n hx hb d_CE_rowOut_27 rfl (lv_at hl 3 rfl) ?_
      refine lv_iload_n hx hb d_CE_rowOut_28 rfl (lv_at hl 3 rfl) ?_
      refine lv_bipush (v := 8) hx hb d_CE_rowOut_29 (by decide) ?_
      refine lv_iadd hx hb d_CE_rowOut_31 ?_
      obtain ⟨hi_, hq⟩ := hq
      obtain ⟨fs_, he_⟩ := fs_isc_some hi_
      refine fs_cV B hl.1 hP hS (kw_CE_take hE hq) (fs_tb_at 979 tw_979 rfl) he_ rfl (fs_tb_at 981 tw_981 rfl) (fs_tb_at 38 tw_38 rfl) (fs_tb_at 90 tw_90 rfl) (fs_tb_at 982 tw_982 rfl) (by decide) (show (parseMethodDescriptor y_CE_take.desc).map (fun d => d.parameters.length) = some 2 by decide +kernel) rfl d_CE_rowOut_32 (fs_rm (k := 0) (by omega) (by omega) (by omega) (by omega) rfl) (fun v_ h104 H locs hq hP hS => ?_) (fun C_ a_ h_ H locs hq hP hS hX => fs_out (hout _) hlocks hw hP hS hX (Nat.le_of_ble_eq_true rfl) (Nat.le_of_ble_eq_true rfl) hq)
      refine fs_cs (k := 0) (n := 0) rfl rfl ?_
      replace hq := fs_kv_some hq
      obtain ⟨rfl, hq⟩ := hq
      refine W.eq (g2 := F0 m 35 ls ([])) rfl ?_
      refine lv_iinc (v := z3 + 1) (lv' := [(3, .int (z3 + 1)), (0, .ref z0), (1, .int z1), (2, .int z2)]) hx hb d_CE_rowOut_35 hl (k := 3) rfl rfl (by decide) rfl (fun ls hl => ?_)
      refine lv_goto (tgt := 20) hx hb d_CE_rowOut_38 (by decide) ?_
      exact ih z0 z1 z2 (z3 + 1) _ _ _ _ hq hP hS (show lv_has ls 4 [(0, .ref z0), (1, .int z1), (2, .int z2), (3, .int (z3 + 1))] from lv_sub hl [1, 2, 3, 0] rfl) kk
set_option maxHeartbeats 4000000 in
set_option maxRecDepth 100000 in
theorem lw_w_CE_rowOut_49 {p : Program} {l : Launch} {e : Env} {R : Room} {s : State} {m : MethodId} {args : Array Value} {below : List Frame} {meth : Method} {c : Code} {s00 : State} {E : fs_E} {Post : fs_Ps} (hE : fs_SE l s00 E) (B : fs_B p l e s m args meth c s00 E.1 y_CE_rowOut b_CE_rowOut 4 (some .int)) (hout : ∀ pc, ∀ x ∈ c.exceptionTable.toList, covers x pc = false) (hRf : 43 ≤ R.frames) (hRl : 645 ≤ R.locals) (K : fs_Hp → Prop) : ∀ (n : Nat) (z0 : Nat) (z1 : Int32) (z2 : Int32) (z3 : Int32) (h1 : fs_Hp) (H : Heap) (locs : List Loc) (ls : Array Slot), w_CE_rowOut_L49 E K Post n z0 z1 z2 z3 h1 → fs_P E.1.1 fs_cl (fs_A s00) h1 H → va_S (fs_A s00) s00.heap H locs → lv_has ls 4 [(0, .ref z0), (1, .int z1), (2, .int z2), (3, .int z3)] → (∀  (h' : fs_Hp) (H : Heap) (locs : List Loc) (ls : Array Slot), K  h' → fs_P E.1.1 fs_cl (fs_A s00) h' H → va_S (fs_A s00) s00.heap H locs → lv_has ls 4 [(0, .ref z0), (1, .int z1), (2, .int z2)] → W p l e R s m args below meth c H locs 0 0 (fx_MQ below (fs_Qc s00 E.1 Post) args s 0 0 (fs_A s00)) (F0 m 80 ls [])) → W p l e R s m args below meth c H locs 0 0 (fx_MQ below (fs_Qc s00 E.1 Post) args s 0 0 (fs_A s00)) (F0 m 49 ls []) := by
  obtain ⟨hx, hb, hr, hml, hown, hts, hlocks, hname, hK, hw, htr⟩ := id B
  have hown : s.vm.findClass "FormulaSheet$Cells" = some m.cls := hown
  intro n
  induction n with
  | zero => intro z0 z1 z2 z3 h1 H locs ls hq; exact False.elim hq
  | succ n ih =>
    intro z0 z1 z2 z3 h1 H locs ls hq hP hS hl kk
    rw [w_CE_rowOut_L49] at hq
    refine lv_iload_n hx hb d_CE_rowOut_49 rfl (lv_at hl 3 rfl) ?_
    refine lv_bipush (v := 80) hx hb d_CE_rowOut_50 (by decide) ?_
    refine lv_icmp_ge (tgt := 80) hx hb d_CE_rowOut_52 (by decide) (fun c_108 => ?_) (fun c_108 => ?_)
    · have hq := fs_wifp c_108 hq
      exact kk  _ _ _ _ hq hP hS (show lv_has ls 4 [(0, .ref z0), (1, .int z1), (2, .int z2)] from lv_sub hl [0, 1, 2] rfl)
    · have hq := fs_wifn c_108 hq
      refine lv_aload_n hx hb d_CE_rowOut_55 rfl (lv_at hl 0 rfl) ?_
      obtain ⟨fs_, a109, he_, hv_, hq⟩ := fs_gr_some hq
      refine fs_get hx hb hts hown hK c_CE hP he_ 1 (by decide) (hts _ (fs_tb_at 184 tw_184 rfl)) (fun _ h9 => h9) hv_ d_CE_rowOut_56 ?_
      refine lv_iload_n hx hb d_CE_rowOut_59 rfl (lv_at hl 3 rfl) ?_
      obtain ⟨n_, f_, o110, e_, hi_, ex_, hq⟩ := fs_aq_some hq
      refine fs_aald hx hb hK hP 6 e_ rfl hi_ d_CE_rowOut_60 ?_
      rw [← ex_]
      cases o110 with
      | none =>
        refine W.eq (g2 := F0 m 61 ls (.null :: [])) rfl ?_
        refine lv_ifnullN (tgt := 74) hx hb d_CE_rowOut_61 (by decide) ?_
        refine lv_iinc (v := z3 + 1) (lv' := [(3, .int (z3 + 1)), (0, .ref z0), (1, .int z1), (2, .int z2)]) hx hb d_CE_rowOut_74 hl (k := 3) rfl rfl (by decide) rfl (fun ls hl => ?_)
        refine lv_goto (tgt := 49) hx hb d_CE_rowOut_77 (by decide) ?_
        exact ih z0 z1 z2 (z3 + 1) _ _ _ _ hq hP hS (show lv_has ls 4 [(0, .ref z0), (1, .int z1), (2, .int z2), (3, .int (z3 + 1))] from lv_sub hl [1, 2, 3, 0] rfl) kk
      | some a112 =>
        refine W.eq (g2 := F0 m 61 ls (.ref a112 :: [])) rfl ?_
        refine lv_ifnull hx hb d_CE_rowOut_61 ?_
        refine lv_aload_n hx hb d_CE_rowOut_64 rfl (lv_at hl 0 rfl) ?_
        obtain ⟨fs_, a113, he_, hv_, hq⟩ := fs_gr_some hq
        refine fs_get hx hb hts hown hK c_CE hP he_ 1 (by decide) (hts _ (fs_tb_at 184 tw_184 rfl)) (fun _ h9 => h9) hv_ d_CE_rowOut_65 ?_
        refine lv_iload_n hx hb d_CE_rowOut_68 rfl (lv_at hl 3 rfl) ?_
        obtain ⟨n_, f_, o114, e_, hi_, ex_, hq⟩ := fs_aq_some hq
        refine fs_aald hx hb hK hP 6 e_ rfl hi_ d_CE_rowOut_69 ?_
        rw [← ex_]
        cases o114 with
        | none =>
          refine W.eq (g2 := F0 m 70 ls (.null :: [])) rfl ?_
          refine lv_iload_n hx hb d_CE_rowOut_70 rfl (lv_at hl 1 rfl) ?_
          exact False.elim hq
        | some a116 =>
          refine W.eq (g2 := F0 m 70 ls (.ref a116 :: [])) rfl ?_
          refine lv_iload_n hx hb d_CE_rowOut_70 rfl (lv_at hl 1 rfl) ?_
          refine fs_cVV (owner := "FormulaSheet$Part") B hl.1 hP hS (kN_followRowOut hE hq) (fs_tb_at 1019 tw_1019 rfl) (fs_tb_at 1021 tw_1021 rfl) (fs_dclC (fs_tb_at 1020 tw_1020 rfl) (fs_tb_at 1034 tw_1034 rfl)) (by decide) (show (parseMethodDescriptor y_PT_followRowOut.desc).map (fun d => d.parameters.length) = some 1 by decide +kernel) rfl d_CE_rowOut_71 (fs_rm (k := 0) (by omega) (by omega) (by omega) (by omega) rfl) (fun v_ h117 H locs hq hP hS => ?_) (fun C_ a_ h_ H locs hq hP hS hX => fs_out (hout _) hlocks hw hP hS hX (Nat.le_of_ble_eq_true rfl) (Nat.le_of_ble_eq_true rfl) hq)
          refine fs_cs (k := 0) (n := 0) rfl rfl ?_
          replace hq := fs_kv_some hq
          obtain ⟨rfl, hq⟩ := hq
          refine W.eq (g2 := F0 m 74 ls ([])) rfl ?_
          refine lv_iinc (v := z3 + 1) (lv' := [(3, .int (z3 + 1)), (0, .ref z0), (1, .int z1), (2, .int z2)]) hx hb d_CE_rowOut_74 hl (k := 3) rfl rfl (by decide) rfl (fun ls hl => ?_)
          refine lv_goto (tgt := 49) hx hb d_CE_rowOut_77 (by decide) ?_
          exact ih z0 z1 z2 (z3 + 1) _ _ _ _ hq hP hS (show lv_has ls 4 [(0, .ref z0), (1, .int z1), (2, .int z2), (3, .int (z3 + 1))] from lv_sub hl [1, 2, 3, 0] rfl) kk
set_option maxHeartbeats 4000000 in
set_option maxRecDepth 100000 in
theorem kw_CE_rowOut {l : Launch} {s00 : State} {E : fs_E} (hE : fs_SE l s00 E) {h : fs_Hp} {a0 : Nat} {x1 : Int32} {Post : fs_Ps} (hq : w_CE_rowOut E h a0 x1 Post) : fs_Ct l s00 E.1 y_CE_rowOut (.code y_CE_rowOut b_CE_rowOut 4 (some .int)) { frames := 43, cells := 0, slots := 0, locals := 645 } [.ref a0, .int x1] h Post := by
  refine fs_Ct.ofR hE.1 (by decide) ?_
  intro p e R s m below meth c hRf hRl hRc hRs B hout hP
  skip
  obtain ⟨hx, hb, hr, hml, hown, hts, hlocks, hname, hK, hw, htr⟩ := id B
  have hown : s.vm.findClass "FormulaSheet$Cells" = some m.cls := hown
  have hS := hw.S
  have hl := lv_entry ([.ref a0, .int x1]) (n := 4) (Nat.le_of_ble_eq_true rfl)
  rw [lg_entry_eq]
  generalize (lg_sl ([.ref a0, .int x1]) ++ List.replicate (4 - (lg_sl ([.ref a0, .int x1])).length) Slot.unset).toArray = ls at hl ⊢
  have hl : lv_has ls 4 [(0, .ref a0), (1, .int x1)] := hl
  unfold w_CE_rowOut at hq
  refine lv_aload_n hx hb d_CE_rowOut_0 rfl (lv_at hl 0 rfl) ?_
  refine lv_iload_n hx hb d_CE_rowOut_1 rfl (lv_at hl 1 rfl) ?_
  refine lv_bipush (v := 8) hx hb d_CE_rowOut_2 (by decide) ?_
  refine lv_imul hx hb d_CE_rowOut_4 ?_
  refine lv_iload_n hx hb d_CE_rowOut_5 rfl (lv_at hl 1 rfl) ?_
  refine lv_iconst (v := 1) hx hb d_CE_rowOut_6 (by decide) ?_
  refine lv_iadd hx hb d_CE_rowOut_7 ?_
  refine lv_bipush (v := 8) hx hb d_CE_rowOut_8 (by decide) ?_
  refine lv_imul hx hb d_CE_rowOut_10 ?_
  obtain ⟨hi_, hq⟩ := hq
  obtain ⟨fs_, he_⟩ := fs_isc_some hi_
  refine fs_cV B hl.1 hP hS (kw_CE_filledFrom hE hq) (fs_tb_at 978 tw_978 rfl) he_ rfl (fs_tb_at 266 tw_266 rfl) (fs_tb_at 267 tw_267 rfl) (fs_tb_at 90 tw_90 rfl) (fs_tb_at 268 tw_268 rfl) (by decide) (show (parseMethodDescriptor y_CE_filledFrom.desc).map (fun d => d.parameters.length) = some 2 by decide +kernel) rfl d_CE_rowOut_11 (fs_rm (k := 0) (by omega) (by omega) (by omega) (by omega) rfl) (fun v_ h101 H locs hq hP hS => ?_) (fun C_ a_ h_ H locs hq hP hS hX => fs_out (hout _) hlocks hw hP hS hX (Nat.le_of_ble_eq_true rfl) (Nat.le_of_ble_eq_true rfl) hq)
  refine fs_cs (k := 0) (n := 0) rfl rfl ?_
  replace hq := fs_ki_some hq
  obtain ⟨x102, rfl, hq⟩ := hq
  refine W.eq (g2 := F0 m 14 ls (.int x102 :: [])) rfl ?_
  refine lv_istore_n (lv' := [(2, .int x102), (0, .ref a0), (1, .int x1)]) hx hb d_CE_rowOut_14 rfl hl (by decide) rfl (fun ls hl => ?_)
  refine lv_iload_n hx hb d_CE_rowOut_15 rfl (lv_at hl 2 rfl) ?_
  refine lv_bipush (v := 8) hx hb d_CE_rowOut_16 (by decide) ?_
  refine lv_imul hx hb d_CE_rowOut_18 ?_
  refine lv_istore_n (lv' := [(3, .int (x1 * 8)), (2, .int x102), (0, .ref a0), (1, .int x1)]) hx hb d_CE_rowOut_19 rfl hl (by decide) rfl (fun ls hl => ?_)
  obtain ⟨n106, hq⟩ := hq
  refine lw_w_CE_rowOut_20 hE B hout (by omega) (by omega) _ n106 a0 x1 x102 (x1 * 8) _ _ _ _ hq hP hS (show lv_has ls 4 [(0, .ref a0), (1, .int x1), (2, .int x102), (3, .int (x1 * 8))] from lv_sub hl [2, 3, 1, 0] rfl) (fun  h105 H locs ls hq hP hS hl => ?_)
  refine lv_aload_n hx hb d_CE_rowOut_41 rfl (lv_at hl 0 rfl) ?_
  refine lv_bipush (v := 9) hx hb d_CE_rowOut_42 (by decide) ?_
  obtain ⟨hi_, hq⟩ := hq
  obtain ⟨fs_, he_⟩ := fs_isc_some hi_
  refine fs_cV B hl.1 hP hS (kw_CE_emptyRow hE hq) (fs_tb_at 983 tw_983 rfl) he_ rfl (fs_tb_at 985 tw_985 rfl) (fs_tb_at 39 tw_39 rfl) (fs_tb_at 90 tw_90 rfl) (fs_tb_at 986 tw_986 rfl) (by decide) (show (parseMethodDescriptor y_CE_emptyRow.desc).map (fun d => d.parameters.length) = some 1 by decide +kernel) rfl d_CE_rowOut_44 (fs_rm (k := 0) (by omega) (by omega) (by omega) (by omega) rfl) (fun v_ h107 H locs hq hP hS => ?_) (fun C_ a_ h_ H locs hq hP hS hX => fs_out (hout _) hlocks hw hP hS hX (Nat.le_of_ble_eq_true rfl) (Nat.le_of_ble_eq_true rfl) hq)
  refine fs_cs (k := 0) (n := 0) rfl rfl ?_
  replace hq := fs_kv_some hq
  obtain ⟨rfl, hq⟩ := hq
  refine W.eq (g2 := F0 m 47 ls ([])) rfl ?_
  refine lv_iconst (v := 0) hx hb d_CE_rowOut_47 (by decide) ?_
  refine lv_istore_n (lv' := [(3, .int 0), (0, .ref a0), (1, .int x1), (2, .int x102)]) hx hb d_CE_rowOut_48 rfl hl (by decide) rfl (fun ls hl => ?_)
  obtain ⟨n119, hq⟩ := hq
  refine lw_w_CE_rowOut_49 hE B hout (by omega) (by omega) _ n119 a0 x1 x102 0 _ _ _ _ hq hP hS (show lv_has ls 4 [(0, .ref a0), (1, .int x1), (2, .int x102), (3, .int 0)] from lv_sub hl [1, 2, 3, 0] rfl) (fun  h118 H locs ls hq hP hS hl => ?_)
  refine lv_iload_n hx hb d_CE_rowOut_80 rfl (lv_at hl 2 rfl) ?_
  exact fs_iret hx hb hr hlocks hw hP hS (vp_nar_int _) (Nat.le_refl _) (Nat.le_refl _) hq d_CE_rowOut_81
def w_CE_circularInAll_L8 (E : fs_E) (K : Int32 → fs_Hp → Prop) (Post : fs_Ps) : Nat → Nat → Int32 → Int32 → fs_Hp → Prop
  | 0 => fun _ _ _ _ => False
  | n + 1 => fun z0 z1 z2 h1 => (if 80 ≤ z2 then K z1 h1 else fs_isc h1 z0 2 ∧ (w_CE_isCircular E h1 z0 z2 (fs_ki (fun x104 h103 => (if x104 = 0 then (w_CE_circularInAll_L8 E K Post n) z0 z1 (z2 + 1) h103 else (w_CE_circularInAll_L8 E K Post n) z0 (z1 + 1) (z2 + 1) h103)) (fun C_ h_ => Post (.inr C_) h_))))
def w_CE_circularInAll (E : fs_E) (h : fs_Hp) (a0 : Nat) (Post : fs_Ps) : Prop := fs_isc h a0 2 ∧ (w_CE_settle E h a0 (fs_kv (fun h101 => (∃ n108 : Nat, w_CE_circularInAll_L8 E (fun y106 h107 => Post (.inl (some (.int y106))) h107) Post n108 a0 0 0 h101)) (fun C_ h_ => Post (.inr C_) h_)))
set_option maxHeartbeats 4000000 in
set_option maxRecDepth 100000 in
theorem lw_w_CE_circularInAll_8 {p : Program} {l : Launch} {e : Env} {R : Room} {s : State} {m : MethodId} {args : Array Value} {below : List Frame} {meth : Method} {c : Code} {s00 : State} {E : fs_E} {Post : fs_Ps} (hE : fs_SE l s00 E) (B : fs_B p l e s m args meth c s00 E.1 y_CE_circularInAll b_CE_circularInAll 3 (some .int)) (hout : ∀ pc, ∀ x ∈ c.exceptionTable.toList, covers x pc = false) (hRf : 129 ≤ R.frames) (hRl : 1936 ≤ R.locals) (K : Int32 → fs_Hp → Prop) : ∀ (n : Nat) (z0 : Nat) (z1 : Int32) (z2 : Int32) (h1 : fs_Hp) (H : Heap) (locs : List Loc) (ls : Array Slot), w_CE_circularInAll_L8 E K Post n z0 z1 z2 h1 → fs_P E.1.1 fs_cl (fs_A s00) h1 H → va_S (fs_A s00) s00.heap H locs → lv_has ls 3 [(0, .ref z0), (1, .int z1), (2, .int z2)] → (∀ (y1 : Int32) (h' : fs_Hp) (H : Heap) (locs : List Loc) (ls : Array Slot), K y1 h' → fs_P E.1.1 fs_cl (fs_A s00) h' H → va_S (fs_A s00) s00.heap H locs → lv_has ls 3 [(0, .ref z0), (1, .int y1)] → W p l e R s m args below meth c H locs 0 0 (fx_MQ below (fs_Qc s00 E.1 Post) args s 0 0 (fs_A s00)) (F0 m 31 ls [])) → W p l e R s m args below meth c H locs 0 0 (fx_MQ below (fs_Qc s00 E.1 Post) args s 0 0 (fs_A s00)) (F0 m 8 ls []) := by
  obtain ⟨hx, hb, hr, hml, hown, hts, hlocks, hname, hK, hw, htr⟩ := id B
  have hown : s.vm.findClass "FormulaSheet$Cells" = some m.cls := hown
  intro n
  induction n with
  | zero => intro z0 z1 z2 h1 H locs ls hq; exact False.elim hq
  | succ n ih =>
    intro z0 z1 z2 h1 H locs ls hq hP hS hl kk
    rw [w_CE_circularInAll_L8] at hq
    refine lv_iload_n hx hb d_CE_circularInAll_8 rfl (lv_at hl 2 rfl) ?_
    refine lv_bipush (v := 80) hx hb d_CE_circularInAll_9 (by decide) ?_
    refine lv_icmp_ge (tgt := 31) hx hb d_CE_circularInAll_11 (by decide) (fun c_102 => ?_) (fun c_102 => ?_)
    · have hq := fs_wifp c_102 hq
      exact kk z1 _ _ _ _ hq hP hS (show lv_has ls 3 [(0, .ref z0), (1, .int z1)] from lv_sub hl [0, 1] rfl)
    · have hq := fs_wifn c_102 hq
      refine lv_aload_n hx hb d_CE_circularInAll_14 rfl (lv_at hl 0 rfl) ?_
      refine lv_iload_n hx hb d_CE_circularInAll_15 rfl (lv_at hl 2 rfl) ?_
      obtain ⟨hi_, hq⟩ := hq
      obtain ⟨fs_, he_⟩ := fs_isc_some hi_
      refine fs_cV B hl.1 hP hS (kw_CE_isCircular hE hq) (fs_tb_at 357 tw_357 rfl) he_ rfl (fs_tb_at 358 tw_358 rfl) (fs_tb_at 359 tw_359 rfl) (fs_tb_at 90 tw_90 rfl) (fs_tb_at 360 tw_360 rfl) (by decide) (show (parseMethodDescriptor y_CE_isCircular.desc).map (fun d => d.parameters.length) = some 1 by decide +kernel) rfl d_CE_circularInAll_16 (fs_rm (k := 0) (by omega) (by omega) (by omega) (by omega) rfl) (fun v_ h103 H locs hq hP hS => ?_) (fun C_ a_ h_ H locs hq hP hS hX => fs_out (hout _) hlocks hw hP hS hX (Nat.le_of_ble_eq_true rfl) (Nat.le_of_ble_eq_true rfl) hq)
      refine fs_cs (k := 0) (n := 0) rfl rfl ?_
      replace hq := fs_ki_some hq
      obtain ⟨x104, rfl, hq⟩ := hq
      refine W.eq (g2 := F0 m 19 ls (.int x104 :: [])) rfl ?_
      refine lv_if_eq (tgt := 25) hx hb d_CE_circularInAll_19 (by decide) (fun c_105 => ?_) (fun c_105 => ?_)
      · have hq := fs_wifp c_105 hq
        refine lv_iinc (v := z2 + 1) (lv' := [(2, .int (z2 + 1)), (0, .ref z0), (1, .int z1)]) hx hb d_CE_circularInAll_25 hl (k := 2) rfl rfl (by decide) rfl (fun ls hl => ?_)
        refine lv_goto (tgt := 8) hx hb d_CE_circularInAll_28 (by decide) ?_
        exact ih z0 z1 (z2 + 1) _ _ _ _ hq hP hS (show lv_has ls 3 [(0, .ref z0), (1, .int z1), (2, .int (z2 + 1))] from lv_sub hl [1, 2, 0] rfl) kk
      · have hq := fs_wifn c_105 hq
        refine lv_iinc (v := z1 + 1) (lv' := [(1, .int (z1 + 1)), (0, .ref z0), (2, .int z2)]) hx hb d_CE_circularInAll_22 hl (k := 1) rfl rfl (by decide) rfl (fun ls hl => ?_)
        refine lv_iinc (v := z2 + 1) (lv' := [(2, .int (z2 + 1)), (1, .int (z1 + 1)), (0, .ref z0)]) hx hb d_CE_circularInAll_25 hl (k := 2) rfl rfl (by decide) rfl (fun ls hl => ?_)
        refine lv_goto (tgt := 8) hx hb d_CE_circularInAll_28 (by decide) ?_
        exact ih z0 (z1 + 1) (z2 + 1) _ _ _ _ hq hP hS (show lv_has ls 3 [(0, .ref z0), (1, .int (z1 + 1)), (2, .int (z2 + 1))] from lv_sub hl [2, 1, 0] rfl) kk
set_option maxHeartbeats 4000000 in
set_option maxRecDepth 100000 in
theorem kw_CE_circularInAll {l : Launch} {s00 : State} {E : fs_E} (hE : fs_SE l s00 E) {h : fs_Hp} {a0 : Nat} {Post : fs_Ps} (hq : w_CE_circularInAll E h a0 Post) : fs_Ct l s00 E.1 y_CE_circularInAll (.code y_CE_circularInAll b_CE_circularInAll 3 (some .int)) { frames := 129, cells := 0, slots := 0, locals := 1936 } [.ref a0] h Post := by
  refine fs_Ct.ofR hE.1 (by decide) ?_
  intro p e R s m below meth c hRf hRl hRc hRs B hout hP
  skip
  obtain ⟨hx, hb, hr, hml, hown, hts, hlocks, hname, hK, hw, htr⟩ := id B
  have hown : s.vm.findClass "FormulaSheet$Cells" = some m.cls := hown
  have hS := hw.S
  have hl := lv_entry ([.ref a0]) (n := 3) (Nat.le_of_ble_eq_true rfl)
  rw [lg_entry_eq]
  generalize (lg_sl ([.ref a0]) ++ List.replicate (3 - (lg_sl ([.ref a0])).length) Slot.unset).toArray = ls at hl ⊢
  have hl : lv_has ls 3 [(0, .ref a0)] := hl
  unfold w_CE_circularInAll at hq
  refine lv_aload_n hx hb d_CE_circularInAll_0 rfl (lv_at hl 0 rfl) ?_
  obtain ⟨hi_, hq⟩ := hq
  obtain ⟨fs_, he_⟩ := fs_isc_some hi_
  refine fs_cV B hl.1 hP hS (kw_CE_settle hE hq) (fs_tb_at 277 tw_277 rfl) he_ rfl (fs_tb_at 278 tw_278 rfl) (fs_tb_at 279 tw_279 rfl) (fs_tb_at 90 tw_90 rfl) (fs_tb_at 280 tw_280 rfl) (by decide) (show (parseMethodDescriptor y_CE_settle.desc).map (fun d => d.parameters.length) = some 0 by decide +kernel) rfl d_CE_circularInAll_1 (fs_rm (k := 0) (by omega) (by omega) (by omega) (by omega) rfl) (fun v_ h101 H locs hq hP hS => ?_) (fun C_ a_ h_ H locs hq hP hS hX => fs_out (hout _) hlocks hw hP hS hX (Nat.le_of_ble_eq_true rfl) (Nat.le_of_ble_eq_true rfl) hq)
  refine fs_cs (k := 0) (n := 0) rfl rfl ?_
  replace hq := fs_kv_some hq
  obtain ⟨rfl, hq⟩ := hq
  refine W.eq (g2 := F0 m 4 ls ([])) rfl ?_
  refine lv_iconst (v := 0) hx hb d_CE_circularInAll_4 (by decide) ?_
  refine lv_istore_n (lv' := [(1, .int 0), (0, .ref a0)]) hx hb d_CE_circularInAll_5 rfl hl (by decide) rfl (fun ls hl => ?_)
  refine lv_iconst (v := 0) hx hb d_CE_circularInAll_6 (by decide) ?_
  refine lv_istore_n (lv' := [(2, .int 0), (1, .int 0), (0, .ref a0)]) hx hb d_CE_circularInAll_7 rfl hl (by decide) rfl (fun ls hl => ?_)
  obtain ⟨n108, hq⟩ := hq
  refine lw_w_CE_circularInAll_8 hE B hout (by omega) (by omega) _ n108 a0 0 0 _ _ _ _ hq hP hS (show lv_has ls 3 [(0, .ref a0), (1, .int 0), (2, .int 0)] from lv_sub hl [2, 1, 0] rfl) (fun y106 h107 H locs ls hq hP hS hl => ?_)
  refine lv_iload_n hx hb d_CE_circularInAll_31 rfl (lv_at hl 1 rfl) ?_
  exact fs_iret hx hb hr hlocks hw hP hS (vp_nar_int _) (Nat.le_refl _) (Nat.le_refl _) hq d_CE_circularInAll_32
def w_CE_badInAll_L8 (E : fs_E) (K : Int32 → fs_Hp → Prop) (Post : fs_Ps) : Nat → Nat → Int32 → Int32 → fs_Hp → Prop
  | 0 => fun _ _ _ _ => False
  | n + 1 => fun z0 z1 z2 h1 => (if 80 ≤ z2 then K z1 h1 else fs_gr h1 z0 2 2 (fun a103 => fs_ad h1 a103 (E.1.2 2) z2 (fun x104 => w_SH_isBad E h1 x104 (fs_ki (fun x106 h105 => (if x106 = 0 then (w_CE_badInAll_L8 E K Post n) z0 z1 (z2 + 1) h105 else (w_CE_badInAll_L8 E K Post n) z0 (z1 + 1) (z2 + 1) h105)) (fun C_ h_ => Post (.inr C_) h_)))))
def w_CE_badInAll (E : fs_E) (h : fs_Hp) (a0 : Nat) (Post : fs_Ps) : Prop := fs_isc h a0 2 ∧ (w_CE_settle E h a0 (fs_kv (fun h101 => (∃ n110 : Nat, w_CE_badInAll_L8 E (fun y108 h109 => Post (.inl (some (.int y108))) h109) Post n110 a0 0 0 h101)) (fun C_ h_ => Post (.inr C_) h_)))
set_option maxHeartbeats 4000000 in
set_option maxRecDepth 100000 in
theorem lw_w_CE_badInAll_8 {p : Program} {l : Launch} {e : Env} {R : Room} {s : State} {m : MethodId} {args : Array Value} {below : List Frame} {meth : Method} {c : Code} {s00 : State} {E : fs_E} {Post : fs_Ps} (hE : fs_SE l s00 E) (B : fs_B p l e s m args meth c s00 E.1 y_CE_badInAll b_CE_badInAll 3 (some .int)) (hout : ∀ pc, ∀ x ∈ c.exceptionTable.toList, covers x pc = false) (hRf : 129 ≤ R.frames) (hRl : 1936 ≤ R.locals) (K : Int32 → fs_Hp → Prop) : ∀ (n : Nat) (z0 : Nat) (z1 : Int32) (z2 : Int32) (h1 : fs_Hp) (H : Heap) (locs : List Loc) (ls : Array Slot), w_CE_badInAll_L8 E K Post n z0 z1 z2 h1 → fs_P E.1.1 fs_cl (fs_A s00) h1 H → va_S (fs_A s00) s00.heap H locs → lv_has ls 3 [(0, .ref z0), (1, .int z1), (2, .int z2)] → (∀ (y1 : Int32) (h' : fs_Hp) (H : Heap) (locs : List Loc) (ls : Array Slot), K y1 h' → fs_P E.1.1 fs_cl (fs_A s00) h' H → va_S (fs_A s00) s00.heap H locs → lv_has ls 3 [(0, .ref z0), (1, .int y1)] → W p l e R s m args below meth c H locs 0 0 (fx_MQ below (fs_Qc s00 E.1 Post) args s 0 0 (fs_A s00)) (F0 m 35 ls [])) → W p l e R s m args below meth c H locs 0 0 (fx_MQ below (fs_Qc s00 E.1 Post) args s 0 0 (fs_A s00)) (F0 m 8 ls []) := by
  obtain ⟨hx, hb, hr, hml, hown, hts, hlocks, hname, hK, hw, htr⟩ := id B
  have hown : s.vm.findClass "FormulaSheet$Cells" = some m.cls := hown
  intro n
  induction n with
  | zero => intro z0 z1 z2 h1 H locs ls hq; exact False.elim hq
  | succ n ih =>
    intro z0 z1 z2 h1 H locs ls hq hP hS hl kk
    rw [w_CE_badInAll_L8] at hq
    refine lv_iload_n hx hb d_CE_badInAll_8 rfl (lv_at hl 2 rfl) ?_
    refine lv_bipush (v := 80) hx hb d_CE_badInAll_9 (by decide) ?_
    refine lv_icmp_ge (tgt := 35) hx hb d_CE_badInAll_11 (by decide) (fun c_102 => ?_) (fun c_102 => ?_)
    · have hq := fs_wifp c_102 hq
      exact kk z1 _ _ _ _ hq hP hS (show lv_has ls 3 [(0, .ref z0), (1, .int z1)] from lv_sub hl [0, 1] rfl)
    · have hq := fs_wifn c_102 hq
      refine lv_aload_n hx hb d_CE_badInAll_14 rfl (lv_at hl 0 rfl) ?_
      obtain ⟨fs_, a103, he_, hv_, hq⟩ := fs_gr_some hq
      refine fs_get hx hb hts hown hK c_CE hP he_ 2 (by decide) (hts _ (fs_tb_at 186 tw_186 rfl)) (fun _ h9 => h9) hv_ d_CE_badInAll_15 ?_
      refine lv_iload_n hx hb d_CE_badInAll_18 rfl (lv_at hl 2 rfl) ?_
      obtain ⟨n_, f_, x104, e_, hi_, ex_, hq⟩ := fs_ad_some hq
      refine fs_dald hx hb hK hP 2 e_ rfl hi_ d_CE_badInAll_19 ?_
      rw [← ex_]
      refine fs_cSN B hl.1 hP hS (kw_SH_isBad hE hq) (fs_tb_at 465 tw_465 rfl) (fs_tb_at 409 tw_409 rfl) (fs_tb_at 88 tw_88 rfl) (fs_tb_at 410 tw_410 rfl) (by decide) (show (parseMethodDescriptor y_SH_isBad.desc).map (fun d => d.parameters.length) = some 1 by decide +kernel) rfl d_CE_badInAll_20 (fs_rm (k := 0) (by omega) (by omega) (by omega) (by omega) rfl) (fun v_ h105 H locs hq hP hS => ?_) (fun C_ a_ h_ H locs hq hP hS hX => fs_out (hout _) hlocks hw hP hS hX (Nat.le_of_ble_eq_true rfl) (Nat.le_of_ble_eq_true rfl) hq)
      refine fs_cs (k := 0) (n := 0) rfl rfl ?_
      replace hq := fs_ki_some hq
      obtain ⟨x106, rfl, hq⟩ := hq
      refine W.eq (g2 := F0 m 23 ls (.int x106 :: [])) rfl ?_
      refine lv_if_eq (tgt := 29) hx hb d_CE_badInAll_23 (by decide) (fun c_107 => ?_) (fun c_107 => ?_)
      · have hq := fs_wifp c_107 hq
        refine lv_iinc (v := z2 + 1) (lv' := [(2, .int (z2 + 1)), (0, .ref z0), (1, .int z1)]) hx hb d_CE_badInAll_29 hl (k := 2) rfl rfl (by decide) rfl (fun ls hl => ?_)
        refine lv_goto (tgt := 8) hx hb d_CE_badInAll_32 (by decide) ?_
        exact ih z0 z1 (z2 + 1) _ _ _ _ hq hP hS (show lv_has ls 3 [(0, .ref z0), (1, .int z1), (2, .int (z2 + 1))] from lv_sub hl [1, 2, 0] rfl) kk
      · have hq := fs_wifn c_107 hq
        refine lv_iinc (v := z1 + 1) (lv' := [(1, .int (z1 + 1)), (0, .ref z0), (2, .int z2)]) hx hb d_CE_badInAll_26 hl (k := 1) rfl rfl (by decide) rfl (fun ls hl => ?_)
        refine lv_iinc (v := z2 + 1) (lv' := [(2, .int (z2 + 1)), (1, .int (z1 + 1)), (0, .ref z0)]) hx hb d_CE_badInAll_29 hl (k := 2) rfl rfl (by decide) rfl (fun ls hl => ?_)
        refine lv_goto (tgt := 8) hx hb d_CE_badInAll_32 (by decide) ?_
        exact ih z0 (z1 + 1) (z2 + 1) _ _ _ _ hq hP hS (show lv_has ls 3 [(0, .ref z0), (1, .int (z1 + 1)), (2, .int (z2 + 1))] from lv_sub hl [2, 1, 0] rfl) kk
set_option maxHeartbeats 4000000 in
set_option maxRecDepth 100000 in
theorem kw_CE_badInAll {l : Launch} {s00 : State} {E : fs_E} (hE : fs_SE l s00 E) {h : fs_Hp} {a0 : Nat} {Post : fs_Ps} (hq : w_CE_badInAll E h a0 Post) : fs_Ct l s00 E.1 y_CE_badInAll (.code y_CE_badInAll b_CE_badInAll 3 (some .int)) { frames := 129, cells := 0, slots := 0, locals := 1936 } [.ref a0] h Post := by
  refine fs_Ct.ofR hE.1 (by decide) ?_
  intro p e R s m below meth c hRf hRl hRc hRs B hout hP
  skip
  obtain ⟨hx, hb, hr, hml, hown, hts, hlocks, hname, hK, hw, htr⟩ := id B
  have hown : s.vm.findClass "FormulaSheet$Cells" = some m.cls := hown
  have hS := hw.S
  have hl := lv_entry ([.ref a0]) (n := 3) (Nat.le_of_ble_eq_true rfl)
  rw [lg_entry_eq]
  generalize (lg_sl ([.ref a0]) ++ List.replicate (3 - (lg_sl ([.ref a0])).length) Slot.unset).toArray = ls at hl ⊢
  have hl : lv_has ls 3 [(0, .ref a0)] := hl
  unfold w_CE_badInAll at hq
  refine lv_aload_n hx hb d_CE_badInAll_0 rfl (lv_at hl 0 rfl) ?_
  obtain ⟨hi_, hq⟩ := hq
  obtain ⟨fs_, he_⟩ := fs_isc_some hi_
  refine fs_cV B hl.1 hP hS (kw_CE_settle hE hq) (fs_tb_at 277 tw_277 rfl) he_ rfl (fs_tb_at 278 tw_278 rfl) (fs_tb_at 279 tw_279 rfl) (fs_tb_at 90 tw_90 rfl) (fs_tb_at 280 tw_280 rfl) (by decide) (show (parseMethodDescriptor y_CE_settle.desc).map (fun d => d.parameters.length) = some 0 by decide +kernel) rfl d_CE_badInAll_1 (fs_rm (k := 0) (by omega) (by omega) (by omega) (by omega) rfl) (fun v_ h101 H locs hq hP hS => ?_) (fun C_ a_ h_ H locs hq hP hS hX => fs_out (hout _) hlocks hw hP hS hX (Nat.le_of_ble_eq_true rfl) (Nat.le_of_ble_eq_true rfl) hq)
  refine fs_cs (k := 0) (n := 0) rfl rfl ?_
  replace hq := fs_kv_some hq
  obtain ⟨rfl, hq⟩ := hq
  refine W.eq (g2 := F0 m 4 ls ([])) rfl ?_
  refine lv_iconst (v := 0) hx hb d_CE_badInAll_4 (by decide) ?_
  refine lv_istore_n (lv' := [(1, .int 0), (0, .ref a0)]) hx hb d_CE_badInAll_5 rfl hl (by decide) rfl (fun ls hl => ?_)
  refine lv_iconst (v := 0) hx hb d_CE_badInAll_6 (by decide) ?_
  refine lv_istore_n (lv' := [(2, .int 0), (1, .int 0), (0, .ref a0)]) hx hb d_CE_badInAll_7 rfl hl (by decide) rfl (fun ls hl => ?_)
  obtain ⟨n110, hq⟩ := hq
  refine lw_w_CE_badInAll_8 hE B hout (by omega) (by omega) _ n110 a0 0 0 _ _ _ _ hq hP hS (show lv_has ls 3 [(0, .ref a0), (1, .int 0), (2, .int 0)] from lv_sub hl [2, 1, 0] rfl) (fun y108 h109 H locs ls hq hP hS hl => ?_)
  refine lv_iload_n hx hb d_CE_badInAll_35 rfl (lv_at hl 1 rfl) ?_
  exact fs_iret hx hb hr hlocks hw hP hS (vp_nar_int _) (Nat.le_refl _) (Nat.le_refl _) hq d_CE_badInAll_36
def w_CE_lostInAll_L4 (E : fs_E) (K : Int32 → fs_Hp → Prop) (Post : fs_Ps) : Nat → Nat → Int32 → Int32 → fs_Hp → Prop
  | 0 => fun _ _ _ _ => False
  | n + 1 => fun z0 z1 z2 h1 => (if 80 ≤ z2 then K z1 h1 else fs_gr h1 z0 2 1 (fun a102 => fs_aq h1 a102 (E.1.2 6) z2 (fun o9 => match o9 with | none => (w_CE_lostInAll_L4 E K Post n) z0 z1 (z2 + 1) h1 | some a105 => fs_gr h1 z0 2 1 (fun a106 => fs_aq h1 a106 (E.1.2 6) z2 (fun o9 => match o9 with | none => False | some a109 => w_N_lostReferences 42 E h1 a109 (fs_ki (fun x111 h110 => (w_CE_lostInAll_L4 E K Post n) z0 (z1 + x111) (z2 + 1) h110) (fun C_ h_ => Post (.inr C_) h_)))))))
def w_CE_lostInAll (E : fs_E) (h : fs_Hp) (a0 : Nat) (Post : fs_Ps) : Prop := (∃ n114 : Nat, w_CE_lostInAll_L4 E (fun y112 h113 => Post (.inl (some (.int y112))) h113) Post n114 a0 0 0 h)
set_option maxHeartbeats 4000000 in
set_option maxRecDepth 100000 in
theorem lw_w_CE_lostInAll_4 {p : Program} {l : Launch} {e : Env} {R : Room} {s : State} {m : MethodId} {args : Array Value} {below : List Frame} {meth : Method} {c : Code} {s00 : State} {E : fs_E} {Post : fs_Ps} (hE : fs_SE l s00 E) (B : fs_B p l e s m args meth c s00 E.1 y_CE_lostInAll b_CE_lostInAll 3 (some .int)) (hout : ∀ pc, ∀ x ∈ c.exceptionTable.toList, covers x pc = false) (hRf : 43 ≤ R.frames) (hRl : 645 ≤ R.locals) (K : Int32 → fs_Hp → Prop) : ∀ (n : Nat) (z0 : Nat) (z1 : Int32) (z2 : Int32) (h1 : fs_Hp) (H : Heap) (locs : List Loc) (ls : Array Slot), w_CE_lostInAll_L4 E K Post n z0 z1 z2 h1 → fs_P E.1.1 fs_cl (fs_A s00) h1 H → va_S (fs_A s00) s00.heap H locs → lv_has ls 3 [(0, .ref z0), (1, .int z1), (2, .int z2)] → (∀ (y1 : Int32) (h' : fs_Hp) (H : Heap) (locs : List Loc) (ls : Array Slot), K y1 h' → fs_P E.1.1 fs_cl (fs_A s00) h' H → va_S (fs_A s00) s00.heap H locs → lv_has ls 3 [(0, .ref z0), (1, .int y1)] → W p l e R s m args below meth c H locs 0 0 (fx_MQ below (fs_Qc s00 E.1 Post) args s 0 0 (fs_A s00)) (F0 m 37 ls [])) → W p l e R s m args below meth c H locs 0 0 (fx_MQ below (fs_Qc s00 E.1 Post) args s 0 0 (fs_A s00)) (F0 m 4 ls []) := by
  obtain ⟨hx, hb, hr, hml, hown, hts, hlocks, hname, hK, hw, htr⟩ := id B
  have hown : s.vm.findClass "FormulaSheet$Cells" = some m.cls := hown
  intro n
  induction n with
  | zero => intro z0 z1 z2 h1 H locs ls hq; exact False.elim hq
  | succ n ih =>
    intro z0 z1 z2 h1 H locs ls hq hP hS hl kk
    rw [w_CE_lostInAll_L4] at hq
    refine lv_iload_n hx hb d_CE_lostInAll_4 rfl (lv_at hl 2 rfl) ?_
    refine lv_bipush (v := 80) hx hb d_CE_lostInAll_5 (by decide) ?_
    refine lv_icmp_ge (tgt := 37) hx hb d_CE_lostInAll_7 (by decide) (fun c_101 => ?_) (fun c_101 => ?_)
    · have hq := fs_wifp c_101 hq
      exact kk z1 _ _ _ _ hq hP hS (show lv_has ls 3 [(0, .ref z0), (1, .int z1)] from lv_sub hl [0, 1] rfl)
    · have hq := fs_wifn c_101 hq
      refine lv_aload_n hx hb d_CE_lostInAll_10 rfl (lv_at hl 0 rfl) ?_
      obtain ⟨fs_, a102, he_, hv_, hq⟩ := fs_gr_some hq
      refine fs_get hx hb hts hown hK c_CE hP he_ 1 (by decide) (hts _ (fs_tb_at 184 tw_184 rfl)) (fun _ h9 => h9) hv_ d_CE_lostInAll_11 ?_
      refine lv_iload_n hx hb d_CE_lostInAll_14 rfl (lv_at hl 2 rfl) ?_
      obtain ⟨n_, f_, o103, e_, hi_, ex_, hq⟩ := fs_aq_some hq
      refine fs_aald hx hb hK hP 6 e_ rfl hi_ d_CE_lostInAll_15 ?_
      rw [← ex_]
      cases o103 with
      | none =>
        refine W.eq (g2 := F0 m 16 ls (.null :: [])) rfl ?_
        refine lv_ifnullN (tgt := 31) hx hb d_CE_lostInAll_16 (by decide) ?_
        refine lv_iinc (v := z2 + 1) (lv' := [(2, .int (z2 + 1)), (0, .ref z0), (1, .int z1)]) hx hb d_CE_lostInAll_31 hl (k := 2) rfl rfl (by decide) rfl (fun ls hl => ?_)
        refine lv_goto (tgt := 4) hx hb d_CE_lostInAll_34 (by decide) ?_
        exact ih z0 z1 (z2 + 1) _ _ _ _ hq hP hS (show lv_has ls 3 [(0, .ref z0), (1, .int z1), (2, .int (z2 + 1))] from lv_sub hl [1, 2, 0] rfl) kk
      | some a105 =>
        refine W.eq (g2 := F0 m 16 ls (.ref a105 :: [])) rfl ?_
        refine lv_ifnull hx hb d_CE_lostInAll_16 ?_
        refine lv_iload_n hx hb d_CE_lostInAll_19 rfl (lv_at hl 1 rfl) ?_
        refine lv_aload_n hx hb d_CE_lostInAll_20 rfl (lv_at hl 0 rfl) ?_
        obtain ⟨fs_, a106, he_, hv_, hq⟩ := fs_gr_some hq
        refine fs_get hx hb hts hown hK c_CE hP he_ 1 (by decide) (hts _ (fs_tb_at 184 tw_184 rfl)) (fun _ h9 => h9) hv_ d_CE_lostInAll_21 ?_
        refine lv_iload_n hx hb d_CE_lostInAll_24 rfl (lv_at hl 2 rfl) ?_
        obtain ⟨n_, f_, o107, e_, hi_, ex_, hq⟩ := fs_aq_some hq
        refine fs_aald hx hb hK hP 6 e_ rfl hi_ d_CE_lostInAll_25 ?_
        rw [← ex_]
        cases o107 with
        | none =>
          refine W.eq (g2 := F0 m 26 ls (.null :: .int z1 :: [])) rfl ?_
          exact False.elim hq
        | some a109 =>
          refine W.eq (g2 := F0 m 26 ls (.ref a109 :: .int z1 :: [])) rfl ?_
          refine fs_cVV (owner := "FormulaSheet$Part") B hl.1 hP hS (kN_lostReferences hE hq) (fs_tb_at 470 tw_470 rfl) (fs_tb_at 472 tw_472 rfl) (fs_dclC (fs_tb_at 471 tw_471 rfl) (fs_tb_at 481 tw_481 rfl)) (by decide) (show (parseMethodDescriptor y_PT_lostReferences.desc).map (fun d => d.parameters.length) = some 0 by decide +kernel) rfl d_CE_lostInAll_26 (fs_rm (k := 1) (by omega) (by omega) (by omega) (by omega) rfl) (fun v_ h110 H locs hq hP hS => ?_) (fun C_ a_ h_ H locs hq hP hS hX => fs_out (hout _) hlocks hw hP hS hX (Nat.le_of_ble_eq_true rfl) (Nat.le_of_ble_eq_true rfl) hq)
          refine fs_cs (k := 0) (n := 0) rfl rfl ?_
          replace hq := fs_ki_some hq
          obtain ⟨x111, rfl, hq⟩ := hq
          refine W.eq (g2 := F0 m 29 ls (.int x111 :: .int z1 :: [])) rfl ?_
          refine lv_iadd hx hb d_CE_lostInAll_29 ?_
          refine lv_istore_n (lv' := [(1, .int (z1 + x111)), (0, .ref z0), (2, .int z2)]) hx hb d_CE_lostInAll_30 rfl hl (by decide) rfl (fun ls hl => ?_)
          refine lv_iinc (v := z2 + 1) (lv' := [(2, .int (z2 + 1)), (1, .int (z1 + x111)), (0, .ref z0)]) hx hb d_CE_lostInAll_31 hl (k := 2) rfl rfl (by decide) rfl (fun ls hl => ?_)
          refine lv_goto (tgt := 4) hx hb d_CE_lostInAll_34 (by decide) ?_
          exact ih z0 (z1 + x111) (z2 + 1) _ _ _ _ hq hP hS (show lv_has ls 3 [(0, .ref z0), (1, .int (z1 + x111)), (2, .int (z2 + 1))] from lv_sub hl [2, 1, 0] rfl) kk
set_option maxHeartbeats 4000000 in
set_option maxRecDepth 100000 in
theorem kw_CE_lostInAll {l : Launch} {s00 : State} {E : fs_E} (hE : fs_SE l s00 E) {h : fs_Hp} {a0 : Nat} {Post : fs_Ps} (hq : w_CE_lostInAll E h a0 Post) : fs_Ct l s00 E.1 y_CE_lostInAll (.code y_CE_lostInAll b_CE_lostInAll 3 (some .int)) { frames := 43, cells := 0, slots := 0, locals := 645 } [.ref a0] h Post := by
  refine fs_Ct.ofR hE.1 (by decide) ?_
  intro p e R s m below meth c hRf hRl hRc hRs B hout hP
  skip
  obtain ⟨hx, hb, hr, hml, hown, hts, hlocks, hname, hK, hw, htr⟩ := id B
  have hown : s.vm.findClass "FormulaSheet$Cells" = some m.cls := hown
  have hS := hw.S
  have hl := lv_entry ([.ref a0]) (n := 3) (Nat.le_of_ble_eq_true rfl)
  rw [lg_entry_eq]
  generalize (lg_sl ([.ref a0]) ++ List.replicate (3 - (lg_sl ([.ref a0])).length) Slot.unset).toArray = ls at hl ⊢
  have hl : lv_has ls 3 [(0, .ref a0)] := hl
  unfold w_CE_lostInAll at hq
  refine lv_iconst (v := 0) hx hb d_CE_lostInAll_0 (by decide) ?_
  refine lv_istore_n (lv' := [(1, .int 0), (0, .ref a0)]) hx hb d_CE_lostInAll_1 rfl hl (by decide) rfl (fun ls hl => ?_)
  refine lv_iconst (v := 0) hx hb d_CE_lostInAll_2 (by decide) ?_
  refine lv_istore_n (lv' := [(2, .int 0), (1, .int 0), (0, .ref a0)]) hx hb d_CE_lostInAll_3 rfl hl (by decide) rfl (fun ls hl => ?_)
  obtain ⟨n114, hq⟩ := hq
  refine lw_w_CE_lostInAll_4 hE B hout (by omega) (by omega) _ n114 a0 0 0 _ _ _ _ hq hP hS (show lv_has ls 3 [(0, .ref a0), (1, .int 0), (2, .int 0)] from lv_sub hl [2, 1, 0] rfl) (fun y112 h113 H locs ls hq hP hS hl => ?_)
  refine lv_iload_n hx hb d_CE_lostInAll_37 rfl (lv_at hl 1 rfl) ?_
  exact fs_iret hx hb hr hlocks hw hP hS (vp_nar_int _) (Nat.le_refl _) (Nat.le_refl _) hq d_CE_lostInAll_38
