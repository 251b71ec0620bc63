/-! The class: its face, as conditions. -/
abbrev b_SH_init : ByteArray := prog_1_method_1_code
def y_SH_init : MethodName := ⟨"FormulaSheet", "<init>", "()V"⟩
theorem d_SH_init_0 : decode b_SH_init 0 = .ok (.aload_n 0, 1) := by decide +kernel
theorem d_SH_init_1 : decode b_SH_init 1 = .ok (.invokespecial 3, 3) := by decide +kernel
theorem d_SH_init_4 : decode b_SH_init 4 = .ok (.aload_n 0, 1) := by decide +kernel
theorem d_SH_init_5 : decode b_SH_init 5 = .ok (.new 9, 3) := by decide +kernel
theorem d_SH_init_8 : decode b_SH_init 8 = .ok (.dup, 1) := by decide +kernel
theorem d_SH_init_9 : decode b_SH_init 9 = .ok (.invokespecial 11, 3) := by decide +kernel
theorem d_SH_init_12 : decode b_SH_init 12 = .ok (.putfield 12, 3) := by decide +kernel
theorem d_SH_init_15 : decode b_SH_init 15 = .ok (.aload_n 0, 1) := by decide +kernel
theorem d_SH_init_16 : decode b_SH_init 16 = .ok (.new 16, 3) := by decide +kernel
theorem d_SH_init_19 : decode b_SH_init 19 = .ok (.dup, 1) := by decide +kernel
theorem d_SH_init_20 : decode b_SH_init 20 = .ok (.invokespecial 18, 3) := by decide +kernel
theorem d_SH_init_23 : decode b_SH_init 23 = .ok (.putfield 19, 3) := by decide +kernel
theorem d_SH_init_26 : decode b_SH_init 26 = .ok (.aload_n 0, 1) := by decide +kernel
theorem d_SH_init_27 : decode b_SH_init 27 = .ok (.new 23, 3) := by decide +kernel
theorem d_SH_init_30 : decode b_SH_init 30 = .ok (.dup, 1) := by decide +kernel
theorem d_SH_init_31 : decode b_SH_init 31 = .ok (.invokespecial 25, 3) := by decide +kernel
theorem d_SH_init_34 : decode b_SH_init 34 = .ok (.putfield 26, 3) := by decide +kernel
theorem d_SH_init_37 : decode b_SH_init 37 = .ok (.aload_n 0, 1) := by decide +kernel
theorem d_SH_init_38 : decode b_SH_init 38 = .ok (.iconst (-1), 1) := by decide +kernel
theorem d_SH_init_39 : decode b_SH_init 39 = .ok (.putfield 30, 3) := by decide +kernel
theorem d_SH_init_42 : decode b_SH_init 42 = .ok (.return_, 1) := by decide +kernel
abbrev b_SH_cellAt : ByteArray := prog_1_method_15_code
def y_SH_cellAt : MethodName := ⟨"FormulaSheet", "cellAt", "(II)I"⟩
theorem d_SH_cellAt_0 : decode b_SH_cellAt 0 = .ok (.iload_n 0, 1) := by decide +kernel
theorem d_SH_cellAt_1 : decode b_SH_cellAt 1 = .ok (.iload_n 1, 1) := by decide +kernel
theorem d_SH_cellAt_2 : decode b_SH_cellAt 2 = .ok (.invokestatic 164, 3) := by decide +kernel
theorem d_SH_cellAt_5 : decode b_SH_cellAt 5 = .ok (.ifCond .ne 11, 3) := by decide +kernel
theorem d_SH_cellAt_8 : decode b_SH_cellAt 8 = .ok (.new 168, 3) := by decide +kernel
theorem d_SH_cellAt_11 : decode b_SH_cellAt 11 = .ok (.dup, 1) := by decide +kernel
theorem d_SH_cellAt_12 : decode b_SH_cellAt 12 = .ok (.invokespecial 170, 3) := by decide +kernel
theorem d_SH_cellAt_15 : decode b_SH_cellAt 15 = .ok (.athrow, 1) := by decide +kernel
theorem d_SH_cellAt_16 : decode b_SH_cellAt 16 = .ok (.iload_n 1, 1) := by decide +kernel
theorem d_SH_cellAt_17 : decode b_SH_cellAt 17 = .ok (.bipush 8, 2) := by decide +kernel
theorem d_SH_cellAt_19 : decode b_SH_cellAt 19 = .ok (.imul, 1) := by decide +kernel
theorem d_SH_cellAt_20 : decode b_SH_cellAt 20 = .ok (.iload_n 0, 1) := by decide +kernel
theorem d_SH_cellAt_21 : decode b_SH_cellAt 21 = .ok (.iadd, 1) := by decide +kernel
theorem d_SH_cellAt_22 : decode b_SH_cellAt 22 = .ok (.ireturn, 1) := by decide +kernel
abbrev b_SH_filledCellAt : ByteArray := prog_1_method_16_code
def y_SH_filledCellAt : MethodName := ⟨"FormulaSheet", "filledCellAt", "(II)I"⟩
theorem d_SH_filledCellAt_0 : decode b_SH_filledCellAt 0 = .ok (.iload_n 1, 1) := by decide +kernel
theorem d_SH_filledCellAt_1 : decode b_SH_filledCellAt 1 = .ok (.iload_n 2, 1) := by decide +kernel
theorem d_SH_filledCellAt_2 : decode b_SH_filledCellAt 2 = .ok (.invokestatic 47, 3) := by decide +kernel
theorem d_SH_filledCellAt_5 : decode b_SH_filledCellAt 5 = .ok (.istore_n 3, 1) := by decide +kernel
theorem d_SH_filledCellAt_6 : decode b_SH_filledCellAt 6 = .ok (.aload_n 0, 1) := by decide +kernel
theorem d_SH_filledCellAt_7 : decode b_SH_filledCellAt 7 = .ok (.getfield 19, 3) := by decide +kernel
theorem d_SH_filledCellAt_10 : decode b_SH_filledCellAt 10 = .ok (.getfield 122, 3) := by decide +kernel
theorem d_SH_filledCellAt_13 : decode b_SH_filledCellAt 13 = .ok (.iload_n 3, 1) := by decide +kernel
theorem d_SH_filledCellAt_14 : decode b_SH_filledCellAt 14 = .ok (.baload, 1) := by decide +kernel
theorem d_SH_filledCellAt_15 : decode b_SH_filledCellAt 15 = .ok (.ifCond .ne 11, 3) := by decide +kernel
theorem d_SH_filledCellAt_18 : decode b_SH_filledCellAt 18 = .ok (.new 171, 3) := by decide +kernel
theorem d_SH_filledCellAt_21 : decode b_SH_filledCellAt 21 = .ok (.dup, 1) := by decide +kernel
theorem d_SH_filledCellAt_22 : decode b_SH_filledCellAt 22 = .ok (.invokespecial 173, 3) := by decide +kernel
theorem d_SH_filledCellAt_25 : decode b_SH_filledCellAt 25 = .ok (.athrow, 1) := by decide +kernel
theorem d_SH_filledCellAt_26 : decode b_SH_filledCellAt 26 = .ok (.iload_n 3, 1) := by decide +kernel
theorem d_SH_filledCellAt_27 : decode b_SH_filledCellAt 27 = .ok (.ireturn, 1) := by decide +kernel
abbrev b_SH_type : ByteArray := prog_1_method_2_code
def y_SH_type : MethodName := ⟨"FormulaSheet", "type", "(I)I"⟩
theorem d_SH_type_0 : decode b_SH_type 0 = .ok (.iload_n 1, 1) := by decide +kernel
theorem d_SH_type_1 : decode b_SH_type 1 = .ok (.ifCond .lt 9, 3) := by decide +kernel
theorem d_SH_type_4 : decode b_SH_type 4 = .ok (.iload_n 1, 1) := by decide +kernel
theorem d_SH_type_5 : decode b_SH_type 5 = .ok (.bipush 127, 2) := by decide +kernel
theorem d_SH_type_7 : decode b_SH_type 7 = .ok (.if_icmp .le 11, 3) := by decide +kernel
theorem d_SH_type_10 : decode b_SH_type 10 = .ok (.new 34, 3) := by decide +kernel
theorem d_SH_type_13 : decode b_SH_type 13 = .ok (.dup, 1) := by decide +kernel
theorem d_SH_type_14 : decode b_SH_type 14 = .ok (.invokespecial 36, 3) := by decide +kernel
theorem d_SH_type_17 : decode b_SH_type 17 = .ok (.athrow, 1) := by decide +kernel
theorem d_SH_type_18 : decode b_SH_type 18 = .ok (.aload_n 0, 1) := by decide +kernel
theorem d_SH_type_19 : decode b_SH_type 19 = .ok (.getfield 12, 3) := by decide +kernel
theorem d_SH_type_22 : decode b_SH_type 22 = .ok (.getfield 37, 3) := by decide +kernel
theorem d_SH_type_25 : decode b_SH_type 25 = .ok (.bipush 40, 2) := by decide +kernel
theorem d_SH_type_27 : decode b_SH_type 27 = .ok (.if_icmp .lt 11, 3) := by decide +kernel
theorem d_SH_type_30 : decode b_SH_type 30 = .ok (.new 40, 3) := by decide +kernel
theorem d_SH_type_33 : decode b_SH_type 33 = .ok (.dup, 1) := by decide +kernel
theorem d_SH_type_34 : decode b_SH_type 34 = .ok (.invokespecial 42, 3) := by decide +kernel
theorem d_SH_type_37 : decode b_SH_type 37 = .ok (.athrow, 1) := by decide +kernel
theorem d_SH_type_38 : decode b_SH_type 38 = .ok (.aload_n 0, 1) := by decide +kernel
theorem d_SH_type_39 : decode b_SH_type 39 = .ok (.getfield 12, 3) := by decide +kernel
theorem d_SH_type_42 : decode b_SH_type 42 = .ok (.iload_n 1, 1) := by decide +kernel
theorem d_SH_type_43 : decode b_SH_type 43 = .ok (.i2c, 1) := by decide +kernel
theorem d_SH_type_44 : decode b_SH_type 44 = .ok (.invokevirtual 43, 3) := by decide +kernel
theorem d_SH_type_47 : decode b_SH_type 47 = .ok (.aload_n 0, 1) := by decide +kernel
theorem d_SH_type_48 : decode b_SH_type 48 = .ok (.getfield 12, 3) := by decide +kernel
theorem d_SH_type_51 : decode b_SH_type 51 = .ok (.getfield 37, 3) := by decide +kernel
theorem d_SH_type_54 : decode b_SH_type 54 = .ok (.ireturn, 1) := by decide +kernel
abbrev b_SH_errorAt : ByteArray := prog_1_method_4_code
def y_SH_errorAt : MethodName := ⟨"FormulaSheet", "errorAt", "()I"⟩
theorem d_SH_errorAt_0 : decode b_SH_errorAt 0 = .ok (.aload_n 0, 1) := by decide +kernel
theorem d_SH_errorAt_1 : decode b_SH_errorAt 1 = .ok (.getfield 30, 3) := by decide +kernel
theorem d_SH_errorAt_4 : decode b_SH_errorAt 4 = .ok (.ireturn, 1) := by decide +kernel
abbrev b_SH_put : ByteArray := prog_1_method_5_code
def y_SH_put : MethodName := ⟨"FormulaSheet", "put", "(IID)V"⟩
theorem d_SH_put_0 : decode b_SH_put 0 = .ok (.iload_n 1, 1) := by decide +kernel
theorem d_SH_put_1 : decode b_SH_put 1 = .ok (.iload_n 2, 1) := by decide +kernel
theorem d_SH_put_2 : decode b_SH_put 2 = .ok (.invokestatic 47, 3) := by decide +kernel
theorem d_SH_put_5 : decode b_SH_put 5 = .ok (.istore 5, 2) := by decide +kernel
theorem d_SH_put_7 : decode b_SH_put 7 = .ok (.dload_n 3, 1) := by decide +kernel
theorem d_SH_put_8 : decode b_SH_put 8 = .ok (.invokestatic 75, 3) := by decide +kernel
theorem d_SH_put_11 : decode b_SH_put 11 = .ok (.ifCond .eq 11, 3) := by decide +kernel
theorem d_SH_put_14 : decode b_SH_put 14 = .ok (.new 34, 3) := by decide +kernel
theorem d_SH_put_17 : decode b_SH_put 17 = .ok (.dup, 1) := by decide +kernel
theorem d_SH_put_18 : decode b_SH_put 18 = .ok (.invokespecial 36, 3) := by decide +kernel
theorem d_SH_put_21 : decode b_SH_put 21 = .ok (.athrow, 1) := by decide +kernel
theorem d_SH_put_22 : decode b_SH_put 22 = .ok (.aload_n 0, 1) := by decide +kernel
theorem d_SH_put_23 : decode b_SH_put 23 = .ok (.getfield 19, 3) := by decide +kernel
theorem d_SH_put_26 : decode b_SH_put 26 = .ok (.iload 5, 2) := by decide +kernel
theorem d_SH_put_28 : decode b_SH_put 28 = .ok (.dload_n 3, 1) := by decide +kernel
theorem d_SH_put_29 : decode b_SH_put 29 = .ok (.invokevirtual 79, 3) := by decide +kernel
theorem d_SH_put_32 : decode b_SH_put 32 = .ok (.return_, 1) := by decide +kernel
abbrev b_SH_erase : ByteArray := prog_1_method_6_code
def y_SH_erase : MethodName := ⟨"FormulaSheet", "erase", "(II)V"⟩
theorem d_SH_erase_0 : decode b_SH_erase 0 = .ok (.aload_n 0, 1) := by decide +kernel
theorem d_SH_erase_1 : decode b_SH_erase 1 = .ok (.iload_n 1, 1) := by decide +kernel
theorem d_SH_erase_2 : decode b_SH_erase 2 = .ok (.iload_n 2, 1) := by decide +kernel
theorem d_SH_erase_3 : decode b_SH_erase 3 = .ok (.invokevirtual 83, 3) := by decide +kernel
theorem d_SH_erase_6 : decode b_SH_erase 6 = .ok (.istore_n 3, 1) := by decide +kernel
theorem d_SH_erase_7 : decode b_SH_erase 7 = .ok (.aload_n 0, 1) := by decide +kernel
theorem d_SH_erase_8 : decode b_SH_erase 8 = .ok (.getfield 19, 3) := by decide +kernel
theorem d_SH_erase_11 : decode b_SH_erase 11 = .ok (.iload_n 3, 1) := by decide +kernel
theorem d_SH_erase_12 : decode b_SH_erase 12 = .ok (.invokevirtual 86, 3) := by decide +kernel
theorem d_SH_erase_15 : decode b_SH_erase 15 = .ok (.return_, 1) := by decide +kernel
abbrev b_SH_insert : ByteArray := prog_1_method_8_code
def y_SH_insert : MethodName := ⟨"FormulaSheet", "insert", "(I)I"⟩
theorem d_SH_insert_0 : decode b_SH_insert 0 = .ok (.iconst 0, 1) := by decide +kernel
theorem d_SH_insert_1 : decode b_SH_insert 1 = .ok (.iload_n 1, 1) := by decide +kernel
theorem d_SH_insert_2 : decode b_SH_insert 2 = .ok (.invokestatic 47, 3) := by decide +kernel
theorem d_SH_insert_5 : decode b_SH_insert 5 = .ok (.pop, 1) := by decide +kernel
theorem d_SH_insert_6 : decode b_SH_insert 6 = .ok (.aload_n 0, 1) := by decide +kernel
theorem d_SH_insert_7 : decode b_SH_insert 7 = .ok (.getfield 19, 3) := by decide +kernel
theorem d_SH_insert_10 : decode b_SH_insert 10 = .ok (.iload_n 1, 1) := by decide +kernel
theorem d_SH_insert_11 : decode b_SH_insert 11 = .ok (.invokevirtual 105, 3) := by decide +kernel
theorem d_SH_insert_14 : decode b_SH_insert 14 = .ok (.ireturn, 1) := by decide +kernel
abbrev b_SH_delete : ByteArray := prog_1_method_9_code
def y_SH_delete : MethodName := ⟨"FormulaSheet", "delete", "(I)I"⟩
theorem d_SH_delete_0 : decode b_SH_delete 0 = .ok (.iconst 0, 1) := by decide +kernel
theorem d_SH_delete_1 : decode b_SH_delete 1 = .ok (.iload_n 1, 1) := by decide +kernel
theorem d_SH_delete_2 : decode b_SH_delete 2 = .ok (.invokestatic 47, 3) := by decide +kernel
theorem d_SH_delete_5 : decode b_SH_delete 5 = .ok (.pop, 1) := by decide +kernel
theorem d_SH_delete_6 : decode b_SH_delete 6 = .ok (.aload_n 0, 1) := by decide +kernel
theorem d_SH_delete_7 : decode b_SH_delete 7 = .ok (.getfield 19, 3) := by decide +kernel
theorem d_SH_delete_10 : decode b_SH_delete 10 = .ok (.iload_n 1, 1) := by decide +kernel
theorem d_SH_delete_11 : decode b_SH_delete 11 = .ok (.invokevirtual 109, 3) := by decide +kernel
theorem d_SH_delete_14 : decode b_SH_delete 14 = .ok (.ireturn, 1) := by decide +kernel
abbrev b_SH_enter : ByteArray := prog_1_method_3_code
def y_SH_enter : MethodName := ⟨"FormulaSheet", "enter", "(II)I"⟩
theorem d_SH_enter_0 : decode b_SH_enter 0 = .ok (.iload_n 1, 1) := by decide +kernel
theorem d_SH_enter_1 : decode b_SH_enter 1 = .ok (.iload_n 2, 1) := by decide +kernel
theorem d_SH_enter_2 : decode b_SH_enter 2 = .ok (.invokestatic 47, 3) := by decide +kernel
theorem d_SH_enter_5 : decode b_SH_enter 5 = .ok (.istore_n 3, 1) := by decide +kernel
theorem d_SH_enter_6 : decode b_SH_enter 6 = .ok (.aload_n 0, 1) := by decide +kernel
theorem d_SH_enter_7 : decode b_SH_enter 7 = .ok (.getfield 12, 3) := by decide +kernel
theorem d_SH_enter_10 : decode b_SH_enter 10 = .ok (.invokevirtual 51, 3) := by decide +kernel
theorem d_SH_enter_13 : decode b_SH_enter 13 = .ok (.astore 4, 2) := by decide +kernel
theorem d_SH_enter_15 : decode b_SH_enter 15 = .ok (.aload_n 0, 1) := by decide +kernel
theorem d_SH_enter_16 : decode b_SH_enter 16 = .ok (.getfield 12, 3) := by decide +kernel
theorem d_SH_enter_19 : decode b_SH_enter 19 = .ok (.iconst 0, 1) := by decide +kernel
theorem d_SH_enter_20 : decode b_SH_enter 20 = .ok (.putfield 37, 3) := by decide +kernel
theorem d_SH_enter_23 : decode b_SH_enter 23 = .ok (.aload 4, 2) := by decide +kernel
theorem d_SH_enter_25 : decode b_SH_enter 25 = .ok (.ifnonnull 22, 3) := by decide +kernel
theorem d_SH_enter_28 : decode b_SH_enter 28 = .ok (.aload_n 0, 1) := by decide +kernel
theorem d_SH_enter_29 : decode b_SH_enter 29 = .ok (.aload_n 0, 1) := by decide +kernel
theorem d_SH_enter_30 : decode b_SH_enter 30 = .ok (.getfield 12, 3) := by decide +kernel
theorem d_SH_enter_33 : decode b_SH_enter 33 = .ok (.getfield 55, 3) := by decide +kernel
theorem d_SH_enter_36 : decode b_SH_enter 36 = .ok (.putfield 30, 3) := by decide +kernel
theorem d_SH_enter_39 : decode b_SH_enter 39 = .ok (.new 34, 3) := by decide +kernel
theorem d_SH_enter_42 : decode b_SH_enter 42 = .ok (.dup, 1) := by decide +kernel
theorem d_SH_enter_43 : decode b_SH_enter 43 = .ok (.invokespecial 36, 3) := by decide +kernel
theorem d_SH_enter_46 : decode b_SH_enter 46 = .ok (.athrow, 1) := by decide +kernel
theorem d_SH_enter_47 : decode b_SH_enter 47 = .ok (.aload_n 0, 1) := by decide +kernel
theorem d_SH_enter_48 : decode b_SH_enter 48 = .ok (.iconst (-1), 1) := by decide +kernel
theorem d_SH_enter_49 : decode b_SH_enter 49 = .ok (.putfield 30, 3) := by decide +kernel
theorem d_SH_enter_52 : decode b_SH_enter 52 = .ok (.aload_n 0, 1) := by decide +kernel
theorem d_SH_enter_53 : decode b_SH_enter 53 = .ok (.getfield 19, 3) := by decide +kernel
theorem d_SH_enter_56 : decode b_SH_enter 56 = .ok (.iload_n 3, 1) := by decide +kernel
theorem d_SH_enter_57 : decode b_SH_enter 57 = .ok (.aload 4, 2) := by decide +kernel
theorem d_SH_enter_59 : decode b_SH_enter 59 = .ok (.invokevirtual 58, 3) := by decide +kernel
theorem d_SH_enter_62 : decode b_SH_enter 62 = .ok (.new 62, 3) := by decide +kernel
theorem d_SH_enter_65 : decode b_SH_enter 65 = .ok (.dup, 1) := by decide +kernel
theorem d_SH_enter_66 : decode b_SH_enter 66 = .ok (.invokespecial 64, 3) := by decide +kernel
theorem d_SH_enter_69 : decode b_SH_enter 69 = .ok (.astore 5, 2) := by decide +kernel
theorem d_SH_enter_71 : decode b_SH_enter 71 = .ok (.aload 4, 2) := by decide +kernel
theorem d_SH_enter_73 : decode b_SH_enter 73 = .ok (.aload 5, 2) := by decide +kernel
theorem d_SH_enter_75 : decode b_SH_enter 75 = .ok (.invokevirtual 65, 3) := by decide +kernel
theorem d_SH_enter_78 : decode b_SH_enter 78 = .ok (.aload 5, 2) := by decide +kernel
theorem d_SH_enter_80 : decode b_SH_enter 80 = .ok (.invokevirtual 71, 3) := by decide +kernel
theorem d_SH_enter_83 : decode b_SH_enter 83 = .ok (.ireturn, 1) := by decide +kernel
abbrev b_SH_copy : ByteArray := prog_1_method_7_code
def y_SH_copy : MethodName := ⟨"FormulaSheet", "copy", "(IIII)I"⟩
theorem d_SH_copy_0 : decode b_SH_copy 0 = .ok (.iload_n 3, 1) := by decide +kernel
theorem d_SH_copy_1 : decode b_SH_copy 1 = .ok (.iload 4, 2) := by decide +kernel
theorem d_SH_copy_3 : decode b_SH_copy 3 = .ok (.invokestatic 47, 3) := by decide +kernel
theorem d_SH_copy_6 : decode b_SH_copy 6 = .ok (.istore 5, 2) := by decide +kernel
theorem d_SH_copy_8 : decode b_SH_copy 8 = .ok (.aload_n 0, 1) := by decide +kernel
theorem d_SH_copy_9 : decode b_SH_copy 9 = .ok (.iload_n 1, 1) := by decide +kernel
theorem d_SH_copy_10 : decode b_SH_copy 10 = .ok (.iload_n 2, 1) := by decide +kernel
theorem d_SH_copy_11 : decode b_SH_copy 11 = .ok (.invokevirtual 83, 3) := by decide +kernel
theorem d_SH_copy_14 : decode b_SH_copy 14 = .ok (.istore 6, 2) := by decide +kernel
theorem d_SH_copy_16 : decode b_SH_copy 16 = .ok (.aload_n 0, 1) := by decide +kernel
theorem d_SH_copy_17 : decode b_SH_copy 17 = .ok (.getfield 19, 3) := by decide +kernel
theorem d_SH_copy_20 : decode b_SH_copy 20 = .ok (.getfield 90, 3) := by decide +kernel
theorem d_SH_copy_23 : decode b_SH_copy 23 = .ok (.iload 6, 2) := by decide +kernel
theorem d_SH_copy_25 : decode b_SH_copy 25 = .ok (.aaload, 1) := by decide +kernel
theorem d_SH_copy_26 : decode b_SH_copy 26 = .ok (.astore 7, 2) := by decide +kernel
theorem d_SH_copy_28 : decode b_SH_copy 28 = .ok (.aload 7, 2) := by decide +kernel
theorem d_SH_copy_30 : decode b_SH_copy 30 = .ok (.ifnonnull 24, 3) := by decide +kernel
theorem d_SH_copy_33 : decode b_SH_copy 33 = .ok (.aload_n 0, 1) := by decide +kernel
theorem d_SH_copy_34 : decode b_SH_copy 34 = .ok (.getfield 19, 3) := by decide +kernel
theorem d_SH_copy_37 : decode b_SH_copy 37 = .ok (.iload 5, 2) := by decide +kernel
theorem d_SH_copy_39 : decode b_SH_copy 39 = .ok (.aload_n 0, 1) := by decide +kernel
theorem d_SH_copy_40 : decode b_SH_copy 40 = .ok (.getfield 19, 3) := by decide +kernel
theorem d_SH_copy_43 : decode b_SH_copy 43 = .ok (.getfield 94, 3) := by decide +kernel
theorem d_SH_copy_46 : decode b_SH_copy 46 = .ok (.iload 6, 2) := by decide +kernel
theorem d_SH_copy_48 : decode b_SH_copy 48 = .ok (.daload, 1) := by decide +kernel
theorem d_SH_copy_49 : decode b_SH_copy 49 = .ok (.invokevirtual 79, 3) := by decide +kernel
theorem d_SH_copy_52 : decode b_SH_copy 52 = .ok (.iconst 0, 1) := by decide +kernel
theorem d_SH_copy_53 : decode b_SH_copy 53 = .ok (.ireturn, 1) := by decide +kernel
theorem d_SH_copy_54 : decode b_SH_copy 54 = .ok (.aload 7, 2) := by decide +kernel
theorem d_SH_copy_56 : decode b_SH_copy 56 = .ok (.iload_n 3, 1) := by decide +kernel
theorem d_SH_copy_57 : decode b_SH_copy 57 = .ok (.iload_n 1, 1) := by decide +kernel
theorem d_SH_copy_58 : decode b_SH_copy 58 = .ok (.isub, 1) := by decide +kernel
theorem d_SH_copy_59 : decode b_SH_copy 59 = .ok (.iload 4, 2) := by decide +kernel
theorem d_SH_copy_61 : decode b_SH_copy 61 = .ok (.iload_n 2, 1) := by decide +kernel
theorem d_SH_copy_62 : decode b_SH_copy 62 = .ok (.isub, 1) := by decide +kernel
theorem d_SH_copy_63 : decode b_SH_copy 63 = .ok (.invokevirtual 98, 3) := by decide +kernel
theorem d_SH_copy_66 : decode b_SH_copy 66 = .ok (.astore 8, 2) := by decide +kernel
theorem d_SH_copy_68 : decode b_SH_copy 68 = .ok (.aload_n 0, 1) := by decide +kernel
theorem d_SH_copy_69 : decode b_SH_copy 69 = .ok (.getfield 19, 3) := by decide +kernel
theorem d_SH_copy_72 : decode b_SH_copy 72 = .ok (.iload 5, 2) := by decide +kernel
theorem d_SH_copy_74 : decode b_SH_copy 74 = .ok (.aload 8, 2) := by decide +kernel
theorem d_SH_copy_76 : decode b_SH_copy 76 = .ok (.invokevirtual 58, 3) := by decide +kernel
theorem d_SH_copy_79 : decode b_SH_copy 79 = .ok (.aload 8, 2) := by decide +kernel
theorem d_SH_copy_81 : decode b_SH_copy 81 = .ok (.invokevirtual 102, 3) := by decide +kernel
theorem d_SH_copy_84 : decode b_SH_copy 84 = .ok (.aload 7, 2) := by decide +kernel
theorem d_SH_copy_86 : decode b_SH_copy 86 = .ok (.invokevirtual 102, 3) := by decide +kernel
theorem d_SH_copy_89 : decode b_SH_copy 89 = .ok (.isub, 1) := by decide +kernel
theorem d_SH_copy_90 : decode b_SH_copy 90 = .ok (.ireturn, 1) := by decide +kernel
abbrev b_SH_value : ByteArray := prog_1_method_10_code
def y_SH_value : MethodName := ⟨"FormulaSheet", "value", "(II)D"⟩
theorem d_SH_value_0 : decode b_SH_value 0 = .ok (.aload_n 0, 1) := by decide +kernel
theorem d_SH_value_1 : decode b_SH_value 1 = .ok (.iload_n 1, 1) := by decide +kernel
theorem d_SH_value_2 : decode b_SH_value 2 = .ok (.iload_n 2, 1) := by decide +kernel
theorem d_SH_value_3 : decode b_SH_value 3 = .ok (.invokevirtual 83, 3) := by decide +kernel
theorem d_SH_value_6 : decode b_SH_value 6 = .ok (.istore_n 3, 1) := by decide +kernel
theorem d_SH_value_7 : decode b_SH_value 7 = .ok (.aload_n 0, 1) := by decide +kernel
theorem d_SH_value_8 : decode b_SH_value 8 = .ok (.getfield 19, 3) := by decide +kernel
theorem d_SH_value_11 : decode b_SH_value 11 = .ok (.invokevirtual 112, 3) := by decide +kernel
theorem d_SH_value_14 : decode b_SH_value 14 = .ok (.aload_n 0, 1) := by decide +kernel
theorem d_SH_value_15 : decode b_SH_value 15 = .ok (.getfield 19, 3) := by decide +kernel
theorem d_SH_value_18 : decode b_SH_value 18 = .ok (.iload_n 3, 1) := by decide +kernel
theorem d_SH_value_19 : decode b_SH_value 19 = .ok (.invokevirtual 115, 3) := by decide +kernel
theorem d_SH_value_22 : decode b_SH_value 22 = .ok (.ifCond .eq 11, 3) := by decide +kernel
theorem d_SH_value_25 : decode b_SH_value 25 = .ok (.new 40, 3) := by decide +kernel
theorem d_SH_value_28 : decode b_SH_value 28 = .ok (.dup, 1) := by decide +kernel
theorem d_SH_value_29 : decode b_SH_value 29 = .ok (.invokespecial 42, 3) := by decide +kernel
theorem d_SH_value_32 : decode b_SH_value 32 = .ok (.athrow, 1) := by decide +kernel
theorem d_SH_value_33 : decode b_SH_value 33 = .ok (.aload_n 0, 1) := by decide +kernel
theorem d_SH_value_34 : decode b_SH_value 34 = .ok (.getfield 19, 3) := by decide +kernel
theorem d_SH_value_37 : decode b_SH_value 37 = .ok (.getfield 94, 3) := by decide +kernel
theorem d_SH_value_40 : decode b_SH_value 40 = .ok (.iload_n 3, 1) := by decide +kernel
theorem d_SH_value_41 : decode b_SH_value 41 = .ok (.daload, 1) := by decide +kernel
theorem d_SH_value_42 : decode b_SH_value 42 = .ok (.invokestatic 75, 3) := by decide +kernel
theorem d_SH_value_45 : decode b_SH_value 45 = .ok (.ifCond .eq 11, 3) := by decide +kernel
theorem d_SH_value_48 : decode b_SH_value 48 = .ok (.new 119, 3) := by decide +kernel
theorem d_SH_value_51 : decode b_SH_value 51 = .ok (.dup, 1) := by decide +kernel
theorem d_SH_value_52 : decode b_SH_value 52 = .ok (.invokespecial 121, 3) := by decide +kernel
theorem d_SH_value_55 : decode b_SH_value 55 = .ok (.athrow, 1) := by decide +kernel
theorem d_SH_value_56 : decode b_SH_value 56 = .ok (.aload_n 0, 1) := by decide +kernel
theorem d_SH_value_57 : decode b_SH_value 57 = .ok (.getfield 19, 3) := by decide +kernel
theorem d_SH_value_60 : decode b_SH_value 60 = .ok (.getfield 94, 3) := by decide +kernel
theorem d_SH_value_63 : decode b_SH_value 63 = .ok (.iload_n 3, 1) := by decide +kernel
theorem d_SH_value_64 : decode b_SH_value 64 = .ok (.daload, 1) := by decide +kernel
theorem d_SH_value_65 : decode b_SH_value 65 = .ok (.dreturn, 1) := by decide +kernel
abbrev b_SH_kind : ByteArray := prog_1_method_11_code
def y_SH_kind : MethodName := ⟨"FormulaSheet", "kind", "(II)I"⟩
theorem d_SH_kind_0 : decode b_SH_kind 0 = .ok (.iload_n 1, 1) := by decide +kernel
theorem d_SH_kind_1 : decode b_SH_kind 1 = .ok (.iload_n 2, 1) := by decide +kernel
theorem d_SH_kind_2 : decode b_SH_kind 2 = .ok (.invokestatic 47, 3) := by decide +kernel
theorem d_SH_kind_5 : decode b_SH_kind 5 = .ok (.istore_n 3, 1) := by decide +kernel
theorem d_SH_kind_6 : decode b_SH_kind 6 = .ok (.aload_n 0, 1) := by decide +kernel
theorem d_SH_kind_7 : decode b_SH_kind 7 = .ok (.getfield 19, 3) := by decide +kernel
theorem d_SH_kind_10 : decode b_SH_kind 10 = .ok (.getfield 122, 3) := by decide +kernel
theorem d_SH_kind_13 : decode b_SH_kind 13 = .ok (.iload_n 3, 1) := by decide +kernel
theorem d_SH_kind_14 : decode b_SH_kind 14 = .ok (.baload, 1) := by decide +kernel
theorem d_SH_kind_15 : decode b_SH_kind 15 = .ok (.ifCond .ne 5, 3) := by decide +kernel
theorem d_SH_kind_18 : decode b_SH_kind 18 = .ok (.iconst 0, 1) := by decide +kernel
theorem d_SH_kind_19 : decode b_SH_kind 19 = .ok (.ireturn, 1) := by decide +kernel
theorem d_SH_kind_20 : decode b_SH_kind 20 = .ok (.aload_n 0, 1) := by decide +kernel
theorem d_SH_kind_21 : decode b_SH_kind 21 = .ok (.getfield 19, 3) := by decide +kernel
theorem d_SH_kind_24 : decode b_SH_kind 24 = .ok (.getfield 90, 3) := by decide +kernel
theorem d_SH_kind_27 : decode b_SH_kind 27 = .ok (.iload_n 3, 1) := by decide +kernel
theorem d_SH_kind_28 : decode b_SH_kind 28 = .ok (.aaload, 1) := by decide +kernel
theorem d_SH_kind_29 : decode b_SH_kind 29 = .ok (.ifnonnull 5, 3) := by decide +kernel
theorem d_SH_kind_32 : decode b_SH_kind 32 = .ok (.iconst 1, 1) := by decide +kernel
theorem d_SH_kind_33 : decode b_SH_kind 33 = .ok (.ireturn, 1) := by decide +kernel
theorem d_SH_kind_34 : decode b_SH_kind 34 = .ok (.aload_n 0, 1) := by decide +kernel
theorem d_SH_kind_35 : decode b_SH_kind 35 = .ok (.getfield 19, 3) := by decide +kernel
theorem d_SH_kind_38 : decode b_SH_kind 38 = .ok (.invokevirtual 112, 3) := by decide +kernel
theorem d_SH_kind_41 : decode b_SH_kind 41 = .ok (.aload_n 0, 1) := by decide +kernel
theorem d_SH_kind_42 : decode b_SH_kind 42 = .ok (.getfield 19, 3) := by decide +kernel
theorem d_SH_kind_45 : decode b_SH_kind 45 = .ok (.iload_n 3, 1) := by decide +kernel
theorem d_SH_kind_46 : decode b_SH_kind 46 = .ok (.invokevirtual 115, 3) := by decide +kernel
theorem d_SH_kind_49 : decode b_SH_kind 49 = .ok (.ifCond .eq 5, 3) := by decide +kernel
theorem d_SH_kind_52 : decode b_SH_kind 52 = .ok (.iconst 4, 1) := by decide +kernel
theorem d_SH_kind_53 : decode b_SH_kind 53 = .ok (.ireturn, 1) := by decide +kernel
theorem d_SH_kind_54 : decode b_SH_kind 54 = .ok (.aload_n 0, 1) := by decide +kernel
theorem d_SH_kind_55 : decode b_SH_kind 55 = .ok (.getfield 19, 3) := by decide +kernel
theorem d_SH_kind_58 : decode b_SH_kind 58 = .ok (.getfield 94, 3) := by decide +kernel
theorem d_SH_kind_61 : decode b_SH_kind 61 = .ok (.iload_n 3, 1) := by decide +kernel
theorem d_SH_kind_62 : decode b_SH_kind 62 = .ok (.daload, 1) := by decide +kernel
theorem d_SH_kind_63 : decode b_SH_kind 63 = .ok (.invokestatic 75, 3) := by decide +kernel
theorem d_SH_kind_66 : decode b_SH_kind 66 = .ok (.ifCond .eq 7, 3) := by decide +kernel
theorem d_SH_kind_69 : decode b_SH_kind 69 = .ok (.iconst 3, 1) := by decide +kernel
theorem d_SH_kind_70 : decode b_SH_kind 70 = .ok (.goto 4, 3) := by decide +kernel
theorem d_SH_kind_73 : decode b_SH_kind 73 = .ok (.iconst 2, 1) := by decide +kernel
theorem d_SH_kind_74 : decode b_SH_kind 74 = .ok (.ireturn, 1) := by decide +kernel
abbrev b_SH_text : ByteArray := prog_1_method_12_code
def y_SH_text : MethodName := ⟨"FormulaSheet", "text", "(III)I"⟩
theorem d_SH_text_0 : decode b_SH_text 0 = .ok (.aload_n 0, 1) := by decide +kernel
theorem d_SH_text_1 : decode b_SH_text 1 = .ok (.getfield 19, 3) := by decide +kernel
theorem d_SH_text_4 : decode b_SH_text 4 = .ok (.getfield 90, 3) := by decide +kernel
theorem d_SH_text_7 : decode b_SH_text 7 = .ok (.iload_n 1, 1) := by decide +kernel
theorem d_SH_text_8 : decode b_SH_text 8 = .ok (.iload_n 2, 1) := by decide +kernel
theorem d_SH_text_9 : decode b_SH_text 9 = .ok (.invokestatic 47, 3) := by decide +kernel
theorem d_SH_text_12 : decode b_SH_text 12 = .ok (.aaload, 1) := by decide +kernel
theorem d_SH_text_13 : decode b_SH_text 13 = .ok (.astore 4, 2) := by decide +kernel
theorem d_SH_text_15 : decode b_SH_text 15 = .ok (.aload 4, 2) := by decide +kernel
theorem d_SH_text_17 : decode b_SH_text 17 = .ok (.ifnonnull 11, 3) := by decide +kernel
theorem d_SH_text_20 : decode b_SH_text 20 = .ok (.new 126, 3) := by decide +kernel
theorem d_SH_text_23 : decode b_SH_text 23 = .ok (.dup, 1) := by decide +kernel
theorem d_SH_text_24 : decode b_SH_text 24 = .ok (.invokespecial 128, 3) := by decide +kernel
theorem d_SH_text_27 : decode b_SH_text 27 = .ok (.athrow, 1) := by decide +kernel
theorem d_SH_text_28 : decode b_SH_text 28 = .ok (.aload_n 0, 1) := by decide +kernel
theorem d_SH_text_29 : decode b_SH_text 29 = .ok (.getfield 26, 3) := by decide +kernel
theorem d_SH_text_32 : decode b_SH_text 32 = .ok (.iconst 0, 1) := by decide +kernel
theorem d_SH_text_33 : decode b_SH_text 33 = .ok (.invokevirtual 129, 3) := by decide +kernel
theorem d_SH_text_36 : decode b_SH_text 36 = .ok (.aload 4, 2) := by decide +kernel
theorem d_SH_text_38 : decode b_SH_text 38 = .ok (.aload_n 0, 1) := by decide +kernel
theorem d_SH_text_39 : decode b_SH_text 39 = .ok (.getfield 26, 3) := by decide +kernel
theorem d_SH_text_42 : decode b_SH_text 42 = .ok (.iconst 0, 1) := by decide +kernel
theorem d_SH_text_43 : decode b_SH_text 43 = .ok (.invokevirtual 132, 3) := by decide +kernel
theorem d_SH_text_46 : decode b_SH_text 46 = .ok (.iload_n 3, 1) := by decide +kernel
theorem d_SH_text_47 : decode b_SH_text 47 = .ok (.ifCond .lt 25, 3) := by decide +kernel
theorem d_SH_text_50 : decode b_SH_text 50 = .ok (.iload_n 3, 1) := by decide +kernel
theorem d_SH_text_51 : decode b_SH_text 51 = .ok (.aload_n 0, 1) := by decide +kernel
theorem d_SH_text_52 : decode b_SH_text 52 = .ok (.getfield 26, 3) := by decide +kernel
theorem d_SH_text_55 : decode b_SH_text 55 = .ok (.invokevirtual 136, 3) := by decide +kernel
theorem d_SH_text_58 : decode b_SH_text 58 = .ok (.if_icmp .ge 14, 3) := by decide +kernel
theorem d_SH_text_61 : decode b_SH_text 61 = .ok (.aload_n 0, 1) := by decide +kernel
theorem d_SH_text_62 : decode b_SH_text 62 = .ok (.getfield 26, 3) := by decide +kernel
theorem d_SH_text_65 : decode b_SH_text 65 = .ok (.iload_n 3, 1) := by decide +kernel
theorem d_SH_text_66 : decode b_SH_text 66 = .ok (.invokevirtual 138, 3) := by decide +kernel
theorem d_SH_text_69 : decode b_SH_text 69 = .ok (.goto 4, 3) := by decide +kernel
theorem d_SH_text_72 : decode b_SH_text 72 = .ok (.iconst (-1), 1) := by decide +kernel
theorem d_SH_text_73 : decode b_SH_text 73 = .ok (.ireturn, 1) := by decide +kernel
abbrev b_SH_reaches : ByteArray := prog_1_method_13_code
def y_SH_reaches : MethodName := ⟨"FormulaSheet", "reaches", "(IIII)Z"⟩
theorem d_SH_reaches_0 : decode b_SH_reaches 0 = .ok (.iload_n 1, 1) := by decide +kernel
theorem d_SH_reaches_1 : decode b_SH_reaches 1 = .ok (.iload_n 2, 1) := by decide +kernel
theorem d_SH_reaches_2 : decode b_SH_reaches 2 = .ok (.invokestatic 47, 3) := by decide +kernel
theorem d_SH_reaches_5 : decode b_SH_reaches 5 = .ok (.istore 5, 2) := by decide +kernel
theorem d_SH_reaches_7 : decode b_SH_reaches 7 = .ok (.iload_n 3, 1) := by decide +kernel
theorem d_SH_reaches_8 : decode b_SH_reaches 8 = .ok (.iload 4, 2) := by decide +kernel
theorem d_SH_reaches_10 : decode b_SH_reaches 10 = .ok (.invokestatic 47, 3) := by decide +kernel
theorem d_SH_reaches_13 : decode b_SH_reaches 13 = .ok (.istore 6, 2) := by decide +kernel
theorem d_SH_reaches_15 : decode b_SH_reaches 15 = .ok (.aload_n 0, 1) := by decide +kernel
theorem d_SH_reaches_16 : decode b_SH_reaches 16 = .ok (.getfield 19, 3) := by decide +kernel
theorem d_SH_reaches_19 : decode b_SH_reaches 19 = .ok (.invokevirtual 112, 3) := by decide +kernel
theorem d_SH_reaches_22 : decode b_SH_reaches 22 = .ok (.aload_n 0, 1) := by decide +kernel
theorem d_SH_reaches_23 : decode b_SH_reaches 23 = .ok (.getfield 19, 3) := by decide +kernel
theorem d_SH_reaches_26 : decode b_SH_reaches 26 = .ok (.getfield 142, 3) := by decide +kernel
theorem d_SH_reaches_29 : decode b_SH_reaches 29 = .ok (.iload 5, 2) := by decide +kernel
theorem d_SH_reaches_31 : decode b_SH_reaches 31 = .ok (.aaload, 1) := by decide +kernel
theorem d_SH_reaches_32 : decode b_SH_reaches 32 = .ok (.iload 6, 2) := by decide +kernel
theorem d_SH_reaches_34 : decode b_SH_reaches 34 = .ok (.invokevirtual 146, 3) := by decide +kernel
theorem d_SH_reaches_37 : decode b_SH_reaches 37 = .ok (.ireturn, 1) := by decide +kernel
abbrev b_SH_count : ByteArray := prog_1_method_14_code
def y_SH_count : MethodName := ⟨"FormulaSheet", "count", "(I)I"⟩
theorem d_SH_count_0 : decode b_SH_count 0 = .ok (.iload_n 1, 1) := by decide +kernel
theorem d_SH_count_1 : decode b_SH_count 1 = .ok (.tableswitch 90 0 5 #[39, 47, 58, 66, 74, 82], 39) := by decide +kernel
theorem d_SH_count_40 : decode b_SH_count 40 = .ok (.aload_n 0, 1) := by decide +kernel
theorem d_SH_count_41 : decode b_SH_count 41 = .ok (.getfield 12, 3) := by decide +kernel
theorem d_SH_count_44 : decode b_SH_count 44 = .ok (.getfield 37, 3) := by decide +kernel
theorem d_SH_count_47 : decode b_SH_count 47 = .ok (.ireturn, 1) := by decide +kernel
theorem d_SH_count_48 : decode b_SH_count 48 = .ok (.aload_n 0, 1) := by decide +kernel
theorem d_SH_count_49 : decode b_SH_count 49 = .ok (.getfield 19, 3) := by decide +kernel
theorem d_SH_count_52 : decode b_SH_count 52 = .ok (.iconst 0, 1) := by decide +kernel
theorem d_SH_count_53 : decode b_SH_count 53 = .ok (.bipush 80, 2) := by decide +kernel
theorem d_SH_count_55 : decode b_SH_count 55 = .ok (.invokevirtual 149, 3) := by decide +kernel
theorem d_SH_count_58 : decode b_SH_count 58 = .ok (.ireturn, 1) := by decide +kernel
theorem d_SH_count_59 : decode b_SH_count 59 = .ok (.aload_n 0, 1) := by decide +kernel
theorem d_SH_count_60 : decode b_SH_count 60 = .ok (.getfield 19, 3) := by decide +kernel
theorem d_SH_count_63 : decode b_SH_count 63 = .ok (.invokevirtual 152, 3) := by decide +kernel
theorem d_SH_count_66 : decode b_SH_count 66 = .ok (.ireturn, 1) := by decide +kernel
theorem d_SH_count_67 : decode b_SH_count 67 = .ok (.aload_n 0, 1) := by decide +kernel
theorem d_SH_count_68 : decode b_SH_count 68 = .ok (.getfield 19, 3) := by decide +kernel
theorem d_SH_count_71 : decode b_SH_count 71 = .ok (.invokevirtual 155, 3) := by decide +kernel
theorem d_SH_count_74 : decode b_SH_count 74 = .ok (.ireturn, 1) := by decide +kernel
theorem d_SH_count_75 : decode b_SH_count 75 = .ok (.aload_n 0, 1) := by decide +kernel
theorem d_SH_count_76 : decode b_SH_count 76 = .ok (.getfield 19, 3) := by decide +kernel
theorem d_SH_count_79 : decode b_SH_count 79 = .ok (.invokevirtual 158, 3) := by decide +kernel
theorem d_SH_count_82 : decode b_SH_count 82 = .ok (.ireturn, 1) := by decide +kernel
theorem d_SH_count_83 : decode b_SH_count 83 = .ok (.aload_n 0, 1) := by decide +kernel
theorem d_SH_count_84 : decode b_SH_count 84 = .ok (.getfield 19, 3) := by decide +kernel
theorem d_SH_count_87 : decode b_SH_count 87 = .ok (.invokevirtual 161, 3) := by decide +kernel
theorem d_SH_count_90 : decode b_SH_count 90 = .ok (.ireturn, 1) := by decide +kernel
theorem d_SH_count_91 : decode b_SH_count 91 = .ok (.iconst (-1), 1) := by decide +kernel
theorem d_SH_count_92 : decode b_SH_count 92 = .ok (.ireturn, 1) := by decide +kernel
theorem tw_37 : lw_tbl[37]? = some (Cond.selects "FormulaSheet" ⟨"FormulaSheet", "filledCellAt", "(II)I"⟩ ⟨"FormulaSheet", "filledCellAt", "(II)I"⟩) := by decide +kernel
theorem tw_100 : lw_tbl[100]? = some (Jvm.Cond.initialized "java/lang/IllegalArgumentException") := by decide +kernel
theorem tw_101 : lw_tbl[101]? = some (Jvm.Cond.initialized "java/lang/IllegalStateException") := by decide +kernel
theorem tw_102 : lw_tbl[102]? = some (Jvm.Cond.initialized "java/lang/IndexOutOfBoundsException") := by decide +kernel
theorem tw_114 : lw_tbl[114]? = some (Jvm.Cond.initialized "java/util/NoSuchElementException") := by decide +kernel
theorem tw_117 : lw_tbl[117]? = some (Jvm.Cond.initialized "java/lang/ArithmeticException") := by decide +kernel
theorem tw_118 : lw_tbl[118]? = some (Jvm.Cond.initialized "java/lang/UnsupportedOperationException") := by decide +kernel
theorem tw_130 : lw_tbl[130]? = some (Jvm.Cond.methodLink "FormulaSheet" (3 : Nat) ({ cls := "java/lang/Object", name := "<init>", desc := "()V" } : Jvm.MethodName)) := by decide +kernel
theorem tw_133 : lw_tbl[133]? = some (Jvm.Cond.classLink "FormulaSheet" (9 : Nat) "FormulaSheet$Line") := by decide +kernel
theorem tw_134 : lw_tbl[134]? = some (Jvm.Cond.instantiable "FormulaSheet$Line" (4 : Nat)) := by decide +kernel
theorem tw_135 : lw_tbl[135]? = some (Jvm.Cond.methodLinkNest "FormulaSheet" (11 : Nat) ({ cls := "FormulaSheet$Line", name := "<init>", desc := "()V" } : Jvm.MethodName) "FormulaSheet") := by decide +kernel
theorem tw_136 : lw_tbl[136]? = some (Jvm.Cond.instanceMethod ({ cls := "FormulaSheet$Line", name := "<init>", desc := "()V" } : Jvm.MethodName)) := by decide +kernel
theorem tw_137 : lw_tbl[137]? = some (Jvm.Cond.code ({ cls := "FormulaSheet$Line", name := "<init>", desc := "()V" } : Jvm.MethodName) prog_5_method_1_code (1 : Nat) (Option.none : Option Jvm.ClassFile.FieldType)) := by decide +kernel
theorem tw_141 : lw_tbl[141]? = some (Jvm.Cond.fieldLink "FormulaSheet" (37 : Nat) "FormulaSheet$Line" "length" "I") := by decide +kernel
theorem tw_143 : lw_tbl[143]? = some (Jvm.Cond.fieldLink "FormulaSheet" (55 : Nat) "FormulaSheet$Line" "at" "I") := by decide +kernel
theorem tw_155 : lw_tbl[155]? = some (Jvm.Cond.classLink "FormulaSheet" (16 : Nat) "FormulaSheet$Cells") := by decide +kernel
theorem tw_156 : lw_tbl[156]? = some (Jvm.Cond.instantiable "FormulaSheet$Cells" (7 : Nat)) := by decide +kernel
theorem tw_157 : lw_tbl[157]? = some (Jvm.Cond.methodLink "FormulaSheet" (18 : Nat) ({ cls := "FormulaSheet$Cells", name := "<init>", desc := "()V" } : Jvm.MethodName)) := by decide +kernel
theorem tw_158 : lw_tbl[158]? = some (Jvm.Cond.instanceMethod ({ cls := "FormulaSheet$Cells", name := "<init>", desc := "()V" } : Jvm.MethodName)) := by decide +kernel
theorem tw_159 : lw_tbl[159]? = some (Jvm.Cond.code ({ cls := "FormulaSheet$Cells", name := "<init>", desc := "()V" } : Jvm.MethodName) prog_4_method_1_code (2 : Nat) (Option.none : Option Jvm.ClassFile.FieldType)) := by decide +kernel
theorem tw_182 : lw_tbl[182]? = some (Jvm.Cond.fieldLink "FormulaSheet" (122 : Nat) "FormulaSheet$Cells" "filled" "[Z") := by decide +kernel
theorem tw_185 : lw_tbl[185]? = some (Jvm.Cond.fieldLink "FormulaSheet" (90 : Nat) "FormulaSheet$Cells" "formulas" "[LFormulaSheet$Part;") := by decide +kernel
theorem tw_188 : lw_tbl[188]? = some (Jvm.Cond.fieldLink "FormulaSheet" (94 : Nat) "FormulaSheet$Cells" "values" "[D") := by decide +kernel
theorem tw_191 : lw_tbl[191]? = some (Jvm.Cond.fieldLink "FormulaSheet" (142 : Nat) "FormulaSheet$Cells" "reached" "[LFormulaSheet$CellSet;") := by decide +kernel
theorem tw_211 : lw_tbl[211]? = some (Jvm.Cond.classLink "FormulaSheet" (23 : Nat) "java/lang/StringBuilder") := by decide +kernel
theorem tw_212 : lw_tbl[212]? = some (Jvm.Cond.instantiable "java/lang/StringBuilder" (4 : Nat)) := by decide +kernel
theorem tw_213 : lw_tbl[213]? = some (Jvm.Cond.methodLink "FormulaSheet" (25 : Nat) ({ cls := "java/lang/StringBuilder", name := "<init>", desc := "()V" } : Jvm.MethodName)) := by decide +kernel
theorem tw_214 : lw_tbl[214]? = some (Jvm.Cond.instanceMethod ({ cls := "java/lang/StringBuilder", name := "<init>", desc := "()V" } : Jvm.MethodName)) := by decide +kernel
theorem tw_215 : lw_tbl[215]? = some (Jvm.Cond.code ({ cls := "java/lang/StringBuilder", name := "<init>", desc := "()V" } : Jvm.MethodName) prog_29_method_1_code (1 : Nat) (Option.none : Option Jvm.ClassFile.FieldType)) := by decide +kernel
theorem tw_244 : lw_tbl[244]? = some (Jvm.Cond.fieldLink "FormulaSheet" (12 : Nat) "FormulaSheet" "line" "LFormulaSheet$Line;") := by decide +kernel
theorem tw_245 : lw_tbl[245]? = some (Jvm.Cond.fieldLink "FormulaSheet" (19 : Nat) "FormulaSheet" "cells" "LFormulaSheet$Cells;") := by decide +kernel
theorem tw_246 : lw_tbl[246]? = some (Jvm.Cond.fieldLink "FormulaSheet" (26 : Nat) "FormulaSheet" "written" "Ljava/lang/StringBuilder;") := by decide +kernel
theorem tw_247 : lw_tbl[247]? = some (Jvm.Cond.fieldLink "FormulaSheet" (30 : Nat) "FormulaSheet" "refusedAt" "I") := by decide +kernel
theorem tw_265 : lw_tbl[265]? = some (Jvm.Cond.methodLink "FormulaSheet" (149 : Nat) ({ cls := "FormulaSheet$Cells", name := "filledFrom", desc := "(II)I" } : Jvm.MethodName)) := by decide +kernel
theorem tw_269 : lw_tbl[269]? = some (Jvm.Cond.methodLink "FormulaSheet" (152 : Nat) ({ cls := "FormulaSheet$Cells", name := "formulasInAll", desc := "()I" } : Jvm.MethodName)) := by decide +kernel
theorem tw_270 : lw_tbl[270]? = some (Jvm.Cond.instanceMethod ({ cls := "FormulaSheet$Cells", name := "formulasInAll", desc := "()I" } : Jvm.MethodName)) := by decide +kernel
theorem tw_271 : lw_tbl[271]? = some (Jvm.Cond.selects "FormulaSheet$Cells" ({ cls := "FormulaSheet$Cells", name := "formulasInAll", desc := "()I" } : Jvm.MethodName) ({ cls := "FormulaSheet$Cells", name := "formulasInAll", desc := "()I" } : Jvm.MethodName)) := by decide +kernel
theorem tw_272 : lw_tbl[272]? = some (Jvm.Cond.code ({ cls := "FormulaSheet$Cells", name := "formulasInAll", desc := "()I" } : Jvm.MethodName) prog_4_method_11_code (3 : Nat) (Option.some Jvm.ClassFile.FieldType.int)) := by decide +kernel
theorem tw_273 : lw_tbl[273]? = some (Jvm.Cond.methodLink "FormulaSheet" (155 : Nat) ({ cls := "FormulaSheet$Cells", name := "circularInAll", desc := "()I" } : Jvm.MethodName)) := by decide +kernel
theorem tw_274 : lw_tbl[274]? = some (Jvm.Cond.instanceMethod ({ cls := "FormulaSheet$Cells", name := "circularInAll", desc := "()I" } : Jvm.MethodName)) := by decide +kernel
theorem tw_275 : lw_tbl[275]? = some (Jvm.Cond.selects "FormulaSheet$Cells" ({ cls := "FormulaSheet$Cells", name := "circularInAll", desc := "()I" } : Jvm.MethodName) ({ cls := "FormulaSheet$Cells", name := "circularInAll", desc := "()I" } : Jvm.MethodName)) := by decide +kernel
theorem tw_276 : lw_tbl[276]? = some (Jvm.Cond.code ({ cls := "FormulaSheet$Cells", name := "circularInAll", desc := "()I" } : Jvm.MethodName) prog_4_method_12_code (3 : Nat) (Option.some Jvm.ClassFile.FieldType.int)) := by decide +kernel
theorem tw_461 : lw_tbl[461]? = some (Jvm.Cond.methodLink "FormulaSheet" (158 : Nat) ({ cls := "FormulaSheet$Cells", name := "badInAll", desc := "()I" } : Jvm.MethodName)) := by decide +kernel
theorem tw_462 : lw_tbl[462]? = some (Jvm.Cond.instanceMethod ({ cls := "FormulaSheet$Cells", name := "badInAll", desc := "()I" } : Jvm.MethodName)) := by decide +kernel
theorem tw_463 : lw_tbl[463]? = some (Jvm.Cond.selects "FormulaSheet$Cells" ({ cls := "FormulaSheet$Cells", name := "badInAll", desc := "()I" } : Jvm.MethodName) ({ cls := "FormulaSheet$Cells", name := "badInAll", desc := "()I" } : Jvm.MethodName)) := by decide +kernel
theorem tw_464 : lw_tbl[464]? = some (Jvm.Cond.code ({ cls := "FormulaSheet$Cells", name := "badInAll", desc := "()I" } : Jvm.MethodName) prog_4_method_13_code (3 : Nat) (Option.some Jvm.ClassFile.FieldType.int)) := by decide +kernel
theorem tw_466 : lw_tbl[466]? = some (Jvm.Cond.methodLink "FormulaSheet" (161 : Nat) ({ cls := "FormulaSheet$Cells", name := "lostInAll", desc := "()I" } : Jvm.MethodName)) := by decide +kernel
theorem tw_467 : lw_tbl[467]? = some (Jvm.Cond.instanceMethod ({ cls := "FormulaSheet$Cells", name := "lostInAll", desc := "()I" } : Jvm.MethodName)) := by decide +kernel
theorem tw_468 : lw_tbl[468]? = some (Jvm.Cond.selects "FormulaSheet$Cells" ({ cls := "FormulaSheet$Cells", name := "lostInAll", desc := "()I" } : Jvm.MethodName) ({ cls := "FormulaSheet$Cells", name := "lostInAll", desc := "()I" } : Jvm.MethodName)) := by decide +kernel
theorem tw_469 : lw_tbl[469]? = some (Jvm.Cond.code ({ cls := "FormulaSheet$Cells", name := "lostInAll", desc := "()I" } : Jvm.MethodName) prog_4_method_14_code (3 : Nat) (Option.some Jvm.ClassFile.FieldType.int)) := by decide +kernel
theorem tw_492 : lw_tbl[492]? = some (Jvm.Cond.classLink "FormulaSheet" (34 : Nat) "java/lang/IllegalArgumentException") := by decide +kernel
theorem tw_561 : lw_tbl[561]? = some (Jvm.Cond.classLink "FormulaSheet" (40 : Nat) "java/lang/IllegalStateException") := by decide +kernel
theorem tw_576 : lw_tbl[576]? = some (Jvm.Cond.methodLink "FormulaSheet" (43 : Nat) ({ cls := "FormulaSheet$Line", name := "add", desc := "(C)V" } : Jvm.MethodName)) := by decide +kernel
theorem tw_577 : lw_tbl[577]? = some (Jvm.Cond.instanceMethod ({ cls := "FormulaSheet$Line", name := "add", desc := "(C)V" } : Jvm.MethodName)) := by decide +kernel
theorem tw_578 : lw_tbl[578]? = some (Jvm.Cond.selects "FormulaSheet$Line" ({ cls := "FormulaSheet$Line", name := "add", desc := "(C)V" } : Jvm.MethodName) ({ cls := "FormulaSheet$Line", name := "add", desc := "(C)V" } : Jvm.MethodName)) := by decide +kernel
theorem tw_579 : lw_tbl[579]? = some (Jvm.Cond.code ({ cls := "FormulaSheet$Line", name := "add", desc := "(C)V" } : Jvm.MethodName) prog_5_method_2_code (2 : Nat) (Option.none : Option Jvm.ClassFile.FieldType)) := by decide +kernel
theorem tw_588 : lw_tbl[588]? = some (Jvm.Cond.methodLink "FormulaSheet" (47 : Nat) ({ cls := "FormulaSheet", name := "cellAt", desc := "(II)I" } : Jvm.MethodName)) := by decide +kernel
theorem tw_589 : lw_tbl[589]? = some (Jvm.Cond.static ({ cls := "FormulaSheet", name := "cellAt", desc := "(II)I" } : Jvm.MethodName)) := by decide +kernel
theorem tw_590 : lw_tbl[590]? = some (Jvm.Cond.code ({ cls := "FormulaSheet", name := "cellAt", desc := "(II)I" } : Jvm.MethodName) prog_1_method_15_code (2 : Nat) (Option.some Jvm.ClassFile.FieldType.int)) := by decide +kernel
theorem tw_591 : lw_tbl[591]? = some (Jvm.Cond.methodLink "FormulaSheet" (164 : Nat) ({ cls := "FormulaSheet", name := "isInSheet", desc := "(II)Z" } : Jvm.MethodName)) := by decide +kernel
theorem tw_594 : lw_tbl[594]? = some (Jvm.Cond.classLink "FormulaSheet" (168 : Nat) "java/lang/IndexOutOfBoundsException") := by decide +kernel
theorem tw_609 : lw_tbl[609]? = some (Jvm.Cond.methodLink "FormulaSheet" (51 : Nat) ({ cls := "FormulaSheet$Line", name := "read", desc := "()LFormulaSheet$Part;" } : Jvm.MethodName)) := by decide +kernel
theorem tw_610 : lw_tbl[610]? = some (Jvm.Cond.instanceMethod ({ cls := "FormulaSheet$Line", name := "read", desc := "()LFormulaSheet$Part;" } : Jvm.MethodName)) := by decide +kernel
theorem tw_611 : lw_tbl[611]? = some (Jvm.Cond.selects "FormulaSheet$Line" ({ cls := "FormulaSheet$Line", name := "read", desc := "()LFormulaSheet$Part;" } : Jvm.MethodName) ({ cls := "FormulaSheet$Line", name := "read", desc := "()LFormulaSheet$Part;" } : Jvm.MethodName)) := by decide +kernel
theorem tw_612 : lw_tbl[612]? = some (Jvm.Cond.code ({ cls := "FormulaSheet$Line", name := "read", desc := "()LFormulaSheet$Part;" } : Jvm.MethodName) prog_5_method_3_code (2 : Nat) (Option.some (Jvm.ClassFile.FieldType.object "FormulaSheet$Part"))) := by decide +kernel
theorem tw_857 : lw_tbl[857]? = some (Jvm.Cond.methodLink "FormulaSheet" (58 : Nat) ({ cls := "FormulaSheet$Cells", name := "setFormula", desc := "(ILFormulaSheet$Part;)V" } : Jvm.MethodName)) := by decide +kernel
theorem tw_858 : lw_tbl[858]? = some (Jvm.Cond.instanceMethod ({ cls := "FormulaSheet$Cells", name := "setFormula", desc := "(ILFormulaSheet$Part;)V" } : Jvm.MethodName)) := by decide +kernel
theorem tw_859 : lw_tbl[859]? = some (Jvm.Cond.selects "FormulaSheet$Cells" ({ cls := "FormulaSheet$Cells", name := "setFormula", desc := "(ILFormulaSheet$Part;)V" } : Jvm.MethodName) ({ cls := "FormulaSheet$Cells", name := "setFormula", desc := "(ILFormulaSheet$Part;)V" } : Jvm.MethodName)) := by decide +kernel
theorem tw_860 : lw_tbl[860]? = some (Jvm.Cond.code ({ cls := "FormulaSheet$Cells", name := "setFormula", desc := "(ILFormulaSheet$Part;)V" } : Jvm.MethodName) prog_4_method_3_code (3 : Nat) (Option.none : Option Jvm.ClassFile.FieldType)) := by decide +kernel
theorem tw_865 : lw_tbl[865]? = some (Jvm.Cond.classLink "FormulaSheet" (62 : Nat) "FormulaSheet$CellSet") := by decide +kernel
theorem tw_866 : lw_tbl[866]? = some (Jvm.Cond.methodLinkNest "FormulaSheet" (64 : Nat) ({ cls := "FormulaSheet$CellSet", name := "<init>", desc := "()V" } : Jvm.MethodName) "FormulaSheet") := by decide +kernel
theorem tw_867 : lw_tbl[867]? = some (Jvm.Cond.methodLink "FormulaSheet" (65 : Nat) ({ cls := "FormulaSheet$Part", name := "addCells", desc := "(LFormulaSheet$CellSet;)V" } : Jvm.MethodName)) := by decide +kernel
theorem tw_868 : lw_tbl[868]? = some (Jvm.Cond.methodLink "FormulaSheet" (71 : Nat) ({ cls := "FormulaSheet$CellSet", name := "size", desc := "()I" } : Jvm.MethodName)) := by decide +kernel
theorem tw_876 : lw_tbl[876]? = some (Jvm.Cond.methodLink "FormulaSheet" (79 : Nat) ({ cls := "FormulaSheet$Cells", name := "setNumber", desc := "(ID)V" } : Jvm.MethodName)) := by decide +kernel
theorem tw_877 : lw_tbl[877]? = some (Jvm.Cond.instanceMethod ({ cls := "FormulaSheet$Cells", name := "setNumber", desc := "(ID)V" } : Jvm.MethodName)) := by decide +kernel
theorem tw_878 : lw_tbl[878]? = some (Jvm.Cond.selects "FormulaSheet$Cells" ({ cls := "FormulaSheet$Cells", name := "setNumber", desc := "(ID)V" } : Jvm.MethodName) ({ cls := "FormulaSheet$Cells", name := "setNumber", desc := "(ID)V" } : Jvm.MethodName)) := by decide +kernel
theorem tw_879 : lw_tbl[879]? = some (Jvm.Cond.code ({ cls := "FormulaSheet$Cells", name := "setNumber", desc := "(ID)V" } : Jvm.MethodName) prog_4_method_2_code (4 : Nat) (Option.none : Option Jvm.ClassFile.FieldType)) := by decide +kernel
theorem tw_888 : lw_tbl[888]? = some (Jvm.Cond.methodLink "FormulaSheet" (83 : Nat) ({ cls := "FormulaSheet", name := "filledCellAt", desc := "(II)I" } : Jvm.MethodName)) := by decide +kernel
theorem tw_890 : lw_tbl[890]? = some (Jvm.Cond.instanceMethod ({ cls := "FormulaSheet", name := "filledCellAt", desc := "(II)I" } : Jvm.MethodName)) := by decide +kernel
theorem tw_891 : lw_tbl[891]? = some (Jvm.Cond.code ({ cls := "FormulaSheet", name := "filledCellAt", desc := "(II)I" } : Jvm.MethodName) prog_1_method_16_code (4 : Nat) (Option.some Jvm.ClassFile.FieldType.int)) := by decide +kernel
theorem tw_892 : lw_tbl[892]? = some (Jvm.Cond.classLink "FormulaSheet" (171 : Nat) "java/util/NoSuchElementException") := by decide +kernel
theorem tw_907 : lw_tbl[907]? = some (Jvm.Cond.methodLink "FormulaSheet" (86 : Nat) ({ cls := "FormulaSheet$Cells", name := "empty", desc := "(I)V" } : Jvm.MethodName)) := by decide +kernel
theorem tw_918 : lw_tbl[918]? = some (Jvm.Cond.methodLink "FormulaSheet" (98 : Nat) ({ cls := "FormulaSheet$Part", name := "moved", desc := "(II)LFormulaSheet$Part;" } : Jvm.MethodName)) := by decide +kernel
theorem tw_966 : lw_tbl[966]? = some (Jvm.Cond.methodLink "FormulaSheet" (102 : Nat) ({ cls := "FormulaSheet$Part", name := "lostReferences", desc := "()I" } : Jvm.MethodName)) := by decide +kernel
theorem tw_974 : lw_tbl[974]? = some (Jvm.Cond.methodLink "FormulaSheet" (105 : Nat) ({ cls := "FormulaSheet$Cells", name := "rowIn", desc := "(I)I" } : Jvm.MethodName)) := by decide +kernel
theorem tw_975 : lw_tbl[975]? = some (Jvm.Cond.instanceMethod ({ cls := "FormulaSheet$Cells", name := "rowIn", desc := "(I)I" } : Jvm.MethodName)) := by decide +kernel
theorem tw_976 : lw_tbl[976]? = some (Jvm.Cond.selects "FormulaSheet$Cells" ({ cls := "FormulaSheet$Cells", name := "rowIn", desc := "(I)I" } : Jvm.MethodName) ({ cls := "FormulaSheet$Cells", name := "rowIn", desc := "(I)I" } : Jvm.MethodName)) := by decide +kernel
theorem tw_977 : lw_tbl[977]? = some (Jvm.Cond.code ({ cls := "FormulaSheet$Cells", name := "rowIn", desc := "(I)I" } : Jvm.MethodName) prog_4_method_6_code (4 : Nat) (Option.some Jvm.ClassFile.FieldType.int)) := by decide +kernel
theorem tw_1015 : lw_tbl[1015]? = some (Jvm.Cond.methodLink "FormulaSheet" (109 : Nat) ({ cls := "FormulaSheet$Cells", name := "rowOut", desc := "(I)I" } : Jvm.MethodName)) := by decide +kernel
theorem tw_1016 : lw_tbl[1016]? = some (Jvm.Cond.instanceMethod ({ cls := "FormulaSheet$Cells", name := "rowOut", desc := "(I)I" } : Jvm.MethodName)) := by decide +kernel
theorem tw_1017 : lw_tbl[1017]? = some (Jvm.Cond.selects "FormulaSheet$Cells" ({ cls := "FormulaSheet$Cells", name := "rowOut", desc := "(I)I" } : Jvm.MethodName) ({ cls := "FormulaSheet$Cells", name := "rowOut", desc := "(I)I" } : Jvm.MethodName)) := by decide +kernel
theorem tw_1018 : lw_tbl[1018]? = some (Jvm.Cond.code ({ cls := "FormulaSheet$Cells", name := "rowOut", desc := "(I)I" } : Jvm.MethodName) prog_4_method_7_code (4 : Nat) (Option.some Jvm.ClassFile.FieldType.int)) := by decide +kernel
theorem tw_1044 : lw_tbl[1044]? = some (Jvm.Cond.methodLink "FormulaSheet" (112 : Nat) ({ cls := "FormulaSheet$Cells", name := "settle", desc := "()V" } : Jvm.MethodName)) := by decide +kernel
theorem tw_1045 : lw_tbl[1045]? = some (Jvm.Cond.methodLink "FormulaSheet" (115 : Nat) ({ cls := "FormulaSheet$Cells", name := "isCircular", desc := "(I)Z" } : Jvm.MethodName)) := by decide +kernel
theorem tw_1046 : lw_tbl[1046]? = some (Jvm.Cond.classLink "FormulaSheet" (119 : Nat) "java/lang/ArithmeticException") := by decide +kernel
theorem tw_1076 : lw_tbl[1076]? = some (Jvm.Cond.classLink "FormulaSheet" (126 : Nat) "java/lang/UnsupportedOperationException") := by decide +kernel
theorem tw_1091 : lw_tbl[1091]? = some (Jvm.Cond.methodLink "FormulaSheet" (129 : Nat) ({ cls := "java/lang/StringBuilder", name := "setLength", desc := "(I)V" } : Jvm.MethodName)) := by decide +kernel
theorem tw_1092 : lw_tbl[1092]? = some (Jvm.Cond.instanceMethod ({ cls := "java/lang/StringBuilder", name := "setLength", desc := "(I)V" } : Jvm.MethodName)) := by decide +kernel
theorem tw_1093 : lw_tbl[1093]? = some (Jvm.Cond.selects "java/lang/StringBuilder" ({ cls := "java/lang/StringBuilder", name := "setLength", desc := "(I)V" } : Jvm.MethodName) ({ cls := "java/lang/StringBuilder", name := "setLength", desc := "(I)V" } : Jvm.MethodName)) := by decide +kernel
theorem tw_1094 : lw_tbl[1094]? = some (Jvm.Cond.code ({ cls := "java/lang/StringBuilder", name := "setLength", desc := "(I)V" } : Jvm.MethodName) prog_29_method_89_code (2 : Nat) (Option.none : Option Jvm.ClassFile.FieldType)) := by decide +kernel
theorem tw_1250 : lw_tbl[1250]? = some (Jvm.Cond.instanceMethod ({ cls := "java/lang/StringBuilder", name := "length", desc := "()I" } : Jvm.MethodName)) := by decide +kernel
theorem tw_1251 : lw_tbl[1251]? = some (Jvm.Cond.code ({ cls := "java/lang/StringBuilder", name := "length", desc := "()I" } : Jvm.MethodName) prog_29_method_93_code (1 : Nat) (Option.some Jvm.ClassFile.FieldType.int)) := by decide +kernel
theorem tw_1350 : lw_tbl[1350]? = some (Jvm.Cond.methodLink "FormulaSheet" (132 : Nat) ({ cls := "FormulaSheet$Part", name := "write", desc := "(Ljava/lang/StringBuilder;I)V" } : Jvm.MethodName)) := by decide +kernel
theorem tw_1431 : lw_tbl[1431]? = some (Jvm.Cond.methodLink "FormulaSheet" (136 : Nat) ({ cls := "java/lang/StringBuilder", name := "length", desc := "()I" } : Jvm.MethodName)) := by decide +kernel
theorem tw_1432 : lw_tbl[1432]? = some (Jvm.Cond.methodLink "FormulaSheet" (138 : Nat) ({ cls := "java/lang/StringBuilder", name := "charAt", desc := "(I)C" } : Jvm.MethodName)) := by decide +kernel
theorem tw_1433 : lw_tbl[1433]? = some (Jvm.Cond.instanceMethod ({ cls := "java/lang/StringBuilder", name := "charAt", desc := "(I)C" } : Jvm.MethodName)) := by decide +kernel
theorem tw_1434 : lw_tbl[1434]? = some (Jvm.Cond.selects "java/lang/StringBuilder" ({ cls := "java/lang/StringBuilder", name := "charAt", desc := "(I)C" } : Jvm.MethodName) ({ cls := "java/lang/StringBuilder", name := "charAt", desc := "(I)C" } : Jvm.MethodName)) := by decide +kernel
theorem tw_1435 : lw_tbl[1435]? = some (Jvm.Cond.code ({ cls := "java/lang/StringBuilder", name := "charAt", desc := "(I)C" } : Jvm.MethodName) prog_29_method_88_code (2 : Nat) (Option.some Jvm.ClassFile.FieldType.char)) := by decide +kernel
theorem tw_1449 : lw_tbl[1449]? = some (Jvm.Cond.methodLink "FormulaSheet" (146 : Nat) ({ cls := "FormulaSheet$CellSet", name := "has", desc := "(I)Z" } : Jvm.MethodName)) := by decide +kernel
theorem tw_1872 : lw_tbl[1872]? = some (Jvm.Cond.selects "java/lang/StringBuilder" ({ cls := "java/lang/StringBuilder", name := "length", desc := "()I" } : Jvm.MethodName) ({ cls := "java/lang/StringBuilder", name := "length", desc := "()I" } : Jvm.MethodName)) := by decide +kernel
def w_SH_init (mc ms : Nat) (E : fs_E) (h : fs_Hp) (a0 : Nat) (Post : fs_Ps) : Prop := 1 ≤ mc ∧ 4 ≤ ms ∧ ∀ a101 : Nat, h a101 = none → (fun h102 : fs_Hp => ∃ c103 s104 : Nat, c103 ≤ (mc - 1) ∧ s104 ≤ (ms - 4) ∧ (w_LN_init c103 s104 E h102 a101 (fs_kv (fun h105 => fs_pw h105 a0 0 0 (.ref a101) (fun h106 => 1 ≤ ((mc - 1) - c103) ∧ 7 ≤ ((ms - 4) - s104) ∧ ∀ a107 : Nat, h106 a107 = none → (fun h108 : fs_Hp => ∃ c109 s110 : Nat, c109 ≤ (((mc - 1) - c103) - 1) ∧ s110 ≤ (((ms - 4) - s104) - 7) ∧ (w_CE_init c109 s110 E h108 a107 (fs_kv (fun h111 => fs_pw h111 a0 0 1 (.ref a107) (fun h112 => 1 ≤ ((((mc - 1) - c103) - 1) - c109) ∧ 4 ≤ ((((ms - 4) - s104) - 7) - s110) ∧ ∀ a113 : Nat, h112 a113 = none → (fun h114 : fs_Hp => ∃ c115 s116 : Nat, c115 ≤ (((((mc - 1) - c103) - 1) - c109) - 1) ∧ s116 ≤ (((((ms - 4) - s104) - 7) - s110) - 4) ∧ (w_SB_init c115 s116 E h114 a113 (fs_kv (fun h117 => fs_pw h117 a0 0 2 (.ref a113) (fun h118 => fs_pw h118 a0 0 3 (.int (-1)) (fun h119 => Post (.inl none) h119))) (fun C_ h_ => Post (.inr C_) h_)))) (fs_up h112 a113 (.inr (11, [.null, .int 0, .int 0, .int 0]))))) (fun C_ h_ => Post (.inr C_) h_)))) (fs_up h106 a107 (.inr (2, [.null, .null, .null, .null, .null, .null, .int 0]))))) (fun C_ h_ => Post (.inr C_) h_)))) (fs_up h a101 (.inr (1, [.null, .int 0, .int 0, .int 0])))
set_option maxHeartbeats 4000000 in
set_option maxRecDepth 100000 in
theorem kw_SH_init {l : Launch} {s00 : State} {E : fs_E} (hE : fs_SE l s00 E) {mc ms : Nat} {h : fs_Hp} {a0 : Nat} {Post : fs_Ps} (hq : w_SH_init mc ms E h a0 Post) : fs_Ct l s00 E.1 y_SH_init (.code y_SH_init b_SH_init 1 none) { frames := 3, cells := mc, slots := ms, locals := 50 } [.ref a0] h Post := by
  refine fs_Ct.ofR hE.1 (by decide) ?_
  intro p e R s m below meth c hRf hRl hRc hRs B hout hP
  skip
  obtain ⟨hx, hb, hr, hml, hown, hts, hlocks, hname, hK, hw, htr⟩ := id B
  have hown : s.vm.findClass "FormulaSheet" = some m.cls := hown
  have hS := hw.S
  have hl := lv_entry ([.ref a0]) (n := 1) (Nat.le_of_ble_eq_true rfl)
  rw [lg_entry_eq]
  generalize (lg_sl ([.ref a0]) ++ List.replicate (1 - (lg_sl ([.ref a0])).length) Slot.unset).toArray = ls at hl ⊢
  have hl : lv_has ls 1 [(0, .ref a0)] := hl
  unfold w_SH_init at hq
  refine lv_aload_n hx hb d_SH_init_0 rfl (lv_at hl 0 rfl) ?_
  refine W.objInit hx hb hown (hts _ (fs_tb_at 130 tw_130 rfl)) (hts _ (fs_tb_at 131 tw_131 rfl)) (hts _ (fs_tb_at 132 tw_132 rfl)) rfl (by rw [hml]; exact hl.1) rfl d_SH_init_1 (Nat.le_trans (Nat.le_of_ble_eq_true rfl) hRf) (Nat.le_trans (Nat.le_of_ble_eq_true rfl) hRl) ?_
  refine W.eq (g2 := F0 m 4 ls ([])) rfl ?_
  refine lv_aload_n hx hb d_SH_init_4 rfl (lv_at hl 0 rfl) ?_
  obtain ⟨hc_, hs_, hq⟩ := hq
  refine fs_new (fs := [.null, .int 0, .int 0, .int 0]) hx hb hts hown hK c_LN hP hS (fun _ h9 => h9) (hts _ (fs_tb_at 133 tw_133 rfl)) (hts _ (fs_tb_at 134 tw_134 rfl)) (hts _ (fs_tb_at 89 tw_89 rfl)) (by decide) (by omega) (by omega) d_SH_init_5 (fun a101 H hn_ hP hS => ?_)
  have hq := hq a101 hn_
  generalize eh_ : fs_up h a101 (.inr (1, [.null, .int 0, .int 0, .int 0])) = h102 at hP hq
  refine lv_dup hx hb d_SH_init_8 rfl ?_
  obtain ⟨c103, s104, hc_, hs_, hq⟩ := hq
  refine fs_cIN B hl.1 hP hS (kw_LN_init hE hq) (fs_tb_at 135 tw_135 rfl) (fs_tb_at 136 tw_136 rfl) rfl (fs_tb_at 89 tw_89 rfl) (fs_tb_at 137 tw_137 rfl) (by decide) (show (parseMethodDescriptor y_LN_init.desc).map (fun d => d.parameters.length) = some 0 by decide +kernel) rfl d_SH_init_9 (fs_rm (k := 2) (by omega) (by omega) (by omega) (by omega) rfl) (fun v_ h105 H locs hq hP hS => ?_) (fun C_ a_ h_ H locs hq hP hS hX => fs_out (hout _) hlocks hw hP hS hX (show ((0 + 1) + c103) ≤ mc by omega) (show ((0 + 4) + s104) ≤ ms by omega) hq)
  refine fs_cs (k := ((0 + 1) + c103)) (n := ((0 + 4) + s104)) rfl rfl ?_
  replace hq := fs_kv_some hq
  obtain ⟨rfl, hq⟩ := hq
  refine W.eq (g2 := F0 m 12 ls (.ref a101 :: .ref a0 :: [])) rfl ?_
  obtain ⟨fs_, h106, e_, hl_, eh_, hq⟩ := fs_pw_some hq
  refine fs_putF hx hb hts hown hK c_SH hP hS e_ 0 (by decide) (hts _ (fs_tb_at 244 tw_244 rfl)) (fun _ h9 => h9) rfl hname rfl rfl rfl hl_ d_SH_init_12 (fun H locs hP hS => ?_)
  rw [← eh_] at hP
  refine lv_aload_n hx hb d_SH_init_15 rfl (lv_at hl 0 rfl) ?_
  obtain ⟨hc_, hs_, hq⟩ := hq
  refine fs_new (fs := [.null, .null, .null, .null, .null, .null, .int 0]) hx hb hts hown hK c_CE hP hS (fun _ h9 => h9) (hts _ (fs_tb_at 155 tw_155 rfl)) (hts _ (fs_tb_at 156 tw_156 rfl)) (hts _ (fs_tb_at 90 tw_90 rfl)) (by decide) (by omega) (by omega) d_SH_init_16 (fun a107 H hn_ hP hS => ?_)
  have hq := hq a107 hn_
  generalize eh_ : fs_up h106 a107 (.inr (2, [.null, .null, .null, .null, .null, .null, .int 0])) = h108 at hP hq
  refine lv_dup hx hb d_SH_init_19 rfl ?_
  obtain ⟨c109, s110, hc_, hs_, hq⟩ := hq
  refine fs_cI B hl.1 hP hS (kw_CE_init hE hq) (fs_tb_at 157 tw_157 rfl) (fs_tb_at 158 tw_158 rfl) rfl (fs_tb_at 90 tw_90 rfl) (fs_tb_at 159 tw_159 rfl) (by decide) (show (parseMethodDescriptor y_CE_init.desc).map (fun d => d.parameters.length) = some 0 by decide +kernel) rfl d_SH_init_20 (fs_rm (k := 2) (by omega) (by omega) (by omega) (by omega) rfl) (fun v_ h111 H locs hq hP hS => ?_) (fun C_ a_ h_ H locs hq hP hS hX => fs_out (hout _) hlocks hw hP hS hX (show ((((0 + 1) + c103) + 1) + c109) ≤ mc by omega) (show ((((0 + 4) + s104) + 7) + s110) ≤ ms by omega) hq)
  refine fs_cs (k := ((((0 + 1) + c103) + 1) + c109)) (n := ((((0 + 4) + s104) + 7) + s110)) rfl rfl ?_
  replace hq := fs_kv_some hq
  obtain ⟨rfl, hq⟩ := hq
  refine W.eq (g2 := F0 m 23 ls (.ref a107 :: .ref a0 :: [])) rfl ?_
  obtain ⟨fs_, h112, e_, hl_, eh_, hq⟩ := fs_pw_some hq
  refine fs_putF hx hb hts hown hK c_SH hP hS e_ 1 (by decide) (hts _ (fs_tb_at 245 tw_245 rfl)) (fun _ h9 => h9) rfl hname rfl rfl rfl hl_ d_SH_init_23 (fun H locs hP hS => ?_)
  rw [← eh_] at hP
  refine lv_aload_n hx hb d_SH_init_26 rfl (lv_at hl 0 rfl) ?_
  obtain ⟨hc_, hs_, hq⟩ := hq
  refine fs_new (fs := [.null, .int 0, .int 0, .int 0]) hx hb hts hown hK c_SB hP hS (fun _ h9 => h9) (hts _ (fs_tb_at 211 tw_211 rfl)) (hts _ (fs_tb_at 212 tw_212 rfl)) (hts _ (fs_tb_at 93 tw_93 rfl)) (by decide) (by omega) (by omega) d_SH_init_27 (fun a113 H hn_ hP hS => ?_)
  have hq := hq a113 hn_
  generalize eh_ : fs_up h112 a113 (.inr (11, [.null, .int 0, .int 0, .int 0])) = h114 at hP hq
  refine lv_dup hx hb d_SH_init_30 rfl ?_
  obtain ⟨c115, s116, hc_, hs_, hq⟩ := hq
  refine fs_cI B hl.1 hP hS (kw_SB_init hE hq) (fs_tb_at 213 tw_213 rfl) (fs_tb_at 214 tw_214 rfl) rfl (fs_tb_at 93 tw_93 rfl) (fs_tb_at 215 tw_215 rfl) (by decide) (show (parseMethodDescriptor y_SB_init.desc).map (fun d => d.parameters.length) = some 0 by decide +kernel) rfl d_SH_init_31 (fs_rm (k := 2) (by omega) (by omega) (by omega) (by omega) rfl) (fun v_ h117 H locs hq hP hS => ?_) (fun C_ a_ h_ H locs hq hP hS hX => fs_out (hout _) hlocks hw hP hS hX (show ((((((0 + 1) + c103) + 1) + c109) + 1) + c115) ≤ mc by omega) (show ((((((0 + 4) + s104) + 7) + s110) + 4) + s116) ≤ ms by omega) hq)
  refine fs_cs (k := ((((((0 + 1) + c103) + 1) + c109) + 1) + c115)) (n := ((((((0 + 4) + s104) + 7) + s110) + 4) + s116)) rfl rfl ?_
  replace hq := fs_kv_some hq
  obtain ⟨rfl, hq⟩ := hq
  refine W.eq (g2 := F0 m 34 ls (.ref a113 :: .ref a0 :: [])) rfl ?_
  obtain ⟨fs_, h118, e_, hl_, eh_, hq⟩ := fs_pw_some hq
  refine fs_putF hx hb hts hown hK c_SH hP hS e_ 2 (by decide) (hts _ (fs_tb_at 246 tw_246 rfl)) (fun _ h9 => h9) rfl hname rfl rfl rfl hl_ d_SH_init_34 (fun H locs hP hS => ?_)
  rw [← eh_] at hP
  refine lv_aload_n hx hb d_SH_init_37 rfl (lv_at hl 0 rfl) ?_
  refine lv_iconst (v := (-1)) hx hb d_SH_init_38 (by decide) ?_
  obtain ⟨fs_, h119, e_, hl_, eh_, hq⟩ := fs_pw_some hq
  refine fs_put hx hb hts hown hK c_SH hP hS e_ 3 (by decide) (hts _ (fs_tb_at 247 tw_247 rfl)) (fun _ h9 => h9) rfl rfl rfl hl_ d_SH_init_39 (fun H locs hP hS => ?_)
  rw [← eh_] at hP
  exact fs_vret hx hb hr hlocks hw hP hS (by omega) (by omega) hq d_SH_init_42
def w_SH_cellAt (mc ms : Nat) (E : fs_E) (h : fs_Hp) (x1 : Int32) (x2 : Int32) (Post : fs_Ps) : Prop := w_SH_isInSheet E h x1 x2 (fs_ki (fun x102 h101 => (if x102 = 0 then 1 ≤ mc ∧ 6 ≤ ms ∧ Post (.inr "java/lang/IndexOutOfBoundsException") h101 else Post (.inl (some (.int ((x2 * 8) + x1)))) h101)) (fun C_ h_ => Post (.inr C_) h_))
set_option maxHeartbeats 4000000 in
set_option maxRecDepth 100000 in
theorem kw_SH_cellAt {l : Launch} {s00 : State} {E : fs_E} (hE : fs_SE l s00 E) {mc ms : Nat} {h : fs_Hp} {x1 : Int32} {x2 : Int32} {Post : fs_Ps} (hq : w_SH_cellAt mc ms E h x1 x2 Post) : fs_Ct l s00 E.1 y_SH_cellAt (.code y_SH_cellAt b_SH_cellAt 2 (some .int)) { frames := 6, cells := mc, slots := ms, locals := 81 } [.int x1, .int x2] h Post := by
  refine fs_Ct.ofR hE.1 (by decide) ?_
  intro p e R s m below meth c hRf hRl hRc hRs B hout hP
  skip
  obtain ⟨hx, hb, hr, hml, hown, hts, hlocks, hname, hK, hw, htr⟩ := id B
  have hown : s.vm.findClass "FormulaSheet" = some m.cls := hown
  have hS := hw.S
  have hl := lv_entry ([.int x1, .int x2]) (n := 2) (Nat.le_of_ble_eq_true rfl)
  rw [lg_entry_eq]
  generalize (lg_sl ([.int x1, .int x2]) ++ List.replicate (2 - (lg_sl ([.int x1, .int x2])).length) Slot.unset).toArray = ls at hl ⊢
  have hl : lv_has ls 2 [(0, .int x1), (1, .int x2)] := hl
  unfold w_SH_cellAt at hq
  refine lv_iload_n hx hb d_SH_cellAt_0 rfl (lv_at hl 0 rfl) ?_
  refine lv_iload_n hx hb d_SH_cellAt_1 rfl (lv_at hl 1 rfl) ?_
  refine fs_cS B hl.1 hP hS (kw_SH_isInSheet hE hq) (fs_tb_at 591 tw_591 rfl) (fs_tb_at 592 tw_592 rfl) (fs_tb_at 88 tw_88 rfl) (fs_tb_at 593 tw_593 rfl) (by decide) (show (parseMethodDescriptor y_SH_isInSheet.desc).map (fun d => d.parameters.length) = some 2 by decide +kernel) rfl d_SH_cellAt_2 (fs_rm (k := 0) (by omega) (by omega) (by omega) (by omega) rfl) (fun v_ h101 H locs hq hP hS => ?_) (fun C_ a_ h_ H locs hq hP hS hX => fs_out (hout _) hlocks hw hP hS hX (show 0 ≤ mc by omega) (show 0 ≤ ms by omega) hq)
  refine fs_cs (k := 0) (n := 0) rfl rfl ?_
  replace hq := fs_ki_some hq
  obtain ⟨x102, rfl, hq⟩ := hq
  refine W.eq (g2 := F0 m 5 ls (.int x102 :: [])) rfl ?_
  refine lv_if_ne (tgt := 16) hx hb d_SH_cellAt_5 (by decide) (fun c_103 => ?_) (fun c_103 => ?_)
  · have hq := fs_wifn c_103 hq
    refine lv_iload_n hx hb d_SH_cellAt_16 rfl (lv_at hl 1 rfl) ?_
    refine lv_bipush (v := 8) hx hb d_SH_cellAt_17 (by decide) ?_
    refine lv_imul hx hb d_SH_cellAt_19 ?_
    refine lv_iload_n hx hb d_SH_cellAt_20 rfl (lv_at hl 0 rfl) ?_
    refine lv_iadd hx hb d_SH_cellAt_21 ?_
    exact fs_iret hx hb hr hlocks hw hP hS (vp_nar_int _) (by omega) (by omega) hq d_SH_cellAt_22
  · have hq := fs_wifp c_103 hq
    obtain ⟨hc_, hs_, hq⟩ := hq
    refine fs_thr hE B (names := ["java/lang/RuntimeException", "java/lang/Exception"]) (C := "java/lang/IndexOutOfBoundsException") (k := 0) (by decide +kernel) (by decide) (by decide) hP hS (fs_tb_at 594 tw_594 rfl) (fs_tb_at 102 tw_102 rfl) hl.1 d_SH_cellAt_8 d_SH_cellAt_11 d_SH_cellAt_12 d_SH_cellAt_15 rfl (nl := 2) rfl (by omega) (by omega) (by omega) (by omega) (fun x_ H locs hP hS hX => ?_)
    exact fs_out (hout _) hlocks hw hP hS hX (by omega) (by omega) hq
def w_SH_filledCellAt (mc ms : Nat) (E : fs_E) (h : fs_Hp) (a0 : Nat) (x1 : Int32) (x2 : Int32) (Post : fs_Ps) : Prop := ∃ c101 s102 : Nat, c101 ≤ mc ∧ s102 ≤ ms ∧ (w_SH_cellAt c101 s102 E h x1 x2 (fs_ki (fun x104 h103 => fs_gr h103 a0 0 1 (fun a105 => fs_gr h103 a105 2 0 (fun a106 => fs_ai h103 a106 (E.1.2 3) x104 (fun x107 => (if x107 = 0 then 1 ≤ (mc - c101) ∧ 6 ≤ (ms - s102) ∧ Post (.inr "java/util/NoSuchElementException") h103 else Post (.inl (some (.int x104))) h103))))) (fun C_ h_ => Post (.inr C_) h_)))
set_option maxHeartbeats 4000000 in
set_option maxRecDepth 100000 in
theorem kw_SH_filledCellAt {l : Launch} {s00 : State} {E : fs_E} (hE : fs_SE l s00 E) {mc ms : Nat} {h : fs_Hp} {a0 : Nat} {x1 : Int32} {x2 : Int32} {Post : fs_Ps} (hq : w_SH_filledCellAt mc ms E h a0 x1 x2 Post) : fs_Ct l s00 E.1 y_SH_filledCellAt (.code y_SH_filledCellAt b_SH_filledCellAt 4 (some .int)) { frames := 7, cells := mc, slots := ms, locals := 94 } [.ref a0, .int x1, .int x2] h Post := by
  refine fs_Ct.ofR hE.1 (by decide) ?_
  intro p e R s m below meth c hRf hRl hRc hRs B hout hP
  skip
  obtain ⟨hx, hb, hr, hml, hown, hts, hlocks, hname, hK, hw, htr⟩ := id B
  have hown : s.vm.findClass "FormulaSheet" = some m.cls := hown
  have hS := hw.S
  have hl := lv_entry ([.ref a0, .int x1, .int x2]) (n := 4) (Nat.le_of_ble_eq_true rfl)
  rw [lg_entry_eq]
  generalize (lg_sl ([.ref a0, .int x1, .int x2]) ++ List.replicate (4 - (lg_sl ([.ref a0, .int x1, .int x2])).length) Slot.unset).toArray = ls at hl ⊢
  have hl : lv_has ls 4 [(0, .ref a0), (1, .int x1), (2, .int x2)] := hl
  unfold w_SH_filledCellAt at hq
  refine lv_iload_n hx hb d_SH_filledCellAt_0 rfl (lv_at hl 1 rfl) ?_
  refine lv_iload_n hx hb d_SH_filledCellAt_1 rfl (lv_at hl 2 rfl) ?_
  obtain ⟨c101, s102, hc_, hs_, hq⟩ := hq
  refine fs_cS B hl.1 hP hS (kw_SH_cellAt hE hq) (fs_tb_at 588 tw_588 rfl) (fs_tb_at 589 tw_589 rfl) (fs_tb_at 88 tw_88 rfl) (fs_tb_at 590 tw_590 rfl) (by decide) (show (parseMethodDescriptor y_SH_cellAt.desc).map (fun d => d.parameters.length) = some 2 by decide +kernel) rfl d_SH_filledCellAt_2 (fs_rm (k := 0) (by omega) (by omega) (by omega) (by omega) rfl) (fun v_ h103 H locs hq hP hS => ?_) (fun C_ a_ h_ H locs hq hP hS hX => fs_out (hout _) hlocks hw hP hS hX (show (0 + c101) ≤ mc by omega) (show (0 + s102) ≤ ms by omega) hq)
  refine fs_cs (k := (0 + c101)) (n := (0 + s102)) rfl rfl ?_
  replace hq := fs_ki_some hq
  obtain ⟨x104, rfl, hq⟩ := hq
  refine W.eq (g2 := F0 m 5 ls (.int x104 :: [])) rfl ?_
  refine lv_istore_n (lv' := [(3, .int x104), (0, .ref a0), (1, .int x1), (2, .int x2)]) hx hb d_SH_filledCellAt_5 rfl hl (by decide) rfl (fun ls hl => ?_)
  refine lv_aload_n hx hb d_SH_filledCellAt_6 rfl (lv_at hl 1 rfl) ?_
  obtain ⟨fs_, a105, he_, hv_, hq⟩ := fs_gr_some hq
  refine fs_get hx hb hts hown hK c_SH hP he_ 1 (by decide) (hts _ (fs_tb_at 245 tw_245 rfl)) (fun _ h9 => h9) hv_ d_SH_filledCellAt_7 ?_
  obtain ⟨fs_, a106, he_, hv_, hq⟩ := fs_gr_some hq
  refine fs_get hx hb hts hown hK c_CE hP he_ 0 (by decide) (hts _ (fs_tb_at 182 tw_182 rfl)) (fun _ h9 => h9) hv_ d_SH_filledCellAt_10 ?_
  refine lv_iload_n hx hb d_SH_filledCellAt_13 rfl (lv_at hl 0 rfl) ?_
  obtain ⟨n_, f_, x107, e_, hi_, ex_, hq⟩ := fs_ai_some hq
  refine fs_zald hx hb hK hP 3 e_ rfl hi_ d_SH_filledCellAt_14 ?_
  rw [← ex_]
  refine lv_if_ne (tgt := 26) hx hb d_SH_filledCellAt_15 (by decide) (fun c_108 => ?_) (fun c_108 => ?_)
  · have hq := fs_wifn c_108 hq
    refine lv_iload_n hx hb d_SH_filledCellAt_26 rfl (lv_at hl 0 rfl) ?_
    exact fs_iret hx hb hr hlocks hw hP hS (vp_nar_int _) (by omega) (by omega) hq d_SH_filledCellAt_27
  · have hq := fs_wifp c_108 hq
    obtain ⟨hc_, hs_, hq⟩ := hq
    refine fs_thr hE B (names := ["java/lang/RuntimeException", "java/lang/Exception"]) (C := "java/util/NoSuchElementException") (k := 0) (by decide +kernel) (by decide) (by decide) hP hS (fs_tb_at 892 tw_892 rfl) (fs_tb_at 114 tw_114 rfl) hl.1 d_SH_filledCellAt_18 d_SH_filledCellAt_21 d_SH_filledCellAt_22 d_SH_filledCellAt_25 rfl (nl := 2) rfl (by omega) (by omega) (by omega) (by omega) (fun x_ H locs hP hS hX => ?_)
    exact fs_out (hout _) hlocks hw hP hS hX (by omega) (by omega) hq
def w_SH_type_J10 (E : fs_E) (Post : fs_Ps)  (bc bs : Nat) (h1 : fs_Hp) : Prop := 1 ≤ bc ∧ 6 ≤ bs ∧ Post (.inr "java/lang/IllegalArgumentException") h1
def w_SH_type (mc ms : Nat) (E : fs_E) (h : fs_Hp) (a0 : Nat) (x1 : Int32) (Post : fs_Ps) : Prop := (if x1 < 0 then w_SH_type_J10 E Post  mc ms h else (if x1 ≤ 127 then fs_gr h a0 0 0 (fun a103 => fs_gi h a103 1 1 (fun x104 => (if x104 < 40 then fs_gr h a0 0 0 (fun a106 => fs_isc h a106 1 ∧ (w_LN_add E h a106 ((Int32.toUInt32 x1 % 65536).toInt32) (fs_kv (fun h107 => fs_gr h107 a0 0 0 (fun a108 => fs_gi h107 a108 1 1 (fun x109 => Post (.inl (some (.int x109))) h107))) (fun C_ h_ => Post (.inr C_) h_)))) else 1 ≤ mc ∧ 6 ≤ ms ∧ Post (.inr "java/lang/IllegalStateException") h))) else w_SH_type_J10 E Post  mc ms h))
set_option maxHeartbeats 4000000 in
set_option maxRecDepth 100000 in
theorem kw_SH_type {l : Launch} {s00 : State} {E : fs_E} (hE : fs_SE l s00 E) {mc ms : Nat} {h : fs_Hp} {a0 : Nat} {x1 : Int32} {Post : fs_Ps} (hq : w_SH_type mc ms E h a0 x1 Post) : fs_Ct l s00 E.1 y_SH_type (.code y_SH_type b_SH_type 2 (some .int)) { frames := 6, cells := mc, slots := ms, locals := 81 } [.ref a0, .int x1] h Post := by
  refine fs_Ct.ofR hE.1 (by decide) ?_
  intro p e R s m below meth c hRf hRl hRc hRs B hout hP
  skip
  obtain ⟨hx, hb, hr, hml, hown, hts, hlocks, hname, hK, hw, htr⟩ := id B
  have hown : s.vm.findClass "FormulaSheet" = some m.cls := hown
  have hS := hw.S
  have hJ10 : ∀  (bc bs uc us : Nat) (h1 : fs_Hp) (H : Heap) (locs : List Loc) (ls : Array Slot), w_SH_type_J10 E Post  bc bs h1 → fs_P E.1.1 fs_cl (fs_A s00) h1 H → va_S (fs_A s00) s00.heap H locs → uc + bc ≤ mc → us + bs ≤ ms → lv_has ls 2 [] → W p l e R s m ([.ref a0, .int x1] : List Value).toArray below meth c H locs uc us (fx_MQ below (fs_Qc s00 E.1 Post) ([.ref a0, .int x1] : List Value).toArray s mc ms (fs_A s00)) (F0 m 10 ls ([])) := by
    intro  bc bs uc us h1 H locs ls hq hP hS hu1 hu2 hl
    unfold w_SH_type_J10 at hq
    obtain ⟨hc_, hs_, hq⟩ := hq
    refine fs_thr hE B (names := ["java/lang/RuntimeException", "java/lang/Exception"]) (C := "java/lang/IllegalArgumentException") (k := 0) (by decide +kernel) (by decide) (by decide) hP hS (fs_tb_at 492 tw_492 rfl) (fs_tb_at 100 tw_100 rfl) hl.1 d_SH_type_10 d_SH_type_13 d_SH_type_14 d_SH_type_17 rfl (nl := 2) rfl (by omega) (by omega) (by omega) (by omega) (fun x_ H locs hP hS hX => ?_)
    exact fs_out (hout _) hlocks hw hP hS hX (by omega) (by omega) hq
  have hl := lv_entry ([.ref a0, .int x1]) (n := 2) (Nat.le_of_ble_eq_true rfl)
  rw [lg_entry_eq]
  generalize (lg_sl ([.ref a0, .int x1]) ++ List.replicate (2 - (lg_sl ([.ref a0, .int x1])).length) Slot.unset).toArray = ls at hl ⊢
  have hl : lv_has ls 2 [(0, .ref a0), (1, .int x1)] := hl
  unfold w_SH_type at hq
  refine lv_iload_n hx hb d_SH_type_0 rfl (lv_at hl 1 rfl) ?_
  refine lv_if_lt (tgt := 10) hx hb d_SH_type_1 (by decide) (fun c_101 => ?_) (fun c_101 => ?_)
  · have hq := fs_wifp c_101 hq
    exact hJ10  mc ms 0 0 _ _ _ _ hq hP hS (by omega) (by omega) (show lv_has ls 2 [] from lv_sub hl [] rfl)
  · have hq := fs_wifn c_101 hq
    refine lv_iload_n hx hb d_SH_type_4 rfl (lv_at hl 1 rfl) ?_
    refine lv_bipush (v := 127) hx hb d_SH_type_5 (by decide) ?_
    refine lv_icmp_le (tgt := 18) hx hb d_SH_type_7 (by decide) (fun c_102 => ?_) (fun c_102 => ?_)
    · have hq := fs_wifp c_102 hq
      refine lv_aload_n hx hb d_SH_type_18 rfl (lv_at hl 0 rfl) ?_
      obtain ⟨fs_, a103, he_, hv_, hq⟩ := fs_gr_some hq
      refine fs_get hx hb hts hown hK c_SH hP he_ 0 (by decide) (hts _ (fs_tb_at 244 tw_244 rfl)) (fun _ h9 => h9) hv_ d_SH_type_19 ?_
      obtain ⟨fs_, x104, he_, hv_, hq⟩ := fs_gi_some hq
      refine fs_get hx hb hts hown hK c_LN hP he_ 1 (by decide) (hts _ (fs_tb_at 141 tw_141 rfl)) (fun _ h9 => h9) hv_ d_SH_type_22 ?_
      refine lv_bipush (v := 40) hx hb d_SH_type_25 (by decide) ?_
      refine lv_icmp_lt (tgt := 38) hx hb d_SH_type_27 (by decide) (fun c_105 => ?_) (fun c_105 => ?_)
      · have hq := fs_wifp c_105 hq
        refine lv_aload_n hx hb d_SH_type_38 rfl (lv_at hl 0 rfl) ?_
        obtain ⟨fs_, a106, he_, hv_, hq⟩ := fs_gr_some hq
        refine fs_get hx hb hts hown hK c_SH hP he_ 0 (by decide) (hts _ (fs_tb_at 244 tw_244 rfl)) (fun _ h9 => h9) hv_ d_SH_type_39 ?_
        refine lv_iload_n hx hb d_SH_type_42 rfl (lv_at hl 1 rfl) ?_
        refine lv_i2c hx hb d_SH_type_43 rfl ?_
        obtain ⟨hi_, hq⟩ := hq
        obtain ⟨fs_, he_⟩ := fs_isc_some hi_
        refine fs_cV B hl.1 hP hS (kw_LN_add hE hq) (fs_tb_at 576 tw_576 rfl) he_ rfl (fs_tb_at 577 tw_577 rfl) (fs_tb_at 578 tw_578 rfl) (fs_tb_at 89 tw_89 rfl) (fs_tb_at 579 tw_579 rfl) (by decide) (show (parseMethodDescriptor y_LN_add.desc).map (fun d => d.parameters.length) = some 1 by decide +kernel) rfl d_SH_type_44 (fs_rm (k := 0) (by omega) (by omega) (by omega) (by omega) rfl) (fun v_ h107 H locs hq hP hS => ?_) (fun C_ a_ h_ H locs hq hP hS hX => fs_out (hout _) hlocks hw hP hS hX (show 0 ≤ mc by omega) (show 0 ≤ ms by omega) hq)
        refine fs_cs (k := 0) (n := 0) rfl rfl ?_
        replace hq := fs_kv_some hq
        obtain ⟨rfl, hq⟩ := hq
        refine W.eq (g2 := F0 m 47 ls ([])) rfl ?_
        refine lv_aload_n hx hb d_SH_type_47 rfl (lv_at hl 0 rfl) ?_
        obtain ⟨fs_, a108, he_, hv_, hq⟩ := fs_gr_some hq
        refine fs_get hx hb hts hown hK c_SH hP he_ 0 (by decide) (hts _ (fs_tb_at 244 tw_244 rfl)) (fun _ h9 => h9) hv_ d_SH_type_48 ?_
        obtain ⟨fs_, x109, he_, hv_, hq⟩ := fs_gi_some hq
        refine fs_get hx hb hts hown hK c_LN hP he_ 1 (by decide) (hts _ (fs_tb_at 141 tw_141 rfl)) (fun _ h9 => h9) hv_ d_SH_type_51 ?_
        exact fs_iret hx hb hr hlocks hw hP hS (vp_nar_int _) (by omega) (by omega) hq d_SH_type_54
      · have hq := fs_wifn c_105 hq
        obtain ⟨hc_, hs_, hq⟩ := hq
        refine fs_thr hE B (names := ["java/lang/RuntimeException", "java/lang/Exception"]) (C := "java/lang/IllegalStateException") (k := 0) (by decide +kernel) (by decide) (by decide) hP hS (fs_tb_at 561 tw_561 rfl) (fs_tb_at 101 tw_101 rfl) hl.1 d_SH_type_30 d_SH_type_33 d_SH_type_34 d_SH_type_37 rfl (nl := 2) rfl (by omega) (by omega) (by omega) (by omega) (fun x_ H locs hP hS hX => ?_)
        exact fs_out (hout _) hlocks hw hP hS hX (by omega) (by omega) hq
    · have hq := fs_wifn c_102 hq
      exact hJ10  mc ms 0 0 _ _ _ _ hq hP hS (by omega) (by omega) (show lv_has ls 2 [] from lv_sub hl [] rfl)
def w_SH_errorAt (E : fs_E) (h : fs_Hp) (a0 : Nat) (Post : fs_Ps) : Prop := fs_gi h a0 0 3 (fun x101 => Post (.inl (some (.int x101))) h)
set_option maxHeartbeats 4000000 in
set_option maxRecDepth 100000 in
theorem kw_SH_errorAt {l : Launch} {s00 : State} {E : fs_E} (hE : fs_SE l s00 E) {h : fs_Hp} {a0 : Nat} {Post : fs_Ps} (hq : w_SH_errorAt E h a0 Post) : fs_Ct l s00 E.1 y_SH_errorAt (.code y_SH_errorAt b_SH_errorAt 1 (some .int)) { frames := 0, cells := 0, slots := 0, locals := 0 } [.ref a0] h Post := by
  refine fs_Ct.ofR hE.1 (by decide) ?_
  intro p e R s m below meth c hRf hRl hRc hRs B hout hP
  skip
  obtain ⟨hx, hb, hr, hml, hown, hts, hlocks, hname, hK, hw, htr⟩ := id B
  have hown : s.vm.findClass "FormulaSheet" = some m.cls := hown
  have hS := hw.S
  have hl := lv_entry ([.ref a0]) (n := 1) (Nat.le_of_ble_eq_true rfl)
  rw [lg_entry_eq]
  generalize (lg_sl ([.ref a0]) ++ List.replicate (1 - (lg_sl ([.ref a0])).length) Slot.unset).toArray = ls at hl ⊢
  have hl : lv_has ls 1 [(0, .ref a0)] := hl
  unfold w_SH_errorAt at hq
  refine lv_aload_n hx hb d_SH_errorAt_0 rfl (lv_at hl 0 rfl) ?_
  obtain ⟨fs_, x101, he_, hv_, hq⟩ := fs_gi_some hq
  refine fs_get hx hb hts hown hK c_SH hP he_ 3 (by decide) (hts _ (fs_tb_at 247 tw_247 rfl)) (fun _ h9 => h9) hv_ d_SH_errorAt_1 ?_
  exact fs_iret hx hb hr hlocks hw hP hS (vp_nar_int _) (Nat.le_refl _) (Nat.le_refl _) hq d_SH_errorAt_4
def w_SH_put (mc ms : Nat) (E : fs_E) (h : fs_Hp) (a0 : Nat) (x1 : Int32) (x2 : Int32) (x3 : UInt64) (Post : fs_Ps) : Prop := ∃ c101 s102 : Nat, c101 ≤ mc ∧ s102 ≤ ms ∧ (w_SH_cellAt c101 s102 E h x1 x2 (fs_ki (fun x104 h103 => w_SH_isBad E h103 x3 (fs_ki (fun x106 h105 => (if x106 = 0 then fs_gr h105 a0 0 1 (fun a108 => fs_isc h105 a108 2 ∧ (w_CE_setNumber E h105 a108 x104 x3 (fs_kv (fun h109 => Post (.inl none) h109) (fun C_ h_ => Post (.inr C_) h_)))) else 1 ≤ (mc - c101) ∧ 6 ≤ (ms - s102) ∧ Post (.inr "java/lang/IllegalArgumentException") h105)) (fun C_ h_ => Post (.inr C_) h_))) (fun C_ h_ => Post (.inr C_) h_)))
set_option maxHeartbeats 4000000 in
set_option maxRecDepth 100000 in
theorem kw_SH_put {l : Launch} {s00 : State} {E : fs_E} (hE : fs_SE l s00 E) {mc ms : Nat} {h : fs_Hp} {a0 : Nat} {x1 : Int32} {x2 : Int32} {x3 : UInt64} {Post : fs_Ps} (hq : w_SH_put mc ms E h a0 x1 x2 x3 Post) : fs_Ct l s00 E.1 y_SH_put (.code y_SH_put b_SH_put 6 none) { frames := 7, cells := mc, slots := ms, locals := 94 } [.ref a0, .int x1, .int x2, .double x3] h Post := by
  refine fs_Ct.ofR hE.1 (by decide) ?_
  intro p e R s m below meth c hRf hRl hRc hRs B hout hP
  skip
  obtain ⟨hx, hb, hr, hml, hown, hts, hlocks, hname, hK, hw, htr⟩ := id B
  have hown : s.vm.findClass "FormulaSheet" = some m.cls := hown
  have hS := hw.S
  have hl := lv_entry ([.ref a0, .int x1, .int x2, .double x3]) (n := 6) (Nat.le_of_ble_eq_true rfl)
  rw [lg_entry_eq]
  generalize (lg_sl ([.ref a0, .int x1, .int x2, .double x3]) ++ List.replicate (6 - (lg_sl ([.ref a0, .int x1, .int x2, .double x3])).length) Slot.unset).toArray = ls at hl ⊢
  have hl : lv_has ls 6 [(0, .ref a0), (1, .int x1), (2, .int x2), (3, .double x3)] := hl
  unfold w_SH_put at hq
  refine lv_iload_n hx hb d_SH_put_0 rfl (lv_at hl 1 rfl) ?_
  refine lv_iload_n hx hb d_SH_put_1 rfl (lv_at hl 2 rfl) ?_
  obtain ⟨c101, s102, hc_, hs_, hq⟩ := hq
  refine fs_cS B hl.1 hP hS (kw_SH_cellAt hE hq) (fs_tb_at 588 tw_588 rfl) (fs_tb_at 589 tw_589 rfl) (fs_tb_at 88 tw_88 rfl) (fs_tb_at 590 tw_590 rfl) (by decide) (show (parseMethodDescriptor y_SH_cellAt.desc).map (fun d => d.parameters.length) = some 2 by decide +kernel) rfl d_SH_put_2 (fs_rm (k := 0) (by omega) (by omega) (by omega) (by omega) rfl) (fun v_ h103 H locs hq hP hS => ?_) (fun C_ a_ h_ H locs hq hP hS hX => fs_out (hout _) hlocks hw hP hS hX (show (0 + c101) ≤ mc by omega) (show (0 + s102) ≤ ms by omega) hq)
  refine fs_cs (k := (0 + c101)) (n := (0 + s102)) rfl rfl ?_
  replace hq := fs_ki_some hq
  obtain ⟨x104, rfl, hq⟩ := hq
  refine W.eq (g2 := F0 m 5 ls (.int x104 :: [])) rfl ?_
  refine lv_istore (lv' := [(5, .int x104), (0, .ref a0), (1, .int x1), (2, .int x2), (3, .double x3)]) hx hb d_SH_put_5 hl (by decide) rfl (fun ls hl => ?_)
  refine lv_dload_n hx hb d_SH_put_7 rfl (lv_at hl 4 rfl) ?_
  refine fs_cS B hl.1 hP hS (kw_SH_isBad hE hq) (fs_tb_at 419 tw_419 rfl) (fs_tb_at 409 tw_409 rfl) (fs_tb_at 88 tw_88 rfl) (fs_tb_at 410 tw_410 rfl) (by decide) (show (parseMethodDescriptor y_SH_isBad.desc).map (fun d => d.parameters.length) = some 1 by decide +kernel) rfl d_SH_put_8 (fs_rm (k := 0) (by omega) (by omega) (by omega) (by omega) rfl) (fun v_ h105 H locs hq hP hS => ?_) (fun C_ a_ h_ H locs hq hP hS hX => fs_out (hout _) hlocks hw hP hS hX (show (0 + c101) ≤ mc by omega) (show (0 + s102) ≤ ms by omega) hq)
  refine fs_cs (k := (0 + c101)) (n := (0 + s102)) rfl rfl ?_
  replace hq := fs_ki_some hq
  obtain ⟨x106, rfl, hq⟩ := hq
  refine W.eq (g2 := F0 m 11 ls (.int x106 :: [])) rfl ?_
  refine lv_if_eq (tgt := 22) hx hb d_SH_put_11 (by decide) (fun c_107 => ?_) (fun c_107 => ?_)
  · have hq := fs_wifp c_107 hq
    refine lv_aload_n hx hb d_SH_put_22 rfl (lv_at hl 1 rfl) ?_
    obtain ⟨fs_, a108, he_, hv_, hq⟩ := fs_gr_some hq
    refine fs_get hx hb hts hown hK c_SH hP he_ 1 (by decide) (hts _ (fs_tb_at 245 tw_245 rfl)) (fun _ h9 => h9) hv_ d_SH_put_23 ?_
    refine lv_iload hx hb d_SH_put_26 (lv_at hl 0 rfl) ?_
    refine lv_dload_n hx hb d_SH_put_28 rfl (lv_at hl 4 rfl) ?_
    obtain ⟨hi_, hq⟩ := hq
    obtain ⟨fs_, he_⟩ := fs_isc_some hi_
    refine fs_cV B hl.1 hP hS (kw_CE_setNumber hE hq) (fs_tb_at 876 tw_876 rfl) he_ rfl (fs_tb_at 877 tw_877 rfl) (fs_tb_at 878 tw_878 rfl) (fs_tb_at 90 tw_90 rfl) (fs_tb_at 879 tw_879 rfl) (by decide) (show (parseMethodDescriptor y_CE_setNumber.desc).map (fun d => d.parameters.length) = some 2 by decide +kernel) rfl d_SH_put_29 (fs_rm (k := 0) (by omega) (by omega) (by omega) (by omega) rfl) (fun v_ h109 H locs hq hP hS => ?_) (fun C_ a_ h_ H locs hq hP hS hX => fs_out (hout _) hlocks hw hP hS hX (show (0 + c101) ≤ mc by omega) (show (0 + s102) ≤ ms by omega) hq)
    refine fs_cs (k := (0 + c101)) (n := (0 + s102)) rfl rfl ?_
    replace hq := fs_kv_some hq
    obtain ⟨rfl, hq⟩ := hq
    refine W.eq (g2 := F0 m 32 ls ([])) rfl ?_
    exact fs_vret hx hb hr hlocks hw hP hS (by omega) (by omega) hq d_SH_put_32
  · have hq := fs_wifn c_107 hq
    obtain ⟨hc_, hs_, hq⟩ := hq
    refine fs_thr hE B (names := ["java/lang/RuntimeException", "java/lang/Exception"]) (C := "java/lang/IllegalArgumentException") (k := 0) (by decide +kernel) (by decide) (by decide) hP hS (fs_tb_at 492 tw_492 rfl) (fs_tb_at 100 tw_100 rfl) hl.1 d_SH_put_14 d_SH_put_17 d_SH_put_18 d_SH_put_21 rfl (nl := 2) rfl (by omega) (by omega) (by omega) (by omega) (fun x_ H locs hP hS hX => ?_)
    exact fs_out (hout _) hlocks hw hP hS hX (by omega) (by omega) hq
def w_SH_erase (mc ms : Nat) (E : fs_E) (h : fs_Hp) (a0 : Nat) (x1 : Int32) (x2 : Int32) (Post : fs_Ps) : Prop := ∃ c101 s102 : Nat, c101 ≤ mc ∧ s102 ≤ ms ∧ (fs_isc h a0 0 ∧ (w_SH_filledCellAt c101 s102 E h a0 x1 x2 (fs_ki (fun x104 h103 => fs_gr h103 a0 0 1 (fun a105 => fs_isc h103 a105 2 ∧ (w_CE_empty E h103 a105 x104 (fs_kv (fun h106 => Post (.inl none) h106) (fun C_ h_ => Post (.inr C_) h_))))) (fun C_ h_ => Post (.inr C_) h_))))
set_option maxHeartbeats 4000000 in
set_option maxRecDepth 100000 in
theorem kw_SH_erase {l : Launch} {s00 : State} {E : fs_E} (hE : fs_SE l s00 E) {mc ms : Nat} {h : fs_Hp} {a0 : Nat} {x1 : Int32} {x2 : Int32} {Post : fs_Ps} (hq : w_SH_erase mc ms E h a0 x1 x2 Post) : fs_Ct l s00 E.1 y_SH_erase (.code y_SH_erase b_SH_erase 4 none) { frames := 8, cells := mc, slots := ms, locals := 109 } [.ref a0, .int x1, .int x2] h Post := by
  refine fs_Ct.ofR hE.1 (by decide) ?_
  intro p e R s m below meth c hRf hRl hRc hRs B hout hP
  skip
  obtain ⟨hx, hb, hr, hml, hown, hts, hlocks, hname, hK, hw, htr⟩ := id B
  have hown : s.vm.findClass "FormulaSheet" = some m.cls := hown
  have hS := hw.S
  have hl := lv_entry ([.ref a0, .int x1, .int x2]) (n := 4) (Nat.le_of_ble_eq_true rfl)
  rw [lg_entry_eq]
  generalize (lg_sl ([.ref a0, .int x1, .int x2]) ++ List.replicate (4 - (lg_sl ([.ref a0, .int x1, .int x2])).length) Slot.unset).toArray = ls at hl ⊢
  have hl : lv_has ls 4 [(0, .ref a0), (1, .int x1), (2, .int x2)] := hl
  unfold w_SH_erase at hq
  refine lv_aload_n hx hb d_SH_erase_0 rfl (lv_at hl 0 rfl) ?_
  refine lv_iload_n hx hb d_SH_erase_1 rfl (lv_at hl 1 rfl) ?_
  refine lv_iload_n hx hb d_SH_erase_2 rfl (lv_at hl 2 rfl) ?_
  obtain ⟨c101, s102, hc_, hs_, hq⟩ := hq
  obtain ⟨hi_, hq⟩ := hq
  obtain ⟨fs_, he_⟩ := fs_isc_some hi_
  refine fs_cV B hl.1 hP hS (kw_SH_filledCellAt hE hq) (fs_tb_at 888 tw_888 rfl) he_ rfl (fs_tb_at 890 tw_890 rfl) (fs_tb_at 37 tw_37 rfl) (fs_tb_at 88 tw_88 rfl) (fs_tb_at 891 tw_891 rfl) (by decide) (show (parseMethodDescriptor y_SH_filledCellAt.desc).map (fun d => d.parameters.length) = some 2 by decide +kernel) rfl d_SH_erase_3 (fs_rm (k := 0) (by omega) (by omega) (by omega) (by omega) rfl) (fun v_ h103 H locs hq hP hS => ?_) (fun C_ a_ h_ H locs hq hP hS hX => fs_out (hout _) hlocks hw hP hS hX (show (0 + c101) ≤ mc by omega) (show (0 + s102) ≤ ms by omega) hq)
  refine fs_cs (k := (0 + c101)) (n := (0 + s102)) rfl rfl ?_
  replace hq := fs_ki_some hq
  obtain ⟨x104, rfl, hq⟩ := hq
  refine W.eq (g2 := F0 m 6 ls (.int x104 :: [])) rfl ?_
  refine lv_istore_n (lv' := [(3, .int x104), (0, .ref a0), (1, .int x1), (2, .int x2)]) hx hb d_SH_erase_6 rfl hl (by decide) rfl (fun ls hl => ?_)
  refine lv_aload_n hx hb d_SH_erase_7 rfl (lv_at hl 1 rfl) ?_
  obtain ⟨fs_, a105, he_, hv_, hq⟩ := fs_gr_some hq
  refine fs_get hx hb hts hown hK c_SH hP he_ 1 (by decide) (hts _ (fs_tb_at 245 tw_245 rfl)) (fun _ h9 => h9) hv_ d_SH_erase_8 ?_
  refine lv_iload_n hx hb d_SH_erase_11 rfl (lv_at hl 0 rfl) ?_
  obtain ⟨hi_, hq⟩ := hq
  obtain ⟨fs_, he_⟩ := fs_isc_some hi_
  refine fs_cV B hl.1 hP hS (kw_CE_empty hE hq) (fs_tb_at 907 tw_907 rfl) he_ rfl (fs_tb_at 908 tw_908 rfl) (fs_tb_at 909 tw_909 rfl) (fs_tb_at 90 tw_90 rfl) (fs_tb_at 910 tw_910 rfl) (by decide) (show (parseMethodDescriptor y_CE_empty.desc).map (fun d => d.parameters.length) = some 1 by decide +kernel) rfl d_SH_erase_12 (fs_rm (k := 0) (by omega) (by omega) (by omega) (by omega) rfl) (fun v_ h106 H locs hq hP hS => ?_) (fun C_ a_ h_ H locs hq hP hS hX => fs_out (hout _) hlocks hw hP hS hX (show (0 + c101) ≤ mc by omega) (show (0 + s102) ≤ ms by omega) hq)
  refine fs_cs (k := (0 + c101)) (n := (0 + s102)) rfl rfl ?_
  replace hq := fs_kv_some hq
  obtain ⟨rfl, hq⟩ := hq
  refine W.eq (g2 := F0 m 15 ls ([])) rfl ?_
  exact fs_vret hx hb hr hlocks hw hP hS (by omega) (by omega) hq d_SH_erase_15
def w_SH_insert (mc ms : Nat) (E : fs_E) (h : fs_Hp) (a0 : Nat) (x1 : Int32) (Post : fs_Ps) : Prop := ∃ c101 s102 : Nat, c101 ≤ mc ∧ s102 ≤ ms ∧ (w_SH_cellAt c101 s102 E h 0 x1 (fs_ki (fun x104 h103 => fs_gr h103 a0 0 1 (fun a105 => fs_isc h103 a105 2 ∧ (w_CE_rowIn E h103 a105 x1 (fs_ki (fun x107 h106 => Post (.inl (some (.int x107))) h106) (fun C_ h_ => Post (.inr C_) h_))))) (fun C_ h_ => Post (.inr C_) h_)))
set_option maxHeartbeats 4000000 in
set_option maxRecDepth 100000 in
theorem kw_SH_insert {l : Launch} {s00 : State} {E : fs_E} (hE : fs_SE l s00 E) {mc ms : Nat} {h : fs_Hp} {a0 : Nat} {x1 : Int32} {Post : fs_Ps} (hq : w_SH_insert mc ms E h a0 x1 Post) : fs_Ct l s00 E.1 y_SH_insert (.code y_SH_insert b_SH_insert 2 (some .int)) { frames := 44, cells := mc, slots := ms, locals := 660 } [.ref a0, .int x1] h Post := by
  refine fs_Ct.ofR hE.1 (by decide) ?_
  intro p e R s m below meth c hRf hRl hRc hRs B hout hP
  skip
  obtain ⟨hx, hb, hr, hml, hown, hts, hlocks, hname, hK, hw, htr⟩ := id B
  have hown : s.vm.findClass "FormulaSheet" = some m.cls := hown
  have hS := hw.S
  have hl := lv_entry ([.ref a0, .int x1]) (n := 2) (Nat.le_of_ble_eq_true rfl)
  rw [lg_entry_eq]
  generalize (lg_sl ([.ref a0, .int x1]) ++ List.replicate (2 - (lg_sl ([.ref a0, .int x1])).length) Slot.unset).toArray = ls at hl ⊢
  have hl : lv_has ls 2 [(0, .ref a0), (1, .int x1)] := hl
  unfold w_SH_insert at hq
  refine lv_iconst (v := 0) hx hb d_SH_insert_0 (by decide) ?_
  refine lv_iload_n hx hb d_SH_insert_1 rfl (lv_at hl 1 rfl) ?_
  obtain ⟨c101, s102, hc_, hs_, hq⟩ := hq
  refine fs_cS B hl.1 hP hS (kw_SH_cellAt hE hq) (fs_tb_at 588 tw_588 rfl) (fs_tb_at 589 tw_589 rfl) (fs_tb_at 88 tw_88 rfl) (fs_tb_at 590 tw_590 rfl) (by decide) (show (parseMethodDescriptor y_SH_cellAt.desc).map (fun d => d.parameters.length) = some 2 by decide +kernel) rfl d_SH_insert_2 (fs_rm (k := 0) (by omega) (by omega) (by omega) (by omega) rfl) (fun v_ h103 H locs hq hP hS => ?_) (fun C_ a_ h_ H locs hq hP hS hX => fs_out (hout _) hlocks hw hP hS hX (show (0 + c101) ≤ mc by omega) (show (0 + s102) ≤ ms by omega) hq)
  refine fs_cs (k := (0 + c101)) (n := (0 + s102)) rfl rfl ?_
  replace hq := fs_ki_some hq
  obtain ⟨x104, rfl, hq⟩ := hq
  refine W.eq (g2 := F0 m 5 ls (.int x104 :: [])) rfl ?_
  refine lv_pop hx hb d_SH_insert_5 rfl ?_
  refine lv_aload_n hx hb d_SH_insert_6 rfl (lv_at hl 0 rfl) ?_
  obtain ⟨fs_, a105, he_, hv_, hq⟩ := fs_gr_some hq
  refine fs_get hx hb hts hown hK c_SH hP he_ 1 (by decide) (hts _ (fs_tb_at 245 tw_245 rfl)) (fun _ h9 => h9) hv_ d_SH_insert_7 ?_
  refine lv_iload_n hx hb d_SH_insert_10 rfl (lv_at hl 1 rfl) ?_
  obtain ⟨hi_, hq⟩ := hq
  obtain ⟨fs_, he_⟩ := fs_isc_some hi_
  refine fs_cV B hl.1 hP hS (kw_CE_rowIn hE hq) (fs_tb_at 974 tw_974 rfl) he_ rfl (fs_tb_at 975 tw_975 rfl) (fs_tb_at 976 tw_976 rfl) (fs_tb_at 90 tw_90 rfl) (fs_tb_at 977 tw_977 rfl) (by decide) (show (parseMethodDescriptor y_CE_rowIn.desc).map (fun d => d.parameters.length) = some 1 by decide +kernel) rfl d_SH_insert_11 (fs_rm (k := 0) (by omega) (by omega) (by omega) (by omega) rfl) (fun v_ h106 H locs hq hP hS => ?_) (fun C_ a_ h_ H locs hq hP hS hX => fs_out (hout _) hlocks hw hP hS hX (show (0 + c101) ≤ mc by omega) (show (0 + s102) ≤ ms by omega) hq)
  refine fs_cs (k := (0 + c101)) (n := (0 + s102)) rfl rfl ?_
  replace hq := fs_ki_some hq
  obtain ⟨x107, rfl, hq⟩ := hq
  refine W.eq (g2 := F0 m 14 ls (.int x107 :: [])) rfl ?_
  exact fs_iret hx hb hr hlocks hw hP hS (vp_nar_int _) (by omega) (by omega) hq d_SH_insert_14
def w_SH_delete (mc ms : Nat) (E : fs_E) (h : fs_Hp) (a0 : Nat) (x1 : Int32) (Post : fs_Ps) : Prop := ∃ c101 s102 : Nat, c101 ≤ mc ∧ s102 ≤ ms ∧ (w_SH_cellAt c101 s102 E h 0 x1 (fs_ki (fun x104 h103 => fs_gr h103 a0 0 1 (fun a105 => fs_isc h103 a105 2 ∧ (w_CE_rowOut E h103 a105 x1 (fs_ki (fun x107 h106 => Post (.inl (some (.int x107))) h106) (fun C_ h_ => Post (.inr C_) h_))))) (fun C_ h_ => Post (.inr C_) h_)))
set_option maxHeartbeats 4000000 in
set_option maxRecDepth 100000 in
theorem kw_SH_delete {l : Launch} {s00 : State} {E : fs_E} (hE : fs_SE l s00 E) {mc ms : Nat} {h : fs_Hp} {a0 : Nat} {x1 : Int32} {Post : fs_Ps} (hq : w_SH_delete mc ms E h a0 x1 Post) : fs_Ct l s00 E.1 y_SH_delete (.code y_SH_delete b_SH_delete 2 (some .int)) { frames := 44, cells := mc, slots := ms, locals := 660 } [.ref a0, .int x1] h Post := by
  refine fs_Ct.ofR hE.1 (by decide) ?_
  intro p e R s m below meth c hRf hRl hRc hRs B hout hP
  skip
  obtain ⟨hx, hb, hr, hml, hown, hts, hlocks, hname, hK, hw, htr⟩ := id B
  have hown : s.vm.findClass "FormulaSheet" = some m.cls := hown
  have hS := hw.S
  have hl := lv_entry ([.ref a0, .int x1]) (n := 2) (Nat.le_of_ble_eq_true rfl)
  rw [lg_entry_eq]
  generalize (lg_sl ([.ref a0, .int x1]) ++ List.replicate (2 - (lg_sl ([.ref a0, .int x1])).length) Slot.unset).toArray = ls at hl ⊢
  have hl : lv_has ls 2 [(0, .ref a0), (1, .int x1)] := hl
  unfold w_SH_delete at hq
  refine lv_iconst (v := 0) hx hb d_SH_delete_0 (by decide) ?_
  refine lv_iload_n hx hb d_SH_delete_1 rfl (lv_at hl 1 rfl) ?_
  obtain ⟨c101, s102, hc_, hs_, hq⟩ := hq
  refine fs_cS B hl.1 hP hS (kw_SH_cellAt hE hq) (fs_tb_at 588 tw_588 rfl) (fs_tb_at 589 tw_589 rfl) (fs_tb_at 88 tw_88 rfl) (fs_tb_at 590 tw_590 rfl) (by decide) (show (parseMethodDescriptor y_SH_cellAt.desc).map (fun d => d.parameters.length) = some 2 by decide +kernel) rfl d_SH_delete_2 (fs_rm (k := 0) (by omega) (by omega) (by omega) (by omega) rfl) (fun v_ h103 H locs hq hP hS => ?_) (fun C_ a_ h_ H locs hq hP hS hX => fs_out (hout _) hlocks hw hP hS hX (show (0 + c101) ≤ mc by omega) (show (0 + s102) ≤ ms by omega) hq)
  refine fs_cs (k := (0 + c101)) (n := (0 + s102)) rfl rfl ?_
  replace hq := fs_ki_some hq
  obtain ⟨x104, rfl, hq⟩ := hq
  refine W.eq (g2 := F0 m 5 ls (.int x104 :: [])) rfl ?_
  refine lv_pop hx hb d_SH_delete_5 rfl ?_
  refine lv_aload_n hx hb d_SH_delete_6 rfl (lv_at hl 0 rfl) ?_
  obtain ⟨fs_, a105, he_, hv_, hq⟩ := fs_gr_some hq
  refine fs_get hx hb hts hown hK c_SH hP he_ 1 (by decide) (hts _ (fs_tb_at 245 tw_245 rfl)) (fun _ h9 => h9) hv_ d_SH_delete_7 ?_
  refine lv_iload_n hx hb d_SH_delete_10 rfl (lv_at hl 1 rfl) ?_
  obtain ⟨hi_, hq⟩ := hq
  obtain ⟨fs_, he_⟩ := fs_isc_some hi_
  refine fs_cV B hl.1 hP hS (kw_CE_rowOut hE hq) (fs_tb_at 1015 tw_1015 rfl) he_ rfl (fs_tb_at 1016 tw_1016 rfl) (fs_tb_at 1017 tw_1017 rfl) (fs_tb_at 90 tw_90 rfl) (fs_tb_at 1018 tw_1018 rfl) (by decide) (show (parseMethodDescriptor y_CE_rowOut.desc).map (fun d => d.parameters.length) = some 1 by decide +kernel) rfl d_SH_delete_11 (fs_rm (k := 0) (by omega) (by omega) (by omega) (by omega) rfl) (fun v_ h106 H locs hq hP hS => ?_) (fun C_ a_ h_ H locs hq hP hS hX => fs_out (hout _) hlocks hw hP hS hX (show (0 + c101) ≤ mc by omega) (show (0 + s102) ≤ ms by omega) hq)
  refine fs_cs (k := (0 + c101)) (n := (0 + s102)) rfl rfl ?_
  replace hq := fs_ki_some hq
  obtain ⟨x107, rfl, hq⟩ := hq
  refine W.eq (g2 := F0 m 14 ls (.int x107 :: [])) rfl ?_
  exact fs_iret hx hb hr hlocks hw hP hS (vp_nar_int _) (by omega) (by omega) hq d_SH_delete_14
def w_SH_enter (mc ms : Nat) (E : fs_E) (h : fs_Hp) (a0 : Nat) (x1 : Int32) (x2 : Int32) (Post : fs_Ps) : Prop := ∃ c101 s102 : Nat, c101 ≤ mc ∧ s102 ≤ ms ∧ (w_SH_cellAt c101 s102 E h x1 x2 (fs_ki (fun x104 h103 => fs_gr h103 a0 0 0 (fun a105 => ∃ c106 s107 : Nat, c106 ≤ (mc - c101) ∧ s107 ≤ (ms - s102) ∧ (fs_isc h103 a105 1 ∧ (w_LN_read c106 s107 E h103 a105 (fs_ko (fun h108 => fs_gr h108 a0 0 0 (fun a110 => fs_pw h108 a110 1 1 (.int 0) (fun h111 => fs_gr h111 a0 0 0 (fun a112 => fs_gi h111 a112 1 2 (fun x113 => fs_pw h111 a0 0 3 (.int x113) (fun h114 => 1 ≤ ((mc - c101) - c106) ∧ 6 ≤ ((ms - s102) - s107) ∧ Post (.inr "java/lang/IllegalArgumentException") h114)))))) (fun a109 h108 => fs_gr h108 a0 0 0 (fun a115 => fs_pw h108 a115 1 1 (.int 0) (fun h116 => fs_pw h116 a0 0 3 (.int (-1)) (fun h117 => fs_gr h117 a0 0 1 (fun a118 => fs_isc h117 a118 2 ∧ (w_CE_setFormula E h117 a118 x104 a109 (fs_kv (fun h119 => 1 ≤ ((mc - c101) - c106) ∧ 2 ≤ ((ms - s102) - s107) ∧ ∀ a120 : Nat, h119 a120 = none → (fun h121 : fs_Hp => w_CS_init E h121 a120 (fs_kv (fun h122 => w_N_addCells 42 E h122 a109 a120 (fs_kv (fun h123 => fs_isc h123 a120 3 ∧ (w_CS_size E h123 a120 (fs_ki (fun x125 h124 => Post (.inl (some (.int x125))) h124) (fun C_ h_ => Post (.inr C_) h_)))) (fun C_ h_ => Post (.inr C_) h_))) (fun C_ h_ => Post (.inr C_) h_))) (fs_up h119 a120 (.inr (3, [.long 0, .long 0])))) (fun C_ h_ => Post (.inr C_) h_)))))))) (fun C_ h_ => Post (.inr C_) h_)))))) (fun C_ h_ => Post (.inr C_) h_)))
set_option maxHeartbeats 4000000 in
set_option maxRecDepth 100000 in
theorem kw_SH_enter {l : Launch} {s00 : State} {E : fs_E} (hE : fs_SE l s00 E) {mc ms : Nat} {h : fs_Hp} {a0 : Nat} {x1 : Int32} {x2 : Int32} {Post : fs_Ps} (hq : w_SH_enter mc ms E h a0 x1 x2 Post) : fs_Ct l s00 E.1 y_SH_enter (.code y_SH_enter b_SH_enter 6 (some .int)) { frames := 98, cells := mc, slots := ms, locals := 1420 } [.ref a0, .int x1, .int x2] h Post := by
  refine fs_Ct.ofR hE.1 (by decide) ?_
  intro p e R s m below meth c hRf hRl hRc hRs B hout hP
  skip
  obtain ⟨hx, hb, hr, hml, hown, hts, hlocks, hname, hK, hw, htr⟩ := id B
  have hown : s.vm.findClass "FormulaSheet" = some m.cls := hown
  have hS := hw.S
  have hl := lv_entry ([.ref a0, .int x1, .int x2]) (n := 6) (Nat.le_of_ble_eq_true rfl)
  rw [lg_entry_eq]
  generalize (lg_sl ([.ref a0, .int x1, .int x2]) ++ List.replicate (6 - (lg_sl ([.ref a0, .int x1, .int x2])).length) Slot.unset).toArray = ls at hl ⊢
  have hl : lv_has ls 6 [(0, .ref a0), (1, .int x1), (2, .int x2)] := hl
  unfold w_SH_enter at hq
  refine lv_iload_n hx hb d_SH_enter_0 rfl (lv_at hl 1 rfl) ?_
  refine lv_iload_n hx hb d_SH_enter_1 rfl (lv_at hl 2 rfl) ?_
  obtain ⟨c101, s102, hc_, hs_, hq⟩ := hq
  refine fs_cS B hl.1 hP hS (kw_SH_cellAt hE hq) (fs_tb_at 588 tw_588 rfl) (fs_tb_at 589 tw_589 rfl) (fs_tb_at 88 tw_88 rfl) (fs_tb_at 590 tw_590 rfl) (by decide) (show (parseMethodDescriptor y_SH_cellAt.desc).map (fun d => d.parameters.length) = some 2 by decide +kernel) rfl d_SH_enter_2 (fs_rm (k := 0) (by omega) (by omega) (by omega) (by omega) rfl) (fun v_ h103 H locs hq hP hS => ?_) (fun C_ a_ h_ H locs hq hP hS hX => fs_out (hout _) hlocks hw hP hS hX (show (0 + c101) ≤ mc by omega) (show (0 + s102) ≤ ms by omega) hq)
  refine fs_cs (k := (0 + c101)) (n := (0 + s102)) rfl rfl ?_
  replace hq := fs_ki_some hq
  obtain ⟨x104, rfl, hq⟩ := hq
  refine W.eq (g2 := F0 m 5 ls (.int x104 :: [])) rfl ?_
  refine lv_istore_n (lv' := [(3, .int x104), (0, .ref a0), (1, .int x1), (2, .int x2)]) hx hb d_SH_enter_5 rfl hl (by decide) rfl (fun ls hl => ?_)
  refine lv_aload_n hx hb d_SH_enter_6 rfl (lv_at hl 1 rfl) ?_
  obtain ⟨fs_, a105, he_, hv_, hq⟩ := fs_gr_some hq
  refine fs_get hx hb hts hown hK c_SH hP he_ 0 (by decide) (hts _ (fs_tb_at 244 tw_244 rfl)) (fun _ h9 => h9) hv_ d_SH_enter_7 ?_
  obtain ⟨c106, s107, hc_, hs_, hq⟩ := hq
  obtain ⟨hi_, hq⟩ := hq
  obtain ⟨fs_, he_⟩ := fs_isc_some hi_
  refine fs_cV B hl.1 hP hS (kw_LN_read hE hq) (fs_tb_at 609 tw_609 rfl) he_ rfl (fs_tb_at 610 tw_610 rfl) (fs_tb_at 611 tw_611 rfl) (fs_tb_at 89 tw_89 rfl) (fs_tb_at 612 tw_612 rfl) (by decide) (show (parseMethodDescriptor y_LN_read.desc).map (fun d => d.parameters.length) = some 0 by decide +kernel) rfl d_SH_enter_10 (fs_rm (k := 0) (by omega) (by omega) (by omega) (by omega) rfl) (fun v_ h108 H locs hq hP hS => ?_) (fun C_ a_ h_ H locs hq hP hS hX => fs_out (hout _) hlocks hw hP hS hX (show ((0 + c101) + c106) ≤ mc by omega) (show ((0 + s102) + s107) ≤ ms by omega) hq)
  refine fs_cs (k := ((0 + c101) + c106)) (n := ((0 + s102) + s107)) rfl rfl ?_
  replace hq := fs_ko_some hq
  rcases hq with ⟨rfl, hq⟩ | ⟨a109, rfl, hq⟩
  · refine W.eq (g2 := F0 m 13 ls (.null :: [])) rfl ?_
    refine lv_astoreN (lv' := [(4, .null), (3, .int x104), (0, .ref a0), (1, .int x1), (2, .int x2)]) hx hb d_SH_enter_13 hl (by decide) rfl (fun ls hl => ?_)
    refine lv_aload_n hx hb d_SH_enter_15 rfl (lv_at hl 2 rfl) ?_
    obtain ⟨fs_, a110, he_, hv_, hq⟩ := fs_gr_some hq
    refine fs_get hx hb hts hown hK c_SH hP he_ 0 (by decide) (hts _ (fs_tb_at 244 tw_244 rfl)) (fun _ h9 => h9) hv_ d_SH_enter_16 ?_
    refine lv_iconst (v := 0) hx hb d_SH_enter_19 (by decide) ?_
    obtain ⟨fs_, h111, e_, hl_, eh_, hq⟩ := fs_pw_some hq
    refine fs_put hx hb hts hown hK c_LN hP hS e_ 1 (by decide) (hts _ (fs_tb_at 141 tw_141 rfl)) (fun _ h9 => h9) rfl rfl rfl hl_ d_SH_enter_20 (fun H locs hP hS => ?_)
    rw [← eh_] at hP
    refine lv_aloadN hx hb d_SH_enter_23 (lv_at hl 0 rfl) ?_
    refine lv_ifnonnullN hx hb d_SH_enter_25 ?_
    refine lv_aload_n hx hb d_SH_enter_28 rfl (lv_at hl 2 rfl) ?_
    refine lv_aload_n hx hb d_SH_enter_29 rfl (lv_at hl 2 rfl) ?_
    obtain ⟨fs_, a112, he_, hv_, hq⟩ := fs_gr_some hq
    refine fs_get hx hb hts hown hK c_SH hP he_ 0 (by decide) (hts _ (fs_tb_at 244 tw_244 rfl)) (fun _ h9 => h9) hv_ d_SH_enter_30 ?_
    obtain ⟨fs_, x113, he_, hv_, hq⟩ := fs_gi_some hq
    refine fs_get hx hb hts hown hK c_LN hP he_ 2 (by decide) (hts _ (fs_tb_at 143 tw_143 rfl)) (fun _ h9 => h9) hv_ d_SH_enter_33 ?_
    obtain ⟨fs_, h114, e_, hl_, eh_, hq⟩ := fs_pw_some hq
    refine fs_put hx hb hts hown hK c_SH hP hS e_ 3 (by decide) (hts _ (fs_tb_at 247 tw_247 rfl)) (fun _ h9 => h9) rfl rfl rfl hl_ d_SH_enter_36 (fun H locs hP hS => ?_)
    rw [← eh_] at hP
    obtain ⟨hc_, hs_, hq⟩ := hq
    refine fs_thr hE B (names := ["java/lang/RuntimeException", "java/lang/Exception"]) (C := "java/lang/IllegalArgumentException") (k := 0) (by decide +kernel) (by decide) (by decide) hP hS (fs_tb_at 492 tw_492 rfl) (fs_tb_at 100 tw_100 rfl) hl.1 d_SH_enter_39 d_SH_enter_42 d_SH_enter_43 d_SH_enter_46 rfl (nl := 2) rfl (by omega) (by omega) (by omega) (by omega) (fun x_ H locs hP hS hX => ?_)
    exact fs_out (hout _) hlocks hw hP hS hX (by omega) (by omega) hq
  · refine W.eq (g2 := F0 m 13 ls (.ref a109 :: [])) rfl ?_
    refine lv_astore (lv' := [(4, .ref a109), (3, .int x104), (0, .ref a0), (1, .int x1), (2, .int x2)]) hx hb d_SH_enter_13 hl (by decide) rfl (fun ls hl => ?_)
    refine lv_aload_n hx hb d_SH_enter_15 rfl (lv_at hl 2 rfl) ?_
    obtain ⟨fs_, a115, he_, hv_, hq⟩ := fs_gr_some hq
    refine fs_get hx hb hts hown hK c_SH hP he_ 0 (by decide) (hts _ (fs_tb_at 244 tw_244 rfl)) (fun _ h9 => h9) hv_ d_SH_enter_16 ?_
    refine lv_iconst (v := 0) hx hb d_SH_enter_19 (by decide) ?_
    obtain ⟨fs_, h116, e_, hl_, eh_, hq⟩ := fs_pw_some hq
    refine fs_put hx hb hts hown hK c_LN hP hS e_ 1 (by decide) (hts _ (fs_tb_at 141 tw_141 rfl)) (fun _ h9 => h9) rfl rfl rfl hl_ d_SH_enter_20 (fun H locs hP hS => ?_)
    rw [← eh_] at hP
    refine lv_aload hx hb d_SH_enter_23 (lv_at hl 0 rfl) ?_
    refine lv_ifnonnull (tgt := 47) hx hb d_SH_enter_25 (by decide) ?_
    refine lv_aload_n hx hb d_SH_enter_47 rfl (lv_at hl 2 rfl) ?_
    refine lv_iconst (v := (-1)) hx hb d_SH_enter_48 (by decide) ?_
    obtain ⟨fs_, h117, e_, hl_, eh_, hq⟩ := fs_pw_some hq
    refine fs_put hx hb hts hown hK c_SH hP hS e_ 3 (by decide) (hts _ (fs_tb_at 247 tw_247 rfl)) (fun _ h9 => h9) rfl rfl rfl hl_ d_SH_enter_49 (fun H locs hP hS => ?_)
    rw [← eh_] at hP
    refine lv_aload_n hx hb d_SH_enter_52 rfl (lv_at hl 2 rfl) ?_
    obtain ⟨fs_, a118, he_, hv_, hq⟩ := fs_gr_some hq
    refine fs_get hx hb hts hown hK c_SH hP he_ 1 (by decide) (hts _ (fs_tb_at 245 tw_245 rfl)) (fun _ h9 => h9) hv_ d_SH_enter_53 ?_
    refine lv_iload_n hx hb d_SH_enter_56 rfl (lv_at hl 1 rfl) ?_
    refine lv_aload hx hb d_SH_enter_57 (lv_at hl 0 rfl) ?_
    obtain ⟨hi_, hq⟩ := hq
    obtain ⟨fs_, he_⟩ := fs_isc_some hi_
    refine fs_cV B hl.1 hP hS (kw_CE_setFormula hE hq) (fs_tb_at 857 tw_857 rfl) he_ rfl (fs_tb_at 858 tw_858 rfl) (fs_tb_at 859 tw_859 rfl) (fs_tb_at 90 tw_90 rfl) (fs_tb_at 860 tw_860 rfl) (by decide) (show (parseMethodDescriptor y_CE_setFormula.desc).map (fun d => d.parameters.length) = some 2 by decide +kernel) rfl d_SH_enter_59 (fs_rm (k := 0) (by omega) (by omega) (by omega) (by omega) rfl) (fun v_ h119 H locs hq hP hS => ?_) (fun C_ a_ h_ H locs hq hP hS hX => fs_out (hout _) hlocks hw hP hS hX (show ((0 + c101) + c106) ≤ mc by omega) (show ((0 + s102) + s107) ≤ ms by omega) hq)
    refine fs_cs (k := ((0 + c101) + c106)) (n := ((0 + s102) + s107)) rfl rfl ?_
    replace hq := fs_kv_some hq
    obtain ⟨rfl, hq⟩ := hq
    refine W.eq (g2 := F0 m 62 ls ([])) rfl ?_
    obtain ⟨hc_, hs_, hq⟩ := hq
    refine fs_new (fs := [.long 0, .long 0]) hx hb hts hown hK c_CS hP hS (fun _ h9 => h9) (hts _ (fs_tb_at 865 tw_865 rfl)) (hts _ (fs_tb_at 165 tw_165 rfl)) (hts _ (fs_tb_at 91 tw_91 rfl)) (by decide) (by omega) (by omega) d_SH_enter_62 (fun a120 H hn_ hP hS => ?_)
    have hq := hq a120 hn_
    generalize eh_ : fs_up h119 a120 (.inr (3, [.long 0, .long 0])) = h121 at hP hq
    refine lv_dup hx hb d_SH_enter_65 rfl ?_
    refine fs_cIN B hl.1 hP hS (kw_CS_init hE hq) (fs_tb_at 866 tw_866 rfl) (fs_tb_at 167 tw_167 rfl) rfl (fs_tb_at 91 tw_91 rfl) (fs_tb_at 168 tw_168 rfl) (by decide) (show (parseMethodDescriptor y_CS_init.desc).map (fun d => d.parameters.length) = some 0 by decide +kernel) rfl d_SH_enter_66 (fs_rm (k := 1) (by omega) (by omega) (by omega) (by omega) rfl) (fun v_ h122 H locs hq hP hS => ?_) (fun C_ a_ h_ H locs hq hP hS hX => fs_out (hout _) hlocks hw hP hS hX (show (((0 + c101) + c106) + 1) ≤ mc by omega) (show (((0 + s102) + s107) + 2) ≤ ms by omega) hq)
    refine fs_cs (k := (((0 + c101) + c106) + 1)) (n := (((0 + s102) + s107) + 2)) rfl rfl ?_
    replace hq := fs_kv_some hq
    obtain ⟨rfl, hq⟩ := hq
    refine W.eq (g2 := F0 m 69 ls (.ref a120 :: [])) rfl ?_
    refine lv_astore (lv' := [(5, .ref a120), (4, .ref a109), (3, .int x104), (0, .ref a0), (1, .int x1), (2, .int x2)]) hx hb d_SH_enter_69 hl (by decide) rfl (fun ls hl => ?_)
    refine lv_aload hx hb d_SH_enter_71 (lv_at hl 1 rfl) ?_
    refine lv_aload hx hb d_SH_enter_73 (lv_at hl 0 rfl) ?_
    refine fs_cVV (owner := "FormulaSheet$Part") B hl.1 hP hS (kN_addCells hE hq) (fs_tb_at 867 tw_867 rfl) (fs_tb_at 291 tw_291 rfl) (fs_dclC (fs_tb_at 290 tw_290 rfl) (fs_tb_at 339 tw_339 rfl)) (by decide) (show (parseMethodDescriptor y_PT_addCells.desc).map (fun d => d.parameters.length) = some 1 by decide +kernel) rfl d_SH_enter_75 (fs_rm (k := 0) (by omega) (by omega) (by omega) (by omega) rfl) (fun v_ h123 H locs hq hP hS => ?_) (fun C_ a_ h_ H locs hq hP hS hX => fs_out (hout _) hlocks hw hP hS hX (show (((0 + c101) + c106) + 1) ≤ mc by omega) (show (((0 + s102) + s107) + 2) ≤ ms by omega) hq)
    refine fs_cs (k := (((0 + c101) + c106) + 1)) (n := (((0 + s102) + s107) + 2)) rfl rfl ?_
    replace hq := fs_kv_some hq
    obtain ⟨rfl, hq⟩ := hq
    refine W.eq (g2 := F0 m 78 ls ([])) rfl ?_
    refine lv_aload hx hb d_SH_enter_78 (lv_at hl 0 rfl) ?_
    obtain ⟨hi_, hq⟩ := hq
    obtain ⟨fs_, he_⟩ := fs_isc_some hi_
    refine fs_cV B hl.1 hP hS (kw_CS_size hE hq) (fs_tb_at 868 tw_868 rfl) he_ rfl (fs_tb_at 367 tw_367 rfl) (fs_tb_at 368 tw_368 rfl) (fs_tb_at 91 tw_91 rfl) (fs_tb_at 369 tw_369 rfl) (by decide) (show (parseMethodDescriptor y_CS_size.desc).map (fun d => d.parameters.length) = some 0 by decide +kernel) rfl d_SH_enter_80 (fs_rm (k := 0) (by omega) (by omega) (by omega) (by omega) rfl) (fun v_ h124 H locs hq hP hS => ?_) (fun C_ a_ h_ H locs hq hP hS hX => fs_out (hout _) hlocks hw hP hS hX (show (((0 + c101) + c106) + 1) ≤ mc by omega) (show (((0 + s102) + s107) + 2) ≤ ms by omega) hq)
    refine fs_cs (k := (((0 + c101) + c106) + 1)) (n := (((0 + s102) + s107) + 2)) rfl rfl ?_
    replace hq := fs_ki_some hq
    obtain ⟨x125, rfl, hq⟩ := hq
    refine W.eq (g2 := F0 m 83 ls (.int x125 :: [])) rfl ?_
    exact fs_iret hx hb hr hlocks hw hP hS (vp_nar_int _) (by omega) (by omega) hq d_SH_enter_83
def w_SH_copy (mc ms : Nat) (E : fs_E) (h : fs_Hp) (a0 : Nat) (x1 : Int32) (x2 : Int32) (x3 : Int32) (x4 : Int32) (Post : fs_Ps) : Prop := ∃ c101 s102 : Nat, c101 ≤ mc ∧ s102 ≤ ms ∧ (w_SH_cellAt c101 s102 E h x3 x4 (fs_ki (fun x104 h103 => ∃ c105 s106 : Nat, c105 ≤ (mc - c101) ∧ s106 ≤ (ms - s102) ∧ (fs_isc h103 a0 0 ∧ (w_SH_filledCellAt c105 s106 E h103 a0 x1 x2 (fs_ki (fun x108 h107 => fs_gr h107 a0 0 1 (fun a109 => fs_gr h107 a109 2 1 (fun a110 => fs_aq h107 a110 (E.1.2 6) x108 (fun o9 => match o9 with | none => fs_gr h107 a0 0 1 (fun a113 => fs_gr h107 a0 0 1 (fun a114 => fs_gr h107 a114 2 2 (fun a115 => fs_ad h107 a115 (E.1.2 2) x108 (fun x116 => fs_isc h107 a113 2 ∧ (w_CE_setNumber E h107 a113 x104 x116 (fs_kv (fun h117 => Post (.inl (some (.int 0))) h117) (fun C_ h_ => Post (.inr C_) h_))))))) | some a118 => ∃ c119 s120 : Nat, c119 ≤ ((mc - c101) - c105) ∧ s120 ≤ ((ms - s102) - s106) ∧ (w_N_moved 42 c119 s120 E h107 a118 (x3 - x1) (x4 - x2) (fs_kr (fun a122 h121 => fs_gr h121 a0 0 1 (fun a123 => fs_isc h121 a123 2 ∧ (w_CE_setFormula E h121 a123 x104 a122 (fs_kv (fun h124 => w_N_lostReferences 42 E h124 a122 (fs_ki (fun x126 h125 => w_N_lostReferences 42 E h125 a118 (fs_ki (fun x128 h127 => Post (.inl (some (.int (x126 - x128)))) h127) (fun C_ h_ => Post (.inr C_) h_))) (fun C_ h_ => Post (.inr C_) h_))) (fun C_ h_ => Post (.inr C_) h_))))) (fun C_ h_ => Post (.inr C_) h_))))))) (fun C_ h_ => Post (.inr C_) h_))))) (fun C_ h_ => Post (.inr C_) h_)))
set_option maxHeartbeats 4000000 in
set_option maxRecDepth 100000 in
theorem kw_SH_copy {l : Launch} {s00 : State} {E : fs_E} (hE : fs_SE l s00 E) {mc ms : Nat} {h : fs_Hp} {a0 : Nat} {x1 : Int32} {x2 : Int32} {x3 : Int32} {x4 : Int32} {Post : fs_Ps} (hq : w_SH_copy mc ms E h a0 x1 x2 x3 x4 Post) : fs_Ct l s00 E.1 y_SH_copy (.code y_SH_copy b_SH_copy 9 (some .int)) { frames := 169, cells := mc, slots := ms, locals := 2998 } [.ref a0, .int x1, .int x2, .int x3, .int x4] h Post := by
  refine fs_Ct.ofR hE.1 (by decide) ?_
  intro p e R s m below meth c hRf hRl hRc hRs B hout hP
  skip
  obtain ⟨hx, hb, hr, hml, hown, hts, hlocks, hname, hK, hw, htr⟩ := id B
  have hown : s.vm.findClass "FormulaSheet" = some m.cls := hown
  have hS := hw.S
  have hl := lv_entry ([.ref a0, .int x1, .int x2, .int x3, .int x4]) (n := 9) (Nat.le_of_ble_eq_true rfl)
  rw [lg_entry_eq]
  generalize (lg_sl ([.ref a0, .int x1, .int x2, .int x3, .int x4]) ++ List.replicate (9 - (lg_sl ([.ref a0, .int x1, .int x2, .int x3, .int x4])).length) Slot.unset).toArray = ls at hl ⊢
  have hl : lv_has ls 9 [(0, .ref a0), (1, .int x1), (2, .int x2), (3, .int x3), (4, .int x4)] := hl
  unfold w_SH_copy at hq
  refine lv_iload_n hx hb d_SH_copy_0 rfl (lv_at hl 3 rfl) ?_
  refine lv_iload hx hb d_SH_copy_1 (lv_at hl 4 rfl) ?_
  obtain ⟨c101, s102, hc_, hs_, hq⟩ := hq
  refine fs_cS B hl.1 hP hS (kw_SH_cellAt hE hq) (fs_tb_at 588 tw_588 rfl) (fs_tb_at 589 tw_589 rfl) (fs_tb_at 88 tw_88 rfl) (fs_tb_at 590 tw_590 rfl) (by decide) (show (parseMethodDescriptor y_SH_cellAt.desc).map (fun d => d.parameters.length) = some 2 by decide +kernel) rfl d_SH_copy_3 (fs_rm (k := 0) (by omega) (by omega) (by omega) (by omega) rfl) (fun v_ h103 H locs hq hP hS => ?_) (fun C_ a_ h_ H locs hq hP hS hX => fs_out (hout _) hlocks hw hP hS hX (show (0 + c101) ≤ mc by omega) (show (0 + s102) ≤ ms by omega) hq)
  refine fs_cs (k := (0 + c101)) (n := (0 + s102)) rfl rfl ?_
  replace hq := fs_ki_some hq
  obtain ⟨x104, rfl, hq⟩ := hq
  refine W.eq (g2 := F0 m 6 ls (.int x104 :: [])) rfl ?_
  refine lv_istore (lv' := [(5, .int x104), (0, .ref a0), (1, .int x1), (2, .int x2), (3, .int x3), (4, .int x4)]) hx hb d_SH_copy_6 hl (by decide) rfl (fun ls hl => ?_)
  refine lv_aload_n hx hb d_SH_copy_8 rfl (lv_at hl 1 rfl) ?_
  refine lv_iload_n hx hb d_SH_copy_9 rfl (lv_at hl 2 rfl) ?_
  refine lv_iload_n hx hb d_SH_copy_10 rfl (lv_at hl 3 rfl) ?_
  obtain ⟨c105, s106, hc_, hs_, hq⟩ := hq
  obtain ⟨hi_, hq⟩ := hq
  obtain ⟨fs_, he_⟩ := fs_isc_some hi_
  refine fs_cV B hl.1 hP hS (kw_SH_filledCellAt hE hq) (fs_tb_at 888 tw_888 rfl) he_ rfl (fs_tb_at 890 tw_890 rfl) (fs_tb_at 37 tw_37 rfl) (fs_tb_at 88 tw_88 rfl) (fs_tb_at 891 tw_891 rfl) (by decide) (show (parseMethodDescriptor y_SH_filledCellAt.desc).map (fun d => d.parameters.length) = some 2 by decide +kernel) rfl d_SH_copy_11 (fs_rm (k := 0) (by omega) (by omega) (by omega) (by omega) rfl) (fun v_ h107 H locs hq hP hS => ?_) (fun C_ a_ h_ H locs hq hP hS hX => fs_out (hout _) hlocks hw hP hS hX (show ((0 + c101) + c105) ≤ mc by omega) (show ((0 + s102) + s106) ≤ ms by omega) hq)
  refine fs_cs (k := ((0 + c101) + c105)) (n := ((0 + s102) + s106)) rfl rfl ?_
  replace hq := fs_ki_some hq
  obtain ⟨x108, rfl, hq⟩ := hq
  refine W.eq (g2 := F0 m 14 ls (.int x108 :: [])) rfl ?_
  refine lv_istore (lv' := [(6, .int x108), (5, .int x104), (0, .ref a0), (1, .int x1), (2, .int x2), (3, .int x3), (4, .int x4)]) hx hb d_SH_copy_14 hl (by decide) rfl (fun ls hl => ?_)
  refine lv_aload_n hx hb d_SH_copy_16 rfl (lv_at hl 2 rfl) ?_
  obtain ⟨fs_, a109, he_, hv_, hq⟩ := fs_gr_some hq
  refine fs_get hx hb hts hown hK c_SH hP he_ 1 (by decide) (hts _ (fs_tb_at 245 tw_245 rfl)) (fun _ h9 => h9) hv_ d_SH_copy_17 ?_
  obtain ⟨fs_, a110, he_, hv_, hq⟩ := fs_gr_some hq
  refine fs_get hx hb hts hown hK c_CE hP he_ 1 (by decide) (hts _ (fs_tb_at 185 tw_185 rfl)) (fun _ h9 => h9) hv_ d_SH_copy_20 ?_
  refine lv_iload hx hb d_SH_copy_23 (lv_at hl 0 rfl) ?_
  obtain ⟨n_, f_, o111, e_, hi_, ex_, hq⟩ := fs_aq_some hq
  refine fs_aald hx hb hK hP 6 e_ rfl hi_ d_SH_copy_25 ?_
  rw [← ex_]
  cases o111 with
  | none =>
    refine W.eq (g2 := F0 m 26 ls (.null :: [])) rfl ?_
    refine lv_astoreN (lv' := [(7, .null), (6, .int x108), (5, .int x104), (0, .ref a0), (1, .int x1), (2, .int x2), (3, .int x3), (4, .int x4)]) hx hb d_SH_copy_26 hl (by decide) rfl (fun ls hl => ?_)
    refine lv_aloadN hx hb d_SH_copy_28 (lv_at hl 0 rfl) ?_
    refine lv_ifnonnullN hx hb d_SH_copy_30 ?_
    refine lv_aload_n hx hb d_SH_copy_33 rfl (lv_at hl 3 rfl) ?_
    obtain ⟨fs_, a113, he_, hv_, hq⟩ := fs_gr_some hq
    refine fs_get hx hb hts hown hK c_SH hP he_ 1 (by decide) (hts _ (fs_tb_at 245 tw_245 rfl)) (fun _ h9 => h9) hv_ d_SH_copy_34 ?_
    refine lv_iload hx hb d_SH_copy_37 (lv_at hl 2 rfl) ?_
    refine lv_aload_n hx hb d_SH_copy_39 rfl (lv_at hl 3 rfl) ?_
    obtain ⟨fs_, a114, he_, hv_, hq⟩ := fs_gr_some hq
    refine fs_get hx hb hts hown hK c_SH hP he_ 1 (by decide) (hts _ (fs_tb_at 245 tw_245 rfl)) (fun _ h9 => h9) hv_ d_SH_copy_40 ?_
    obtain ⟨fs_, a115, he_, hv_, hq⟩ := fs_gr_some hq
    refine fs_get hx hb hts hown hK c_CE hP he_ 2 (by decide) (hts _ (fs_tb_at 188 tw_188 rfl)) (fun _ h9 => h9) hv_ d_SH_copy_43 ?_
    refine lv_iload hx hb d_SH_copy_46 (lv_at hl 1 rfl) ?_
    obtain ⟨n_, f_, x116, e_, hi_, ex_, hq⟩ := fs_ad_some hq
    refine fs_dald hx hb hK hP 2 e_ rfl hi_ d_SH_copy_48 ?_
    rw [← ex_]
    obtain ⟨hi_, hq⟩ := hq
    obtain ⟨fs_, he_⟩ := fs_isc_some hi_
    refine fs_cV B hl.1 hP hS (kw_CE_setNumber hE hq) (fs_tb_at 876 tw_876 rfl) he_ rfl (fs_tb_at 877 tw_877 rfl) (fs_tb_at 878 tw_878 rfl) (fs_tb_at 90 tw_90 rfl) (fs_tb_at 879 tw_879 rfl) (by decide) (show (parseMethodDescriptor y_CE_setNumber.desc).map (fun d => d.parameters.length) = some 2 by decide +kernel) rfl d_SH_copy_49 (fs_rm (k := 0) (by omega) (by omega) (by omega) (by omega) rfl) (fun v_ h117 H locs hq hP hS => ?_) (fun C_ a_ h_ H locs hq hP hS hX => fs_out (hout _) hlocks hw hP hS hX (show ((0 + c101) + c105) ≤ mc by omega) (show ((0 + s102) + s106) ≤ ms by omega) hq)
    refine fs_cs (k := ((0 + c101) + c105)) (n := ((0 + s102) + s106)) rfl rfl ?_
    replace hq := fs_kv_some hq
    obtain ⟨rfl, hq⟩ := hq
    refine W.eq (g2 := F0 m 52 ls ([])) rfl ?_
    refine lv_iconst (v := 0) hx hb d_SH_copy_52 (by decide) ?_
    exact fs_iret hx hb hr hlocks hw hP hS (vp_nar_int _) (by omega) (by omega) hq d_SH_copy_53
  | some a118 =>
    refine W.eq (g2 := F0 m 26 ls (.ref a118 :: [])) rfl ?_
    refine lv_astore (lv' := [(7, .ref a118), (6, .int x108), (5, .int x104), (0, .ref a0), (1, .int x1), (2, .int x2), (3, .int x3), (4, .int x4)]) hx hb d_SH_copy_26 hl (by decide) rfl (fun ls hl => ?_)
    refine lv_aload hx hb d_SH_copy_28 (lv_at hl 0 rfl) ?_
    refine lv_ifnonnull (tgt := 54) hx hb d_SH_copy_30 (by decide) ?_
    refine lv_aload hx hb d_SH_copy_54 (lv_at hl 0 rfl) ?_
    refine lv_iload_n hx hb d_SH_copy_56 rfl (lv_at hl 6 rfl) ?_
    refine lv_iload_n hx hb d_SH_copy_57 rfl (lv_at hl 4 rfl) ?_
    refine lv_isub hx hb d_SH_copy_58 ?_
    refine lv_iload hx hb d_SH_copy_59 (lv_at hl 7 rfl) ?_
    refine lv_iload_n hx hb d_SH_copy_61 rfl (lv_at hl 5 rfl) ?_
    refine lv_isub hx hb d_SH_copy_62 ?_
    obtain ⟨c119, s120, hc_, hs_, hq⟩ := hq
    refine fs_cVV (owner := "FormulaSheet$Part") B hl.1 hP hS (kN_moved hE hq) (fs_tb_at 918 tw_918 rfl) (fs_tb_at 920 tw_920 rfl) (fs_dclC (fs_tb_at 919 tw_919 rfl) (fs_tb_at 941 tw_941 rfl)) (by decide) (show (parseMethodDescriptor y_PT_moved.desc).map (fun d => d.parameters.length) = some 2 by decide +kernel) rfl d_SH_copy_63 (fs_rm (k := 0) (by omega) (by omega) (by omega) (by omega) rfl) (fun v_ h121 H locs hq hP hS => ?_) (fun C_ a_ h_ H locs hq hP hS hX => fs_out (hout _) hlocks hw hP hS hX (show (((0 + c101) + c105) + c119) ≤ mc by omega) (show (((0 + s102) + s106) + s120) ≤ ms by omega) hq)
    refine fs_cs (k := (((0 + c101) + c105) + c119)) (n := (((0 + s102) + s106) + s120)) rfl rfl ?_
    replace hq := fs_kr_some hq
    obtain ⟨a122, rfl, hq⟩ := hq
    refine W.eq (g2 := F0 m 66 ls (.ref a122 :: [])) rfl ?_
    refine lv_astore (lv' := [(8, .ref a122), (7, .ref a118), (6, .int x108), (5, .int x104), (0, .ref a0), (1, .int x1), (2, .int x2), (3, .int x3), (4, .int x4)]) hx hb d_SH_copy_66 hl (by decide) rfl (fun ls hl => ?_)
    refine lv_aload_n hx hb d_SH_copy_68 rfl (lv_at hl 4 rfl) ?_
    obtain ⟨fs_, a123, he_, hv_, hq⟩ := fs_gr_some hq
    refine fs_get hx hb hts hown hK c_SH hP he_ 1 (by decide) (hts _ (fs_tb_at 245 tw_245 rfl)) (fun _ h9 => h9) hv_ d_SH_copy_69 ?_
    refine lv_iload hx hb d_SH_copy_72 (lv_at hl 3 rfl) ?_
    refine lv_aload hx hb d_SH_copy_74 (lv_at hl 0 rfl) ?_
    obtain ⟨hi_, hq⟩ := hq
    obtain ⟨fs_, he_⟩ := fs_isc_some hi_
    refine fs_cV B hl.1 hP hS (kw_CE_setFormula hE hq) (fs_tb_at 857 tw_857 rfl) he_ rfl (fs_tb_at 858 tw_858 rfl) (fs_tb_at 859 tw_859 rfl) (fs_tb_at 90 tw_90 rfl) (fs_tb_at 860 tw_860 rfl) (by decide) (show (parseMethodDescriptor y_CE_setFormula.desc).map (fun d => d.parameters.length) = some 2 by decide +kernel) rfl d_SH_copy_76 (fs_rm (k := 0) (by omega) (by omega) (by omega) (by omega) rfl) (fun v_ h124 H locs hq hP hS => ?_) (fun C_ a_ h_ H locs hq hP hS hX => fs_out (hout _) hlocks hw hP hS hX (show (((0 + c101) + c105) + c119) ≤ mc by omega) (show (((0 + s102) + s106) + s120) ≤ ms by omega) hq)
    refine fs_cs (k := (((0 + c101) + c105) + c119)) (n := (((0 + s102) + s106) + s120)) rfl rfl ?_
    replace hq := fs_kv_some hq
    obtain ⟨rfl, hq⟩ := hq
    refine W.eq (g2 := F0 m 79 ls ([])) rfl ?_
    refine lv_aload hx hb d_SH_copy_79 (lv_at hl 0 rfl) ?_
    refine fs_cVV (owner := "FormulaSheet$Part") B hl.1 hP hS (kN_lostReferences hE hq) (fs_tb_at 966 tw_966 rfl) (fs_tb_at 472 tw_472 rfl) (fs_dclC (fs_tb_at 471 tw_471 rfl) (fs_tb_at 481 tw_481 rfl)) (by decide) (show (parseMethodDescriptor y_PT_lostReferences.desc).map (fun d => d.parameters.length) = some 0 by decide +kernel) rfl d_SH_copy_81 (fs_rm (k := 0) (by omega) (by omega) (by omega) (by omega) rfl) (fun v_ h125 H locs hq hP hS => ?_) (fun C_ a_ h_ H locs hq hP hS hX => fs_out (hout _) hlocks hw hP hS hX (show (((0 + c101) + c105) + c119) ≤ mc by omega) (show (((0 + s102) + s106) + s120) ≤ ms by omega) hq)
    refine fs_cs (k := (((0 + c101) + c105) + c119)) (n := (((0 + s102) + s106) + s120)) rfl rfl ?_
    replace hq := fs_ki_some hq
    obtain ⟨x126, rfl, hq⟩ := hq
    refine W.eq (g2 := F0 m 84 ls (.int x126 :: [])) rfl ?_
    refine lv_aload hx hb d_SH_copy_84 (lv_at hl 1 rfl) ?_
    refine fs_cVV (owner := "FormulaSheet$Part") B hl.1 hP hS (kN_lostReferences hE hq) (fs_tb_at 966 tw_966 rfl) (fs_tb_at 472 tw_472 rfl) (fs_dclC (fs_tb_at 471 tw_471 rfl) (fs_tb_at 481 tw_481 rfl)) (by decide) (show (parseMethodDescriptor y_PT_lostReferences.desc).map (fun d => d.parameters.length) = some 0 by decide +kernel) rfl d_SH_copy_86 (fs_rm (k := 1) (by omega) (by omega) (by omega) (by omega) rfl) (fun v_ h127 H locs hq hP hS => ?_) (fun C_ a_ h_ H locs hq hP hS hX => fs_out (hout _) hlocks hw hP hS hX (show (((0 + c101) + c105) + c119) ≤ mc by omega) (show (((0 + s102) + s106) + s120) ≤ ms by omega) hq)
    refine fs_cs (k := (((0 + c101) + c105) + c119)) (n := (((0 + s102) + s106) + s120)) rfl rfl ?_
    replace hq := fs_ki_some hq
    obtain ⟨x128, rfl, hq⟩ := hq
    refine W.eq (g2 := F0 m 89 ls (.int x128 :: .int x126 :: [])) rfl ?_
    refine lv_isub hx hb d_SH_copy_89 ?_
    exact fs_iret hx hb hr hlocks hw hP hS (vp_nar_int _) (by omega) (by omega) hq d_SH_copy_90
def w_SH_value (mc ms : Nat) (E : fs_E) (h : fs_Hp) (a0 : Nat) (x1 : Int32) (x2 : Int32) (Post : fs_Ps) : Prop := ∃ c101 s102 : Nat, c101 ≤ mc ∧ s102 ≤ ms ∧ (fs_isc h a0 0 ∧ (w_SH_filledCellAt c101 s102 E h a0 x1 x2 (fs_ki (fun x104 h103 => fs_gr h103 a0 0 1 (fun a105 => fs_isc h103 a105 2 ∧ (w_CE_settle E h103 a105 (fs_kv (fun h106 => fs_gr h106 a0 0 1 (fun a107 => fs_isc h106 a107 2 ∧ (w_CE_isCircular E h106 a107 x104 (fs_ki (fun x109 h108 => (if x109 = 0 then fs_gr h108 a0 0 1 (fun a111 => fs_gr h108 a111 2 2 (fun a112 => fs_ad h108 a112 (E.1.2 2) x104 (fun x113 => w_SH_isBad E h108 x113 (fs_ki (fun x115 h114 => (if x115 = 0 then fs_gr h114 a0 0 1 (fun a117 => fs_gr h114 a117 2 2 (fun a118 => fs_ad h114 a118 (E.1.2 2) x104 (fun x119 => Post (.inl (some (.double x119))) h114))) else 1 ≤ (mc - c101) ∧ 6 ≤ (ms - s102) ∧ Post (.inr "java/lang/ArithmeticException") h114)) (fun C_ h_ => Post (.inr C_) h_))))) else 1 ≤ (mc - c101) ∧ 6 ≤ (ms - s102) ∧ Post (.inr "java/lang/IllegalStateException") h108)) (fun C_ h_ => Post (.inr C_) h_))))) (fun C_ h_ => Post (.inr C_) h_))))) (fun C_ h_ => Post (.inr C_) h_))))
set_option maxHeartbeats 4000000 in
set_option maxRecDepth 100000 in
theorem kw_SH_value {l : Launch} {s00 : State} {E : fs_E} (hE : fs_SE l s00 E) {mc ms : Nat} {h : fs_Hp} {a0 : Nat} {x1 : Int32} {x2 : Int32} {Post : fs_Ps} (hq : w_SH_value mc ms E h a0 x1 x2 Post) : fs_Ct l s00 E.1 y_SH_value (.code y_SH_value b_SH_value 4 (some .double)) { frames := 129, cells := mc, slots := ms, locals := 1936 } [.ref a0, .int x1, .int x2] h Post := by
  refine fs_Ct.ofR hE.1 (by decide) ?_
  intro p e R s m below meth c hRf hRl hRc hRs B hout hP
  skip
  obtain ⟨hx, hb, hr, hml, hown, hts, hlocks, hname, hK, hw, htr⟩ := id B
  have hown : s.vm.findClass "FormulaSheet" = some m.cls := hown
  have hS := hw.S
  have hl := lv_entry ([.ref a0, .int x1, .int x2]) (n := 4) (Nat.le_of_ble_eq_true rfl)
  rw [lg_entry_eq]
  generalize (lg_sl ([.ref a0, .int x1, .int x2]) ++ List.replicate (4 - (lg_sl ([.ref a0, .int x1, .int x2])).length) Slot.unset).toArray = ls at hl ⊢
  have hl : lv_has ls 4 [(0, .ref a0), (1, .int x1), (2, .int x2)] := hl
  unfold w_SH_value at hq
  refine lv_aload_n hx hb d_SH_value_0 rfl (lv_at hl 0 rfl) ?_
  refine lv_iload_n hx hb d_SH_value_1 rfl (lv_at hl 1 rfl) ?_
  refine lv_iload_n hx hb d_SH_value_2 rfl (lv_at hl 2 rfl) ?_
  obtain ⟨c101, s102, hc_, hs_, hq⟩ := hq
  obtain ⟨hi_, hq⟩ := hq
  obtain ⟨fs_, he_⟩ := fs_isc_some hi_
  refine fs_cV B hl.1 hP hS (kw_SH_filledCellAt hE hq) (fs_tb_at 888 tw_888 rfl) he_ rfl (fs_tb_at 890 tw_890 rfl) (fs_tb_at 37 tw_37 rfl) (fs_tb_at 88 tw_88 rfl) (fs_tb_at 891 tw_891 rfl) (by decide) (show (parseMethodDescriptor y_SH_filledCellAt.desc).map (fun d => d.parameters.length) = some 2 by decide +kernel) rfl d_SH_value_3 (fs_rm (k := 0) (by omega) (by omega) (by omega) (by omega) rfl) (fun v_ h103 H locs hq hP hS => ?_) (fun C_ a_ h_ H locs hq hP hS hX => fs_out (hout _) hlocks hw hP hS hX (show (0 + c101) ≤ mc by omega) (show (0 + s102) ≤ ms by omega) hq)
  refine fs_cs (k := (0 + c101)) (n := (0 + s102)) rfl rfl ?_
  replace hq := fs_ki_some hq
  obtain ⟨x104, rfl, hq⟩ := hq
  refine W.eq (g2 := F0 m 6 ls (.int x104 :: [])) rfl ?_
  refine lv_istore_n (lv' := [(3, .int x104), (0, .ref a0), (1, .int x1), (2, .int x2)]) hx hb d_SH_value_6 rfl hl (by decide) rfl (fun ls hl => ?_)
  refine lv_aload_n hx hb d_SH_value_7 rfl (lv_at hl 1 rfl) ?_
  obtain ⟨fs_, a105, he_, hv_, hq⟩ := fs_gr_some hq
  refine fs_get hx hb hts hown hK c_SH hP he_ 1 (by decide) (hts _ (fs_tb_at 245 tw_245 rfl)) (fun _ h9 => h9) hv_ d_SH_value_8 ?_
  obtain ⟨hi_, hq⟩ := hq
  obtain ⟨fs_, he_⟩ := fs_isc_some hi_
  refine fs_cV B hl.1 hP hS (kw_CE_settle hE hq) (fs_tb_at 1044 tw_1044 rfl) he_ rfl (fs_tb_at 278 tw_278 rfl) (fs_tb_at 279 tw_279 rfl) (fs_tb_at 90 tw_90 rfl) (fs_tb_at 280 tw_280 rfl) (by decide) (show (parseMethodDescriptor y_CE_settle.desc).map (fun d => d.parameters.length) = some 0 by decide +kernel) rfl d_SH_value_11 (fs_rm (k := 0) (by omega) (by omega) (by omega) (by omega) rfl) (fun v_ h106 H locs hq hP hS => ?_) (fun C_ a_ h_ H locs hq hP hS hX => fs_out (hout _) hlocks hw hP hS hX (show (0 + c101) ≤ mc by omega) (show (0 + s102) ≤ ms by omega) hq)
  refine fs_cs (k := (0 + c101)) (n := (0 + s102)) rfl rfl ?_
  replace hq := fs_kv_some hq
  obtain ⟨rfl, hq⟩ := hq
  refine W.eq (g2 := F0 m 14 ls ([])) rfl ?_
  refine lv_aload_n hx hb d_SH_value_14 rfl (lv_at hl 1 rfl) ?_
  obtain ⟨fs_, a107, he_, hv_, hq⟩ := fs_gr_some hq
  refine fs_get hx hb hts hown hK c_SH hP he_ 1 (by decide) (hts _ (fs_tb_at 245 tw_245 rfl)) (fun _ h9 => h9) hv_ d_SH_value_15 ?_
  refine lv_iload_n hx hb d_SH_value_18 rfl (lv_at hl 0 rfl) ?_
  obtain ⟨hi_, hq⟩ := hq
  obtain ⟨fs_, he_⟩ := fs_isc_some hi_
  refine fs_cV B hl.1 hP hS (kw_CE_isCircular hE hq) (fs_tb_at 1045 tw_1045 rfl) he_ rfl (fs_tb_at 358 tw_358 rfl) (fs_tb_at 359 tw_359 rfl) (fs_tb_at 90 tw_90 rfl) (fs_tb_at 360 tw_360 rfl) (by decide) (show (parseMethodDescriptor y_CE_isCircular.desc).map (fun d => d.parameters.length) = some 1 by decide +kernel) rfl d_SH_value_19 (fs_rm (k := 0) (by omega) (by omega) (by omega) (by omega) rfl) (fun v_ h108 H locs hq hP hS => ?_) (fun C_ a_ h_ H locs hq hP hS hX => fs_out (hout _) hlocks hw hP hS hX (show (0 + c101) ≤ mc by omega) (show (0 + s102) ≤ ms by omega) hq)
  refine fs_cs (k := (0 + c101)) (n := (0 + s102)) rfl rfl ?_
  replace hq := fs_ki_some hq
  obtain ⟨x109, rfl, hq⟩ := hq
  refine W.eq (g2 := F0 m 22 ls (.int x109 :: [])) rfl ?_
  refine lv_if_eq (tgt := 33) hx hb d_SH_value_22 (by decide) (fun c_110 => ?_) (fun c_110 => ?_)
  · have hq := fs_wifp c_110 hq
    refine lv_aload_n hx hb d_SH_value_33 rfl (lv_at hl 1 rfl) ?_
    obtain ⟨fs_, a111, he_, hv_, hq⟩ := fs_gr_some hq
    refine fs_get hx hb hts hown hK c_SH hP he_ 1 (by decide) (hts _ (fs_tb_at 245 tw_245 rfl)) (fun _ h9 => h9) hv_ d_SH_value_34 ?_
    obtain ⟨fs_, a112, he_, hv_, hq⟩ := fs_gr_some hq
    refine fs_get hx hb hts hown hK c_CE hP he_ 2 (by decide) (hts _ (fs_tb_at 188 tw_188 rfl)) (fun _ h9 => h9) hv_ d_SH_value_37 ?_
    refine lv_iload_n hx hb d_SH_value_40 rfl (lv_at hl 0 rfl) ?_
    obtain ⟨n_, f_, x113, e_, hi_, ex_, hq⟩ := fs_ad_some hq
    refine fs_dald hx hb hK hP 2 e_ rfl hi_ d_SH_value_41 ?_
    rw [← ex_]
    refine fs_cS B hl.1 hP hS (kw_SH_isBad hE hq) (fs_tb_at 419 tw_419 rfl) (fs_tb_at 409 tw_409 rfl) (fs_tb_at 88 tw_88 rfl) (fs_tb_at 410 tw_410 rfl) (by decide) (show (parseMethodDescriptor y_SH_isBad.desc).map (fun d => d.parameters.length) = some 1 by decide +kernel) rfl d_SH_value_42 (fs_rm (k := 0) (by omega) (by omega) (by omega) (by omega) rfl) (fun v_ h114 H locs hq hP hS => ?_) (fun C_ a_ h_ H locs hq hP hS hX => fs_out (hout _) hlocks hw hP hS hX (show (0 + c101) ≤ mc by omega) (show (0 + s102) ≤ ms by omega) hq)
    refine fs_cs (k := (0 + c101)) (n := (0 + s102)) rfl rfl ?_
    replace hq := fs_ki_some hq
    obtain ⟨x115, rfl, hq⟩ := hq
    refine W.eq (g2 := F0 m 45 ls (.int x115 :: [])) rfl ?_
    refine lv_if_eq (tgt := 56) hx hb d_SH_value_45 (by decide) (fun c_116 => ?_) (fun c_116 => ?_)
    · have hq := fs_wifp c_116 hq
      refine lv_aload_n hx hb d_SH_value_56 rfl (lv_at hl 1 rfl) ?_
      obtain ⟨fs_, a117, he_, hv_, hq⟩ := fs_gr_some hq
      refine fs_get hx hb hts hown hK c_SH hP he_ 1 (by decide) (hts _ (fs_tb_at 245 tw_245 rfl)) (fun _ h9 => h9) hv_ d_SH_value_57 ?_
      obtain ⟨fs_, a118, he_, hv_, hq⟩ := fs_gr_some hq
      refine fs_get hx hb hts hown hK c_CE hP he_ 2 (by decide) (hts _ (fs_tb_at 188 tw_188 rfl)) (fun _ h9 => h9) hv_ d_SH_value_60 ?_
      refine lv_iload_n hx hb d_SH_value_63 rfl (lv_at hl 0 rfl) ?_
      obtain ⟨n_, f_, x119, e_, hi_, ex_, hq⟩ := fs_ad_some hq
      refine fs_dald hx hb hK hP 2 e_ rfl hi_ d_SH_value_64 ?_
      rw [← ex_]
      exact fs_dret hx hb hr hlocks hw hP hS (by omega) (by omega) hq d_SH_value_65
    · have hq := fs_wifn c_116 hq
      obtain ⟨hc_, hs_, hq⟩ := hq
      refine fs_thr hE B (names := ["java/lang/RuntimeException", "java/lang/Exception"]) (C := "java/lang/ArithmeticException") (k := 0) (by decide +kernel) (by decide) (by decide) hP hS (fs_tb_at 1046 tw_1046 rfl) (fs_tb_at 117 tw_117 rfl) hl.1 d_SH_value_48 d_SH_value_51 d_SH_value_52 d_SH_value_55 rfl (nl := 2) rfl (by omega) (by omega) (by omega) (by omega) (fun x_ H locs hP hS hX => ?_)
      exact fs_out (hout _) hlocks hw hP hS hX (by omega) (by omega) hq
  · have hq := fs_wifn c_110 hq
    obtain ⟨hc_, hs_, hq⟩ := hq
    refine fs_thr hE B (names := ["java/lang/RuntimeException", "java/lang/Exception"]) (C := "java/lang/IllegalStateException") (k := 0) (by decide +kernel) (by decide) (by decide) hP hS (fs_tb_at 561 tw_561 rfl) (fs_tb_at 101 tw_101 rfl) hl.1 d_SH_value_25 d_SH_value_28 d_SH_value_29 d_SH_value_32 rfl (nl := 2) rfl (by omega) (by omega) (by omega) (by omega) (fun x_ H locs hP hS hX => ?_)
    exact fs_out (hout _) hlocks hw hP hS hX (by omega) (by omega) hq
def w_SH_kind (mc ms : Nat) (E : fs_E) (h : fs_Hp) (a0 : Nat) (x1 : Int32) (x2 : Int32) (Post : fs_Ps) : Prop := ∃ c101 s102 : Nat, c101 ≤ mc ∧ s102 ≤ ms ∧ (w_SH_cellAt c101 s102 E h x1 x2 (fs_ki (fun x104 h103 => fs_gr h103 a0 0 1 (fun a105 => fs_gr h103 a105 2 0 (fun a106 => fs_ai h103 a106 (E.1.2 3) x104 (fun x107 => (if x107 = 0 then Post (.inl (some (.int 0))) h103 else fs_gr h103 a0 0 1 (fun a109 => fs_gr h103 a109 2 1 (fun a110 => fs_aq h103 a110 (E.1.2 6) x104 (fun o9 => match o9 with | none => Post (.inl (some (.int 1))) h103 | some a113 => fs_gr h103 a0 0 1 (fun a114 => fs_isc h103 a114 2 ∧ (w_CE_settle E h103 a114 (fs_kv (fun h115 => fs_gr h115 a0 0 1 (fun a116 => fs_isc h115 a116 2 ∧ (w_CE_isCircular E h115 a116 x104 (fs_ki (fun x118 h117 => (if x118 = 0 then fs_gr h117 a0 0 1 (fun a120 => fs_gr h117 a120 2 2 (fun a121 => fs_ad h117 a121 (E.1.2 2) x104 (fun x122 => w_SH_isBad E h117 x122 (fs_ki (fun x124 h123 => (if x124 = 0 then Post (.inl (some (.int 2))) h123 else Post (.inl (some (.int 3))) h123)) (fun C_ h_ => Post (.inr C_) h_))))) else Post (.inl (some (.int 4))) h117)) (fun C_ h_ => Post (.inr C_) h_))))) (fun C_ h_ => Post (.inr C_) h_)))))))))))) (fun C_ h_ => Post (.inr C_) h_)))
set_option maxHeartbeats 4000000 in
set_option maxRecDepth 100000 in
theorem kw_SH_kind {l : Launch} {s00 : State} {E : fs_E} (hE : fs_SE l s00 E) {mc ms : Nat} {h : fs_Hp} {a0 : Nat} {x1 : Int32} {x2 : Int32} {Post : fs_Ps} (hq : w_SH_kind mc ms E h a0 x1 x2 Post) : fs_Ct l s00 E.1 y_SH_kind (.code y_SH_kind b_SH_kind 4 (some .int)) { frames := 129, cells := mc, slots := ms, locals := 1936 } [.ref a0, .int x1, .int x2] h Post := by
  refine fs_Ct.ofR hE.1 (by decide) ?_
  intro p e R s m below meth c hRf hRl hRc hRs B hout hP
  skip
  obtain ⟨hx, hb, hr, hml, hown, hts, hlocks, hname, hK, hw, htr⟩ := id B
  have hown : s.vm.findClass "FormulaSheet" = some m.cls := hown
  have hS := hw.S
  have hl := lv_entry ([.ref a0, .int x1, .int x2]) (n := 4) (Nat.le_of_ble_eq_true rfl)
  rw [lg_entry_eq]
  generalize (lg_sl ([.ref a0, .int x1, .int x2]) ++ List.replicate (4 - (lg_sl ([.ref a0, .int x1, .int x2])).length) Slot.unset).toArray = ls at hl ⊢
  have hl : lv_has ls 4 [(0, .ref a0), (1, .int x1), (2, .int x2)] := hl
  unfold w_SH_kind at hq
  refine lv_iload_n hx hb d_SH_kind_0 rfl (lv_at hl 1 rfl) ?_
  refine lv_iload_n hx hb d_SH_kind_1 rfl (lv_at hl 2 rfl) ?_
  obtain ⟨c101, s102, hc_, hs_, hq⟩ := hq
  refine fs_cS B hl.1 hP hS (kw_SH_cellAt hE hq) (fs_tb_at 588 tw_588 rfl) (fs_tb_at 589 tw_589 rfl) (fs_tb_at 88 tw_88 rfl) (fs_tb_at 590 tw_590 rfl) (by decide) (show (parseMethodDescriptor y_SH_cellAt.desc).map (fun d => d.parameters.length) = some 2 by decide +kernel) rfl d_SH_kind_2 (fs_rm (k := 0) (by omega) (by omega) (by omega) (by omega) rfl) (fun v_ h103 H locs hq hP hS => ?_) (fun C_ a_ h_ H locs hq hP hS hX => fs_out (hout _) hlocks hw hP hS hX (show (0 + c101) ≤ mc by omega) (show (0 + s102) ≤ ms by omega) hq)
  refine fs_cs (k := (0 + c101)) (n := (0 + s102)) rfl rfl ?_
  replace hq := fs_ki_some hq
  obtain ⟨x104, rfl, hq⟩ := hq
  refine W.eq (g2 := F0 m 5 ls (.int x104 :: [])) rfl ?_
  refine lv_istore_n (lv' := [(3, .int x104), (0, .ref a0), (1, .int x1), (2, .int x2)]) hx hb d_SH_kind_5 rfl hl (by decide) rfl (fun ls hl => ?_)
  refine lv_aload_n hx hb d_SH_kind_6 rfl (lv_at hl 1 rfl) ?_
  obtain ⟨fs_, a105, he_, hv_, hq⟩ := fs_gr_some hq
  refine fs_get hx hb hts hown hK c_SH hP he_ 1 (by decide) (hts _ (fs_tb_at 245 tw_245 rfl)) (fun _ h9 => h9) hv_ d_SH_kind_7 ?_
  obtain ⟨fs_, a106, he_, hv_, hq⟩ := fs_gr_some hq
  refine fs_get hx hb hts hown hK c_CE hP he_ 0 (by decide) (hts _ (fs_tb_at 182 tw_182 rfl)) (fun _ h9 => h9) hv_ d_SH_kind_10 ?_
  refine lv_iload_n hx hb d_SH_kind_13 rfl (lv_at hl 0 rfl) ?_
  obtain ⟨n_, f_, x107, e_, hi_, ex_, hq⟩ := fs_ai_some hq
  refine fs_zald hx hb hK hP 3 e_ rfl hi_ d_SH_kind_14 ?_
  rw [← ex_]
  refine lv_if_ne (tgt := 20) hx hb d_SH_kind_15 (by decide) (fun c_108 => ?_) (fun c_108 => ?_)
  · have hq := fs_wifn c_108 hq
    refine lv_aload_n hx hb d_SH_kind_20 rfl (lv_at hl 1 rfl) ?_
    obtain ⟨fs_, a109, he_, hv_, hq⟩ := fs_gr_some hq
    refine fs_get hx hb hts hown hK c_SH hP he_ 1 (by decide) (hts _ (fs_tb_at 245 tw_245 rfl)) (fun _ h9 => h9) hv_ d_SH_kind_21 ?_
    obtain ⟨fs_, a110, he_, hv_, hq⟩ := fs_gr_some hq
    refine fs_get hx hb hts hown hK c_CE hP he_ 1 (by decide) (hts _ (fs_tb_at 185 tw_185 rfl)) (fun _ h9 => h9) hv_ d_SH_kind_24 ?_
    refine lv_iload_n hx hb d_SH_kind_27 rfl (lv_at hl 0 rfl) ?_
    obtain ⟨n_, f_, o111, e_, hi_, ex_, hq⟩ := fs_aq_some hq
    refine fs_aald hx hb hK hP 6 e_ rfl hi_ d_SH_kind_28 ?_
    rw [← ex_]
    cases o111 with
    | none =>
      refine W.eq (g2 := F0 m 29 ls (.null :: [])) rfl ?_
      refine lv_ifnonnullN hx hb d_SH_kind_29 ?_
      refine lv_iconst (v := 1) hx hb d_SH_kind_32 (by decide) ?_
      exact fs_iret hx hb hr hlocks hw hP hS (vp_nar_int _) (by omega) (by omega) hq d_SH_kind_33
    | some a113 =>
      refine W.eq (g2 := F0 m 29 ls (.ref a113 :: [])) rfl ?_
      refine lv_ifnonnull (tgt := 34) hx hb d_SH_kind_29 (by decide) ?_
      refine lv_aload_n hx hb d_SH_kind_34 rfl (lv_at hl 1 rfl) ?_
      obtain ⟨fs_, a114, he_, hv_, hq⟩ := fs_gr_some hq
      refine fs_get hx hb hts hown hK c_SH hP he_ 1 (by decide) (hts _ (fs_tb_at 245 tw_245 rfl)) (fun _ h9 => h9) hv_ d_SH_kind_35 ?_
      obtain ⟨hi_, hq⟩ := hq
      obtain ⟨fs_, he_⟩ := fs_isc_some hi_
      refine fs_cV B hl.1 hP hS (kw_CE_settle hE hq) (fs_tb_at 1044 tw_1044 rfl) he_ rfl (fs_tb_at 278 tw_278 rfl) (fs_tb_at 279 tw_279 rfl) (fs_tb_at 90 tw_90 rfl) (fs_tb_at 280 tw_280 rfl) (by decide) (show (parseMethodDescriptor y_CE_settle.desc).map (fun d => d.parameters.length) = some 0 by decide +kernel) rfl d_SH_kind_38 (fs_rm (k := 0) (by omega) (by omega) (by omega) (by omega) rfl) (fun v_ h115 H locs hq hP hS => ?_) (fun C_ a_ h_ H locs hq hP hS hX => fs_out (hout _) hlocks hw hP hS hX (show (0 + c101) ≤ mc by omega) (show (0 + s102) ≤ ms by omega) hq)
      refine fs_cs (k := (0 + c101)) (n := (0 + s102)) rfl rfl ?_
      replace hq := fs_kv_some hq
      obtain ⟨rfl, hq⟩ := hq
      refine W.eq (g2 := F0 m 41 ls ([])) rfl ?_
      refine lv_aload_n hx hb d_SH_kind_41 rfl (lv_at hl 1 rfl) ?_
      obtain ⟨fs_, a116, he_, hv_, hq⟩ := fs_gr_some hq
      refine fs_get hx hb hts hown hK c_SH hP he_ 1 (by decide) (hts _ (fs_tb_at 245 tw_245 rfl)) (fun _ h9 => h9) hv_ d_SH_kind_42 ?_
      refine lv_iload_n hx hb d_SH_kind_45 rfl (lv_at hl 0 rfl) ?_
      obtain ⟨hi_, hq⟩ := hq
      obtain ⟨fs_, he_⟩ := fs_isc_some hi_
      refine fs_cV B hl.1 hP hS (kw_CE_isCircular hE hq) (fs_tb_at 1045 tw_1045 rfl) he_ rfl (fs_tb_at 358 tw_358 rfl) (fs_tb_at 359 tw_359 rfl) (fs_tb_at 90 tw_90 rfl) (fs_tb_at 360 tw_360 rfl) (by decide) (show (parseMethodDescriptor y_CE_isCircular.desc).map (fun d => d.parameters.length) = some 1 by decide +kernel) rfl d_SH_kind_46 (fs_rm (k := 0) (by omega) (by omega) (by omega) (by omega) rfl) (fun v_ h117 H locs hq hP hS => ?_) (fun C_ a_ h_ H locs hq hP hS hX => fs_out (hout _) hlocks hw hP hS hX (show (0 + c101) ≤ mc by omega) (show (0 + s102) ≤ ms by omega) hq)
      refine fs_cs (k := (0 + c101)) (n := (0 + s102)) rfl rfl ?_
      replace hq := fs_ki_some hq
      obtain ⟨x118, rfl, hq⟩ := hq
      refine W.eq (g2 := F0 m 49 ls (.int x118 :: [])) rfl ?_
      refine lv_if_eq (tgt := 54) hx hb d_SH_kind_49 (by decide) (fun c_119 => ?_) (fun c_119 => ?_)
      · have hq := fs_wifp c_119 hq
        refine lv_aload_n hx hb d_SH_kind_54 rfl (lv_at hl 1 rfl) ?_
        obtain ⟨fs_, a120, he_, hv_, hq⟩ := fs_gr_some hq
        refine fs_get hx hb hts hown hK c_SH hP he_ 1 (by decide) (hts _ (fs_tb_at 245 tw_245 rfl)) (fun _ h9 => h9) hv_ d_SH_kind_55 ?_
        obtain ⟨fs_, a121, he_, hv_, hq⟩ := fs_gr_some hq
        refine fs_get hx hb hts hown hK c_CE hP he_ 2 (by decide) (hts _ (fs_tb_at 188 tw_188 rfl)) (fun _ h9 => h9) hv_ d_SH_kind_58 ?_
        refine lv_iload_n hx hb d_SH_kind_61 rfl (lv_at hl 0 rfl) ?_
        obtain ⟨n_, f_, x122, e_, hi_, ex_, hq⟩ := fs_ad_some hq
        refine fs_dald hx hb hK hP 2 e_ rfl hi_ d_SH_kind_62 ?_
        rw [← ex_]
        refine fs_cS B hl.1 hP hS (kw_SH_isBad hE hq) (fs_tb_at 419 tw_419 rfl) (fs_tb_at 409 tw_409 rfl) (fs_tb_at 88 tw_88 rfl) (fs_tb_at 410 tw_410 rfl) (by decide) (show (parseMethodDescriptor y_SH_isBad.desc).map (fun d => d.parameters.length) = some 1 by decide +kernel) rfl d_SH_kind_63 (fs_rm (k := 0) (by omega) (by omega) (by omega) (by omega) rfl) (fun v_ h123 H locs hq hP hS => ?_) (fun C_ a_ h_ H locs hq hP hS hX => fs_out (hout _) hlocks hw hP hS hX (show (0 + c101) ≤ mc by omega) (show (0 + s102) ≤ ms by omega) hq)
        refine fs_cs (k := (0 + c101)) (n := (0 + s102)) rfl rfl ?_
        replace hq := fs_ki_some hq
        obtain ⟨x124, rfl, hq⟩ := hq
        refine W.eq (g2 := F0 m 66 ls (.int x124 :: [])) rfl ?_
        refine lv_if_eq (tgt := 73) hx hb d_SH_kind_66 (by decide) (fun c_125 => ?_) (fun c_125 => ?_)
        · have hq := fs_wifp c_125 hq
          refine lv_iconst (v := 2) hx hb d_SH_kind_73 (by decide) ?_
          exact fs_iret hx hb hr hlocks hw hP hS (vp_nar_int _) (by omega) (by omega) hq d_SH_kind_74
        · have hq := fs_wifn c_125 hq
          refine lv_iconst (v := 3) hx hb d_SH_kind_69 (by decide) ?_
          refine lv_goto (tgt := 74) hx hb d_SH_kind_70 (by decide) ?_
          exact fs_iret hx hb hr hlocks hw hP hS (vp_nar_int _) (by omega) (by omega) hq d_SH_kind_74
      · have hq := fs_wifn c_119 hq
        refine lv_iconst (v := 4) hx hb d_SH_kind_52 (by decide) ?_
        exact fs_iret hx hb hr hlocks hw hP hS (vp_nar_int _) (by omega) (by omega) hq d_SH_kind_53
  · have hq := fs_wifp c_108 hq
    refine lv_iconst (v := 0) hx hb d_SH_kind_18 (by decide) ?_
    exact fs_iret hx hb hr hlocks hw hP hS (vp_nar_int _) (by omega) (by omega) hq d_SH_kind_19
def w_SH_text (mc ms : Nat) (E : fs_E) (h : fs_Hp) (a0 : Nat) (x1 : Int32) (x2 : Int32) (x3 : Int32) (Post : fs_Ps) : Prop := fs_gr h a0 0 1 (fun a101 => fs_gr h a101 2 1 (fun a102 => ∃ c103 s104 : Nat, c103 ≤ mc ∧ s104 ≤ ms ∧ (w_SH_cellAt c103 s104 E h x1 x2 (fs_ki (fun x106 h105 => fs_aq h105 a102 (E.1.2 6) x106 (fun o9 => match o9 with | none => 1 ≤ (mc - c103) ∧ 6 ≤ (ms - s104) ∧ Post (.inr "java/lang/UnsupportedOperationException") h105 | some a109 => fs_gr h105 a0 0 2 (fun a110 => ∃ c111 s112 : Nat, c111 ≤ (mc - c103) ∧ s112 ≤ (ms - s104) ∧ (fs_isc h105 a110 11 ∧ (w_SB_setLength c111 s112 E h105 a110 0 (fs_kv (fun h113 => fs_gr h113 a0 0 2 (fun a114 => ∃ c115 s116 : Nat, c115 ≤ ((mc - c103) - c111) ∧ s116 ≤ ((ms - s104) - s112) ∧ (w_V_write (w_N_writeBare 42) c115 s116 E h113 a109 a114 0 (fs_kv (fun h117 => (if x3 < 0 then Post (.inl (some (.int (-1)))) h117 else fs_gr h117 a0 0 2 (fun a119 => fs_isc h117 a119 11 ∧ (w_SB_length E h117 a119 (fs_ki (fun x121 h120 => (if x121 ≤ x3 then Post (.inl (some (.int (-1)))) h120 else fs_gr h120 a0 0 2 (fun a123 => fs_isc h120 a123 11 ∧ (w_SB_charAt E h120 a123 x3 (fs_ki (fun x125 h124 => Post (.inl (some (.int x125))) h124) (fun C_ h_ => Post (.inr C_) h_)))))) (fun C_ h_ => Post (.inr C_) h_)))))) (fun C_ h_ => Post (.inr C_) h_))))) (fun C_ h_ => Post (.inr C_) h_))))))) (fun C_ h_ => Post (.inr C_) h_)))))
set_option maxHeartbeats 4000000 in
set_option maxRecDepth 100000 in
theorem kw_SH_text {l : Launch} {s00 : State} {E : fs_E} (hE : fs_SE l s00 E) {mc ms : Nat} {h : fs_Hp} {a0 : Nat} {x1 : Int32} {x2 : Int32} {x3 : Int32} {Post : fs_Ps} (hq : w_SH_text mc ms E h a0 x1 x2 x3 Post) : fs_Ct l s00 E.1 y_SH_text (.code y_SH_text b_SH_text 5 (some .int)) { frames := 301, cells := mc, slots := ms, locals := 4429 } [.ref a0, .int x1, .int x2, .int x3] h Post := by
  refine fs_Ct.ofR hE.1 (by decide) ?_
  intro p e R s m below meth c hRf hRl hRc hRs B hout hP
  skip
  obtain ⟨hx, hb, hr, hml, hown, hts, hlocks, hname, hK, hw, htr⟩ := id B
  have hown : s.vm.findClass "FormulaSheet" = some m.cls := hown
  have hS := hw.S
  have hl := lv_entry ([.ref a0, .int x1, .int x2, .int x3]) (n := 5) (Nat.le_of_ble_eq_true rfl)
  rw [lg_entry_eq]
  generalize (lg_sl ([.ref a0, .int x1, .int x2, .int x3]) ++ List.replicate (5 - (lg_sl ([.ref a0, .int x1, .int x2, .int x3])).length) Slot.unset).toArray = ls at hl ⊢
  have hl : lv_has ls 5 [(0, .ref a0), (1, .int x1), (2, .int x2), (3, .int x3)] := hl
  unfold w_SH_text at hq
  refine lv_aload_n hx hb d_SH_text_0 rfl (lv_at hl 0 rfl) ?_
  obtain ⟨fs_, a101, he_, hv_, hq⟩ := fs_gr_some hq
  refine fs_get hx hb hts hown hK c_SH hP he_ 1 (by decide) (hts _ (fs_tb_at 245 tw_245 rfl)) (fun _ h9 => h9) hv_ d_SH_text_1 ?_
  obtain ⟨fs_, a102, he_, hv_, hq⟩ := fs_gr_some hq
  refine fs_get hx hb hts hown hK c_CE hP he_ 1 (by decide) (hts _ (fs_tb_at 185 tw_185 rfl)) (fun _ h9 => h9) hv_ d_SH_text_4 ?_
  refine lv_iload_n hx hb d_SH_text_7 rfl (lv_at hl 1 rfl) ?_
  refine lv_iload_n hx hb d_SH_text_8 rfl (lv_at hl 2 rfl) ?_
  obtain ⟨c103, s104, hc_, hs_, hq⟩ := hq
  refine fs_cS B hl.1 hP hS (kw_SH_cellAt hE hq) (fs_tb_at 588 tw_588 rfl) (fs_tb_at 589 tw_589 rfl) (fs_tb_at 88 tw_88 rfl) (fs_tb_at 590 tw_590 rfl) (by decide) (show (parseMethodDescriptor y_SH_cellAt.desc).map (fun d => d.parameters.length) = some 2 by decide +kernel) rfl d_SH_text_9 (fs_rm (k := 1) (by omega) (by omega) (by omega) (by omega) rfl) (fun v_ h105 H locs hq hP hS => ?_) (fun C_ a_ h_ H locs hq hP hS hX => fs_out (hout _) hlocks hw hP hS hX (show (0 + c103) ≤ mc by omega) (show (0 + s104) ≤ ms by omega) hq)
  refine fs_cs (k := (0 + c103)) (n := (0 + s104)) rfl rfl ?_
  replace hq := fs_ki_some hq
  obtain ⟨x106, rfl, hq⟩ := hq
  refine W.eq (g2 := F0 m 12 ls (.int x106 :: .ref a102 :: [])) rfl ?_
  obtain ⟨n_, f_, o107, e_, hi_, ex_, hq⟩ := fs_aq_some hq
  refine fs_aald hx hb hK hP 6 e_ rfl hi_ d_SH_text_12 ?_
  rw [← ex_]
  cases o107 with
  | none =>
    refine W.eq (g2 := F0 m 13 ls (.null :: [])) rfl ?_
    refine lv_astoreN (lv' := [(4, .null), (0, .ref a0), (1, .int x1), (2, .int x2), (3, .int x3)]) hx hb d_SH_text_13 hl (by decide) rfl (fun ls hl => ?_)
    refine lv_aloadN hx hb d_SH_text_15 (lv_at hl 0 rfl) ?_
    refine lv_ifnonnullN hx hb d_SH_text_17 ?_
    obtain ⟨hc_, hs_, hq⟩ := hq
    refine fs_thr hE B (names := ["java/lang/RuntimeException", "java/lang/Exception"]) (C := "java/lang/UnsupportedOperationException") (k := 0) (by decide +kernel) (by decide) (by decide) hP hS (fs_tb_at 1076 tw_1076 rfl) (fs_tb_at 118 tw_118 rfl) hl.1 d_SH_text_20 d_SH_text_23 d_SH_text_24 d_SH_text_27 rfl (nl := 2) rfl (by omega) (by omega) (by omega) (by omega) (fun x_ H locs hP hS hX => ?_)
    exact fs_out (hout _) hlocks hw hP hS hX (by omega) (by omega) hq
  | some a109 =>
    refine W.eq (g2 := F0 m 13 ls (.ref a109 :: [])) rfl ?_
    refine lv_astore (lv' := [(4, .ref a109), (0, .ref a0), (1, .int x1), (2, .int x2), (3, .int x3)]) hx hb d_SH_text_13 hl (by decide) rfl (fun ls hl => ?_)
    refine lv_aload hx hb d_SH_text_15 (lv_at hl 0 rfl) ?_
    refine lv_ifnonnull (tgt := 28) hx hb d_SH_text_17 (by decide) ?_
    refine lv_aload_n hx hb d_SH_text_28 rfl (lv_at hl 1 rfl) ?_
    obtain ⟨fs_, a110, he_, hv_, hq⟩ := fs_gr_some hq
    refine fs_get hx hb hts hown hK c_SH hP he_ 2 (by decide) (hts _ (fs_tb_at 246 tw_246 rfl)) (fun _ h9 => h9) hv_ d_SH_text_29 ?_
    refine lv_iconst (v := 0) hx hb d_SH_text_32 (by decide) ?_
    obtain ⟨c111, s112, hc_, hs_, hq⟩ := hq
    obtain ⟨hi_, hq⟩ := hq
    obtain ⟨fs_, he_⟩ := fs_isc_some hi_
    refine fs_cV B hl.1 hP hS (kw_SB_setLength hE hq) (fs_tb_at 1091 tw_1091 rfl) he_ rfl (fs_tb_at 1092 tw_1092 rfl) (fs_tb_at 1093 tw_1093 rfl) (fs_tb_at 93 tw_93 rfl) (fs_tb_at 1094 tw_1094 rfl) (by decide) (show (parseMethodDescriptor y_SB_setLength.desc).map (fun d => d.parameters.length) = some 1 by decide +kernel) rfl d_SH_text_33 (fs_rm (k := 0) (by omega) (by omega) (by omega) (by omega) rfl) (fun v_ h113 H locs hq hP hS => ?_) (fun C_ a_ h_ H locs hq hP hS hX => fs_out (hout _) hlocks hw hP hS hX (show ((0 + c103) + c111) ≤ mc by omega) (show ((0 + s104) + s112) ≤ ms by omega) hq)
    refine fs_cs (k := ((0 + c103) + c111)) (n := ((0 + s104) + s112)) rfl rfl ?_
    replace hq := fs_kv_some hq
    obtain ⟨rfl, hq⟩ := hq
    refine W.eq (g2 := F0 m 36 ls ([])) rfl ?_
    refine lv_aload hx hb d_SH_text_36 (lv_at hl 0 rfl) ?_
    refine lv_aload_n hx hb d_SH_text_38 rfl (lv_at hl 1 rfl) ?_
    obtain ⟨fs_, a114, he_, hv_, hq⟩ := fs_gr_some hq
    refine fs_get hx hb hts hown hK c_SH hP he_ 2 (by decide) (hts _ (fs_tb_at 246 tw_246 rfl)) (fun _ h9 => h9) hv_ d_SH_text_39 ?_
    refine lv_iconst (v := 0) hx hb d_SH_text_42 (by decide) ?_
    obtain ⟨c115, s116, hc_, hs_, hq⟩ := hq
    refine fs_cVV (owner := "FormulaSheet$Part") B hl.1 hP hS (kw_V_write hE (kN_writeBare hE) hq) (fs_tb_at 1350 tw_1350 rfl) (fs_tb_at 1352 tw_1352 rfl) (fs_dclA (fs_tb_at 1414 tw_1414 rfl)) (by decide) (show (parseMethodDescriptor y_PT_write.desc).map (fun d => d.parameters.length) = some 2 by decide +kernel) rfl d_SH_text_43 (fs_rm (k := 0) (by omega) (by omega) (by omega) (by omega) rfl) (fun v_ h117 H locs hq hP hS => ?_) (fun C_ a_ h_ H locs hq hP hS hX => fs_out (hout _) hlocks hw hP hS hX (show (((0 + c103) + c111) + c115) ≤ mc by omega) (show (((0 + s104) + s112) + s116) ≤ ms by omega) hq)
    refine fs_cs (k := (((0 + c103) + c111) + c115)) (n := (((0 + s104) + s112) + s116)) rfl rfl ?_
    replace hq := fs_kv_some hq
    obtain ⟨rfl, hq⟩ := hq
    refine W.eq (g2 := F0 m 46 ls ([])) rfl ?_
    refine lv_iload_n hx hb d_SH_text_46 rfl (lv_at hl 4 rfl) ?_
    refine lv_if_lt (tgt := 72) hx hb d_SH_text_47 (by decide) (fun c_118 => ?_) (fun c_118 => ?_)
    · have hq := fs_wifp c_118 hq
      refine lv_iconst (v := (-1)) hx hb d_SH_text_72 (by decide) ?_
      exact fs_iret hx hb hr hlocks hw hP hS (vp_nar_int _) (by omega) (by omega) hq d_SH_text_73
    · have hq := fs_wifn c_118 hq
      refine lv_iload_n hx hb d_SH_text_50 rfl (lv_at hl 4 rfl) ?_
      refine lv_aload_n hx hb d_SH_text_51 rfl (lv_at hl 1 rfl) ?_
      obtain ⟨fs_, a119, he_, hv_, hq⟩ := fs_gr_some hq
      refine fs_get hx hb hts hown hK c_SH hP he_ 2 (by decide) (hts _ (fs_tb_at 246 tw_246 rfl)) (fun _ h9 => h9) hv_ d_SH_text_52 ?_
      obtain ⟨hi_, hq⟩ := hq
      obtain ⟨fs_, he_⟩ := fs_isc_some hi_
      refine fs_cV B hl.1 hP hS (kw_SB_length hE hq) (fs_tb_at 1431 tw_1431 rfl) he_ rfl (fs_tb_at 1250 tw_1250 rfl) (fs_tb_at 1872 tw_1872 rfl) (fs_tb_at 93 tw_93 rfl) (fs_tb_at 1251 tw_1251 rfl) (by decide) (show (parseMethodDescriptor y_SB_length.desc).map (fun d => d.parameters.length) = some 0 by decide +kernel) rfl d_SH_text_55 (fs_rm (k := 1) (by omega) (by omega) (by omega) (by omega) rfl) (fun v_ h120 H locs hq hP hS => ?_) (fun C_ a_ h_ H locs hq hP hS hX => fs_out (hout _) hlocks hw hP hS hX (show (((0 + c103) + c111) + c115) ≤ mc by omega) (show (((0 + s104) + s112) + s116) ≤ ms by omega) hq)
      refine fs_cs (k := (((0 + c103) + c111) + c115)) (n := (((0 + s104) + s112) + s116)) rfl rfl ?_
      replace hq := fs_ki_some hq
      obtain ⟨x121, rfl, hq⟩ := hq
      refine W.eq (g2 := F0 m 58 ls (.int x121 :: .int x3 :: [])) rfl ?_
      refine lv_icmp_ge (tgt := 72) hx hb d_SH_text_58 (by decide) (fun c_122 => ?_) (fun c_122 => ?_)
      · have hq := fs_wifp c_122 hq
        refine lv_iconst (v := (-1)) hx hb d_SH_text_72 (by decide) ?_
        exact fs_iret hx hb hr hlocks hw hP hS (vp_nar_int _) (by omega) (by omega) hq d_SH_text_73
      · have hq := fs_wifn c_122 hq
        refine lv_aload_n hx hb d_SH_text_61 rfl (lv_at hl 1 rfl) ?_
        obtain ⟨fs_, a123, he_, hv_, hq⟩ := fs_gr_some hq
        refine fs_get hx hb hts hown hK c_SH hP he_ 2 (by decide) (hts _ (fs_tb_at 246 tw_246 rfl)) (fun _ h9 => h9) hv_ d_SH_text_62 ?_
        refine lv_iload_n hx hb d_SH_text_65 rfl (lv_at hl 4 rfl) ?_
        obtain ⟨hi_, hq⟩ := hq
        obtain ⟨fs_, he_⟩ := fs_isc_some hi_
        refine fs_cV B hl.1 hP hS (kw_SB_charAt hE hq) (fs_tb_at 1432 tw_1432 rfl) he_ rfl (fs_tb_at 1433 tw_1433 rfl) (fs_tb_at 1434 tw_1434 rfl) (fs_tb_at 93 tw_93 rfl) (fs_tb_at 1435 tw_1435 rfl) (by decide) (show (parseMethodDescriptor y_SB_charAt.desc).map (fun d => d.parameters.length) = some 1 by decide +kernel) rfl d_SH_text_66 (fs_rm (k := 0) (by omega) (by omega) (by omega) (by omega) rfl) (fun v_ h124 H locs hq hP hS => ?_) (fun C_ a_ h_ H locs hq hP hS hX => fs_out (hout _) hlocks hw hP hS hX (show (((0 + c103) + c111) + c115) ≤ mc by omega) (show (((0 + s104) + s112) + s116) ≤ ms by omega) hq)
        refine fs_cs (k := (((0 + c103) + c111) + c115)) (n := (((0 + s104) + s112) + s116)) rfl rfl ?_
        replace hq := fs_ki_some hq
        obtain ⟨x125, rfl, hq⟩ := hq
        refine W.eq (g2 := F0 m 69 ls (.int x125 :: [])) rfl ?_
        refine lv_goto (tgt := 73) hx hb d_SH_text_69 (by decide) ?_
        exact fs_iret hx hb hr hlocks hw hP hS (vp_nar_int _) (by omega) (by omega) hq d_SH_text_73
def w_SH_reaches (mc ms : Nat) (E : fs_E) (h : fs_Hp) (a0 : Nat) (x1 : Int32) (x2 : Int32) (x3 : Int32) (x4 : Int32) (Post : fs_Ps) : Prop := ∃ c101 s102 : Nat, c101 ≤ mc ∧ s102 ≤ ms ∧ (w_SH_cellAt c101 s102 E h x1 x2 (fs_ki (fun x104 h103 => ∃ c105 s106 : Nat, c105 ≤ (mc - c101) ∧ s106 ≤ (ms - s102) ∧ (w_SH_cellAt c105 s106 E h103 x3 x4 (fs_ki (fun x108 h107 => fs_gr h107 a0 0 1 (fun a109 => fs_isc h107 a109 2 ∧ (w_CE_settle E h107 a109 (fs_kv (fun h110 => fs_gr h110 a0 0 1 (fun a111 => fs_gr h110 a111 2 3 (fun a112 => fs_aq h110 a112 (E.1.2 7) x104 (fun o9 => match o9 with | none => False | some a115 => fs_isc h110 a115 3 ∧ (w_CS_has E h110 a115 x108 (fs_ki (fun x117 h116 => (narrow .boolean (.int x117) = (.int x117)) ∧ (Post (.inl (some (.int x117))) h116)) (fun C_ h_ => Post (.inr C_) h_))))))) (fun C_ h_ => Post (.inr C_) h_))))) (fun C_ h_ => Post (.inr C_) h_)))) (fun C_ h_ => Post (.inr C_) h_)))
set_option maxHeartbeats 4000000 in
set_option maxRecDepth 100000 in
theorem kw_SH_reaches {l : Launch} {s00 : State} {E : fs_E} (hE : fs_SE l s00 E) {mc ms : Nat} {h : fs_Hp} {a0 : Nat} {x1 : Int32} {x2 : Int32} {x3 : Int32} {x4 : Int32} {Post : fs_Ps} (hq : w_SH_reaches mc ms E h a0 x1 x2 x3 x4 Post) : fs_Ct l s00 E.1 y_SH_reaches (.code y_SH_reaches b_SH_reaches 7 (some .boolean)) { frames := 129, cells := mc, slots := ms, locals := 1936 } [.ref a0, .int x1, .int x2, .int x3, .int x4] h Post := by
  refine fs_Ct.ofR hE.1 (by decide) ?_
  intro p e R s m below meth c hRf hRl hRc hRs B hout hP
  skip
  obtain ⟨hx, hb, hr, hml, hown, hts, hlocks, hname, hK, hw, htr⟩ := id B
  have hown : s.vm.findClass "FormulaSheet" = some m.cls := hown
  have hS := hw.S
  have hl := lv_entry ([.ref a0, .int x1, .int x2, .int x3, .int x4]) (n := 7) (Nat.le_of_ble_eq_true rfl)
  rw [lg_entry_eq]
  generalize (lg_sl ([.ref a0, .int x1, .int x2, .int x3, .int x4]) ++ List.replicate (7 - (lg_sl ([.ref a0, .int x1, .int x2, .int x3, .int x4])).length) Slot.unset).toArray = ls at hl ⊢
  have hl : lv_has ls 7 [(0, .ref a0), (1, .int x1), (2, .int x2), (3, .int x3), (4, .int x4)] := hl
  unfold w_SH_reaches at hq
  refine lv_iload_n hx hb d_SH_reaches_0 rfl (lv_at hl 1 rfl) ?_
  refine lv_iload_n hx hb d_SH_reaches_1 rfl (lv_at hl 2 rfl) ?_
  obtain ⟨c101, s102, hc_, hs_, hq⟩ := hq
  refine fs_cS B hl.1 hP hS (kw_SH_cellAt hE hq) (fs_tb_at 588 tw_588 rfl) (fs_tb_at 589 tw_589 rfl) (fs_tb_at 88 tw_88 rfl) (fs_tb_at 590 tw_590 rfl) (by decide) (show (parseMethodDescriptor y_SH_cellAt.desc).map (fun d => d.parameters.length) = some 2 by decide +kernel) rfl d_SH_reaches_2 (fs_rm (k := 0) (by omega) (by omega) (by omega) (by omega) rfl) (fun v_ h103 H locs hq hP hS => ?_) (fun C_ a_ h_ H locs hq hP hS hX => fs_out (hout _) hlocks hw hP hS hX (show (0 + c101) ≤ mc by omega) (show (0 + s102) ≤ ms by omega) hq)
  refine fs_cs (k := (0 + c101)) (n := (0 + s102)) rfl rfl ?_
  replace hq := fs_ki_some hq
  obtain ⟨x104, rfl, hq⟩ := hq
  refine W.eq (g2 := F0 m 5 ls (.int x104 :: [])) rfl ?_
  refine lv_istore (lv' := [(5, .int x104), (0, .ref a0), (1, .int x1), (2, .int x2), (3, .int x3), (4, .int x4)]) hx hb d_SH_reaches_5 hl (by decide) rfl (fun ls hl => ?_)
  refine lv_iload_n hx hb d_SH_reaches_7 rfl (lv_at hl 4 rfl) ?_
  refine lv_iload hx hb d_SH_reaches_8 (lv_at hl 5 rfl) ?_
  obtain ⟨c105, s106, hc_, hs_, hq⟩ := hq
  refine fs_cS B hl.1 hP hS (kw_SH_cellAt hE hq) (fs_tb_at 588 tw_588 rfl) (fs_tb_at 589 tw_589 rfl) (fs_tb_at 88 tw_88 rfl) (fs_tb_at 590 tw_590 rfl) (by decide) (show (parseMethodDescriptor y_SH_cellAt.desc).map (fun d => d.parameters.length) = some 2 by decide +kernel) rfl d_SH_reaches_10 (fs_rm (k := 0) (by omega) (by omega) (by omega) (by omega) rfl) (fun v_ h107 H locs hq hP hS => ?_) (fun C_ a_ h_ H locs hq hP hS hX => fs_out (hout _) hlocks hw hP hS hX (show ((0 + c101) + c105) ≤ mc by omega) (show ((0 + s102) + s106) ≤ ms by omega) hq)
  refine fs_cs (k := ((0 + c101) + c105)) (n := ((0 + s102) + s106)) rfl rfl ?_
  replace hq := fs_ki_some hq
  obtain ⟨x108, rfl, hq⟩ := hq
  refine W.eq (g2 := F0 m 13 ls (.int x108 :: [])) rfl ?_
  refine lv_istore (lv' := [(6, .int x108), (5, .int x104), (0, .ref a0), (1, .int x1), (2, .int x2), (3, .int x3), (4, .int x4)]) hx hb d_SH_reaches_13 hl (by decide) rfl (fun ls hl => ?_)
  refine lv_aload_n hx hb d_SH_reaches_15 rfl (lv_at hl 2 rfl) ?_
  obtain ⟨fs_, a109, he_, hv_, hq⟩ := fs_gr_some hq
  refine fs_get hx hb hts hown hK c_SH hP he_ 1 (by decide) (hts _ (fs_tb_at 245 tw_245 rfl)) (fun _ h9 => h9) hv_ d_SH_reaches_16 ?_
  obtain ⟨hi_, hq⟩ := hq
  obtain ⟨fs_, he_⟩ := fs_isc_some hi_
  refine fs_cV B hl.1 hP hS (kw_CE_settle hE hq) (fs_tb_at 1044 tw_1044 rfl) he_ rfl (fs_tb_at 278 tw_278 rfl) (fs_tb_at 279 tw_279 rfl) (fs_tb_at 90 tw_90 rfl) (fs_tb_at 280 tw_280 rfl) (by decide) (show (parseMethodDescriptor y_CE_settle.desc).map (fun d => d.parameters.length) = some 0 by decide +kernel) rfl d_SH_reaches_19 (fs_rm (k := 0) (by omega) (by omega) (by omega) (by omega) rfl) (fun v_ h110 H locs hq hP hS => ?_) (fun C_ a_ h_ H locs hq hP hS hX => fs_out (hout _) hlocks hw hP hS hX (show ((0 + c101) + c105) ≤ mc by omega) (show ((0 + s102) + s106) ≤ ms by omega) hq)
  refine fs_cs (k := ((0 + c101) + c105)) (n := ((0 + s102) + s106)) rfl rfl ?_
  replace hq := fs_kv_some hq
  obtain ⟨rfl, hq⟩ := hq
  refine W.eq (g2 := F0 m 22 ls ([])) rfl ?_
  refine lv_aload_n hx hb d_SH_reaches_22 rfl (lv_at hl 2 rfl) ?_
  obtain ⟨fs_, a111, he_, hv_, hq⟩ := fs_gr_some hq
  refine fs_get hx hb hts hown hK c_SH hP he_ 1 (by decide) (hts _ (fs_tb_at 245 tw_245 rfl)) (fun _ h9 => h9) hv_ d_SH_reaches_23 ?_
  obtain ⟨fs_, a112, he_, hv_, hq⟩ := fs_gr_some hq
  refine fs_get hx hb hts hown hK c_CE hP he_ 3 (by decide) (hts _ (fs_tb_at 191 tw_191 rfl)) (fun _ h9 => h9) hv_ d_SH_reaches_26 ?_
  refine lv_iload hx hb d_SH_reaches_29 (lv_at hl 1 rfl) ?_
  obtain ⟨n_, f_, o113, e_, hi_, ex_, hq⟩ := fs_aq_some hq
  refine fs_aald hx hb hK hP 7 e_ rfl hi_ d_SH_reaches_31 ?_
  rw [← ex_]
  cases o113 with
  | none =>
    refine W.eq (g2 := F0 m 32 ls (.null :: [])) rfl ?_
    refine lv_iload hx hb d_SH_reaches_32 (lv_at hl 0 rfl) ?_
    exact False.elim hq
  | some a115 =>
    refine W.eq (g2 := F0 m 32 ls (.ref a115 :: [])) rfl ?_
    refine lv_iload hx hb d_SH_reaches_32 (lv_at hl 0 rfl) ?_
    obtain ⟨hi_, hq⟩ := hq
    obtain ⟨fs_, he_⟩ := fs_isc_some hi_
    refine fs_cV B hl.1 hP hS (kw_CS_has hE hq) (fs_tb_at 1449 tw_1449 rfl) he_ rfl (fs_tb_at 346 tw_346 rfl) (fs_tb_at 347 tw_347 rfl) (fs_tb_at 91 tw_91 rfl) (fs_tb_at 348 tw_348 rfl) (by decide) (show (parseMethodDescriptor y_CS_has.desc).map (fun d => d.parameters.length) = some 1 by decide +kernel) rfl d_SH_reaches_34 (fs_rm (k := 0) (by omega) (by omega) (by omega) (by omega) rfl) (fun v_ h116 H locs hq hP hS => ?_) (fun C_ a_ h_ H locs hq hP hS hX => fs_out (hout _) hlocks hw hP hS hX (show ((0 + c101) + c105) ≤ mc by omega) (show ((0 + s102) + s106) ≤ ms by omega) hq)
    refine fs_cs (k := ((0 + c101) + c105)) (n := ((0 + s102) + s106)) rfl rfl ?_
    replace hq := fs_ki_some hq
    obtain ⟨x117, rfl, hq⟩ := hq
    refine W.eq (g2 := F0 m 37 ls (.int x117 :: [])) rfl ?_
    obtain ⟨hn_, hq⟩ := hq
    exact fs_iret hx hb hr hlocks hw hP hS hn_ (by omega) (by omega) hq d_SH_reaches_37
def w_SH_count (E : fs_E) (h : fs_Hp) (a0 : Nat) (x1 : Int32) (Post : fs_Ps) : Prop := (if x1 = 0 then fs_gr h a0 0 0 (fun a102 => fs_gi h a102 1 1 (fun x103 => Post (.inl (some (.int x103))) h)) else (if x1 = 1 then fs_gr h a0 0 1 (fun a105 => fs_isc h a105 2 ∧ (w_CE_filledFrom E h a105 0 80 (fs_ki (fun x107 h106 => Post (.inl (some (.int x107))) h106) (fun C_ h_ => Post (.inr C_) h_)))) else (if x1 = 2 then fs_gr h a0 0 1 (fun a109 => fs_isc h a109 2 ∧ (w_CE_formulasInAll E h a109 (fs_ki (fun x111 h110 => Post (.inl (some (.int x111))) h110) (fun C_ h_ => Post (.inr C_) h_)))) else (if x1 = 3 then fs_gr h a0 0 1 (fun a113 => fs_isc h a113 2 ∧ (w_CE_circularInAll E h a113 (fs_ki (fun x115 h114 => Post (.inl (some (.int x115))) h114) (fun C_ h_ => Post (.inr C_) h_)))) else (if x1 = 4 then fs_gr h a0 0 1 (fun a117 => fs_isc h a117 2 ∧ (w_CE_badInAll E h a117 (fs_ki (fun x119 h118 => Post (.inl (some (.int x119))) h118) (fun C_ h_ => Post (.inr C_) h_)))) else (if x1 = 5 then fs_gr h a0 0 1 (fun a121 => fs_isc h a121 2 ∧ (w_CE_lostInAll E h a121 (fs_ki (fun x123 h122 => Post (.inl (some (.int x123))) h122) (fun C_ h_ => Post (.inr C_) h_)))) else Post (.inl (some (.int (-1)))) h))))))
set_option maxHeartbeats 4000000 in
set_option maxRecDepth 100000 in
theorem kw_SH_count {l : Launch} {s00 : State} {E : fs_E} (hE : fs_SE l s00 E) {h : fs_Hp} {a0 : Nat} {x1 : Int32} {Post : fs_Ps} (hq : w_SH_count E h a0 x1 Post) : fs_Ct l s00 E.1 y_SH_count (.code y_SH_count b_SH_count 2 (some .int)) { frames := 130, cells := 0, slots := 0, locals := 1950 } [.ref a0, .int x1] h Post := by
  refine fs_Ct.ofR hE.1 (by decide) ?_
  intro p e R s m below meth c hRf hRl hRc hRs B hout hP
  skip
  obtain ⟨hx, hb, hr, hml, hown, hts, hlocks, hname, hK, hw, htr⟩ := id B
  have hown : s.vm.findClass "FormulaSheet" = some m.cls := hown
  have hS := hw.S
  have hl := lv_entry ([.ref a0, .int x1]) (n := 2) (Nat.le_of_ble_eq_true rfl)
  rw [lg_entry_eq]
  generalize (lg_sl ([.ref a0, .int x1]) ++ List.replicate (2 - (lg_sl ([.ref a0, .int x1])).length) Slot.unset).toArray = ls at hl ⊢
  have hl : lv_has ls 2 [(0, .ref a0), (1, .int x1)] := hl
  unfold w_SH_count at hq
  refine lv_iload_n hx hb d_SH_count_0 rfl (lv_at hl 1 rfl) ?_
  by_cases c_101 : x1 = 0
  · have hq := fs_wifp c_101 hq
    refine lv_tableIn (off := 39) (tgt := 40) hx hb d_SH_count_1 (by rw [c_101]; decide) (by rw [c_101]; decide) (by rw [c_101]; decide) (by decide) ?_
    refine lv_aload_n hx hb d_SH_count_40 rfl (lv_at hl 0 rfl) ?_
    obtain ⟨fs_, a102, he_, hv_, hq⟩ := fs_gr_some hq
    refine fs_get hx hb hts hown hK c_SH hP he_ 0 (by decide) (hts _ (fs_tb_at 244 tw_244 rfl)) (fun _ h9 => h9) hv_ d_SH_count_41 ?_
    obtain ⟨fs_, x103, he_, hv_, hq⟩ := fs_gi_some hq
    refine fs_get hx hb hts hown hK c_LN hP he_ 1 (by decide) (hts _ (fs_tb_at 141 tw_141 rfl)) (fun _ h9 => h9) hv_ d_SH_count_44 ?_
    exact fs_iret hx hb hr hlocks hw hP hS (vp_nar_int _) (Nat.le_refl _) (Nat.le_refl _) hq d_SH_count_47
  · have hq := fs_wifn c_101 hq
    by_cases c_104 : x1 = 1
    · have hq := fs_wifp c_104 hq
      refine lv_tableIn (off := 47) (tgt := 48) hx hb d_SH_count_1 (by rw [c_104]; decide) (by rw [c_104]; decide) (by rw [c_104]; decide) (by decide) ?_
      refine lv_aload_n hx hb d_SH_count_48 rfl (lv_at hl 0 rfl) ?_
      obtain ⟨fs_, a105, he_, hv_, hq⟩ := fs_gr_some hq
      refine fs_get hx hb hts hown hK c_SH hP he_ 1 (by decide) (hts _ (fs_tb_at 245 tw_245 rfl)) (fun _ h9 => h9) hv_ d_SH_count_49 ?_
      refine lv_iconst (v := 0) hx hb d_SH_count_52 (by decide) ?_
      refine lv_bipush (v := 80) hx hb d_SH_count_53 (by decide) ?_
      obtain ⟨hi_, hq⟩ := hq
      obtain ⟨fs_, he_⟩ := fs_isc_some hi_
      refine fs_cV B hl.1 hP hS (kw_CE_filledFrom hE hq) (fs_tb_at 265 tw_265 rfl) he_ rfl (fs_tb_at 266 tw_266 rfl) (fs_tb_at 267 tw_267 rfl) (fs_tb_at 90 tw_90 rfl) (fs_tb_at 268 tw_268 rfl) (by decide) (show (parseMethodDescriptor y_CE_filledFrom.desc).map (fun d => d.parameters.length) = some 2 by decide +kernel) rfl d_SH_count_55 (fs_rm (k := 0) (by omega) (by omega) (by omega) (by omega) rfl) (fun v_ h106 H locs hq hP hS => ?_) (fun C_ a_ h_ H locs hq hP hS hX => fs_out (hout _) hlocks hw hP hS hX (Nat.le_of_ble_eq_true rfl) (Nat.le_of_ble_eq_true rfl) hq)
      refine fs_cs (k := 0) (n := 0) rfl rfl ?_
      replace hq := fs_ki_some hq
      obtain ⟨x107, rfl, hq⟩ := hq
      refine W.eq (g2 := F0 m 58 ls (.int x107 :: [])) rfl ?_
      exact fs_iret hx hb hr hlocks hw hP hS (vp_nar_int _) (Nat.le_refl _) (Nat.le_refl _) hq d_SH_count_58
    · have hq := fs_wifn c_104 hq
      by_cases c_108 : x1 = 2
      · have hq := fs_wifp c_108 hq
        refine lv_tableIn (off := 58) (tgt := 59) hx hb d_SH_count_1 (by rw [c_108]; decide) (by rw [c_108]; decide) (by rw [c_108]; decide) (by decide) ?_
        refine lv_aload_n hx hb d_SH_count_59 rfl (lv_at hl 0 rfl) ?_
        obtain ⟨fs_, a109, he_, hv_, hq⟩ := fs_gr_some hq
        refine fs_get hx hb hts hown hK c_SH hP he_ 1 (by decide) (hts _ (fs_tb_at 245 tw_245 rfl)) (fun _ h9 => h9) hv_ d_SH_count_60 ?_
        obtain ⟨hi_, hq⟩ := hq
        obtain ⟨fs_, he_⟩ := fs_isc_some hi_
        refine fs_cV B hl.1 hP hS (kw_CE_formulasInAll hE hq) (fs_tb_at 269 tw_269 rfl) he_ rfl (fs_tb_at 270 tw_270 rfl) (fs_tb_at 271 tw_271 rfl) (fs_tb_at 90 tw_90 rfl) (fs_tb_at 272 tw_272 rfl) (by decide) (show (parseMethodDescriptor y_CE_formulasInAll.desc).map (fun d => d.parameters.length) = some 0 by decide +kernel) rfl d_SH_count_63 (fs_rm (k := 0) (by omega) (by omega) (by omega) (by omega) rfl) (fun v_ h110 H locs hq hP hS => ?_) (fun C_ a_ h_ H locs hq hP hS hX => fs_out (hout _) hlocks hw hP hS hX (Nat.le_of_ble_eq_true rfl) (Nat.le_of_ble_eq_true rfl) hq)
        refine fs_cs (k := 0) (n := 0) rfl rfl ?_
        replace hq := fs_ki_some hq
        obtain ⟨x111, rfl, hq⟩ := hq
        refine W.eq (g2 := F0 m 66 ls (.int x111 :: [])) rfl ?_
        exact fs_iret hx hb hr hlocks hw hP hS (vp_nar_int _) (Nat.le_refl _) (Nat.le_refl _) hq d_SH_count_66
      · have hq := fs_wifn c_108 hq
        by_cases c_112 : x1 = 3
        · have hq := fs_wifp c_112 hq
          refine lv_tableIn (off := 66) (tgt := 67) hx hb d_SH_count_1 (by rw [c_112]; decide) (by rw [c_112]; decide) (by rw [c_112]; decide) (by decide) ?_
          refine lv_aload_n hx hb d_SH_count_67 rfl (lv_at hl 0 rfl) ?_
          obtain ⟨fs_, a113, he_, hv_, hq⟩ := fs_gr_some hq
          refine fs_get hx hb hts hown hK c_SH hP he_ 1 (by decide) (hts _ (fs_tb_at 245 tw_245 rfl)) (fun _ h9 => h9) hv_ d_SH_count_68 ?_
          obtain ⟨hi_, hq⟩ := hq
          obtain ⟨fs_, he_⟩ := fs_isc_some hi_
          refine fs_cV B hl.1 hP hS (kw_CE_circularInAll hE hq) (fs_tb_at 273 tw_273 rfl) he_ rfl (fs_tb_at 274 tw_274 rfl) (fs_tb_at 275 tw_275 rfl) (fs_tb_at 90 tw_90 rfl) (fs_tb_at 276 tw_276 rfl) (by decide) (show (parseMethodDescriptor y_CE_circularInAll.desc).map (fun d => d.parameters.length) = some 0 by decide +kernel) rfl d_SH_count_71 (fs_rm (k := 0) (by omega) (by omega) (by omega) (by omega) rfl) (fun v_ h114 H locs hq hP hS => ?_) (fun C_ a_ h_ H locs hq hP hS hX => fs_out (hout _) hlocks hw hP hS hX (Nat.le_of_ble_eq_true rfl) (Nat.le_of_ble_eq_true rfl) hq)
          refine fs_cs (k := 0) (n := 0) rfl rfl ?_
          replace hq := fs_ki_some hq
          obtain ⟨x115, rfl, hq⟩ := hq
          refine W.eq (g2 := F0 m 74 ls (.int x115 :: [])) rfl ?_
          exact fs_iret hx hb hr hlocks hw hP hS (vp_nar_int _) (Nat.le_refl _) (Nat.le_refl _) hq d_SH_count_74
        · have hq := fs_wifn c_112 hq
          by_cases c_116 : x1 = 4
          · have hq := fs_wifp c_116 hq
            refine lv_tableIn (off := 74) (tgt := 75) hx hb d_SH_count_1 (by rw [c_116]; decide) (by rw [c_116]; decide) (by rw [c_116]; decide) (by decide) ?_
            refine lv_aload_n hx hb d_SH_count_75 rfl (lv_at hl 0 rfl) ?_
            obtain ⟨fs_, a117, he_, hv_, hq⟩ := fs_gr_some hq
            refine fs_get hx hb hts hown hK c_SH hP he_ 1 (by decide) (hts _ (fs_tb_at 245 tw_245 rfl)) (fun _ h9 => h9) hv_ d_SH_count_76 ?_
            obtain ⟨hi_, hq⟩ := hq
            obtain ⟨fs_, he_⟩ := fs_isc_some hi_
            refine fs_cV B hl.1 hP hS (kw_CE_badInAll hE hq) (fs_tb_at 461 tw_461 rfl) he_ rfl (fs_tb_at 462 tw_462 rfl) (fs_tb_at 463 tw_463 rfl) (fs_tb_at 90 tw_90 rfl) (fs_tb_at 464 tw_464 rfl) (by decide) (show (parseMethodDescriptor y_CE_badInAll.desc).map (fun d => d.parameters.length) = some 0 by decide +kernel) rfl d_SH_count_79 (fs_rm (k := 0) (by omega) (by omega) (by omega) (by omega) rfl) (fun v_ h118 H locs hq hP hS => ?_) (fun C_ a_ h_ H locs hq hP hS hX => fs_out (hout _) hlocks hw hP hS hX (Nat.le_of_ble_eq_true rfl) (Nat.le_of_ble_eq_true rfl) hq)
            refine fs_cs (k := 0) (n := 0) rfl rfl ?_
            replace hq := fs_ki_some hq
            obtain ⟨x119, rfl, hq⟩ := hq
            refine W.eq (g2 := F0 m 82 ls (.int x119 :: [])) rfl ?_
            exact fs_iret hx hb hr hlocks hw hP hS (vp_nar_int _) (Nat.le_refl _) (Nat.le_refl _) hq d_SH_count_82
          · have hq := fs_wifn c_116 hq
            by_cases c_120 : x1 = 5
            · have hq := fs_wifp c_120 hq
              refine lv_tableIn (off := 82) (tgt := 83) hx hb d_SH_count_1 (by rw [c_120]; decide) (by rw [c_120]; decide) (by rw [c_120]; decide) (by decide) ?_
              refine lv_aload_n hx hb d_SH_count_83 rfl (lv_at hl 0 rfl) ?_
              obtain ⟨fs_, a121, he_, hv_, hq⟩ := fs_gr_some hq
              refine fs_get hx hb hts hown hK c_SH hP he_ 1 (by decide) (hts _ (fs_tb_at 245 tw_245 rfl)) (fun _ h9 => h9) hv_ d_SH_count_84 ?_
              obtain ⟨hi_, hq⟩ := hq
              obtain ⟨fs_, he_⟩ := fs_isc_some hi_
              refine fs_cV B hl.1 hP hS (kw_CE_lostInAll hE hq) (fs_tb_at 466 tw_466 rfl) he_ rfl (fs_tb_at 467 tw_467 rfl) (fs_tb_at 468 tw_468 rfl) (fs_tb_at 90 tw_90 rfl) (fs_tb_at 469 tw_469 rfl) (by decide) (show (parseMethodDescriptor y_CE_lostInAll.desc).map (fun d => d.parameters.length) = some 0 by decide +kernel) rfl d_SH_count_87 (fs_rm (k := 0) (by omega) (by omega) (by omega) (by omega) rfl) (fun v_ h122 H locs hq hP hS => ?_) (fun C_ a_ h_ H locs hq hP hS hX => fs_out (hout _) hlocks hw hP hS hX (Nat.le_of_ble_eq_true rfl) (Nat.le_of_ble_eq_true rfl) hq)
              refine fs_cs (k := 0) (n := 0) rfl rfl ?_
              replace hq := fs_ki_some hq
              obtain ⟨x123, rfl, hq⟩ := hq
              refine W.eq (g2 := F0 m 90 ls (.int x123 :: [])) rfl ?_
              exact fs_iret hx hb hr hlocks hw hP hS (vp_nar_int _) (Nat.le_refl _) (Nat.le_refl _) hq d_SH_count_90
            · have hq := fs_wifn c_120 hq
              have hd_ : ¬ Int32.toInt x1 < 0 → ¬ 5 < Int32.toInt x1 → (#[39, 47, 58, 66, 74, 82] : Array Int)[(Int32.toInt x1 - 0).toNat]? = some 90 := by
                intro h1_ h2_
                have key : ∀ n : Nat, n < 6 → n = 0 ∨ n = 1 ∨ n = 2 ∨ n = 3 ∨ n = 4 ∨ n = 5 ∨ (#[39, 47, 58, 66, 74, 82] : Array Int)[n]? = some 90 := by decide
                have hn_ : (Int32.toInt x1 - 0).toNat < 6 := by omega
                rcases key _ hn_ with h_ | h_ | h_ | h_ | h_ | h_ | h_
                · exact absurd (Int32.toInt_inj.mp (by rw [show Int32.toInt 0 = 0 by decide]; omega)) c_101
                · exact absurd (Int32.toInt_inj.mp (by rw [show Int32.toInt 1 = 1 by decide]; omega)) c_104
                · exact absurd (Int32.toInt_inj.mp (by rw [show Int32.toInt 2 = 2 by decide]; omega)) c_108
                · exact absurd (Int32.toInt_inj.mp (by rw [show Int32.toInt 3 = 3 by decide]; omega)) c_112
                · exact absurd (Int32.toInt_inj.mp (by rw [show Int32.toInt 4 = 4 by decide]; omega)) c_116
                · exact absurd (Int32.toInt_inj.mp (by rw [show Int32.toInt 5 = 5 by decide]; omega)) c_120
                · exact h_
              refine fs_tabD (tgt := 91) hx hb d_SH_count_1 hd_ (by decide) ?_
              refine lv_iconst (v := (-1)) hx hb d_SH_count_91 (by decide) ?_
              exact fs_iret hx hb hr hlocks hw hP hS (vp_nar_int _) (Nat.le_refl _) (Nat.le_refl _) hq d_SH_count_92
