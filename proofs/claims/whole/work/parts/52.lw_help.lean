/-! The reference's face and the law's helpers, as conditions. -/
abbrev b_LW_type : ByteArray := method_3_code
def y_LW_type : MethodName := ⟨"FormulaSheetLaw", "type", "(LFormulaSheet;I[J)I"⟩
theorem d_LW_type_0 : decode b_LW_type 0 = .ok (.aload_n 2, 1) := by decide +kernel
theorem d_LW_type_1 : decode b_LW_type 1 = .ok (.iconst 0, 1) := by decide +kernel
theorem d_LW_type_2 : decode b_LW_type 2 = .ok (.aload_n 0, 1) := by decide +kernel
theorem d_LW_type_3 : decode b_LW_type 3 = .ok (.iload_n 1, 1) := by decide +kernel
theorem d_LW_type_4 : decode b_LW_type 4 = .ok (.invokevirtual 7, 3) := by decide +kernel
theorem d_LW_type_7 : decode b_LW_type 7 = .ok (.i2l, 1) := by decide +kernel
theorem d_LW_type_8 : decode b_LW_type 8 = .ok (.lastore, 1) := by decide +kernel
theorem d_LW_type_9 : decode b_LW_type 9 = .ok (.goto 9, 3) := by decide +kernel
theorem d_LW_type_12 : decode b_LW_type 12 = .ok (.astore_n 3, 1) := by decide +kernel
theorem d_LW_type_13 : decode b_LW_type 13 = .ok (.iconst 1, 1) := by decide +kernel
theorem d_LW_type_14 : decode b_LW_type 14 = .ok (.ireturn, 1) := by decide +kernel
theorem d_LW_type_15 : decode b_LW_type 15 = .ok (.astore_n 3, 1) := by decide +kernel
theorem d_LW_type_16 : decode b_LW_type 16 = .ok (.iconst 2, 1) := by decide +kernel
theorem d_LW_type_17 : decode b_LW_type 17 = .ok (.ireturn, 1) := by decide +kernel
theorem d_LW_type_18 : decode b_LW_type 18 = .ok (.iconst 0, 1) := by decide +kernel
theorem d_LW_type_19 : decode b_LW_type 19 = .ok (.ireturn, 1) := by decide +kernel
abbrev b_LW_enter : ByteArray := method_4_code
def y_LW_enter : MethodName := ⟨"FormulaSheetLaw", "enter", "(LFormulaSheet;II[J)I"⟩
theorem d_LW_enter_0 : decode b_LW_enter 0 = .ok (.aload_n 3, 1) := by decide +kernel
theorem d_LW_enter_1 : decode b_LW_enter 1 = .ok (.iconst 0, 1) := by decide +kernel
theorem d_LW_enter_2 : decode b_LW_enter 2 = .ok (.aload_n 0, 1) := by decide +kernel
theorem d_LW_enter_3 : decode b_LW_enter 3 = .ok (.iload_n 1, 1) := by decide +kernel
theorem d_LW_enter_4 : decode b_LW_enter 4 = .ok (.iload_n 2, 1) := by decide +kernel
theorem d_LW_enter_5 : decode b_LW_enter 5 = .ok (.invokevirtual 17, 3) := by decide +kernel
theorem d_LW_enter_8 : decode b_LW_enter 8 = .ok (.i2l, 1) := by decide +kernel
theorem d_LW_enter_9 : decode b_LW_enter 9 = .ok (.lastore, 1) := by decide +kernel
theorem d_LW_enter_10 : decode b_LW_enter 10 = .ok (.goto 11, 3) := by decide +kernel
theorem d_LW_enter_13 : decode b_LW_enter 13 = .ok (.astore 4, 2) := by decide +kernel
theorem d_LW_enter_15 : decode b_LW_enter 15 = .ok (.iconst 1, 1) := by decide +kernel
theorem d_LW_enter_16 : decode b_LW_enter 16 = .ok (.ireturn, 1) := by decide +kernel
theorem d_LW_enter_17 : decode b_LW_enter 17 = .ok (.astore 4, 2) := by decide +kernel
theorem d_LW_enter_19 : decode b_LW_enter 19 = .ok (.iconst 2, 1) := by decide +kernel
theorem d_LW_enter_20 : decode b_LW_enter 20 = .ok (.ireturn, 1) := by decide +kernel
theorem d_LW_enter_21 : decode b_LW_enter 21 = .ok (.iconst 0, 1) := by decide +kernel
theorem d_LW_enter_22 : decode b_LW_enter 22 = .ok (.ireturn, 1) := by decide +kernel
abbrev b_LW_put : ByteArray := method_5_code
def y_LW_put : MethodName := ⟨"FormulaSheetLaw", "put", "(LFormulaSheet;IID)I"⟩
theorem d_LW_put_0 : decode b_LW_put 0 = .ok (.aload_n 0, 1) := by decide +kernel
theorem d_LW_put_1 : decode b_LW_put 1 = .ok (.iload_n 1, 1) := by decide +kernel
theorem d_LW_put_2 : decode b_LW_put 2 = .ok (.iload_n 2, 1) := by decide +kernel
theorem d_LW_put_3 : decode b_LW_put 3 = .ok (.dload_n 3, 1) := by decide +kernel
theorem d_LW_put_4 : decode b_LW_put 4 = .ok (.invokevirtual 23, 3) := by decide +kernel
theorem d_LW_put_7 : decode b_LW_put 7 = .ok (.goto 11, 3) := by decide +kernel
theorem d_LW_put_10 : decode b_LW_put 10 = .ok (.astore 5, 2) := by decide +kernel
theorem d_LW_put_12 : decode b_LW_put 12 = .ok (.iconst 1, 1) := by decide +kernel
theorem d_LW_put_13 : decode b_LW_put 13 = .ok (.ireturn, 1) := by decide +kernel
theorem d_LW_put_14 : decode b_LW_put 14 = .ok (.astore 5, 2) := by decide +kernel
theorem d_LW_put_16 : decode b_LW_put 16 = .ok (.iconst 2, 1) := by decide +kernel
theorem d_LW_put_17 : decode b_LW_put 17 = .ok (.ireturn, 1) := by decide +kernel
theorem d_LW_put_18 : decode b_LW_put 18 = .ok (.iconst 0, 1) := by decide +kernel
theorem d_LW_put_19 : decode b_LW_put 19 = .ok (.ireturn, 1) := by decide +kernel
abbrev b_LW_erase : ByteArray := method_6_code
def y_LW_erase : MethodName := ⟨"FormulaSheetLaw", "erase", "(LFormulaSheet;II)I"⟩
theorem d_LW_erase_0 : decode b_LW_erase 0 = .ok (.aload_n 0, 1) := by decide +kernel
theorem d_LW_erase_1 : decode b_LW_erase 1 = .ok (.iload_n 1, 1) := by decide +kernel
theorem d_LW_erase_2 : decode b_LW_erase 2 = .ok (.iload_n 2, 1) := by decide +kernel
theorem d_LW_erase_3 : decode b_LW_erase 3 = .ok (.invokevirtual 27, 3) := by decide +kernel
theorem d_LW_erase_6 : decode b_LW_erase 6 = .ok (.goto 9, 3) := by decide +kernel
theorem d_LW_erase_9 : decode b_LW_erase 9 = .ok (.astore_n 3, 1) := by decide +kernel
theorem d_LW_erase_10 : decode b_LW_erase 10 = .ok (.iconst 1, 1) := by decide +kernel
theorem d_LW_erase_11 : decode b_LW_erase 11 = .ok (.ireturn, 1) := by decide +kernel
theorem d_LW_erase_12 : decode b_LW_erase 12 = .ok (.astore_n 3, 1) := by decide +kernel
theorem d_LW_erase_13 : decode b_LW_erase 13 = .ok (.iconst 2, 1) := by decide +kernel
theorem d_LW_erase_14 : decode b_LW_erase 14 = .ok (.ireturn, 1) := by decide +kernel
theorem d_LW_erase_15 : decode b_LW_erase 15 = .ok (.iconst 0, 1) := by decide +kernel
theorem d_LW_erase_16 : decode b_LW_erase 16 = .ok (.ireturn, 1) := by decide +kernel
abbrev b_LW_copy : ByteArray := method_7_code
def y_LW_copy : MethodName := ⟨"FormulaSheetLaw", "copy", "(LFormulaSheet;IIII[J)I"⟩
theorem d_LW_copy_0 : decode b_LW_copy 0 = .ok (.aload 5, 2) := by decide +kernel
theorem d_LW_copy_2 : decode b_LW_copy 2 = .ok (.iconst 0, 1) := by decide +kernel
theorem d_LW_copy_3 : decode b_LW_copy 3 = .ok (.aload_n 0, 1) := by decide +kernel
theorem d_LW_copy_4 : decode b_LW_copy 4 = .ok (.iload_n 1, 1) := by decide +kernel
theorem d_LW_copy_5 : decode b_LW_copy 5 = .ok (.iload_n 2, 1) := by decide +kernel
theorem d_LW_copy_6 : decode b_LW_copy 6 = .ok (.iload_n 3, 1) := by decide +kernel
theorem d_LW_copy_7 : decode b_LW_copy 7 = .ok (.iload 4, 2) := by decide +kernel
theorem d_LW_copy_9 : decode b_LW_copy 9 = .ok (.invokevirtual 33, 3) := by decide +kernel
theorem d_LW_copy_12 : decode b_LW_copy 12 = .ok (.i2l, 1) := by decide +kernel
theorem d_LW_copy_13 : decode b_LW_copy 13 = .ok (.lastore, 1) := by decide +kernel
theorem d_LW_copy_14 : decode b_LW_copy 14 = .ok (.goto 11, 3) := by decide +kernel
theorem d_LW_copy_17 : decode b_LW_copy 17 = .ok (.astore 6, 2) := by decide +kernel
theorem d_LW_copy_19 : decode b_LW_copy 19 = .ok (.iconst 1, 1) := by decide +kernel
theorem d_LW_copy_20 : decode b_LW_copy 20 = .ok (.ireturn, 1) := by decide +kernel
theorem d_LW_copy_21 : decode b_LW_copy 21 = .ok (.astore 6, 2) := by decide +kernel
theorem d_LW_copy_23 : decode b_LW_copy 23 = .ok (.iconst 2, 1) := by decide +kernel
theorem d_LW_copy_24 : decode b_LW_copy 24 = .ok (.ireturn, 1) := by decide +kernel
theorem d_LW_copy_25 : decode b_LW_copy 25 = .ok (.iconst 0, 1) := by decide +kernel
theorem d_LW_copy_26 : decode b_LW_copy 26 = .ok (.ireturn, 1) := by decide +kernel
abbrev b_LW_insert : ByteArray := method_8_code
def y_LW_insert : MethodName := ⟨"FormulaSheetLaw", "insert", "(LFormulaSheet;I[J)I"⟩
theorem d_LW_insert_0 : decode b_LW_insert 0 = .ok (.aload_n 2, 1) := by decide +kernel
theorem d_LW_insert_1 : decode b_LW_insert 1 = .ok (.iconst 0, 1) := by decide +kernel
theorem d_LW_insert_2 : decode b_LW_insert 2 = .ok (.aload_n 0, 1) := by decide +kernel
theorem d_LW_insert_3 : decode b_LW_insert 3 = .ok (.iload_n 1, 1) := by decide +kernel
theorem d_LW_insert_4 : decode b_LW_insert 4 = .ok (.invokevirtual 37, 3) := by decide +kernel
theorem d_LW_insert_7 : decode b_LW_insert 7 = .ok (.i2l, 1) := by decide +kernel
theorem d_LW_insert_8 : decode b_LW_insert 8 = .ok (.lastore, 1) := by decide +kernel
theorem d_LW_insert_9 : decode b_LW_insert 9 = .ok (.goto 6, 3) := by decide +kernel
theorem d_LW_insert_12 : decode b_LW_insert 12 = .ok (.astore_n 3, 1) := by decide +kernel
theorem d_LW_insert_13 : decode b_LW_insert 13 = .ok (.iconst 1, 1) := by decide +kernel
theorem d_LW_insert_14 : decode b_LW_insert 14 = .ok (.ireturn, 1) := by decide +kernel
theorem d_LW_insert_15 : decode b_LW_insert 15 = .ok (.iconst 0, 1) := by decide +kernel
theorem d_LW_insert_16 : decode b_LW_insert 16 = .ok (.ireturn, 1) := by decide +kernel
abbrev b_LW_delete : ByteArray := method_9_code
def y_LW_delete : MethodName := ⟨"FormulaSheetLaw", "delete", "(LFormulaSheet;I[J)I"⟩
theorem d_LW_delete_0 : decode b_LW_delete 0 = .ok (.aload_n 2, 1) := by decide +kernel
theorem d_LW_delete_1 : decode b_LW_delete 1 = .ok (.iconst 0, 1) := by decide +kernel
theorem d_LW_delete_2 : decode b_LW_delete 2 = .ok (.aload_n 0, 1) := by decide +kernel
theorem d_LW_delete_3 : decode b_LW_delete 3 = .ok (.iload_n 1, 1) := by decide +kernel
theorem d_LW_delete_4 : decode b_LW_delete 4 = .ok (.invokevirtual 40, 3) := by decide +kernel
theorem d_LW_delete_7 : decode b_LW_delete 7 = .ok (.i2l, 1) := by decide +kernel
theorem d_LW_delete_8 : decode b_LW_delete 8 = .ok (.lastore, 1) := by decide +kernel
theorem d_LW_delete_9 : decode b_LW_delete 9 = .ok (.goto 6, 3) := by decide +kernel
theorem d_LW_delete_12 : decode b_LW_delete 12 = .ok (.astore_n 3, 1) := by decide +kernel
theorem d_LW_delete_13 : decode b_LW_delete 13 = .ok (.iconst 1, 1) := by decide +kernel
theorem d_LW_delete_14 : decode b_LW_delete 14 = .ok (.ireturn, 1) := by decide +kernel
theorem d_LW_delete_15 : decode b_LW_delete 15 = .ok (.iconst 0, 1) := by decide +kernel
theorem d_LW_delete_16 : decode b_LW_delete 16 = .ok (.ireturn, 1) := by decide +kernel
abbrev b_LW_value : ByteArray := method_10_code
def y_LW_value : MethodName := ⟨"FormulaSheetLaw", "value", "(LFormulaSheet;II[D)I"⟩
theorem d_LW_value_0 : decode b_LW_value 0 = .ok (.aload_n 3, 1) := by decide +kernel
theorem d_LW_value_1 : decode b_LW_value 1 = .ok (.iconst 0, 1) := by decide +kernel
theorem d_LW_value_2 : decode b_LW_value 2 = .ok (.aload_n 0, 1) := by decide +kernel
theorem d_LW_value_3 : decode b_LW_value 3 = .ok (.iload_n 1, 1) := by decide +kernel
theorem d_LW_value_4 : decode b_LW_value 4 = .ok (.iload_n 2, 1) := by decide +kernel
theorem d_LW_value_5 : decode b_LW_value 5 = .ok (.invokevirtual 43, 3) := by decide +kernel
theorem d_LW_value_8 : decode b_LW_value 8 = .ok (.dastore, 1) := by decide +kernel
theorem d_LW_value_9 : decode b_LW_value 9 = .ok (.goto 19, 3) := by decide +kernel
theorem d_LW_value_12 : decode b_LW_value 12 = .ok (.astore 4, 2) := by decide +kernel
theorem d_LW_value_14 : decode b_LW_value 14 = .ok (.iconst 1, 1) := by decide +kernel
theorem d_LW_value_15 : decode b_LW_value 15 = .ok (.ireturn, 1) := by decide +kernel
theorem d_LW_value_16 : decode b_LW_value 16 = .ok (.astore 4, 2) := by decide +kernel
theorem d_LW_value_18 : decode b_LW_value 18 = .ok (.iconst 2, 1) := by decide +kernel
theorem d_LW_value_19 : decode b_LW_value 19 = .ok (.ireturn, 1) := by decide +kernel
theorem d_LW_value_20 : decode b_LW_value 20 = .ok (.astore 4, 2) := by decide +kernel
theorem d_LW_value_22 : decode b_LW_value 22 = .ok (.iconst 3, 1) := by decide +kernel
theorem d_LW_value_23 : decode b_LW_value 23 = .ok (.ireturn, 1) := by decide +kernel
theorem d_LW_value_24 : decode b_LW_value 24 = .ok (.astore 4, 2) := by decide +kernel
theorem d_LW_value_26 : decode b_LW_value 26 = .ok (.iconst 4, 1) := by decide +kernel
theorem d_LW_value_27 : decode b_LW_value 27 = .ok (.ireturn, 1) := by decide +kernel
theorem d_LW_value_28 : decode b_LW_value 28 = .ok (.iconst 0, 1) := by decide +kernel
theorem d_LW_value_29 : decode b_LW_value 29 = .ok (.ireturn, 1) := by decide +kernel
abbrev b_LW_kind : ByteArray := method_11_code
def y_LW_kind : MethodName := ⟨"FormulaSheetLaw", "kind", "(LFormulaSheet;II[J)I"⟩
theorem d_LW_kind_0 : decode b_LW_kind 0 = .ok (.aload_n 3, 1) := by decide +kernel
theorem d_LW_kind_1 : decode b_LW_kind 1 = .ok (.iconst 0, 1) := by decide +kernel
theorem d_LW_kind_2 : decode b_LW_kind 2 = .ok (.aload_n 0, 1) := by decide +kernel
theorem d_LW_kind_3 : decode b_LW_kind 3 = .ok (.iload_n 1, 1) := by decide +kernel
theorem d_LW_kind_4 : decode b_LW_kind 4 = .ok (.iload_n 2, 1) := by decide +kernel
theorem d_LW_kind_5 : decode b_LW_kind 5 = .ok (.invokevirtual 49, 3) := by decide +kernel
theorem d_LW_kind_8 : decode b_LW_kind 8 = .ok (.i2l, 1) := by decide +kernel
theorem d_LW_kind_9 : decode b_LW_kind 9 = .ok (.lastore, 1) := by decide +kernel
theorem d_LW_kind_10 : decode b_LW_kind 10 = .ok (.goto 7, 3) := by decide +kernel
theorem d_LW_kind_13 : decode b_LW_kind 13 = .ok (.astore 4, 2) := by decide +kernel
theorem d_LW_kind_15 : decode b_LW_kind 15 = .ok (.iconst 1, 1) := by decide +kernel
theorem d_LW_kind_16 : decode b_LW_kind 16 = .ok (.ireturn, 1) := by decide +kernel
theorem d_LW_kind_17 : decode b_LW_kind 17 = .ok (.iconst 0, 1) := by decide +kernel
theorem d_LW_kind_18 : decode b_LW_kind 18 = .ok (.ireturn, 1) := by decide +kernel
abbrev b_LW_text : ByteArray := method_12_code
def y_LW_text : MethodName := ⟨"FormulaSheetLaw", "text", "(LFormulaSheet;III[J)I"⟩
theorem d_LW_text_0 : decode b_LW_text 0 = .ok (.aload 4, 2) := by decide +kernel
theorem d_LW_text_2 : decode b_LW_text 2 = .ok (.iconst 0, 1) := by decide +kernel
theorem d_LW_text_3 : decode b_LW_text 3 = .ok (.aload_n 0, 1) := by decide +kernel
theorem d_LW_text_4 : decode b_LW_text 4 = .ok (.iload_n 1, 1) := by decide +kernel
theorem d_LW_text_5 : decode b_LW_text 5 = .ok (.iload_n 2, 1) := by decide +kernel
theorem d_LW_text_6 : decode b_LW_text 6 = .ok (.iload_n 3, 1) := by decide +kernel
theorem d_LW_text_7 : decode b_LW_text 7 = .ok (.invokevirtual 52, 3) := by decide +kernel
theorem d_LW_text_10 : decode b_LW_text 10 = .ok (.i2l, 1) := by decide +kernel
theorem d_LW_text_11 : decode b_LW_text 11 = .ok (.lastore, 1) := by decide +kernel
theorem d_LW_text_12 : decode b_LW_text 12 = .ok (.goto 11, 3) := by decide +kernel
theorem d_LW_text_15 : decode b_LW_text 15 = .ok (.astore 5, 2) := by decide +kernel
theorem d_LW_text_17 : decode b_LW_text 17 = .ok (.iconst 1, 1) := by decide +kernel
theorem d_LW_text_18 : decode b_LW_text 18 = .ok (.ireturn, 1) := by decide +kernel
theorem d_LW_text_19 : decode b_LW_text 19 = .ok (.astore 5, 2) := by decide +kernel
theorem d_LW_text_21 : decode b_LW_text 21 = .ok (.iconst 2, 1) := by decide +kernel
theorem d_LW_text_22 : decode b_LW_text 22 = .ok (.ireturn, 1) := by decide +kernel
theorem d_LW_text_23 : decode b_LW_text 23 = .ok (.iconst 0, 1) := by decide +kernel
theorem d_LW_text_24 : decode b_LW_text 24 = .ok (.ireturn, 1) := by decide +kernel
abbrev b_LW_reaches : ByteArray := method_13_code
def y_LW_reaches : MethodName := ⟨"FormulaSheetLaw", "reaches", "(LFormulaSheet;IIII[J)I"⟩
theorem d_LW_reaches_0 : decode b_LW_reaches 0 = .ok (.aload 5, 2) := by decide +kernel
theorem d_LW_reaches_2 : decode b_LW_reaches 2 = .ok (.iconst 0, 1) := by decide +kernel
theorem d_LW_reaches_3 : decode b_LW_reaches 3 = .ok (.aload_n 0, 1) := by decide +kernel
theorem d_LW_reaches_4 : decode b_LW_reaches 4 = .ok (.iload_n 1, 1) := by decide +kernel
theorem d_LW_reaches_5 : decode b_LW_reaches 5 = .ok (.iload_n 2, 1) := by decide +kernel
theorem d_LW_reaches_6 : decode b_LW_reaches 6 = .ok (.iload_n 3, 1) := by decide +kernel
theorem d_LW_reaches_7 : decode b_LW_reaches 7 = .ok (.iload 4, 2) := by decide +kernel
theorem d_LW_reaches_9 : decode b_LW_reaches 9 = .ok (.invokevirtual 58, 3) := by decide +kernel
theorem d_LW_reaches_12 : decode b_LW_reaches 12 = .ok (.ifCond .eq 7, 3) := by decide +kernel
theorem d_LW_reaches_15 : decode b_LW_reaches 15 = .ok (.lconst 1, 1) := by decide +kernel
theorem d_LW_reaches_16 : decode b_LW_reaches 16 = .ok (.goto 4, 3) := by decide +kernel
theorem d_LW_reaches_19 : decode b_LW_reaches 19 = .ok (.lconst 0, 1) := by decide +kernel
theorem d_LW_reaches_20 : decode b_LW_reaches 20 = .ok (.lastore, 1) := by decide +kernel
theorem d_LW_reaches_21 : decode b_LW_reaches 21 = .ok (.goto 7, 3) := by decide +kernel
theorem d_LW_reaches_24 : decode b_LW_reaches 24 = .ok (.astore 6, 2) := by decide +kernel
theorem d_LW_reaches_26 : decode b_LW_reaches 26 = .ok (.iconst 1, 1) := by decide +kernel
theorem d_LW_reaches_27 : decode b_LW_reaches 27 = .ok (.ireturn, 1) := by decide +kernel
theorem d_LW_reaches_28 : decode b_LW_reaches 28 = .ok (.iconst 0, 1) := by decide +kernel
theorem d_LW_reaches_29 : decode b_LW_reaches 29 = .ok (.ireturn, 1) := by decide +kernel
theorem tw_486 : lw_tbl[486]? = some (Jvm.Cond.classLink "FormulaSheetLaw" (13 : Nat) "java/lang/IllegalArgumentException") := by decide +kernel
theorem tw_487 : lw_tbl[487]? = some (Jvm.Cond.classLink "FormulaSheetLaw" (15 : Nat) "java/lang/IllegalStateException") := by decide +kernel
theorem tw_488 : lw_tbl[488]? = some (Jvm.Cond.methodLink "FormulaSheetLaw" (7 : Nat) ({ cls := "FormulaSheet", name := "type", desc := "(I)I" } : Jvm.MethodName)) := by decide +kernel
theorem tw_489 : lw_tbl[489]? = some (Jvm.Cond.instanceMethod ({ cls := "FormulaSheet", name := "type", desc := "(I)I" } : Jvm.MethodName)) := by decide +kernel
theorem tw_490 : lw_tbl[490]? = some (Jvm.Cond.selects "FormulaSheet" ({ cls := "FormulaSheet", name := "type", desc := "(I)I" } : Jvm.MethodName) ({ cls := "FormulaSheet", name := "type", desc := "(I)I" } : Jvm.MethodName)) := by decide +kernel
theorem tw_491 : lw_tbl[491]? = some (Jvm.Cond.code ({ cls := "FormulaSheet", name := "type", desc := "(I)I" } : Jvm.MethodName) prog_1_method_2_code (2 : Nat) (Option.some Jvm.ClassFile.FieldType.int)) := by decide +kernel
theorem tw_494 : lw_tbl[494]? = some (Jvm.Cond.castable "java/lang/IllegalArgumentException" "java/lang/IllegalArgumentException") := by decide +kernel
theorem tw_563 : lw_tbl[563]? = some (Jvm.Cond.castable "java/lang/IllegalStateException" "java/lang/IllegalStateException") := by decide +kernel
theorem tw_583 : lw_tbl[583]? = some (Jvm.Cond.classLink "FormulaSheetLaw" (21 : Nat) "java/lang/IndexOutOfBoundsException") := by decide +kernel
theorem tw_584 : lw_tbl[584]? = some (Jvm.Cond.methodLink "FormulaSheetLaw" (17 : Nat) ({ cls := "FormulaSheet", name := "enter", desc := "(II)I" } : Jvm.MethodName)) := by decide +kernel
theorem tw_585 : lw_tbl[585]? = some (Jvm.Cond.instanceMethod ({ cls := "FormulaSheet", name := "enter", desc := "(II)I" } : Jvm.MethodName)) := by decide +kernel
theorem tw_586 : lw_tbl[586]? = some (Jvm.Cond.selects "FormulaSheet" ({ cls := "FormulaSheet", name := "enter", desc := "(II)I" } : Jvm.MethodName) ({ cls := "FormulaSheet", name := "enter", desc := "(II)I" } : Jvm.MethodName)) := by decide +kernel
theorem tw_587 : lw_tbl[587]? = some (Jvm.Cond.code ({ cls := "FormulaSheet", name := "enter", desc := "(II)I" } : Jvm.MethodName) prog_1_method_3_code (6 : Nat) (Option.some Jvm.ClassFile.FieldType.int)) := by decide +kernel
theorem tw_596 : lw_tbl[596]? = some (Jvm.Cond.castable "java/lang/IndexOutOfBoundsException" "java/lang/IndexOutOfBoundsException") := by decide +kernel
theorem tw_872 : lw_tbl[872]? = some (Jvm.Cond.methodLink "FormulaSheetLaw" (23 : Nat) ({ cls := "FormulaSheet", name := "put", desc := "(IID)V" } : Jvm.MethodName)) := by decide +kernel
theorem tw_873 : lw_tbl[873]? = some (Jvm.Cond.instanceMethod ({ cls := "FormulaSheet", name := "put", desc := "(IID)V" } : Jvm.MethodName)) := by decide +kernel
theorem tw_874 : lw_tbl[874]? = some (Jvm.Cond.selects "FormulaSheet" ({ cls := "FormulaSheet", name := "put", desc := "(IID)V" } : Jvm.MethodName) ({ cls := "FormulaSheet", name := "put", desc := "(IID)V" } : Jvm.MethodName)) := by decide +kernel
theorem tw_875 : lw_tbl[875]? = some (Jvm.Cond.code ({ cls := "FormulaSheet", name := "put", desc := "(IID)V" } : Jvm.MethodName) prog_1_method_5_code (6 : Nat) (Option.none : Option Jvm.ClassFile.FieldType)) := by decide +kernel
theorem tw_883 : lw_tbl[883]? = some (Jvm.Cond.classLink "FormulaSheetLaw" (31 : Nat) "java/util/NoSuchElementException") := by decide +kernel
theorem tw_884 : lw_tbl[884]? = some (Jvm.Cond.methodLink "FormulaSheetLaw" (27 : Nat) ({ cls := "FormulaSheet", name := "erase", desc := "(II)V" } : Jvm.MethodName)) := by decide +kernel
theorem tw_885 : lw_tbl[885]? = some (Jvm.Cond.instanceMethod ({ cls := "FormulaSheet", name := "erase", desc := "(II)V" } : Jvm.MethodName)) := by decide +kernel
theorem tw_886 : lw_tbl[886]? = some (Jvm.Cond.selects "FormulaSheet" ({ cls := "FormulaSheet", name := "erase", desc := "(II)V" } : Jvm.MethodName) ({ cls := "FormulaSheet", name := "erase", desc := "(II)V" } : Jvm.MethodName)) := by decide +kernel
theorem tw_887 : lw_tbl[887]? = some (Jvm.Cond.code ({ cls := "FormulaSheet", name := "erase", desc := "(II)V" } : Jvm.MethodName) prog_1_method_6_code (4 : Nat) (Option.none : Option Jvm.ClassFile.FieldType)) := by decide +kernel
theorem tw_894 : lw_tbl[894]? = some (Jvm.Cond.castable "java/util/NoSuchElementException" "java/util/NoSuchElementException") := by decide +kernel
theorem tw_914 : lw_tbl[914]? = some (Jvm.Cond.methodLink "FormulaSheetLaw" (33 : Nat) ({ cls := "FormulaSheet", name := "copy", desc := "(IIII)I" } : Jvm.MethodName)) := by decide +kernel
theorem tw_915 : lw_tbl[915]? = some (Jvm.Cond.instanceMethod ({ cls := "FormulaSheet", name := "copy", desc := "(IIII)I" } : Jvm.MethodName)) := by decide +kernel
theorem tw_916 : lw_tbl[916]? = some (Jvm.Cond.selects "FormulaSheet" ({ cls := "FormulaSheet", name := "copy", desc := "(IIII)I" } : Jvm.MethodName) ({ cls := "FormulaSheet", name := "copy", desc := "(IIII)I" } : Jvm.MethodName)) := by decide +kernel
theorem tw_917 : lw_tbl[917]? = some (Jvm.Cond.code ({ cls := "FormulaSheet", name := "copy", desc := "(IIII)I" } : Jvm.MethodName) prog_1_method_7_code (9 : Nat) (Option.some Jvm.ClassFile.FieldType.int)) := by decide +kernel
theorem tw_970 : lw_tbl[970]? = some (Jvm.Cond.methodLink "FormulaSheetLaw" (37 : Nat) ({ cls := "FormulaSheet", name := "insert", desc := "(I)I" } : Jvm.MethodName)) := by decide +kernel
theorem tw_971 : lw_tbl[971]? = some (Jvm.Cond.instanceMethod ({ cls := "FormulaSheet", name := "insert", desc := "(I)I" } : Jvm.MethodName)) := by decide +kernel
theorem tw_972 : lw_tbl[972]? = some (Jvm.Cond.selects "FormulaSheet" ({ cls := "FormulaSheet", name := "insert", desc := "(I)I" } : Jvm.MethodName) ({ cls := "FormulaSheet", name := "insert", desc := "(I)I" } : Jvm.MethodName)) := by decide +kernel
theorem tw_973 : lw_tbl[973]? = some (Jvm.Cond.code ({ cls := "FormulaSheet", name := "insert", desc := "(I)I" } : Jvm.MethodName) prog_1_method_8_code (2 : Nat) (Option.some Jvm.ClassFile.FieldType.int)) := by decide +kernel
theorem tw_1011 : lw_tbl[1011]? = some (Jvm.Cond.methodLink "FormulaSheetLaw" (40 : Nat) ({ cls := "FormulaSheet", name := "delete", desc := "(I)I" } : Jvm.MethodName)) := by decide +kernel
theorem tw_1012 : lw_tbl[1012]? = some (Jvm.Cond.instanceMethod ({ cls := "FormulaSheet", name := "delete", desc := "(I)I" } : Jvm.MethodName)) := by decide +kernel
theorem tw_1013 : lw_tbl[1013]? = some (Jvm.Cond.selects "FormulaSheet" ({ cls := "FormulaSheet", name := "delete", desc := "(I)I" } : Jvm.MethodName) ({ cls := "FormulaSheet", name := "delete", desc := "(I)I" } : Jvm.MethodName)) := by decide +kernel
theorem tw_1014 : lw_tbl[1014]? = some (Jvm.Cond.code ({ cls := "FormulaSheet", name := "delete", desc := "(I)I" } : Jvm.MethodName) prog_1_method_9_code (2 : Nat) (Option.some Jvm.ClassFile.FieldType.int)) := by decide +kernel
theorem tw_1039 : lw_tbl[1039]? = some (Jvm.Cond.classLink "FormulaSheetLaw" (47 : Nat) "java/lang/ArithmeticException") := by decide +kernel
theorem tw_1040 : lw_tbl[1040]? = some (Jvm.Cond.methodLink "FormulaSheetLaw" (43 : Nat) ({ cls := "FormulaSheet", name := "value", desc := "(II)D" } : Jvm.MethodName)) := by decide +kernel
theorem tw_1041 : lw_tbl[1041]? = some (Jvm.Cond.instanceMethod ({ cls := "FormulaSheet", name := "value", desc := "(II)D" } : Jvm.MethodName)) := by decide +kernel
theorem tw_1042 : lw_tbl[1042]? = some (Jvm.Cond.selects "FormulaSheet" ({ cls := "FormulaSheet", name := "value", desc := "(II)D" } : Jvm.MethodName) ({ cls := "FormulaSheet", name := "value", desc := "(II)D" } : Jvm.MethodName)) := by decide +kernel
theorem tw_1043 : lw_tbl[1043]? = some (Jvm.Cond.code ({ cls := "FormulaSheet", name := "value", desc := "(II)D" } : Jvm.MethodName) prog_1_method_10_code (4 : Nat) (Option.some Jvm.ClassFile.FieldType.double)) := by decide +kernel
theorem tw_1048 : lw_tbl[1048]? = some (Jvm.Cond.castable "java/lang/ArithmeticException" "java/lang/ArithmeticException") := by decide +kernel
theorem tw_1064 : lw_tbl[1064]? = some (Jvm.Cond.methodLink "FormulaSheetLaw" (49 : Nat) ({ cls := "FormulaSheet", name := "kind", desc := "(II)I" } : Jvm.MethodName)) := by decide +kernel
theorem tw_1065 : lw_tbl[1065]? = some (Jvm.Cond.instanceMethod ({ cls := "FormulaSheet", name := "kind", desc := "(II)I" } : Jvm.MethodName)) := by decide +kernel
theorem tw_1066 : lw_tbl[1066]? = some (Jvm.Cond.selects "FormulaSheet" ({ cls := "FormulaSheet", name := "kind", desc := "(II)I" } : Jvm.MethodName) ({ cls := "FormulaSheet", name := "kind", desc := "(II)I" } : Jvm.MethodName)) := by decide +kernel
theorem tw_1067 : lw_tbl[1067]? = some (Jvm.Cond.code ({ cls := "FormulaSheet", name := "kind", desc := "(II)I" } : Jvm.MethodName) prog_1_method_11_code (4 : Nat) (Option.some Jvm.ClassFile.FieldType.int)) := by decide +kernel
theorem tw_1071 : lw_tbl[1071]? = some (Jvm.Cond.classLink "FormulaSheetLaw" (56 : Nat) "java/lang/UnsupportedOperationException") := by decide +kernel
theorem tw_1072 : lw_tbl[1072]? = some (Jvm.Cond.methodLink "FormulaSheetLaw" (52 : Nat) ({ cls := "FormulaSheet", name := "text", desc := "(III)I" } : Jvm.MethodName)) := by decide +kernel
theorem tw_1073 : lw_tbl[1073]? = some (Jvm.Cond.instanceMethod ({ cls := "FormulaSheet", name := "text", desc := "(III)I" } : Jvm.MethodName)) := by decide +kernel
theorem tw_1074 : lw_tbl[1074]? = some (Jvm.Cond.selects "FormulaSheet" ({ cls := "FormulaSheet", name := "text", desc := "(III)I" } : Jvm.MethodName) ({ cls := "FormulaSheet", name := "text", desc := "(III)I" } : Jvm.MethodName)) := by decide +kernel
theorem tw_1075 : lw_tbl[1075]? = some (Jvm.Cond.code ({ cls := "FormulaSheet", name := "text", desc := "(III)I" } : Jvm.MethodName) prog_1_method_12_code (5 : Nat) (Option.some Jvm.ClassFile.FieldType.int)) := by decide +kernel
theorem tw_1078 : lw_tbl[1078]? = some (Jvm.Cond.castable "java/lang/UnsupportedOperationException" "java/lang/UnsupportedOperationException") := by decide +kernel
theorem tw_1445 : lw_tbl[1445]? = some (Jvm.Cond.methodLink "FormulaSheetLaw" (58 : Nat) ({ cls := "FormulaSheet", name := "reaches", desc := "(IIII)Z" } : Jvm.MethodName)) := by decide +kernel
theorem tw_1446 : lw_tbl[1446]? = some (Jvm.Cond.instanceMethod ({ cls := "FormulaSheet", name := "reaches", desc := "(IIII)Z" } : Jvm.MethodName)) := by decide +kernel
theorem tw_1447 : lw_tbl[1447]? = some (Jvm.Cond.selects "FormulaSheet" ({ cls := "FormulaSheet", name := "reaches", desc := "(IIII)Z" } : Jvm.MethodName) ({ cls := "FormulaSheet", name := "reaches", desc := "(IIII)Z" } : Jvm.MethodName)) := by decide +kernel
theorem tw_1448 : lw_tbl[1448]? = some (Jvm.Cond.code ({ cls := "FormulaSheet", name := "reaches", desc := "(IIII)Z" } : Jvm.MethodName) prog_1_method_13_code (7 : Nat) (Option.some Jvm.ClassFile.FieldType.boolean)) := by decide +kernel
theorem na_294 : (fs_ands narrow_1)[294]? = some (Jvm.Cond.not (Jvm.Cond.castable "java/lang/IllegalStateException" "java/lang/IllegalArgumentException")) := by decide +kernel
theorem na_325 : (fs_ands narrow_1)[325]? = some (Jvm.Cond.not (Jvm.Cond.castable "java/lang/ArithmeticException" "java/lang/IllegalStateException")) := by decide +kernel
theorem na_336 : (fs_ands narrow_1)[336]? = some (Jvm.Cond.not (Jvm.Cond.castable "java/lang/IllegalArgumentException" "java/lang/IndexOutOfBoundsException")) := by decide +kernel
theorem na_337 : (fs_ands narrow_1)[337]? = some (Jvm.Cond.not (Jvm.Cond.castable "java/lang/IllegalStateException" "java/lang/IndexOutOfBoundsException")) := by decide +kernel
theorem na_345 : (fs_ands narrow_1)[345]? = some (Jvm.Cond.not (Jvm.Cond.castable "java/util/NoSuchElementException" "java/lang/IndexOutOfBoundsException")) := by decide +kernel
theorem na_346 : (fs_ands narrow_1)[346]? = some (Jvm.Cond.not (Jvm.Cond.castable "java/lang/ArithmeticException" "java/lang/IndexOutOfBoundsException")) := by decide +kernel
theorem na_347 : (fs_ands narrow_1)[347]? = some (Jvm.Cond.not (Jvm.Cond.castable "java/lang/UnsupportedOperationException" "java/lang/IndexOutOfBoundsException")) := by decide +kernel
theorem na_356 : (fs_ands narrow_1)[356]? = some (Jvm.Cond.not (Jvm.Cond.castable "java/lang/IllegalStateException" "java/util/NoSuchElementException")) := by decide +kernel
theorem na_365 : (fs_ands narrow_1)[365]? = some (Jvm.Cond.not (Jvm.Cond.castable "java/lang/ArithmeticException" "java/util/NoSuchElementException")) := by decide +kernel
theorem fs_Ct.weaken {l : Launch} {s00 : State} {G : fs_G} {y : MethodName} {hd : Cond} {rm : Room} {As : List Value} {h : fs_Hp} {P P' : fs_Ps} (hC : fs_Ct l s00 G y hd rm As h P) (hPP : ∀ o h', P o h' → P' o h') : fs_Ct l s00 G y hd rm As h P' := by
  unfold fs_Ct fx_Met at hC ⊢
  intro p e ha hc hk s m args below hf happ hPre hK
  obtain ⟨k, o, h1, h2, h3, ⟨o', h', g1, g2, g3⟩, h5⟩ := hC p e ha hc hk s m args below hf happ hPre hK
  exact ⟨k, o, h1, h2, h3, ⟨o', h', g1, hPP o' h' g2, g3⟩, h5⟩
theorem fs_Ct.ofRH {l : Launch} {s00 : State} {G : fs_G} {y : MethodName} {cc : ByteArray} {maxL : Nat} {ret : Option FieldType} {hs : List (Nat × Nat × Nat × Nat)} {F mc ms Lo : Nat} {As : List Value} {h : fs_Hp} {Post : fs_Ps} (hSt : fs_St l s00 G) (hy : plainName y.cls = true)
    (body : ∀ (p : Program) (e : Env) (R : Room) (s : State) (m : MethodId) (below : List Frame) (meth : Method) (c : Code), F ≤ R.frames → Lo ≤ R.locals → mc ≤ R.cells → ms ≤ R.slots → fs_B p l e s m As.toArray meth c s00 G y cc maxL ret → c.exceptionTable.toList = tableOf hs → fs_P G.1 fs_cl (fs_A s00) h s.heap →
      W p l e R s m As.toArray below meth c s.heap [] 0 0 (fx_MQ below (fs_Qc s00 G Post) As.toArray s mc ms (fs_A s00)) (entryFrame m As.toArray maxL)) : fs_Ct l s00 G y (.codeWith y cc maxL ret hs) { frames := F, cells := mc, slots := ms, locals := Lo } As h Post :=
  fs_Ct.ofH hSt hy fun p e s m below meth c B ho hP => body p e _ s m below meth c (Nat.le_refl _) (Nat.le_refl _) (Nat.le_refl _) (Nat.le_refl _) B ho hP
section FSH
variable {p : Program} {l : Launch} {e : Env} {R : Room} {s : State} {m : MethodId} {args : Array Value} {below : List Frame} {meth : Method} {c : Code} {H : Heap} {locs : List Loc} {cells slots : Nat} {Q : State → Prop}
variable {pc : Nat} {ls : Array Slot} {st : List Value} {s00 : State} {E : fs_E}
theorem fs_nc {i : Nat} {C T : String} (hE : fs_SE l s00 E) (hw : fs_W s00 s) (hi : (fs_ands narrow_1)[i]? = some (.not (.castable C T))) : va_Nc C T s := by
  obtain ⟨b, h0, h1⟩ := hE.1.nar
  exact va_Nc.moved hw.1.alike (va_Nc.of (fs_na h1 i hi))
/-- the table's search for an exception of the class X thrown at pc comes to pc' -/
def fs_Ft (own X : String) (s : State) (args : Array Value) (pc : Nat) : List ExceptionTableEntry → Nat → Prop
  | [], _ => False
  | x :: t, pc' => covers x pc = true ∧ x.catchType ≠ 0 ∧ ∃ C : String, (Cond.classLink own x.catchType C).before args s = true ∧ (((Cond.castable X C).before args s = true ∧ pc' = x.handlerPc) ∨ (va_Nc X C s ∧ fs_Ft own X s args pc t pc'))
theorem fs_Ft.find {own X : String} {pc' : Nat} {a : Nat} {A : Nat → Prop} (hadm : l.admits e) (hown : s.vm.findClass own = some m.cls) : ∀ (t : List ExceptionTableEntry), fs_Ft own X s args pc t pc' → ∀ U : State, s.WarmedH U.vm → fs_X A X a s U.heap → ∃ vm', fx_Finds e s U (F0 m pc ls st) a t pc' vm' := by
  intro t
  induction t with
  | nil => intro h; exact False.elim h
  | cons x t ih =>
    intro h U hW hX
    obtain ⟨h1, h2, C, h3, h4⟩ := h
    rcases h4 with ⟨h4, rfl⟩ | ⟨h4, h5⟩
    · exact fx_Finds.hit (f := F0 m pc ls st) hW hadm hown h1 h2 h3 hX h4
    · exact fx_Finds.pass (f := F0 m pc ls st) hW hadm hown h1 h2 h3 hX h4 (fun vm1 hW1 => ih h5 (U.setVm vm1) hW1 hX)
theorem fs_hnd {own X : String} {a pc' : Nat} {hs : List (Nat × Nat × Nat × Nat)} (hown : s.vm.findClass own = some m.cls) (htab : c.exceptionTable.toList = tableOf hs) (hF : fs_Ft own X s args pc (tableOf hs) pc') (hX : fs_X (fs_A s00) X a s H) (kk : W p l e R s m args below meth c H locs cells slots Q (F0 m pc' ls [.ref a])) : fx_T p l e R s m args below meth c H locs cells slots Q (F0 m pc ls st) a := by
  refine fx_T.found (pc' := pc') (fun T hT X9 => ?_) kk
  rw [htab]
  refine fs_Ft.find (A := fs_A s00) X9.admits hown _ hF _ ?_ ?_
  · rw [throwing_vm]
    exact X9.warmed
  · have h9 : ((T.setTop (F0 m pc ls st)).pushFrame (.throwing a)).heap = H := hT
    rw [h9]
    exact hX
end FSH
def w_MO_thrown (E : fs_E) (h : fs_Hp) (a : Nat)  (Post : fs_Ps) : Prop := ∃ (ad : Nat → Nat) (M : mo_S), mo_at E.1 h a ad M ∧ ∀ h' : fs_Hp, mo_at E.1 h' a ad (p_MO_thrown M).2 → mo_fr a ad h h' → Post (.inl (some (.int (p_MO_thrown M).1))) h'
theorem kw_MO_thrown {l : Launch} {s00 : State} {E : fs_E} (hE : fs_SE l s00 E) {h : fs_Hp} {a : Nat}  {Post : fs_Ps} (hq : w_MO_thrown E h a  Post) : fs_Ct l s00 E.1 y_MO_thrown (.code y_MO_thrown b_MO_thrown 1 (some .int)) { frames := 0, cells := 0, slots := 0, locals := 0 } [.ref a] h Post := by
  obtain ⟨ad, M, hM, hk⟩ := hq
  refine (k_MO_thrown hE.1 hM  ).weaken (fun o h' hp => ?_)
  obtain ⟨rfl, h1, h2⟩ := hp
  exact hk h' h1 h2
def w_MO_type (E : fs_E) (h : fs_Hp) (a : Nat) (x1 : Int32) (Post : fs_Ps) : Prop := ∃ (ad : Nat → Nat) (M : mo_S), mo_at E.1 h a ad M ∧ (0 ≤ (M.1 9).toInt ∧ (M.1 9).toInt ≤ 40) ∧ ∀ h' : fs_Hp, mo_at E.1 h' a ad (p_MO_type M x1).2 → mo_fr a ad h h' → Post (.inl (some (.int (p_MO_type M x1).1))) h'
theorem kw_MO_type {l : Launch} {s00 : State} {E : fs_E} (hE : fs_SE l s00 E) {h : fs_Hp} {a : Nat} {x1 : Int32} {Post : fs_Ps} (hq : w_MO_type E h a x1 Post) : fs_Ct l s00 E.1 y_MO_type (.code y_MO_type b_MO_type 2 (some .int)) { frames := 1, cells := 0, slots := 0, locals := 13 } [.ref a, .int x1] h Post := by
  obtain ⟨ad, M, hM, hp, hk⟩ := hq
  refine (k_MO_type hE.1 hM x1 hp.1 hp.2).weaken (fun o h' hp => ?_)
  obtain ⟨rfl, h1, h2⟩ := hp
  exact hk h' h1 h2
def w_MO_errorAt (E : fs_E) (h : fs_Hp) (a : Nat)  (Post : fs_Ps) : Prop := ∃ (ad : Nat → Nat) (M : mo_S), mo_at E.1 h a ad M ∧ ∀ h' : fs_Hp, mo_at E.1 h' a ad (p_MO_errorAt M).2 → mo_fr a ad h h' → Post (.inl (some (.int (p_MO_errorAt M).1))) h'
theorem kw_MO_errorAt {l : Launch} {s00 : State} {E : fs_E} (hE : fs_SE l s00 E) {h : fs_Hp} {a : Nat}  {Post : fs_Ps} (hq : w_MO_errorAt E h a  Post) : fs_Ct l s00 E.1 y_MO_errorAt (.code y_MO_errorAt b_MO_errorAt 1 (some .int)) { frames := 0, cells := 0, slots := 0, locals := 0 } [.ref a] h Post := by
  obtain ⟨ad, M, hM, hk⟩ := hq
  refine (k_MO_errorAt hE.1 hM  ).weaken (fun o h' hp => ?_)
  obtain ⟨rfl, h1, h2⟩ := hp
  exact hk h' h1 h2
def w_MO_put (E : fs_E) (h : fs_Hp) (a : Nat) (x1 : Int32) (x2 : Int32) (x3 : UInt64) (Post : fs_Ps) : Prop := ∃ (ad : Nat → Nat) (M : mo_S), mo_at E.1 h a ad M ∧ ∀ h' : fs_Hp, mo_at E.1 h' a ad (p_MO_put M x1 x2 x3) → mo_fr a ad h h' → Post (.inl (none)) h'
theorem kw_MO_put {l : Launch} {s00 : State} {E : fs_E} (hE : fs_SE l s00 E) {h : fs_Hp} {a : Nat} {x1 : Int32} {x2 : Int32} {x3 : UInt64} {Post : fs_Ps} (hq : w_MO_put E h a x1 x2 x3 Post) : fs_Ct l s00 E.1 y_MO_put (.code y_MO_put b_MO_put 5 none) { frames := 1, cells := 0, slots := 0, locals := 13 } [.ref a, .int x1, .int x2, .double x3] h Post := by
  obtain ⟨ad, M, hM, hk⟩ := hq
  refine (k_MO_put hE.1 hM x1 x2 x3 ).weaken (fun o h' hp => ?_)
  obtain ⟨rfl, h1, h2⟩ := hp
  exact hk h' h1 h2
def w_MO_erase (E : fs_E) (h : fs_Hp) (a : Nat) (x1 : Int32) (x2 : Int32) (Post : fs_Ps) : Prop := ∃ (ad : Nat → Nat) (M : mo_S), mo_at E.1 h a ad M ∧ ∀ h' : fs_Hp, mo_at E.1 h' a ad (p_MO_erase M x1 x2) → mo_fr a ad h h' → Post (.inl (none)) h'
theorem kw_MO_erase {l : Launch} {s00 : State} {E : fs_E} (hE : fs_SE l s00 E) {h : fs_Hp} {a : Nat} {x1 : Int32} {x2 : Int32} {Post : fs_Ps} (hq : w_MO_erase E h a x1 x2 Post) : fs_Ct l s00 E.1 y_MO_erase (.code y_MO_erase b_MO_erase 3 none) { frames := 1, cells := 0, slots := 0, locals := 13 } [.ref a, .int x1, .int x2] h Post := by
  obtain ⟨ad, M, hM, hk⟩ := hq
  refine (k_MO_erase hE.1 hM x1 x2 ).weaken (fun o h' hp => ?_)
  obtain ⟨rfl, h1, h2⟩ := hp
  exact hk h' h1 h2
def w_MO_copy (E : fs_E) (h : fs_Hp) (a : Nat) (x1 : Int32) (x2 : Int32) (x3 : Int32) (x4 : Int32) (Post : fs_Ps) : Prop := ∃ (ad : Nat → Nat) (M : mo_S), mo_at E.1 h a ad M ∧ mo_sz M ∧ ∀ h' : fs_Hp, mo_at E.1 h' a ad (p_MO_copy M x1 x2 x3 x4).2 → mo_fr a ad h h' → Post (.inl (some (.int (p_MO_copy M x1 x2 x3 x4).1))) h'
theorem kw_MO_copy {l : Launch} {s00 : State} {E : fs_E} (hE : fs_SE l s00 E) {h : fs_Hp} {a : Nat} {x1 : Int32} {x2 : Int32} {x3 : Int32} {x4 : Int32} {Post : fs_Ps} (hq : w_MO_copy E h a x1 x2 x3 x4 Post) : fs_Ct l s00 E.1 y_MO_copy (.code y_MO_copy b_MO_copy 9 (some .int)) { frames := 2, cells := 0, slots := 0, locals := 31 } [.ref a, .int x1, .int x2, .int x3, .int x4] h Post := by
  obtain ⟨ad, M, hM, hz, hk⟩ := hq
  refine (k_MO_copy hE.1 hM x1 x2 x3 x4 hz).weaken (fun o h' hp => ?_)
  obtain ⟨rfl, h1, h2⟩ := hp
  exact hk h' h1 h2
def w_MO_insert (E : fs_E) (h : fs_Hp) (a : Nat) (x1 : Int32) (Post : fs_Ps) : Prop := ∃ (ad : Nat → Nat) (M : mo_S), mo_at E.1 h a ad M ∧ mo_sz M ∧ ∀ h' : fs_Hp, mo_at E.1 h' a ad (p_MO_insert M x1).2 → mo_fr a ad h h' → Post (.inl (some (.int (p_MO_insert M x1).1))) h'
theorem kw_MO_insert {l : Launch} {s00 : State} {E : fs_E} (hE : fs_SE l s00 E) {h : fs_Hp} {a : Nat} {x1 : Int32} {Post : fs_Ps} (hq : w_MO_insert E h a x1 Post) : fs_Ct l s00 E.1 y_MO_insert (.code y_MO_insert b_MO_insert 5 (some .int)) { frames := 4, cells := 0, slots := 0, locals := 65 } [.ref a, .int x1] h Post := by
  obtain ⟨ad, M, hM, hz, hk⟩ := hq
  refine (k_MO_insert hE.1 hM x1 hz).weaken (fun o h' hp => ?_)
  obtain ⟨rfl, h1, h2⟩ := hp
  exact hk h' h1 h2
def w_MO_delete (E : fs_E) (h : fs_Hp) (a : Nat) (x1 : Int32) (Post : fs_Ps) : Prop := ∃ (ad : Nat → Nat) (M : mo_S), mo_at E.1 h a ad M ∧ mo_sz M ∧ ∀ h' : fs_Hp, mo_at E.1 h' a ad (p_MO_delete M x1).2 → mo_fr a ad h h' → Post (.inl (some (.int (p_MO_delete M x1).1))) h'
theorem kw_MO_delete {l : Launch} {s00 : State} {E : fs_E} (hE : fs_SE l s00 E) {h : fs_Hp} {a : Nat} {x1 : Int32} {Post : fs_Ps} (hq : w_MO_delete E h a x1 Post) : fs_Ct l s00 E.1 y_MO_delete (.code y_MO_delete b_MO_delete 5 (some .int)) { frames := 4, cells := 0, slots := 0, locals := 65 } [.ref a, .int x1] h Post := by
  obtain ⟨ad, M, hM, hz, hk⟩ := hq
  refine (k_MO_delete hE.1 hM x1 hz).weaken (fun o h' hp => ?_)
  obtain ⟨rfl, h1, h2⟩ := hp
  exact hk h' h1 h2
def w_MO_enter (E : fs_E) (h : fs_Hp) (a : Nat) (x1 : Int32) (x2 : Int32) (Post : fs_Ps) : Prop := ∃ (ad : Nat → Nat) (M : mo_S) (r : Int32 × mo_S), mo_at E.1 h a ad M ∧ q_MO_enter M x1 x2 = some r ∧ ∀ h' : fs_Hp, mo_at E.1 h' a ad r.2 → mo_fr a ad h h' → Post (.inl (some (.int r.1))) h'
theorem kw_MO_enter {l : Launch} {s00 : State} {E : fs_E} (hE : fs_SE l s00 E) {h : fs_Hp} {a : Nat} {x1 : Int32} {x2 : Int32} {Post : fs_Ps} (hq : w_MO_enter E h a x1 x2 Post) : fs_Ct l s00 E.1 y_MO_enter (.code y_MO_enter b_MO_enter 7 (some .int)) { frames := 6, cells := 0, slots := 0, locals := 81 } [.ref a, .int x1, .int x2] h Post := by
  obtain ⟨ad, M, r, hM, hr, hk⟩ := hq
  refine (k_MO_enter hE.1 hM x1 x2 hr).weaken (fun o h' hp => ?_)
  obtain ⟨rfl, h1, h2⟩ := hp
  exact hk h' h1 h2
def w_MO_value (E : fs_E) (h : fs_Hp) (a : Nat) (x1 : Int32) (x2 : Int32) (Post : fs_Ps) : Prop := ∃ (ad : Nat → Nat) (M : mo_S) (r : UInt64 × mo_S), mo_at E.1 h a ad M ∧ q_MO_value M x1 x2 = some r ∧ ∀ h' : fs_Hp, mo_at E.1 h' a ad r.2 → mo_fr a ad h h' → Post (.inl (some (.double r.1))) h'
theorem kw_MO_value {l : Launch} {s00 : State} {E : fs_E} (hE : fs_SE l s00 E) {h : fs_Hp} {a : Nat} {x1 : Int32} {x2 : Int32} {Post : fs_Ps} (hq : w_MO_value E h a x1 x2 Post) : fs_Ct l s00 E.1 y_MO_value (.code y_MO_value b_MO_value 4 (some .double)) { frames := 4, cells := 0, slots := 0, locals := 75 } [.ref a, .int x1, .int x2] h Post := by
  obtain ⟨ad, M, r, hM, hr, hk⟩ := hq
  refine (k_MO_value hE.1 hM x1 x2 hr).weaken (fun o h' hp => ?_)
  obtain ⟨rfl, h1, h2⟩ := hp
  exact hk h' h1 h2
def w_MO_kind (E : fs_E) (h : fs_Hp) (a : Nat) (x1 : Int32) (x2 : Int32) (Post : fs_Ps) : Prop := ∃ (ad : Nat → Nat) (M : mo_S) (r : Int32 × mo_S), mo_at E.1 h a ad M ∧ q_MO_kind M x1 x2 = some r ∧ ∀ h' : fs_Hp, mo_at E.1 h' a ad r.2 → mo_fr a ad h h' → Post (.inl (some (.int r.1))) h'
theorem kw_MO_kind {l : Launch} {s00 : State} {E : fs_E} (hE : fs_SE l s00 E) {h : fs_Hp} {a : Nat} {x1 : Int32} {x2 : Int32} {Post : fs_Ps} (hq : w_MO_kind E h a x1 x2 Post) : fs_Ct l s00 E.1 y_MO_kind (.code y_MO_kind b_MO_kind 3 (some .int)) { frames := 4, cells := 0, slots := 0, locals := 75 } [.ref a, .int x1, .int x2] h Post := by
  obtain ⟨ad, M, r, hM, hr, hk⟩ := hq
  refine (k_MO_kind hE.1 hM x1 x2 hr).weaken (fun o h' hp => ?_)
  obtain ⟨rfl, h1, h2⟩ := hp
  exact hk h' h1 h2
def w_MO_text (E : fs_E) (h : fs_Hp) (a : Nat) (x1 : Int32) (x2 : Int32) (x3 : Int32) (Post : fs_Ps) : Prop := ∃ (ad : Nat → Nat) (M : mo_S) (r : Int32 × mo_S), mo_at E.1 h a ad M ∧ q_MO_text M x1 x2 x3 = some r ∧ ∀ h' : fs_Hp, mo_at E.1 h' a ad r.2 → mo_fr a ad h h' → Post (.inl (some (.int r.1))) h'
theorem kw_MO_text {l : Launch} {s00 : State} {E : fs_E} (hE : fs_SE l s00 E) {h : fs_Hp} {a : Nat} {x1 : Int32} {x2 : Int32} {x3 : Int32} {Post : fs_Ps} (hq : w_MO_text E h a x1 x2 x3 Post) : fs_Ct l s00 E.1 y_MO_text (.code y_MO_text b_MO_text 6 (some .int)) { frames := 6, cells := 0, slots := 0, locals := 90 } [.ref a, .int x1, .int x2, .int x3] h Post := by
  obtain ⟨ad, M, r, hM, hr, hk⟩ := hq
  refine (k_MO_text hE.1 hM x1 x2 x3 hr).weaken (fun o h' hp => ?_)
  obtain ⟨rfl, h1, h2⟩ := hp
  exact hk h' h1 h2
def w_MO_reaches (E : fs_E) (h : fs_Hp) (a : Nat) (x1 : Int32) (x2 : Int32) (x3 : Int32) (x4 : Int32) (Post : fs_Ps) : Prop := ∃ (ad : Nat → Nat) (M : mo_S) (r : Int32 × mo_S), mo_at E.1 h a ad M ∧ q_MO_reaches M x1 x2 x3 x4 = some r ∧ ∀ h' : fs_Hp, mo_at E.1 h' a ad r.2 → mo_fr a ad h h' → Post (.inl (some (.int r.1))) h'
theorem kw_MO_reaches {l : Launch} {s00 : State} {E : fs_E} (hE : fs_SE l s00 E) {h : fs_Hp} {a : Nat} {x1 : Int32} {x2 : Int32} {x3 : Int32} {x4 : Int32} {Post : fs_Ps} (hq : w_MO_reaches E h a x1 x2 x3 x4 Post) : fs_Ct l s00 E.1 y_MO_reaches (.code y_MO_reaches b_MO_reaches 6 (some .boolean)) { frames := 4, cells := 0, slots := 0, locals := 75 } [.ref a, .int x1, .int x2, .int x3, .int x4] h Post := by
  obtain ⟨ad, M, r, hM, hr, hk⟩ := hq
  refine (k_MO_reaches hE.1 hM x1 x2 x3 x4 hr).weaken (fun o h' hp => ?_)
  obtain ⟨rfl, h1, h2⟩ := hp
  exact hk h' h1 h2
def w_MO_count (E : fs_E) (h : fs_Hp) (a : Nat) (x1 : Int32) (Post : fs_Ps) : Prop := ∃ (ad : Nat → Nat) (M : mo_S) (r : Int32 × mo_S), mo_at E.1 h a ad M ∧ q_MO_count M x1 = some r ∧ ∀ h' : fs_Hp, mo_at E.1 h' a ad r.2 → mo_fr a ad h h' → Post (.inl (some (.int r.1))) h'
theorem kw_MO_count {l : Launch} {s00 : State} {E : fs_E} (hE : fs_SE l s00 E) {h : fs_Hp} {a : Nat} {x1 : Int32} {Post : fs_Ps} (hq : w_MO_count E h a x1 Post) : fs_Ct l s00 E.1 y_MO_count (.code y_MO_count b_MO_count 5 (some .int)) { frames := 4, cells := 0, slots := 0, locals := 75 } [.ref a, .int x1] h Post := by
  obtain ⟨ad, M, r, hM, hr, hk⟩ := hq
  refine (k_MO_count hE.1 hM x1 hr).weaken (fun o h' hp => ?_)
  obtain ⟨rfl, h1, h2⟩ := hp
  exact hk h' h1 h2
def w_LW_type (mc ms : Nat) (E : fs_E) (h : fs_Hp) (x1 : Nat) (x2 : Int32) (x3 : Nat) (Post : fs_Ps) : Prop := ∃ c101 s102 : Nat, c101 ≤ mc ∧ s102 ≤ ms ∧ (fs_isc h x1 0 ∧ (w_SH_type c101 s102 E h x1 x2 (fs_ki (fun x106 h103 => fs_sl h103 x3 (E.1.2 1) 0 (Int32.toInt64 x106) (fun h107 => Post (.inl (some (.int 0))) h107)) (fun C_ h104 => (C_ = "java/lang/IllegalArgumentException" ∧ Post (.inl (some (.int 1))) h104) ∨ (C_ = "java/lang/IllegalStateException" ∧ Post (.inl (some (.int 2))) h104)))))
set_option maxHeartbeats 4000000 in
set_option maxRecDepth 100000 in
theorem kw_LW_type {l : Launch} {s00 : State} {E : fs_E} (hE : fs_SE l s00 E) {mc ms : Nat} {h : fs_Hp} {x1 : Nat} {x2 : Int32} {x3 : Nat} {Post : fs_Ps} (hq : w_LW_type mc ms E h x1 x2 x3 Post) : fs_Ct l s00 E.1 y_LW_type (.codeWith y_LW_type b_LW_type 4 (some .int) [(0, 9, 12, 13), (0, 9, 15, 15)]) { frames := 7, cells := mc, slots := ms, locals := 96 } [.ref x1, .int x2, .ref x3] h Post := by
  refine fs_Ct.ofRH hE.1 (by decide) ?_
  intro p e R s m below meth c hRf hRl hRc hRs B htab hP
  skip
  obtain ⟨hx, hb, hr, hml, hown, hts, hlocks, hname, hK, hw, htr⟩ := id B
  have hown : s.vm.findClass "FormulaSheetLaw" = some m.cls := hown
  have hS := hw.S
  have hl := lv_entry ([.ref x1, .int x2, .ref x3]) (n := 4) (Nat.le_of_ble_eq_true rfl)
  rw [lg_entry_eq]
  generalize (lg_sl ([.ref x1, .int x2, .ref x3]) ++ List.replicate (4 - (lg_sl ([.ref x1, .int x2, .ref x3])).length) Slot.unset).toArray = ls at hl ⊢
  have hl : lv_has ls 4 [(0, .ref x1), (1, .int x2), (2, .ref x3)] := hl
  unfold w_LW_type at hq
  refine lv_aload_n hx hb d_LW_type_0 rfl (lv_at hl 2 rfl) ?_
  refine lv_iconst (v := 0) hx hb d_LW_type_1 (by decide) ?_
  refine lv_aload_n hx hb d_LW_type_2 rfl (lv_at hl 0 rfl) ?_
  refine lv_iload_n hx hb d_LW_type_3 rfl (lv_at hl 1 rfl) ?_
  obtain ⟨c101, s102, hc_, hs_, hq⟩ := hq
  obtain ⟨hi_, hq⟩ := hq
  obtain ⟨fs_, he_⟩ := fs_isc_some hi_
  refine fs_cV B hl.1 hP hS (kw_SH_type hE hq) (fs_tb_at 488 tw_488 rfl) he_ rfl (fs_tb_at 489 tw_489 rfl) (fs_tb_at 490 tw_490 rfl) (fs_tb_at 88 tw_88 rfl) (fs_tb_at 491 tw_491 rfl) (by decide) (show (parseMethodDescriptor y_SH_type.desc).map (fun d => d.parameters.length) = some 1 by decide +kernel) rfl d_LW_type_4 (fs_rm (k := 2) (by omega) (by omega) (by omega) (by omega) rfl) (fun v_ h103 H locs hq hP hS => ?_) (fun C_ a105 h104 H locs hq hP hS hX => ?_)
  · refine fs_cs (k := (0 + c101)) (n := (0 + s102)) rfl rfl ?_
    replace hq := fs_ki_some hq
    obtain ⟨x106, rfl, hq⟩ := hq
    refine W.eq (g2 := F0 m 7 ls (.int x106 :: .int 0 :: .ref x3 :: [])) rfl ?_
    refine lv_i2l hx hb d_LW_type_7 rfl ?_
    obtain ⟨n_, f_, h107, e_, hi_, eh_, hq⟩ := fs_sl_some hq
    refine fs_last hx hb hK hP hS 1 e_ rfl hi_ d_LW_type_8 (fun H locs hP hS => ?_)
    rw [← eh_] at hP
    refine lv_goto (tgt := 18) hx hb d_LW_type_9 (by decide) ?_
    refine lv_iconst (v := 0) hx hb d_LW_type_18 (by decide) ?_
    exact fs_iret hx hb hr hlocks hw hP hS (vp_nar_int _) (by omega) (by omega) hq d_LW_type_19
  · rcases hq with ⟨rfl, hq⟩ | ⟨rfl, hq⟩
    · refine fs_hnd (own := "FormulaSheetLaw") (pc' := 12) hown htab ⟨rfl, by decide, _, hts _ (fs_tb_at 486 tw_486 rfl), Or.inl ⟨hts _ (fs_tb_at 494 tw_494 rfl), rfl⟩⟩ hX ?_
      refine fs_cs (k := (0 + c101)) (n := (0 + s102)) rfl rfl ?_
      refine lv_astore_n (lv' := [(3, .ref a105), (0, .ref x1), (1, .int x2), (2, .ref x3)]) hx hb d_LW_type_12 rfl hl (by decide) rfl (fun ls hl => ?_)
      refine lv_iconst (v := 1) hx hb d_LW_type_13 (by decide) ?_
      exact fs_iret hx hb hr hlocks hw hP hS (vp_nar_int _) (by omega) (by omega) hq d_LW_type_14
    · refine fs_hnd (own := "FormulaSheetLaw") (pc' := 15) hown htab ⟨rfl, by decide, _, hts _ (fs_tb_at 486 tw_486 rfl), Or.inr ⟨fs_nc hE hw na_294, ⟨rfl, by decide, _, hts _ (fs_tb_at 487 tw_487 rfl), Or.inl ⟨hts _ (fs_tb_at 563 tw_563 rfl), rfl⟩⟩⟩⟩ hX ?_
      refine fs_cs (k := (0 + c101)) (n := (0 + s102)) rfl rfl ?_
      refine lv_astore_n (lv' := [(3, .ref a105), (0, .ref x1), (1, .int x2), (2, .ref x3)]) hx hb d_LW_type_15 rfl hl (by decide) rfl (fun ls hl => ?_)
      refine lv_iconst (v := 2) hx hb d_LW_type_16 (by decide) ?_
      exact fs_iret hx hb hr hlocks hw hP hS (vp_nar_int _) (by omega) (by omega) hq d_LW_type_17
def w_LW_enter (mc ms : Nat) (E : fs_E) (h : fs_Hp) (x1 : Nat) (x2 : Int32) (x3 : Int32) (x4 : Nat) (Post : fs_Ps) : Prop := ∃ c101 s102 : Nat, c101 ≤ mc ∧ s102 ≤ ms ∧ (fs_isc h x1 0 ∧ (w_SH_enter c101 s102 E h x1 x2 x3 (fs_ki (fun x106 h103 => fs_sl h103 x4 (E.1.2 1) 0 (Int32.toInt64 x106) (fun h107 => Post (.inl (some (.int 0))) h107)) (fun C_ h104 => (C_ = "java/lang/IndexOutOfBoundsException" ∧ Post (.inl (some (.int 1))) h104) ∨ (C_ = "java/lang/IllegalArgumentException" ∧ Post (.inl (some (.int 2))) h104)))))
set_option maxHeartbeats 4000000 in
set_option maxRecDepth 100000 in
theorem kw_LW_enter {l : Launch} {s00 : State} {E : fs_E} (hE : fs_SE l s00 E) {mc ms : Nat} {h : fs_Hp} {x1 : Nat} {x2 : Int32} {x3 : Int32} {x4 : Nat} {Post : fs_Ps} (hq : w_LW_enter mc ms E h x1 x2 x3 x4 Post) : fs_Ct l s00 E.1 y_LW_enter (.codeWith y_LW_enter b_LW_enter 5 (some .int) [(0, 10, 13, 21), (0, 10, 17, 13)]) { frames := 99, cells := mc, slots := ms, locals := 1439 } [.ref x1, .int x2, .int x3, .ref x4] h Post := by
  refine fs_Ct.ofRH hE.1 (by decide) ?_
  intro p e R s m below meth c hRf hRl hRc hRs B htab hP
  skip
  obtain ⟨hx, hb, hr, hml, hown, hts, hlocks, hname, hK, hw, htr⟩ := id B
  have hown : s.vm.findClass "FormulaSheetLaw" = some m.cls := hown
  have hS := hw.S
  have hl := lv_entry ([.ref x1, .int x2, .int x3, .ref x4]) (n := 5) (Nat.le_of_ble_eq_true rfl)
  rw [lg_entry_eq]
  generalize (lg_sl ([.ref x1, .int x2, .int x3, .ref x4]) ++ List.replicate (5 - (lg_sl ([.ref x1, .int x2, .int x3, .ref x4])).length) Slot.unset).toArray = ls at hl ⊢
  have hl : lv_has ls 5 [(0, .ref x1), (1, .int x2), (2, .int x3), (3, .ref x4)] := hl
  unfold w_LW_enter at hq
  refine lv_aload_n hx hb d_LW_enter_0 rfl (lv_at hl 3 rfl) ?_
  refine lv_iconst (v := 0) hx hb d_LW_enter_1 (by decide) ?_
  refine lv_aload_n hx hb d_LW_enter_2 rfl (lv_at hl 0 rfl) ?_
  refine lv_iload_n hx hb d_LW_enter_3 rfl (lv_at hl 1 rfl) ?_
  refine lv_iload_n hx hb d_LW_enter_4 rfl (lv_at hl 2 rfl) ?_
  obtain ⟨c101, s102, hc_, hs_, hq⟩ := hq
  obtain ⟨hi_, hq⟩ := hq
  obtain ⟨fs_, he_⟩ := fs_isc_some hi_
  refine fs_cV B hl.1 hP hS (kw_SH_enter hE hq) (fs_tb_at 584 tw_584 rfl) he_ rfl (fs_tb_at 585 tw_585 rfl) (fs_tb_at 586 tw_586 rfl) (fs_tb_at 88 tw_88 rfl) (fs_tb_at 587 tw_587 rfl) (by decide) (show (parseMethodDescriptor y_SH_enter.desc).map (fun d => d.parameters.length) = some 2 by decide +kernel) rfl d_LW_enter_5 (fs_rm (k := 2) (by omega) (by omega) (by omega) (by omega) rfl) (fun v_ h103 H locs hq hP hS => ?_) (fun C_ a105 h104 H locs hq hP hS hX => ?_)
  · refine fs_cs (k := (0 + c101)) (n := (0 + s102)) rfl rfl ?_
    replace hq := fs_ki_some hq
    obtain ⟨x106, rfl, hq⟩ := hq
    refine W.eq (g2 := F0 m 8 ls (.int x106 :: .int 0 :: .ref x4 :: [])) rfl ?_
    refine lv_i2l hx hb d_LW_enter_8 rfl ?_
    obtain ⟨n_, f_, h107, e_, hi_, eh_, hq⟩ := fs_sl_some hq
    refine fs_last hx hb hK hP hS 1 e_ rfl hi_ d_LW_enter_9 (fun H locs hP hS => ?_)
    rw [← eh_] at hP
    refine lv_goto (tgt := 21) hx hb d_LW_enter_10 (by decide) ?_
    refine lv_iconst (v := 0) hx hb d_LW_enter_21 (by decide) ?_
    exact fs_iret hx hb hr hlocks hw hP hS (vp_nar_int _) (by omega) (by omega) hq d_LW_enter_22
  · rcases hq with ⟨rfl, hq⟩ | ⟨rfl, hq⟩
    · refine fs_hnd (own := "FormulaSheetLaw") (pc' := 13) hown htab ⟨rfl, by decide, _, hts _ (fs_tb_at 583 tw_583 rfl), Or.inl ⟨hts _ (fs_tb_at 596 tw_596 rfl), rfl⟩⟩ hX ?_
      refine fs_cs (k := (0 + c101)) (n := (0 + s102)) rfl rfl ?_
      refine lv_astore (lv' := [(4, .ref a105), (0, .ref x1), (1, .int x2), (2, .int x3), (3, .ref x4)]) hx hb d_LW_enter_13 hl (by decide) rfl (fun ls hl => ?_)
      refine lv_iconst (v := 1) hx hb d_LW_enter_15 (by decide) ?_
      exact fs_iret hx hb hr hlocks hw hP hS (vp_nar_int _) (by omega) (by omega) hq d_LW_enter_16
    · refine fs_hnd (own := "FormulaSheetLaw") (pc' := 17) hown htab ⟨rfl, by decide, _, hts _ (fs_tb_at 583 tw_583 rfl), Or.inr ⟨fs_nc hE hw na_336, ⟨rfl, by decide, _, hts _ (fs_tb_at 486 tw_486 rfl), Or.inl ⟨hts _ (fs_tb_at 494 tw_494 rfl), rfl⟩⟩⟩⟩ hX ?_
      refine fs_cs (k := (0 + c101)) (n := (0 + s102)) rfl rfl ?_
      refine lv_astore (lv' := [(4, .ref a105), (0, .ref x1), (1, .int x2), (2, .int x3), (3, .ref x4)]) hx hb d_LW_enter_17 hl (by decide) rfl (fun ls hl => ?_)
      refine lv_iconst (v := 2) hx hb d_LW_enter_19 (by decide) ?_
      exact fs_iret hx hb hr hlocks hw hP hS (vp_nar_int _) (by omega) (by omega) hq d_LW_enter_20
def w_LW_put (mc ms : Nat) (E : fs_E) (h : fs_Hp) (x1 : Nat) (x2 : Int32) (x3 : Int32) (x4 : UInt64) (Post : fs_Ps) : Prop := ∃ c101 s102 : Nat, c101 ≤ mc ∧ s102 ≤ ms ∧ (fs_isc h x1 0 ∧ (w_SH_put c101 s102 E h x1 x2 x3 x4 (fs_kv (fun h103 => Post (.inl (some (.int 0))) h103) (fun C_ h104 => (C_ = "java/lang/IndexOutOfBoundsException" ∧ Post (.inl (some (.int 1))) h104) ∨ (C_ = "java/lang/IllegalArgumentException" ∧ Post (.inl (some (.int 2))) h104)))))
set_option maxHeartbeats 4000000 in
set_option maxRecDepth 100000 in
theorem kw_LW_put {l : Launch} {s00 : State} {E : fs_E} (hE : fs_SE l s00 E) {mc ms : Nat} {h : fs_Hp} {x1 : Nat} {x2 : Int32} {x3 : Int32} {x4 : UInt64} {Post : fs_Ps} (hq : w_LW_put mc ms E h x1 x2 x3 x4 Post) : fs_Ct l s00 E.1 y_LW_put (.codeWith y_LW_put b_LW_put 6 (some .int) [(0, 7, 10, 21), (0, 7, 14, 13)]) { frames := 8, cells := mc, slots := ms, locals := 111 } [.ref x1, .int x2, .int x3, .double x4] h Post := by
  refine fs_Ct.ofRH hE.1 (by decide) ?_
  intro p e R s m below meth c hRf hRl hRc hRs B htab hP
  skip
  obtain ⟨hx, hb, hr, hml, hown, hts, hlocks, hname, hK, hw, htr⟩ := id B
  have hown : s.vm.findClass "FormulaSheetLaw" = some m.cls := hown
  have hS := hw.S
  have hl := lv_entry ([.ref x1, .int x2, .int x3, .double x4]) (n := 6) (Nat.le_of_ble_eq_true rfl)
  rw [lg_entry_eq]
  generalize (lg_sl ([.ref x1, .int x2, .int x3, .double x4]) ++ List.replicate (6 - (lg_sl ([.ref x1, .int x2, .int x3, .double x4])).length) Slot.unset).toArray = ls at hl ⊢
  have hl : lv_has ls 6 [(0, .ref x1), (1, .int x2), (2, .int x3), (3, .double x4)] := hl
  unfold w_LW_put at hq
  refine lv_aload_n hx hb d_LW_put_0 rfl (lv_at hl 0 rfl) ?_
  refine lv_iload_n hx hb d_LW_put_1 rfl (lv_at hl 1 rfl) ?_
  refine lv_iload_n hx hb d_LW_put_2 rfl (lv_at hl 2 rfl) ?_
  refine lv_dload_n hx hb d_LW_put_3 rfl (lv_at hl 3 rfl) ?_
  obtain ⟨c101, s102, hc_, hs_, hq⟩ := hq
  obtain ⟨hi_, hq⟩ := hq
  obtain ⟨fs_, he_⟩ := fs_isc_some hi_
  refine fs_cV B hl.1 hP hS (kw_SH_put hE hq) (fs_tb_at 872 tw_872 rfl) he_ rfl (fs_tb_at 873 tw_873 rfl) (fs_tb_at 874 tw_874 rfl) (fs_tb_at 88 tw_88 rfl) (fs_tb_at 875 tw_875 rfl) (by decide) (show (parseMethodDescriptor y_SH_put.desc).map (fun d => d.parameters.length) = some 3 by decide +kernel) rfl d_LW_put_4 (fs_rm (k := 0) (by omega) (by omega) (by omega) (by omega) rfl) (fun v_ h103 H locs hq hP hS => ?_) (fun C_ a105 h104 H locs hq hP hS hX => ?_)
  · refine fs_cs (k := (0 + c101)) (n := (0 + s102)) rfl rfl ?_
    replace hq := fs_kv_some hq
    obtain ⟨rfl, hq⟩ := hq
    refine W.eq (g2 := F0 m 7 ls ([])) rfl ?_
    refine lv_goto (tgt := 18) hx hb d_LW_put_7 (by decide) ?_
    refine lv_iconst (v := 0) hx hb d_LW_put_18 (by decide) ?_
    exact fs_iret hx hb hr hlocks hw hP hS (vp_nar_int _) (by omega) (by omega) hq d_LW_put_19
  · rcases hq with ⟨rfl, hq⟩ | ⟨rfl, hq⟩
    · refine fs_hnd (own := "FormulaSheetLaw") (pc' := 10) hown htab ⟨rfl, by decide, _, hts _ (fs_tb_at 583 tw_583 rfl), Or.inl ⟨hts _ (fs_tb_at 596 tw_596 rfl), rfl⟩⟩ hX ?_
      refine fs_cs (k := (0 + c101)) (n := (0 + s102)) rfl rfl ?_
      refine lv_astore (lv' := [(5, .ref a105), (0, .ref x1), (1, .int x2), (2, .int x3), (3, .double x4)]) hx hb d_LW_put_10 hl (by decide) rfl (fun ls hl => ?_)
      refine lv_iconst (v := 1) hx hb d_LW_put_12 (by decide) ?_
      exact fs_iret hx hb hr hlocks hw hP hS (vp_nar_int _) (by omega) (by omega) hq d_LW_put_13
    · refine fs_hnd (own := "FormulaSheetLaw") (pc' := 14) hown htab ⟨rfl, by decide, _, hts _ (fs_tb_at 583 tw_583 rfl), Or.inr ⟨fs_nc hE hw na_336, ⟨rfl, by decide, _, hts _ (fs_tb_at 486 tw_486 rfl), Or.inl ⟨hts _ (fs_tb_at 494 tw_494 rfl), rfl⟩⟩⟩⟩ hX ?_
      refine fs_cs (k := (0 + c101)) (n := (0 + s102)) rfl rfl ?_
      refine lv_astore (lv' := [(5, .ref a105), (0, .ref x1), (1, .int x2), (2, .int x3), (3, .double x4)]) hx hb d_LW_put_14 hl (by decide) rfl (fun ls hl => ?_)
      refine lv_iconst (v := 2) hx hb d_LW_put_16 (by decide) ?_
      exact fs_iret hx hb hr hlocks hw hP hS (vp_nar_int _) (by omega) (by omega) hq d_LW_put_17
def w_LW_erase (mc ms : Nat) (E : fs_E) (h : fs_Hp) (x1 : Nat) (x2 : Int32) (x3 : Int32) (Post : fs_Ps) : Prop := ∃ c101 s102 : Nat, c101 ≤ mc ∧ s102 ≤ ms ∧ (fs_isc h x1 0 ∧ (w_SH_erase c101 s102 E h x1 x2 x3 (fs_kv (fun h103 => Post (.inl (some (.int 0))) h103) (fun C_ h104 => (C_ = "java/lang/IndexOutOfBoundsException" ∧ Post (.inl (some (.int 1))) h104) ∨ (C_ = "java/util/NoSuchElementException" ∧ Post (.inl (some (.int 2))) h104)))))
set_option maxHeartbeats 4000000 in
set_option maxRecDepth 100000 in
theorem kw_LW_erase {l : Launch} {s00 : State} {E : fs_E} (hE : fs_SE l s00 E) {mc ms : Nat} {h : fs_Hp} {x1 : Nat} {x2 : Int32} {x3 : Int32} {Post : fs_Ps} (hq : w_LW_erase mc ms E h x1 x2 x3 Post) : fs_Ct l s00 E.1 y_LW_erase (.codeWith y_LW_erase b_LW_erase 4 (some .int) [(0, 6, 9, 21), (0, 6, 12, 31)]) { frames := 9, cells := mc, slots := ms, locals := 124 } [.ref x1, .int x2, .int x3] h Post := by
  refine fs_Ct.ofRH hE.1 (by decide) ?_
  intro p e R s m below meth c hRf hRl hRc hRs B htab hP
  skip
  obtain ⟨hx, hb, hr, hml, hown, hts, hlocks, hname, hK, hw, htr⟩ := id B
  have hown : s.vm.findClass "FormulaSheetLaw" = some m.cls := hown
  have hS := hw.S
  have hl := lv_entry ([.ref x1, .int x2, .int x3]) (n := 4) (Nat.le_of_ble_eq_true rfl)
  rw [lg_entry_eq]
  generalize (lg_sl ([.ref x1, .int x2, .int x3]) ++ List.replicate (4 - (lg_sl ([.ref x1, .int x2, .int x3])).length) Slot.unset).toArray = ls at hl ⊢
  have hl : lv_has ls 4 [(0, .ref x1), (1, .int x2), (2, .int x3)] := hl
  unfold w_LW_erase at hq
  refine lv_aload_n hx hb d_LW_erase_0 rfl (lv_at hl 0 rfl) ?_
  refine lv_iload_n hx hb d_LW_erase_1 rfl (lv_at hl 1 rfl) ?_
  refine lv_iload_n hx hb d_LW_erase_2 rfl (lv_at hl 2 rfl) ?_
  obtain ⟨c101, s102, hc_, hs_, hq⟩ := hq
  obtain ⟨hi_, hq⟩ := hq
  obtain ⟨fs_, he_⟩ := fs_isc_some hi_
  refine fs_cV B hl.1 hP hS (kw_SH_erase hE hq) (fs_tb_at 884 tw_884 rfl) he_ rfl (fs_tb_at 885 tw_885 rfl) (fs_tb_at 886 tw_886 rfl) (fs_tb_at 88 tw_88 rfl) (fs_tb_at 887 tw_887 rfl) (by decide) (show (parseMethodDescriptor y_SH_erase.desc).map (fun d => d.parameters.length) = some 2 by decide +kernel) rfl d_LW_erase_3 (fs_rm (k := 0) (by omega) (by omega) (by omega) (by omega) rfl) (fun v_ h103 H locs hq hP hS => ?_) (fun C_ a105 h104 H locs hq hP hS hX => ?_)
  · refine fs_cs (k := (0 + c101)) (n := (0 + s102)) rfl rfl ?_
    replace hq := fs_kv_some hq
    obtain ⟨rfl, hq⟩ := hq
    refine W.eq (g2 := F0 m 6 ls ([])) rfl ?_
    refine lv_goto (tgt := 15) hx hb d_LW_erase_6 (by decide) ?_
    refine lv_iconst (v := 0) hx hb d_LW_erase_15 (by decide) ?_
    exact fs_iret hx hb hr hlocks hw hP hS (vp_nar_int _) (by omega) (by omega) hq d_LW_erase_16
  · rcases hq with ⟨rfl, hq⟩ | ⟨rfl, hq⟩
    · refine fs_hnd (own := "FormulaSheetLaw") (pc' := 9) hown htab ⟨rfl, by decide, _, hts _ (fs_tb_at 583 tw_583 rfl), Or.inl ⟨hts _ (fs_tb_at 596 tw_596 rfl), rfl⟩⟩ hX ?_
      refine fs_cs (k := (0 + c101)) (n := (0 + s102)) rfl rfl ?_
      refine lv_astore_n (lv' := [(3, .ref a105), (0, .ref x1), (1, .int x2), (2, .int x3)]) hx hb d_LW_erase_9 rfl hl (by decide) rfl (fun ls hl => ?_)
      refine lv_iconst (v := 1) hx hb d_LW_erase_10 (by decide) ?_
      exact fs_iret hx hb hr hlocks hw hP hS (vp_nar_int _) (by omega) (by omega) hq d_LW_erase_11
    · refine fs_hnd (own := "FormulaSheetLaw") (pc' := 12) hown htab ⟨rfl, by decide, _, hts _ (fs_tb_at 583 tw_583 rfl), Or.inr ⟨fs_nc hE hw na_345, ⟨rfl, by decide, _, hts _ (fs_tb_at 883 tw_883 rfl), Or.inl ⟨hts _ (fs_tb_at 894 tw_894 rfl), rfl⟩⟩⟩⟩ hX ?_
      refine fs_cs (k := (0 + c101)) (n := (0 + s102)) rfl rfl ?_
      refine lv_astore_n (lv' := [(3, .ref a105), (0, .ref x1), (1, .int x2), (2, .int x3)]) hx hb d_LW_erase_12 rfl hl (by decide) rfl (fun ls hl => ?_)
      refine lv_iconst (v := 2) hx hb d_LW_erase_13 (by decide) ?_
      exact fs_iret hx hb hr hlocks hw hP hS (vp_nar_int _) (by omega) (by omega) hq d_LW_erase_14
def w_LW_copy (mc ms : Nat) (E : fs_E) (h : fs_Hp) (x1 : Nat) (x2 : Int32) (x3 : Int32) (x4 : Int32) (x5 : Int32) (x6 : Nat) (Post : fs_Ps) : Prop := ∃ c101 s102 : Nat, c101 ≤ mc ∧ s102 ≤ ms ∧ (fs_isc h x1 0 ∧ (w_SH_copy c101 s102 E h x1 x2 x3 x4 x5 (fs_ki (fun x106 h103 => fs_sl h103 x6 (E.1.2 1) 0 (Int32.toInt64 x106) (fun h107 => Post (.inl (some (.int 0))) h107)) (fun C_ h104 => (C_ = "java/lang/IndexOutOfBoundsException" ∧ Post (.inl (some (.int 1))) h104) ∨ (C_ = "java/util/NoSuchElementException" ∧ Post (.inl (some (.int 2))) h104)))))
set_option maxHeartbeats 4000000 in
set_option maxRecDepth 100000 in
theorem kw_LW_copy {l : Launch} {s00 : State} {E : fs_E} (hE : fs_SE l s00 E) {mc ms : Nat} {h : fs_Hp} {x1 : Nat} {x2 : Int32} {x3 : Int32} {x4 : Int32} {x5 : Int32} {x6 : Nat} {Post : fs_Ps} (hq : w_LW_copy mc ms E h x1 x2 x3 x4 x5 x6 Post) : fs_Ct l s00 E.1 y_LW_copy (.codeWith y_LW_copy b_LW_copy 7 (some .int) [(0, 14, 17, 21), (0, 14, 21, 31)]) { frames := 170, cells := mc, slots := ms, locals := 3020 } [.ref x1, .int x2, .int x3, .int x4, .int x5, .ref x6] h Post := by
  refine fs_Ct.ofRH hE.1 (by decide) ?_
  intro p e R s m below meth c hRf hRl hRc hRs B htab hP
  skip
  obtain ⟨hx, hb, hr, hml, hown, hts, hlocks, hname, hK, hw, htr⟩ := id B
  have hown : s.vm.findClass "FormulaSheetLaw" = some m.cls := hown
  have hS := hw.S
  have hl := lv_entry ([.ref x1, .int x2, .int x3, .int x4, .int x5, .ref x6]) (n := 7) (Nat.le_of_ble_eq_true rfl)
  rw [lg_entry_eq]
  generalize (lg_sl ([.ref x1, .int x2, .int x3, .int x4, .int x5, .ref x6]) ++ List.replicate (7 - (lg_sl ([.ref x1, .int x2, .int x3, .int x4, .int x5, .ref x6])).length) Slot.unset).toArray = ls at hl ⊢
  have hl : lv_has ls 7 [(0, .ref x1), (1, .int x2), (2, .int x3), (3, .int x4), (4, .int x5), (5, .ref x6)] := hl
  unfold w_LW_copy at hq
  refine lv_aload hx hb d_LW_copy_0 (lv_at hl 5 rfl) ?_
  refine lv_iconst (v := 0) hx hb d_LW_copy_2 (by decide) ?_
  refine lv_aload_n hx hb d_LW_copy_3 rfl (lv_at hl 0 rfl) ?_
  refine lv_iload_n hx hb d_LW_copy_4 rfl (lv_at hl 1 rfl) ?_
  refine lv_iload_n hx hb d_LW_copy_5 rfl (lv_at hl 2 rfl) ?_
  refine lv_iload_n hx hb d_LW_copy_6 rfl (lv_at hl 3 rfl) ?_
  refine lv_iload hx hb d_LW_copy_7 (lv_at hl 4 rfl) ?_
  obtain ⟨c101, s102, hc_, hs_, hq⟩ := hq
  obtain ⟨hi_, hq⟩ := hq
  obtain ⟨fs_, he_⟩ := fs_isc_some hi_
  refine fs_cV B hl.1 hP hS (kw_SH_copy hE hq) (fs_tb_at 914 tw_914 rfl) he_ rfl (fs_tb_at 915 tw_915 rfl) (fs_tb_at 916 tw_916 rfl) (fs_tb_at 88 tw_88 rfl) (fs_tb_at 917 tw_917 rfl) (by decide) (show (parseMethodDescriptor y_SH_copy.desc).map (fun d => d.parameters.length) = some 4 by decide +kernel) rfl d_LW_copy_9 (fs_rm (k := 2) (by omega) (by omega) (by omega) (by omega) rfl) (fun v_ h103 H locs hq hP hS => ?_) (fun C_ a105 h104 H locs hq hP hS hX => ?_)
  · refine fs_cs (k := (0 + c101)) (n := (0 + s102)) rfl rfl ?_
    replace hq := fs_ki_some hq
    obtain ⟨x106, rfl, hq⟩ := hq
    refine W.eq (g2 := F0 m 12 ls (.int x106 :: .int 0 :: .ref x6 :: [])) rfl ?_
    refine lv_i2l hx hb d_LW_copy_12 rfl ?_
    obtain ⟨n_, f_, h107, e_, hi_, eh_, hq⟩ := fs_sl_some hq
    refine fs_last hx hb hK hP hS 1 e_ rfl hi_ d_LW_copy_13 (fun H locs hP hS => ?_)
    rw [← eh_] at hP
    refine lv_goto (tgt := 25) hx hb d_LW_copy_14 (by decide) ?_
    refine lv_iconst (v := 0) hx hb d_LW_copy_25 (by decide) ?_
    exact fs_iret hx hb hr hlocks hw hP hS (vp_nar_int _) (by omega) (by omega) hq d_LW_copy_26
  · rcases hq with ⟨rfl, hq⟩ | ⟨rfl, hq⟩
    · refine fs_hnd (own := "FormulaSheetLaw") (pc' := 17) hown htab ⟨rfl, by decide, _, hts _ (fs_tb_at 583 tw_583 rfl), Or.inl ⟨hts _ (fs_tb_at 596 tw_596 rfl), rfl⟩⟩ hX ?_
      refine fs_cs (k := (0 + c101)) (n := (0 + s102)) rfl rfl ?_
      refine lv_astore (lv' := [(6, .ref a105), (0, .ref x1), (1, .int x2), (2, .int x3), (3, .int x4), (4, .int x5), (5, .ref x6)]) hx hb d_LW_copy_17 hl (by decide) rfl (fun ls hl => ?_)
      refine lv_iconst (v := 1) hx hb d_LW_copy_19 (by decide) ?_
      exact fs_iret hx hb hr hlocks hw hP hS (vp_nar_int _) (by omega) (by omega) hq d_LW_copy_20
    · refine fs_hnd (own := "FormulaSheetLaw") (pc' := 21) hown htab ⟨rfl, by decide, _, hts _ (fs_tb_at 583 tw_583 rfl), Or.inr ⟨fs_nc hE hw na_345, ⟨rfl, by decide, _, hts _ (fs_tb_at 883 tw_883 rfl), Or.inl ⟨hts _ (fs_tb_at 894 tw_894 rfl), rfl⟩⟩⟩⟩ hX ?_
      refine fs_cs (k := (0 + c101)) (n := (0 + s102)) rfl rfl ?_
      refine lv_astore (lv' := [(6, .ref a105), (0, .ref x1), (1, .int x2), (2, .int x3), (3, .int x4), (4, .int x5), (5, .ref x6)]) hx hb d_LW_copy_21 hl (by decide) rfl (fun ls hl => ?_)
      refine lv_iconst (v := 2) hx hb d_LW_copy_23 (by decide) ?_
      exact fs_iret hx hb hr hlocks hw hP hS (vp_nar_int _) (by omega) (by omega) hq d_LW_copy_24
def w_LW_insert (mc ms : Nat) (E : fs_E) (h : fs_Hp) (x1 : Nat) (x2 : Int32) (x3 : Nat) (Post : fs_Ps) : Prop := ∃ c101 s102 : Nat, c101 ≤ mc ∧ s102 ≤ ms ∧ (fs_isc h x1 0 ∧ (w_SH_insert c101 s102 E h x1 x2 (fs_ki (fun x106 h103 => fs_sl h103 x3 (E.1.2 1) 0 (Int32.toInt64 x106) (fun h107 => Post (.inl (some (.int 0))) h107)) (fun C_ h104 => (C_ = "java/lang/IndexOutOfBoundsException" ∧ Post (.inl (some (.int 1))) h104)))))
set_option maxHeartbeats 4000000 in
set_option maxRecDepth 100000 in
theorem kw_LW_insert {l : Launch} {s00 : State} {E : fs_E} (hE : fs_SE l s00 E) {mc ms : Nat} {h : fs_Hp} {x1 : Nat} {x2 : Int32} {x3 : Nat} {Post : fs_Ps} (hq : w_LW_insert mc ms E h x1 x2 x3 Post) : fs_Ct l s00 E.1 y_LW_insert (.codeWith y_LW_insert b_LW_insert 4 (some .int) [(0, 9, 12, 21)]) { frames := 45, cells := mc, slots := ms, locals := 675 } [.ref x1, .int x2, .ref x3] h Post := by
  refine fs_Ct.ofRH hE.1 (by decide) ?_
  intro p e R s m below meth c hRf hRl hRc hRs B htab hP
  skip
  obtain ⟨hx, hb, hr, hml, hown, hts, hlocks, hname, hK, hw, htr⟩ := id B
  have hown : s.vm.findClass "FormulaSheetLaw" = some m.cls := hown
  have hS := hw.S
  have hl := lv_entry ([.ref x1, .int x2, .ref x3]) (n := 4) (Nat.le_of_ble_eq_true rfl)
  rw [lg_entry_eq]
  generalize (lg_sl ([.ref x1, .int x2, .ref x3]) ++ List.replicate (4 - (lg_sl ([.ref x1, .int x2, .ref x3])).length) Slot.unset).toArray = ls at hl ⊢
  have hl : lv_has ls 4 [(0, .ref x1), (1, .int x2), (2, .ref x3)] := hl
  unfold w_LW_insert at hq
  refine lv_aload_n hx hb d_LW_insert_0 rfl (lv_at hl 2 rfl) ?_
  refine lv_iconst (v := 0) hx hb d_LW_insert_1 (by decide) ?_
  refine lv_aload_n hx hb d_LW_insert_2 rfl (lv_at hl 0 rfl) ?_
  refine lv_iload_n hx hb d_LW_insert_3 rfl (lv_at hl 1 rfl) ?_
  obtain ⟨c101, s102, hc_, hs_, hq⟩ := hq
  obtain ⟨hi_, hq⟩ := hq
  obtain ⟨fs_, he_⟩ := fs_isc_some hi_
  refine fs_cV B hl.1 hP hS (kw_SH_insert hE hq) (fs_tb_at 970 tw_970 rfl) he_ rfl (fs_tb_at 971 tw_971 rfl) (fs_tb_at 972 tw_972 rfl) (fs_tb_at 88 tw_88 rfl) (fs_tb_at 973 tw_973 rfl) (by decide) (show (parseMethodDescriptor y_SH_insert.desc).map (fun d => d.parameters.length) = some 1 by decide +kernel) rfl d_LW_insert_4 (fs_rm (k := 2) (by omega) (by omega) (by omega) (by omega) rfl) (fun v_ h103 H locs hq hP hS => ?_) (fun C_ a105 h104 H locs hq hP hS hX => ?_)
  · refine fs_cs (k := (0 + c101)) (n := (0 + s102)) rfl rfl ?_
    replace hq := fs_ki_some hq
    obtain ⟨x106, rfl, hq⟩ := hq
    refine W.eq (g2 := F0 m 7 ls (.int x106 :: .int 0 :: .ref x3 :: [])) rfl ?_
    refine lv_i2l hx hb d_LW_insert_7 rfl ?_
    obtain ⟨n_, f_, h107, e_, hi_, eh_, hq⟩ := fs_sl_some hq
    refine fs_last hx hb hK hP hS 1 e_ rfl hi_ d_LW_insert_8 (fun H locs hP hS => ?_)
    rw [← eh_] at hP
    refine lv_goto (tgt := 15) hx hb d_LW_insert_9 (by decide) ?_
    refine lv_iconst (v := 0) hx hb d_LW_insert_15 (by decide) ?_
    exact fs_iret hx hb hr hlocks hw hP hS (vp_nar_int _) (by omega) (by omega) hq d_LW_insert_16
  · obtain ⟨rfl, hq⟩ := hq
    refine fs_hnd (own := "FormulaSheetLaw") (pc' := 12) hown htab ⟨rfl, by decide, _, hts _ (fs_tb_at 583 tw_583 rfl), Or.inl ⟨hts _ (fs_tb_at 596 tw_596 rfl), rfl⟩⟩ hX ?_
    refine fs_cs (k := (0 + c101)) (n := (0 + s102)) rfl rfl ?_
    refine lv_astore_n (lv' := [(3, .ref a105), (0, .ref x1), (1, .int x2), (2, .ref x3)]) hx hb d_LW_insert_12 rfl hl (by decide) rfl (fun ls hl => ?_)
    refine lv_iconst (v := 1) hx hb d_LW_insert_13 (by decide) ?_
    exact fs_iret hx hb hr hlocks hw hP hS (vp_nar_int _) (by omega) (by omega) hq d_LW_insert_14
def w_LW_delete (mc ms : Nat) (E : fs_E) (h : fs_Hp) (x1 : Nat) (x2 : Int32) (x3 : Nat) (Post : fs_Ps) : Prop := ∃ c101 s102 : Nat, c101 ≤ mc ∧ s102 ≤ ms ∧ (fs_isc h x1 0 ∧ (w_SH_delete c101 s102 E h x1 x2 (fs_ki (fun x106 h103 => fs_sl h103 x3 (E.1.2 1) 0 (Int32.toInt64 x106) (fun h107 => Post (.inl (some (.int 0))) h107)) (fun C_ h104 => (C_ = "java/lang/IndexOutOfBoundsException" ∧ Post (.inl (some (.int 1))) h104)))))
set_option maxHeartbeats 4000000 in
set_option maxRecDepth 100000 in
theorem kw_LW_delete {l : Launch} {s00 : State} {E : fs_E} (hE : fs_SE l s00 E) {mc ms : Nat} {h : fs_Hp} {x1 : Nat} {x2 : Int32} {x3 : Nat} {Post : fs_Ps} (hq : w_LW_delete mc ms E h x1 x2 x3 Post) : fs_Ct l s00 E.1 y_LW_delete (.codeWith y_LW_delete b_LW_delete 4 (some .int) [(0, 9, 12, 21)]) { frames := 45, cells := mc, slots := ms, locals := 675 } [.ref x1, .int x2, .ref x3] h Post := by
  refine fs_Ct.ofRH hE.1 (by decide) ?_
  intro p e R s m below meth c hRf hRl hRc hRs B htab hP
  skip
  obtain ⟨hx, hb, hr, hml, hown, hts, hlocks, hname, hK, hw, htr⟩ := id B
  have hown : s.vm.findClass "FormulaSheetLaw" = some m.cls := hown
  have hS := hw.S
  have hl := lv_entry ([.ref x1, .int x2, .ref x3]) (n := 4) (Nat.le_of_ble_eq_true rfl)
  rw [lg_entry_eq]
  generalize (lg_sl ([.ref x1, .int x2, .ref x3]) ++ List.replicate (4 - (lg_sl ([.ref x1, .int x2, .ref x3])).length) Slot.unset).toArray = ls at hl ⊢
  have hl : lv_has ls 4 [(0, .ref x1), (1, .int x2), (2, .ref x3)] := hl
  unfold w_LW_delete at hq
  refine lv_aload_n hx hb d_LW_delete_0 rfl (lv_at hl 2 rfl) ?_
  refine lv_iconst (v := 0) hx hb d_LW_delete_1 (by decide) ?_
  refine lv_aload_n hx hb d_LW_delete_2 rfl (lv_at hl 0 rfl) ?_
  refine lv_iload_n hx hb d_LW_delete_3 rfl (lv_at hl 1 rfl) ?_
  obtain ⟨c101, s102, hc_, hs_, hq⟩ := hq
  obtain ⟨hi_, hq⟩ := hq
  obtain ⟨fs_, he_⟩ := fs_isc_some hi_
  refine fs_cV B hl.1 hP hS (kw_SH_delete hE hq) (fs_tb_at 1011 tw_1011 rfl) he_ rfl (fs_tb_at 1012 tw_1012 rfl) (fs_tb_at 1013 tw_1013 rfl) (fs_tb_at 88 tw_88 rfl) (fs_tb_at 1014 tw_1014 rfl) (by decide) (show (parseMethodDescriptor y_SH_delete.desc).map (fun d => d.parameters.length) = some 1 by decide +kernel) rfl d_LW_delete_4 (fs_rm (k := 2) (by omega) (by omega) (by omega) (by omega) rfl) (fun v_ h103 H locs hq hP hS => ?_) (fun C_ a105 h104 H locs hq hP hS hX => ?_)
  · refine fs_cs (k := (0 + c101)) (n := (0 + s102)) rfl rfl ?_
    replace hq := fs_ki_some hq
    obtain ⟨x106, rfl, hq⟩ := hq
    refine W.eq (g2 := F0 m 7 ls (.int x106 :: .int 0 :: .ref x3 :: [])) rfl ?_
    refine lv_i2l hx hb d_LW_delete_7 rfl ?_
    obtain ⟨n_, f_, h107, e_, hi_, eh_, hq⟩ := fs_sl_some hq
    refine fs_last hx hb hK hP hS 1 e_ rfl hi_ d_LW_delete_8 (fun H locs hP hS => ?_)
    rw [← eh_] at hP
    refine lv_goto (tgt := 15) hx hb d_LW_delete_9 (by decide) ?_
    refine lv_iconst (v := 0) hx hb d_LW_delete_15 (by decide) ?_
    exact fs_iret hx hb hr hlocks hw hP hS (vp_nar_int _) (by omega) (by omega) hq d_LW_delete_16
  · obtain ⟨rfl, hq⟩ := hq
    refine fs_hnd (own := "FormulaSheetLaw") (pc' := 12) hown htab ⟨rfl, by decide, _, hts _ (fs_tb_at 583 tw_583 rfl), Or.inl ⟨hts _ (fs_tb_at 596 tw_596 rfl), rfl⟩⟩ hX ?_
    refine fs_cs (k := (0 + c101)) (n := (0 + s102)) rfl rfl ?_
    refine lv_astore_n (lv' := [(3, .ref a105), (0, .ref x1), (1, .int x2), (2, .ref x3)]) hx hb d_LW_delete_12 rfl hl (by decide) rfl (fun ls hl => ?_)
    refine lv_iconst (v := 1) hx hb d_LW_delete_13 (by decide) ?_
    exact fs_iret hx hb hr hlocks hw hP hS (vp_nar_int _) (by omega) (by omega) hq d_LW_delete_14
def w_LW_value (mc ms : Nat) (E : fs_E) (h : fs_Hp) (x1 : Nat) (x2 : Int32) (x3 : Int32) (x4 : Nat) (Post : fs_Ps) : Prop := ∃ c101 s102 : Nat, c101 ≤ mc ∧ s102 ≤ ms ∧ (fs_isc h x1 0 ∧ (w_SH_value c101 s102 E h x1 x2 x3 (fs_kd (fun x106 h103 => fs_sd h103 x4 (E.1.2 2) 0 x106 (fun h107 => Post (.inl (some (.int 0))) h107)) (fun C_ h104 => (C_ = "java/lang/IndexOutOfBoundsException" ∧ Post (.inl (some (.int 1))) h104) ∨ (C_ = "java/util/NoSuchElementException" ∧ Post (.inl (some (.int 2))) h104) ∨ (C_ = "java/lang/IllegalStateException" ∧ Post (.inl (some (.int 3))) h104) ∨ (C_ = "java/lang/ArithmeticException" ∧ Post (.inl (some (.int 4))) h104)))))
set_option maxHeartbeats 4000000 in
set_option maxRecDepth 100000 in
theorem kw_LW_value {l : Launch} {s00 : State} {E : fs_E} (hE : fs_SE l s00 E) {mc ms : Nat} {h : fs_Hp} {x1 : Nat} {x2 : Int32} {x3 : Int32} {x4 : Nat} {Post : fs_Ps} (hq : w_LW_value mc ms E h x1 x2 x3 x4 Post) : fs_Ct l s00 E.1 y_LW_value (.codeWith y_LW_value b_LW_value 5 (some .int) [(0, 9, 12, 21), (0, 9, 16, 31), (0, 9, 20, 15), (0, 9, 24, 47)]) { frames := 130, cells := mc, slots := ms, locals := 1953 } [.ref x1, .int x2, .int x3, .ref x4] h Post := by
  refine fs_Ct.ofRH hE.1 (by decide) ?_
  intro p e R s m below meth c hRf hRl hRc hRs B htab hP
  skip
  obtain ⟨hx, hb, hr, hml, hown, hts, hlocks, hname, hK, hw, htr⟩ := id B
  have hown : s.vm.findClass "FormulaSheetLaw" = some m.cls := hown
  have hS := hw.S
  have hl := lv_entry ([.ref x1, .int x2, .int x3, .ref x4]) (n := 5) (Nat.le_of_ble_eq_true rfl)
  rw [lg_entry_eq]
  generalize (lg_sl ([.ref x1, .int x2, .int x3, .ref x4]) ++ List.replicate (5 - (lg_sl ([.ref x1, .int x2, .int x3, .ref x4])).length) Slot.unset).toArray = ls at hl ⊢
  have hl : lv_has ls 5 [(0, .ref x1), (1, .int x2), (2, .int x3), (3, .ref x4)] := hl
  unfold w_LW_value at hq
  refine lv_aload_n hx hb d_LW_value_0 rfl (lv_at hl 3 rfl) ?_
  refine lv_iconst (v := 0) hx hb d_LW_value_1 (by decide) ?_
  refine lv_aload_n hx hb d_LW_value_2 rfl (lv_at hl 0 rfl) ?_
  refine lv_iload_n hx hb d_LW_value_3 rfl (lv_at hl 1 rfl) ?_
  refine lv_iload_n hx hb d_LW_value_4 rfl (lv_at hl 2 rfl) ?_
  obtain ⟨c101, s102, hc_, hs_, hq⟩ := hq
  obtain ⟨hi_, hq⟩ := hq
  obtain ⟨fs_, he_⟩ := fs_isc_some hi_
  refine fs_cV B hl.1 hP hS (kw_SH_value hE hq) (fs_tb_at 1040 tw_1040 rfl) he_ rfl (fs_tb_at 1041 tw_1041 rfl) (fs_tb_at 1042 tw_1042 rfl) (fs_tb_at 88 tw_88 rfl) (fs_tb_at 1043 tw_1043 rfl) (by decide) (show (parseMethodDescriptor y_SH_value.desc).map (fun d => d.parameters.length) = some 2 by decide +kernel) rfl d_LW_value_5 (fs_rm (k := 2) (by omega) (by omega) (by omega) (by omega) rfl) (fun v_ h103 H locs hq hP hS => ?_) (fun C_ a105 h104 H locs hq hP hS hX => ?_)
  · refine fs_cs (k := (0 + c101)) (n := (0 + s102)) rfl rfl ?_
    replace hq := fs_kd_some hq
    obtain ⟨x106, rfl, hq⟩ := hq
    refine W.eq (g2 := F0 m 8 ls (.double x106 :: .int 0 :: .ref x4 :: [])) rfl ?_
    obtain ⟨n_, f_, h107, e_, hi_, eh_, hq⟩ := fs_sd_some hq
    refine fs_dast hx hb hK hP hS 2 e_ rfl hi_ d_LW_value_8 (fun H locs hP hS => ?_)
    rw [← eh_] at hP
    refine lv_goto (tgt := 28) hx hb d_LW_value_9 (by decide) ?_
    refine lv_iconst (v := 0) hx hb d_LW_value_28 (by decide) ?_
    exact fs_iret hx hb hr hlocks hw hP hS (vp_nar_int _) (by omega) (by omega) hq d_LW_value_29
  · rcases hq with ⟨rfl, hq⟩ | ⟨rfl, hq⟩ | ⟨rfl, hq⟩ | ⟨rfl, hq⟩
    · refine fs_hnd (own := "FormulaSheetLaw") (pc' := 12) hown htab ⟨rfl, by decide, _, hts _ (fs_tb_at 583 tw_583 rfl), Or.inl ⟨hts _ (fs_tb_at 596 tw_596 rfl), rfl⟩⟩ hX ?_
      refine fs_cs (k := (0 + c101)) (n := (0 + s102)) rfl rfl ?_
      refine lv_astore (lv' := [(4, .ref a105), (0, .ref x1), (1, .int x2), (2, .int x3), (3, .ref x4)]) hx hb d_LW_value_12 hl (by decide) rfl (fun ls hl => ?_)
      refine lv_iconst (v := 1) hx hb d_LW_value_14 (by decide) ?_
      exact fs_iret hx hb hr hlocks hw hP hS (vp_nar_int _) (by omega) (by omega) hq d_LW_value_15
    · refine fs_hnd (own := "FormulaSheetLaw") (pc' := 16) hown htab ⟨rfl, by decide, _, hts _ (fs_tb_at 583 tw_583 rfl), Or.inr ⟨fs_nc hE hw na_345, ⟨rfl, by decide, _, hts _ (fs_tb_at 883 tw_883 rfl), Or.inl ⟨hts _ (fs_tb_at 894 tw_894 rfl), rfl⟩⟩⟩⟩ hX ?_
      refine fs_cs (k := (0 + c101)) (n := (0 + s102)) rfl rfl ?_
      refine lv_astore (lv' := [(4, .ref a105), (0, .ref x1), (1, .int x2), (2, .int x3), (3, .ref x4)]) hx hb d_LW_value_16 hl (by decide) rfl (fun ls hl => ?_)
      refine lv_iconst (v := 2) hx hb d_LW_value_18 (by decide) ?_
      exact fs_iret hx hb hr hlocks hw hP hS (vp_nar_int _) (by omega) (by omega) hq d_LW_value_19
    · refine fs_hnd (own := "FormulaSheetLaw") (pc' := 20) hown htab ⟨rfl, by decide, _, hts _ (fs_tb_at 583 tw_583 rfl), Or.inr ⟨fs_nc hE hw na_337, ⟨rfl, by decide, _, hts _ (fs_tb_at 883 tw_883 rfl), Or.inr ⟨fs_nc hE hw na_356, ⟨rfl, by decide, _, hts _ (fs_tb_at 487 tw_487 rfl), Or.inl ⟨hts _ (fs_tb_at 563 tw_563 rfl), rfl⟩⟩⟩⟩⟩⟩ hX ?_
      refine fs_cs (k := (0 + c101)) (n := (0 + s102)) rfl rfl ?_
      refine lv_astore (lv' := [(4, .ref a105), (0, .ref x1), (1, .int x2), (2, .int x3), (3, .ref x4)]) hx hb d_LW_value_20 hl (by decide) rfl (fun ls hl => ?_)
      refine lv_iconst (v := 3) hx hb d_LW_value_22 (by decide) ?_
      exact fs_iret hx hb hr hlocks hw hP hS (vp_nar_int _) (by omega) (by omega) hq d_LW_value_23
    · refine fs_hnd (own := "FormulaSheetLaw") (pc' := 24) hown htab ⟨rfl, by decide, _, hts _ (fs_tb_at 583 tw_583 rfl), Or.inr ⟨fs_nc hE hw na_346, ⟨rfl, by decide, _, hts _ (fs_tb_at 883 tw_883 rfl), Or.inr ⟨fs_nc hE hw na_365, ⟨rfl, by decide, _, hts _ (fs_tb_at 487 tw_487 rfl), Or.inr ⟨fs_nc hE hw na_325, ⟨rfl, by decide, _, hts _ (fs_tb_at 1039 tw_1039 rfl), Or.inl ⟨hts _ (fs_tb_at 1048 tw_1048 rfl), rfl⟩⟩⟩⟩⟩⟩⟩⟩ hX ?_
      refine fs_cs (k := (0 + c101)) (n := (0 + s102)) rfl rfl ?_
      refine lv_astore (lv' := [(4, .ref a105), (0, .ref x1), (1, .int x2), (2, .int x3), (3, .ref x4)]) hx hb d_LW_value_24 hl (by decide) rfl (fun ls hl => ?_)
      refine lv_iconst (v := 4) hx hb d_LW_value_26 (by decide) ?_
      exact fs_iret hx hb hr hlocks hw hP hS (vp_nar_int _) (by omega) (by omega) hq d_LW_value_27
def w_LW_kind (mc ms : Nat) (E : fs_E) (h : fs_Hp) (x1 : Nat) (x2 : Int32) (x3 : Int32) (x4 : Nat) (Post : fs_Ps) : Prop := ∃ c101 s102 : Nat, c101 ≤ mc ∧ s102 ≤ ms ∧ (fs_isc h x1 0 ∧ (w_SH_kind c101 s102 E h x1 x2 x3 (fs_ki (fun x106 h103 => fs_sl h103 x4 (E.1.2 1) 0 (Int32.toInt64 x106) (fun h107 => Post (.inl (some (.int 0))) h107)) (fun C_ h104 => (C_ = "java/lang/IndexOutOfBoundsException" ∧ Post (.inl (some (.int 1))) h104)))))
set_option maxHeartbeats 4000000 in
set_option maxRecDepth 100000 in
theorem kw_LW_kind {l : Launch} {s00 : State} {E : fs_E} (hE : fs_SE l s00 E) {mc ms : Nat} {h : fs_Hp} {x1 : Nat} {x2 : Int32} {x3 : Int32} {x4 : Nat} {Post : fs_Ps} (hq : w_LW_kind mc ms E h x1 x2 x3 x4 Post) : fs_Ct l s00 E.1 y_LW_kind (.codeWith y_LW_kind b_LW_kind 5 (some .int) [(0, 10, 13, 21)]) { frames := 130, cells := mc, slots := ms, locals := 1953 } [.ref x1, .int x2, .int x3, .ref x4] h Post := by
  refine fs_Ct.ofRH hE.1 (by decide) ?_
  intro p e R s m below meth c hRf hRl hRc hRs B htab hP
  skip
  obtain ⟨hx, hb, hr, hml, hown, hts, hlocks, hname, hK, hw, htr⟩ := id B
  have hown : s.vm.findClass "FormulaSheetLaw" = some m.cls := hown
  have hS := hw.S
  have hl := lv_entry ([.ref x1, .int x2, .int x3, .ref x4]) (n := 5) (Nat.le_of_ble_eq_true rfl)
  rw [lg_entry_eq]
  generalize (lg_sl ([.ref x1, .int x2, .int x3, .ref x4]) ++ List.replicate (5 - (lg_sl ([.ref x1, .int x2, .int x3, .ref x4])).length) Slot.unset).toArray = ls at hl ⊢
  have hl : lv_has ls 5 [(0, .ref x1), (1, .int x2), (2, .int x3), (3, .ref x4)] := hl
  unfold w_LW_kind at hq
  refine lv_aload_n hx hb d_LW_kind_0 rfl (lv_at hl 3 rfl) ?_
  refine lv_iconst (v := 0) hx hb d_LW_kind_1 (by decide) ?_
  refine lv_aload_n hx hb d_LW_kind_2 rfl (lv_at hl 0 rfl) ?_
  refine lv_iload_n hx hb d_LW_kind_3 rfl (lv_at hl 1 rfl) ?_
  refine lv_iload_n hx hb d_LW_kind_4 rfl (lv_at hl 2 rfl) ?_
  obtain ⟨c101, s102, hc_, hs_, hq⟩ := hq
  obtain ⟨hi_, hq⟩ := hq
  obtain ⟨fs_, he_⟩ := fs_isc_some hi_
  refine fs_cV B hl.1 hP hS (kw_SH_kind hE hq) (fs_tb_at 1064 tw_1064 rfl) he_ rfl (fs_tb_at 1065 tw_1065 rfl) (fs_tb_at 1066 tw_1066 rfl) (fs_tb_at 88 tw_88 rfl) (fs_tb_at 1067 tw_1067 rfl) (by decide) (show (parseMethodDescriptor y_SH_kind.desc).map (fun d => d.parameters.length) = some 2 by decide +kernel) rfl d_LW_kind_5 (fs_rm (k := 2) (by omega) (by omega) (by omega) (by omega) rfl) (fun v_ h103 H locs hq hP hS => ?_) (fun C_ a105 h104 H locs hq hP hS hX => ?_)
  · refine fs_cs (k := (0 + c101)) (n := (0 + s102)) rfl rfl ?_
    replace hq := fs_ki_some hq
    obtain ⟨x106, rfl, hq⟩ := hq
    refine W.eq (g2 := F0 m 8 ls (.int x106 :: .int 0 :: .ref x4 :: [])) rfl ?_
    refine lv_i2l hx hb d_LW_kind_8 rfl ?_
    obtain ⟨n_, f_, h107, e_, hi_, eh_, hq⟩ := fs_sl_some hq
    refine fs_last hx hb hK hP hS 1 e_ rfl hi_ d_LW_kind_9 (fun H locs hP hS => ?_)
    rw [← eh_] at hP
    refine lv_goto (tgt := 17) hx hb d_LW_kind_10 (by decide) ?_
    refine lv_iconst (v := 0) hx hb d_LW_kind_17 (by decide) ?_
    exact fs_iret hx hb hr hlocks hw hP hS (vp_nar_int _) (by omega) (by omega) hq d_LW_kind_18
  · obtain ⟨rfl, hq⟩ := hq
    refine fs_hnd (own := "FormulaSheetLaw") (pc' := 13) hown htab ⟨rfl, by decide, _, hts _ (fs_tb_at 583 tw_583 rfl), Or.inl ⟨hts _ (fs_tb_at 596 tw_596 rfl), rfl⟩⟩ hX ?_
    refine fs_cs (k := (0 + c101)) (n := (0 + s102)) rfl rfl ?_
    refine lv_astore (lv' := [(4, .ref a105), (0, .ref x1), (1, .int x2), (2, .int x3), (3, .ref x4)]) hx hb d_LW_kind_13 hl (by decide) rfl (fun ls hl => ?_)
    refine lv_iconst (v := 1) hx hb d_LW_kind_15 (by decide) ?_
    exact fs_iret hx hb hr hlocks hw hP hS (vp_nar_int _) (by omega) (by omega) hq d_LW_kind_16
def w_LW_text (mc ms : Nat) (E : fs_E) (h : fs_Hp) (x1 : Nat) (x2 : Int32) (x3 : Int32) (x4 : Int32) (x5 : Nat) (Post : fs_Ps) : Prop := ∃ c101 s102 : Nat, c101 ≤ mc ∧ s102 ≤ ms ∧ (fs_isc h x1 0 ∧ (w_SH_text c101 s102 E h x1 x2 x3 x4 (fs_ki (fun x106 h103 => fs_sl h103 x5 (E.1.2 1) 0 (Int32.toInt64 x106) (fun h107 => Post (.inl (some (.int 0))) h107)) (fun C_ h104 => (C_ = "java/lang/IndexOutOfBoundsException" ∧ Post (.inl (some (.int 1))) h104) ∨ (C_ = "java/lang/UnsupportedOperationException" ∧ Post (.inl (some (.int 2))) h104)))))
set_option maxHeartbeats 4000000 in
set_option maxRecDepth 100000 in
theorem kw_LW_text {l : Launch} {s00 : State} {E : fs_E} (hE : fs_SE l s00 E) {mc ms : Nat} {h : fs_Hp} {x1 : Nat} {x2 : Int32} {x3 : Int32} {x4 : Int32} {x5 : Nat} {Post : fs_Ps} (hq : w_LW_text mc ms E h x1 x2 x3 x4 x5 Post) : fs_Ct l s00 E.1 y_LW_text (.codeWith y_LW_text b_LW_text 6 (some .int) [(0, 12, 15, 21), (0, 12, 19, 56)]) { frames := 302, cells := mc, slots := ms, locals := 4447 } [.ref x1, .int x2, .int x3, .int x4, .ref x5] h Post := by
  refine fs_Ct.ofRH hE.1 (by decide) ?_
  intro p e R s m below meth c hRf hRl hRc hRs B htab hP
  skip
  obtain ⟨hx, hb, hr, hml, hown, hts, hlocks, hname, hK, hw, htr⟩ := id B
  have hown : s.vm.findClass "FormulaSheetLaw" = some m.cls := hown
  have hS := hw.S
  have hl := lv_entry ([.ref x1, .int x2, .int x3, .int x4, .ref x5]) (n := 6) (Nat.le_of_ble_eq_true rfl)
  rw [lg_entry_eq]
  generalize (lg_sl ([.ref x1, .int x2, .int x3, .int x4, .ref x5]) ++ List.replicate (6 - (lg_sl ([.ref x1, .int x2, .int x3, .int x4, .ref x5])).length) Slot.unset).toArray = ls at hl ⊢
  have hl : lv_has ls 6 [(0, .ref x1), (1, .int x2), (2, .int x3), (3, .int x4), (4, .ref x5)] := hl
  unfold w_LW_text at hq
  refine lv_aload hx hb d_LW_text_0 (lv_at hl 4 rfl) ?_
  refine lv_iconst (v := 0) hx hb d_LW_text_2 (by decide) ?_
  refine lv_aload_n hx hb d_LW_text_3 rfl (lv_at hl 0 rfl) ?_
  refine lv_iload_n hx hb d_LW_text_4 rfl (lv_at hl 1 rfl) ?_
  refine lv_iload_n hx hb d_LW_text_5 rfl (lv_at hl 2 rfl) ?_
  refine lv_iload_n hx hb d_LW_text_6 rfl (lv_at hl 3 rfl) ?_
  obtain ⟨c101, s102, hc_, hs_, hq⟩ := hq
  obtain ⟨hi_, hq⟩ := hq
  obtain ⟨fs_, he_⟩ := fs_isc_some hi_
  refine fs_cV B hl.1 hP hS (kw_SH_text hE hq) (fs_tb_at 1072 tw_1072 rfl) he_ rfl (fs_tb_at 1073 tw_1073 rfl) (fs_tb_at 1074 tw_1074 rfl) (fs_tb_at 88 tw_88 rfl) (fs_tb_at 1075 tw_1075 rfl) (by decide) (show (parseMethodDescriptor y_SH_text.desc).map (fun d => d.parameters.length) = some 3 by decide +kernel) rfl d_LW_text_7 (fs_rm (k := 2) (by omega) (by omega) (by omega) (by omega) rfl) (fun v_ h103 H locs hq hP hS => ?_) (fun C_ a105 h104 H locs hq hP hS hX => ?_)
  · refine fs_cs (k := (0 + c101)) (n := (0 + s102)) rfl rfl ?_
    replace hq := fs_ki_some hq
    obtain ⟨x106, rfl, hq⟩ := hq
    refine W.eq (g2 := F0 m 10 ls (.int x106 :: .int 0 :: .ref x5 :: [])) rfl ?_
    refine lv_i2l hx hb d_LW_text_10 rfl ?_
    obtain ⟨n_, f_, h107, e_, hi_, eh_, hq⟩ := fs_sl_some hq
    refine fs_last hx hb hK hP hS 1 e_ rfl hi_ d_LW_text_11 (fun H locs hP hS => ?_)
    rw [← eh_] at hP
    refine lv_goto (tgt := 23) hx hb d_LW_text_12 (by decide) ?_
    refine lv_iconst (v := 0) hx hb d_LW_text_23 (by decide) ?_
    exact fs_iret hx hb hr hlocks hw hP hS (vp_nar_int _) (by omega) (by omega) hq d_LW_text_24
  · rcases hq with ⟨rfl, hq⟩ | ⟨rfl, hq⟩
    · refine fs_hnd (own := "FormulaSheetLaw") (pc' := 15) hown htab ⟨rfl, by decide, _, hts _ (fs_tb_at 583 tw_583 rfl), Or.inl ⟨hts _ (fs_tb_at 596 tw_596 rfl), rfl⟩⟩ hX ?_
      refine fs_cs (k := (0 + c101)) (n := (0 + s102)) rfl rfl ?_
      refine lv_astore (lv' := [(5, .ref a105), (0, .ref x1), (1, .int x2), (2, .int x3), (3, .int x4), (4, .ref x5)]) hx hb d_LW_text_15 hl (by decide) rfl (fun ls hl => ?_)
      refine lv_iconst (v := 1) hx hb d_LW_text_17 (by decide) ?_
      exact fs_iret hx hb hr hlocks hw hP hS (vp_nar_int _) (by omega) (by omega) hq d_LW_text_18
    · refine fs_hnd (own := "FormulaSheetLaw") (pc' := 19) hown htab ⟨rfl, by decide, _, hts _ (fs_tb_at 583 tw_583 rfl), Or.inr ⟨fs_nc hE hw na_347, ⟨rfl, by decide, _, hts _ (fs_tb_at 1071 tw_1071 rfl), Or.inl ⟨hts _ (fs_tb_at 1078 tw_1078 rfl), rfl⟩⟩⟩⟩ hX ?_
      refine fs_cs (k := (0 + c101)) (n := (0 + s102)) rfl rfl ?_
      refine lv_astore (lv' := [(5, .ref a105), (0, .ref x1), (1, .int x2), (2, .int x3), (3, .int x4), (4, .ref x5)]) hx hb d_LW_text_19 hl (by decide) rfl (fun ls hl => ?_)
      refine lv_iconst (v := 2) hx hb d_LW_text_21 (by decide) ?_
      exact fs_iret hx hb hr hlocks hw hP hS (vp_nar_int _) (by omega) (by omega) hq d_LW_text_22
def w_LW_reaches (mc ms : Nat) (E : fs_E) (h : fs_Hp) (x1 : Nat) (x2 : Int32) (x3 : Int32) (x4 : Int32) (x5 : Int32) (x6 : Nat) (Post : fs_Ps) : Prop := ∃ c101 s102 : Nat, c101 ≤ mc ∧ s102 ≤ ms ∧ (fs_isc h x1 0 ∧ (w_SH_reaches c101 s102 E h x1 x2 x3 x4 x5 (fs_ki (fun x106 h103 => (if x106 = 0 then fs_sl h103 x6 (E.1.2 1) 0 0 (fun h108 => Post (.inl (some (.int 0))) h108) else fs_sl h103 x6 (E.1.2 1) 0 1 (fun h109 => Post (.inl (some (.int 0))) h109))) (fun C_ h104 => (C_ = "java/lang/IndexOutOfBoundsException" ∧ Post (.inl (some (.int 1))) h104)))))
set_option maxHeartbeats 4000000 in
set_option maxRecDepth 100000 in
theorem kw_LW_reaches {l : Launch} {s00 : State} {E : fs_E} (hE : fs_SE l s00 E) {mc ms : Nat} {h : fs_Hp} {x1 : Nat} {x2 : Int32} {x3 : Int32} {x4 : Int32} {x5 : Int32} {x6 : Nat} {Post : fs_Ps} (hq : w_LW_reaches mc ms E h x1 x2 x3 x4 x5 x6 Post) : fs_Ct l s00 E.1 y_LW_reaches (.codeWith y_LW_reaches b_LW_reaches 7 (some .int) [(0, 21, 24, 21)]) { frames := 130, cells := mc, slots := ms, locals := 1956 } [.ref x1, .int x2, .int x3, .int x4, .int x5, .ref x6] h Post := by
  refine fs_Ct.ofRH hE.1 (by decide) ?_
  intro p e R s m below meth c hRf hRl hRc hRs B htab hP
  skip
  obtain ⟨hx, hb, hr, hml, hown, hts, hlocks, hname, hK, hw, htr⟩ := id B
  have hown : s.vm.findClass "FormulaSheetLaw" = some m.cls := hown
  have hS := hw.S
  have hl := lv_entry ([.ref x1, .int x2, .int x3, .int x4, .int x5, .ref x6]) (n := 7) (Nat.le_of_ble_eq_true rfl)
  rw [lg_entry_eq]
  generalize (lg_sl ([.ref x1, .int x2, .int x3, .int x4, .int x5, .ref x6]) ++ List.replicate (7 - (lg_sl ([.ref x1, .int x2, .int x3, .int x4, .int x5, .ref x6])).length) Slot.unset).toArray = ls at hl ⊢
  have hl : lv_has ls 7 [(0, .ref x1), (1, .int x2), (2, .int x3), (3, .int x4), (4, .int x5), (5, .ref x6)] := hl
  unfold w_LW_reaches at hq
  refine lv_aload hx hb d_LW_reaches_0 (lv_at hl 5 rfl) ?_
  refine lv_iconst (v := 0) hx hb d_LW_reaches_2 (by decide) ?_
  refine lv_aload_n hx hb d_LW_reaches_3 rfl (lv_at hl 0 rfl) ?_
  refine lv_iload_n hx hb d_LW_reaches_4 rfl (lv_at hl 1 rfl) ?_
  refine lv_iload_n hx hb d_LW_reaches_5 rfl (lv_at hl 2 rfl) ?_
  refine lv_iload_n hx hb d_LW_reaches_6 rfl (lv_at hl 3 rfl) ?_
  refine lv_iload hx hb d_LW_reaches_7 (lv_at hl 4 rfl) ?_
  obtain ⟨c101, s102, hc_, hs_, hq⟩ := hq
  obtain ⟨hi_, hq⟩ := hq
  obtain ⟨fs_, he_⟩ := fs_isc_some hi_
  refine fs_cV B hl.1 hP hS (kw_SH_reaches hE hq) (fs_tb_at 1445 tw_1445 rfl) he_ rfl (fs_tb_at 1446 tw_1446 rfl) (fs_tb_at 1447 tw_1447 rfl) (fs_tb_at 88 tw_88 rfl) (fs_tb_at 1448 tw_1448 rfl) (by decide) (show (parseMethodDescriptor y_SH_reaches.desc).map (fun d => d.parameters.length) = some 4 by decide +kernel) rfl d_LW_reaches_9 (fs_rm (k := 2) (by omega) (by omega) (by omega) (by omega) rfl) (fun v_ h103 H locs hq hP hS => ?_) (fun C_ a105 h104 H locs hq hP hS hX => ?_)
  · refine fs_cs (k := (0 + c101)) (n := (0 + s102)) rfl rfl ?_
    replace hq := fs_ki_some hq
    obtain ⟨x106, rfl, hq⟩ := hq
    refine W.eq (g2 := F0 m 12 ls (.int x106 :: .int 0 :: .ref x6 :: [])) rfl ?_
    refine lv_if_eq (tgt := 19) hx hb d_LW_reaches_12 (by decide) (fun c_107 => ?_) (fun c_107 => ?_)
    · have hq := fs_wifp c_107 hq
      refine lv_lconst (v := 0) hx hb d_LW_reaches_19 (by decide) ?_
      obtain ⟨n_, f_, h108, e_, hi_, eh_, hq⟩ := fs_sl_some hq
      refine fs_last hx hb hK hP hS 1 e_ rfl hi_ d_LW_reaches_20 (fun H locs hP hS => ?_)
      rw [← eh_] at hP
      refine lv_goto (tgt := 28) hx hb d_LW_reaches_21 (by decide) ?_
      refine lv_iconst (v := 0) hx hb d_LW_reaches_28 (by decide) ?_
      exact fs_iret hx hb hr hlocks hw hP hS (vp_nar_int _) (by omega) (by omega) hq d_LW_reaches_29
    · have hq := fs_wifn c_107 hq
      refine lv_lconst (v := 1) hx hb d_LW_reaches_15 (by decide) ?_
      refine lv_goto (tgt := 20) hx hb d_LW_reaches_16 (by decide) ?_
      obtain ⟨n_, f_, h109, e_, hi_, eh_, hq⟩ := fs_sl_some hq
      refine fs_last hx hb hK hP hS 1 e_ rfl hi_ d_LW_reaches_20 (fun H locs hP hS => ?_)
      rw [← eh_] at hP
      refine lv_goto (tgt := 28) hx hb d_LW_reaches_21 (by decide) ?_
      refine lv_iconst (v := 0) hx hb d_LW_reaches_28 (by decide) ?_
      exact fs_iret hx hb hr hlocks hw hP hS (vp_nar_int _) (by omega) (by omega) hq d_LW_reaches_29
  · obtain ⟨rfl, hq⟩ := hq
    refine fs_hnd (own := "FormulaSheetLaw") (pc' := 24) hown htab ⟨rfl, by decide, _, hts _ (fs_tb_at 583 tw_583 rfl), Or.inl ⟨hts _ (fs_tb_at 596 tw_596 rfl), rfl⟩⟩ hX ?_
    refine fs_cs (k := (0 + c101)) (n := (0 + s102)) rfl rfl ?_
    refine lv_astore (lv' := [(6, .ref a105), (0, .ref x1), (1, .int x2), (2, .int x3), (3, .int x4), (4, .int x5), (5, .ref x6)]) hx hb d_LW_reaches_24 hl (by decide) rfl (fun ls hl => ?_)
    refine lv_iconst (v := 1) hx hb d_LW_reaches_26 (by decide) ?_
    exact fs_iret hx hb hr hlocks hw hP hS (vp_nar_int _) (by omega) (by omega) hq d_LW_reaches_27
