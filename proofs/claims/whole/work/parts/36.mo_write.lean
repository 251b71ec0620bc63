/-! The reference: writing, checked. -/
abbrev b_MO_insertAt : ByteArray := prog_14_method_64_code
def y_MO_insertAt : MethodName := ⟨"FormulaSheetModel", "insertAt", "(II)V"⟩
theorem d_MO_insertAt_0 : decode b_MO_insertAt 0 = .ok (.aload_n 0, 1) := by decide +kernel
theorem d_MO_insertAt_1 : decode b_MO_insertAt 1 = .ok (.getfield 294, 3) := by decide +kernel
theorem d_MO_insertAt_4 : decode b_MO_insertAt 4 = .ok (.istore_n 3, 1) := by decide +kernel
theorem d_MO_insertAt_5 : decode b_MO_insertAt 5 = .ok (.iload_n 3, 1) := by decide +kernel
theorem d_MO_insertAt_6 : decode b_MO_insertAt 6 = .ok (.iload_n 1, 1) := by decide +kernel
theorem d_MO_insertAt_7 : decode b_MO_insertAt 7 = .ok (.if_icmp .le 23, 3) := by decide +kernel
theorem d_MO_insertAt_10 : decode b_MO_insertAt 10 = .ok (.aload_n 0, 1) := by decide +kernel
theorem d_MO_insertAt_11 : decode b_MO_insertAt 11 = .ok (.getfield 87, 3) := by decide +kernel
theorem d_MO_insertAt_14 : decode b_MO_insertAt 14 = .ok (.iload_n 3, 1) := by decide +kernel
theorem d_MO_insertAt_15 : decode b_MO_insertAt 15 = .ok (.aload_n 0, 1) := by decide +kernel
theorem d_MO_insertAt_16 : decode b_MO_insertAt 16 = .ok (.getfield 87, 3) := by decide +kernel
theorem d_MO_insertAt_19 : decode b_MO_insertAt 19 = .ok (.iload_n 3, 1) := by decide +kernel
theorem d_MO_insertAt_20 : decode b_MO_insertAt 20 = .ok (.iconst 1, 1) := by decide +kernel
theorem d_MO_insertAt_21 : decode b_MO_insertAt 21 = .ok (.isub, 1) := by decide +kernel
theorem d_MO_insertAt_22 : decode b_MO_insertAt 22 = .ok (.iaload, 1) := by decide +kernel
theorem d_MO_insertAt_23 : decode b_MO_insertAt 23 = .ok (.iastore, 1) := by decide +kernel
theorem d_MO_insertAt_24 : decode b_MO_insertAt 24 = .ok (.iinc 3 (-1), 3) := by decide +kernel
theorem d_MO_insertAt_27 : decode b_MO_insertAt 27 = .ok (.goto (-22), 3) := by decide +kernel
theorem d_MO_insertAt_30 : decode b_MO_insertAt 30 = .ok (.aload_n 0, 1) := by decide +kernel
theorem d_MO_insertAt_31 : decode b_MO_insertAt 31 = .ok (.getfield 87, 3) := by decide +kernel
theorem d_MO_insertAt_34 : decode b_MO_insertAt 34 = .ok (.iload_n 1, 1) := by decide +kernel
theorem d_MO_insertAt_35 : decode b_MO_insertAt 35 = .ok (.iload_n 2, 1) := by decide +kernel
theorem d_MO_insertAt_36 : decode b_MO_insertAt 36 = .ok (.iastore, 1) := by decide +kernel
theorem d_MO_insertAt_37 : decode b_MO_insertAt 37 = .ok (.aload_n 0, 1) := by decide +kernel
theorem d_MO_insertAt_38 : decode b_MO_insertAt 38 = .ok (.dup, 1) := by decide +kernel
theorem d_MO_insertAt_39 : decode b_MO_insertAt 39 = .ok (.getfield 294, 3) := by decide +kernel
theorem d_MO_insertAt_42 : decode b_MO_insertAt 42 = .ok (.iconst 1, 1) := by decide +kernel
theorem d_MO_insertAt_43 : decode b_MO_insertAt 43 = .ok (.iadd, 1) := by decide +kernel
theorem d_MO_insertAt_44 : decode b_MO_insertAt 44 = .ok (.putfield 294, 3) := by decide +kernel
theorem d_MO_insertAt_47 : decode b_MO_insertAt 47 = .ok (.return_, 1) := by decide +kernel
abbrev b_MO_append : ByteArray := prog_14_method_65_code
def y_MO_append : MethodName := ⟨"FormulaSheetModel", "append", "(I)V"⟩
theorem d_MO_append_0 : decode b_MO_append 0 = .ok (.aload_n 0, 1) := by decide +kernel
theorem d_MO_append_1 : decode b_MO_append 1 = .ok (.aload_n 0, 1) := by decide +kernel
theorem d_MO_append_2 : decode b_MO_append 2 = .ok (.getfield 294, 3) := by decide +kernel
theorem d_MO_append_5 : decode b_MO_append 5 = .ok (.iload_n 1, 1) := by decide +kernel
theorem d_MO_append_6 : decode b_MO_append 6 = .ok (.invokevirtual 297, 3) := by decide +kernel
theorem d_MO_append_9 : decode b_MO_append 9 = .ok (.return_, 1) := by decide +kernel
abbrev b_MO_beginPiece : ByteArray := prog_14_method_66_code
def y_MO_beginPiece : MethodName := ⟨"FormulaSheetModel", "beginPiece", "(I)V"⟩
theorem d_MO_beginPiece_0 : decode b_MO_beginPiece 0 = .ok (.aload_n 0, 1) := by decide +kernel
theorem d_MO_beginPiece_1 : decode b_MO_beginPiece 1 = .ok (.getfield 90, 3) := by decide +kernel
theorem d_MO_beginPiece_4 : decode b_MO_beginPiece 4 = .ok (.aload_n 0, 1) := by decide +kernel
theorem d_MO_beginPiece_5 : decode b_MO_beginPiece 5 = .ok (.getfield 300, 3) := by decide +kernel
theorem d_MO_beginPiece_8 : decode b_MO_beginPiece 8 = .ok (.aload_n 0, 1) := by decide +kernel
theorem d_MO_beginPiece_9 : decode b_MO_beginPiece 9 = .ok (.getfield 294, 3) := by decide +kernel
theorem d_MO_beginPiece_12 : decode b_MO_beginPiece 12 = .ok (.iastore, 1) := by decide +kernel
theorem d_MO_beginPiece_13 : decode b_MO_beginPiece 13 = .ok (.aload_n 0, 1) := by decide +kernel
theorem d_MO_beginPiece_14 : decode b_MO_beginPiece 14 = .ok (.getfield 93, 3) := by decide +kernel
theorem d_MO_beginPiece_17 : decode b_MO_beginPiece 17 = .ok (.aload_n 0, 1) := by decide +kernel
theorem d_MO_beginPiece_18 : decode b_MO_beginPiece 18 = .ok (.getfield 300, 3) := by decide +kernel
theorem d_MO_beginPiece_21 : decode b_MO_beginPiece 21 = .ok (.iload_n 1, 1) := by decide +kernel
theorem d_MO_beginPiece_22 : decode b_MO_beginPiece 22 = .ok (.iastore, 1) := by decide +kernel
theorem d_MO_beginPiece_23 : decode b_MO_beginPiece 23 = .ok (.aload_n 0, 1) := by decide +kernel
theorem d_MO_beginPiece_24 : decode b_MO_beginPiece 24 = .ok (.dup, 1) := by decide +kernel
theorem d_MO_beginPiece_25 : decode b_MO_beginPiece 25 = .ok (.getfield 300, 3) := by decide +kernel
theorem d_MO_beginPiece_28 : decode b_MO_beginPiece 28 = .ok (.iconst 1, 1) := by decide +kernel
theorem d_MO_beginPiece_29 : decode b_MO_beginPiece 29 = .ok (.iadd, 1) := by decide +kernel
theorem d_MO_beginPiece_30 : decode b_MO_beginPiece 30 = .ok (.putfield 300, 3) := by decide +kernel
theorem d_MO_beginPiece_33 : decode b_MO_beginPiece 33 = .ok (.return_, 1) := by decide +kernel
abbrev b_MO_bracketLast : ByteArray := prog_14_method_67_code
def y_MO_bracketLast : MethodName := ⟨"FormulaSheetModel", "bracketLast", "(I)V"⟩
theorem d_MO_bracketLast_0 : decode b_MO_bracketLast 0 = .ok (.aload_n 0, 1) := by decide +kernel
theorem d_MO_bracketLast_1 : decode b_MO_bracketLast 1 = .ok (.getfield 93, 3) := by decide +kernel
theorem d_MO_bracketLast_4 : decode b_MO_bracketLast 4 = .ok (.aload_n 0, 1) := by decide +kernel
theorem d_MO_bracketLast_5 : decode b_MO_bracketLast 5 = .ok (.getfield 300, 3) := by decide +kernel
theorem d_MO_bracketLast_8 : decode b_MO_bracketLast 8 = .ok (.iconst 1, 1) := by decide +kernel
theorem d_MO_bracketLast_9 : decode b_MO_bracketLast 9 = .ok (.isub, 1) := by decide +kernel
theorem d_MO_bracketLast_10 : decode b_MO_bracketLast 10 = .ok (.iaload, 1) := by decide +kernel
theorem d_MO_bracketLast_11 : decode b_MO_bracketLast 11 = .ok (.iload_n 1, 1) := by decide +kernel
theorem d_MO_bracketLast_12 : decode b_MO_bracketLast 12 = .ok (.if_icmp .lt 4, 3) := by decide +kernel
theorem d_MO_bracketLast_15 : decode b_MO_bracketLast 15 = .ok (.return_, 1) := by decide +kernel
theorem d_MO_bracketLast_16 : decode b_MO_bracketLast 16 = .ok (.aload_n 0, 1) := by decide +kernel
theorem d_MO_bracketLast_17 : decode b_MO_bracketLast 17 = .ok (.aload_n 0, 1) := by decide +kernel
theorem d_MO_bracketLast_18 : decode b_MO_bracketLast 18 = .ok (.getfield 90, 3) := by decide +kernel
theorem d_MO_bracketLast_21 : decode b_MO_bracketLast 21 = .ok (.aload_n 0, 1) := by decide +kernel
theorem d_MO_bracketLast_22 : decode b_MO_bracketLast 22 = .ok (.getfield 300, 3) := by decide +kernel
theorem d_MO_bracketLast_25 : decode b_MO_bracketLast 25 = .ok (.iconst 1, 1) := by decide +kernel
theorem d_MO_bracketLast_26 : decode b_MO_bracketLast 26 = .ok (.isub, 1) := by decide +kernel
theorem d_MO_bracketLast_27 : decode b_MO_bracketLast 27 = .ok (.iaload, 1) := by decide +kernel
theorem d_MO_bracketLast_28 : decode b_MO_bracketLast 28 = .ok (.bipush 40, 2) := by decide +kernel
theorem d_MO_bracketLast_30 : decode b_MO_bracketLast 30 = .ok (.invokevirtual 297, 3) := by decide +kernel
theorem d_MO_bracketLast_33 : decode b_MO_bracketLast 33 = .ok (.aload_n 0, 1) := by decide +kernel
theorem d_MO_bracketLast_34 : decode b_MO_bracketLast 34 = .ok (.bipush 41, 2) := by decide +kernel
theorem d_MO_bracketLast_36 : decode b_MO_bracketLast 36 = .ok (.invokevirtual 303, 3) := by decide +kernel
theorem d_MO_bracketLast_39 : decode b_MO_bracketLast 39 = .ok (.return_, 1) := by decide +kernel
abbrev b_MO_writeNumber : ByteArray := prog_14_method_68_code
def y_MO_writeNumber : MethodName := ⟨"FormulaSheetModel", "writeNumber", "(JI)V"⟩
theorem d_MO_writeNumber_0 : decode b_MO_writeNumber 0 = .ok (.lconst 1, 1) := by decide +kernel
theorem d_MO_writeNumber_1 : decode b_MO_writeNumber 1 = .ok (.lstore 4, 2) := by decide +kernel
theorem d_MO_writeNumber_3 : decode b_MO_writeNumber 3 = .ok (.iconst 1, 1) := by decide +kernel
theorem d_MO_writeNumber_4 : decode b_MO_writeNumber 4 = .ok (.istore 6, 2) := by decide +kernel
theorem d_MO_writeNumber_6 : decode b_MO_writeNumber 6 = .ok (.iload 6, 2) := by decide +kernel
theorem d_MO_writeNumber_8 : decode b_MO_writeNumber 8 = .ok (.iload_n 3, 1) := by decide +kernel
theorem d_MO_writeNumber_9 : decode b_MO_writeNumber 9 = .ok (.if_icmp .ge 17, 3) := by decide +kernel
theorem d_MO_writeNumber_12 : decode b_MO_writeNumber 12 = .ok (.lload 4, 2) := by decide +kernel
theorem d_MO_writeNumber_14 : decode b_MO_writeNumber 14 = .ok (.ldc2_w 120, 3) := by decide +kernel
theorem d_MO_writeNumber_17 : decode b_MO_writeNumber 17 = .ok (.lmul, 1) := by decide +kernel
theorem d_MO_writeNumber_18 : decode b_MO_writeNumber 18 = .ok (.lstore 4, 2) := by decide +kernel
theorem d_MO_writeNumber_20 : decode b_MO_writeNumber 20 = .ok (.iinc 6 1, 3) := by decide +kernel
theorem d_MO_writeNumber_23 : decode b_MO_writeNumber 23 = .ok (.goto (-17), 3) := by decide +kernel
theorem d_MO_writeNumber_26 : decode b_MO_writeNumber 26 = .ok (.lload 4, 2) := by decide +kernel
theorem d_MO_writeNumber_28 : decode b_MO_writeNumber 28 = .ok (.ldc2_w 120, 3) := by decide +kernel
theorem d_MO_writeNumber_31 : decode b_MO_writeNumber 31 = .ok (.lmul, 1) := by decide +kernel
theorem d_MO_writeNumber_32 : decode b_MO_writeNumber 32 = .ok (.lload_n 1, 1) := by decide +kernel
theorem d_MO_writeNumber_33 : decode b_MO_writeNumber 33 = .ok (.lcmp, 1) := by decide +kernel
theorem d_MO_writeNumber_34 : decode b_MO_writeNumber 34 = .ok (.ifCond .gt 14, 3) := by decide +kernel
theorem d_MO_writeNumber_37 : decode b_MO_writeNumber 37 = .ok (.lload 4, 2) := by decide +kernel
theorem d_MO_writeNumber_39 : decode b_MO_writeNumber 39 = .ok (.ldc2_w 120, 3) := by decide +kernel
theorem d_MO_writeNumber_42 : decode b_MO_writeNumber 42 = .ok (.lmul, 1) := by decide +kernel
theorem d_MO_writeNumber_43 : decode b_MO_writeNumber 43 = .ok (.lstore 4, 2) := by decide +kernel
theorem d_MO_writeNumber_45 : decode b_MO_writeNumber 45 = .ok (.goto (-19), 3) := by decide +kernel
theorem d_MO_writeNumber_48 : decode b_MO_writeNumber 48 = .ok (.lload 4, 2) := by decide +kernel
theorem d_MO_writeNumber_50 : decode b_MO_writeNumber 50 = .ok (.lconst 0, 1) := by decide +kernel
theorem d_MO_writeNumber_51 : decode b_MO_writeNumber 51 = .ok (.lcmp, 1) := by decide +kernel
theorem d_MO_writeNumber_52 : decode b_MO_writeNumber 52 = .ok (.ifCond .le 30, 3) := by decide +kernel
theorem d_MO_writeNumber_55 : decode b_MO_writeNumber 55 = .ok (.aload_n 0, 1) := by decide +kernel
theorem d_MO_writeNumber_56 : decode b_MO_writeNumber 56 = .ok (.bipush 48, 2) := by decide +kernel
theorem d_MO_writeNumber_58 : decode b_MO_writeNumber 58 = .ok (.lload_n 1, 1) := by decide +kernel
theorem d_MO_writeNumber_59 : decode b_MO_writeNumber 59 = .ok (.lload 4, 2) := by decide +kernel
theorem d_MO_writeNumber_61 : decode b_MO_writeNumber 61 = .ok (.ldiv, 1) := by decide +kernel
theorem d_MO_writeNumber_62 : decode b_MO_writeNumber 62 = .ok (.ldc2_w 120, 3) := by decide +kernel
theorem d_MO_writeNumber_65 : decode b_MO_writeNumber 65 = .ok (.lrem, 1) := by decide +kernel
theorem d_MO_writeNumber_66 : decode b_MO_writeNumber 66 = .ok (.l2i, 1) := by decide +kernel
theorem d_MO_writeNumber_67 : decode b_MO_writeNumber 67 = .ok (.iadd, 1) := by decide +kernel
theorem d_MO_writeNumber_68 : decode b_MO_writeNumber 68 = .ok (.invokevirtual 303, 3) := by decide +kernel
theorem d_MO_writeNumber_71 : decode b_MO_writeNumber 71 = .ok (.lload 4, 2) := by decide +kernel
theorem d_MO_writeNumber_73 : decode b_MO_writeNumber 73 = .ok (.ldc2_w 120, 3) := by decide +kernel
theorem d_MO_writeNumber_76 : decode b_MO_writeNumber 76 = .ok (.ldiv, 1) := by decide +kernel
theorem d_MO_writeNumber_77 : decode b_MO_writeNumber 77 = .ok (.lstore 4, 2) := by decide +kernel
theorem d_MO_writeNumber_79 : decode b_MO_writeNumber 79 = .ok (.goto (-31), 3) := by decide +kernel
theorem d_MO_writeNumber_82 : decode b_MO_writeNumber 82 = .ok (.return_, 1) := by decide +kernel
abbrev b_MO_writeNumeral : ByteArray := prog_14_method_69_code
def y_MO_writeNumeral : MethodName := ⟨"FormulaSheetModel", "writeNumeral", "(I)V"⟩
theorem d_MO_writeNumeral_0 : decode b_MO_writeNumeral 0 = .ok (.lconst 1, 1) := by decide +kernel
theorem d_MO_writeNumeral_1 : decode b_MO_writeNumeral 1 = .ok (.lstore_n 2, 1) := by decide +kernel
theorem d_MO_writeNumeral_2 : decode b_MO_writeNumeral 2 = .ok (.iconst 0, 1) := by decide +kernel
theorem d_MO_writeNumeral_3 : decode b_MO_writeNumeral 3 = .ok (.istore 4, 2) := by decide +kernel
theorem d_MO_writeNumeral_5 : decode b_MO_writeNumeral 5 = .ok (.iload 4, 2) := by decide +kernel
theorem d_MO_writeNumeral_7 : decode b_MO_writeNumeral 7 = .ok (.aload_n 0, 1) := by decide +kernel
theorem d_MO_writeNumeral_8 : decode b_MO_writeNumeral 8 = .ok (.getfield 23, 3) := by decide +kernel
theorem d_MO_writeNumeral_11 : decode b_MO_writeNumeral 11 = .ok (.iload_n 1, 1) := by decide +kernel
theorem d_MO_writeNumeral_12 : decode b_MO_writeNumeral 12 = .ok (.iaload, 1) := by decide +kernel
theorem d_MO_writeNumeral_13 : decode b_MO_writeNumeral 13 = .ok (.if_icmp .ge 15, 3) := by decide +kernel
theorem d_MO_writeNumeral_16 : decode b_MO_writeNumeral 16 = .ok (.lload_n 2, 1) := by decide +kernel
theorem d_MO_writeNumeral_17 : decode b_MO_writeNumeral 17 = .ok (.ldc2_w 120, 3) := by decide +kernel
theorem d_MO_writeNumeral_20 : decode b_MO_writeNumeral 20 = .ok (.lmul, 1) := by decide +kernel
theorem d_MO_writeNumeral_21 : decode b_MO_writeNumeral 21 = .ok (.lstore_n 2, 1) := by decide +kernel
theorem d_MO_writeNumeral_22 : decode b_MO_writeNumeral 22 = .ok (.iinc 4 1, 3) := by decide +kernel
theorem d_MO_writeNumeral_25 : decode b_MO_writeNumeral 25 = .ok (.goto (-20), 3) := by decide +kernel
theorem d_MO_writeNumeral_28 : decode b_MO_writeNumeral 28 = .ok (.aload_n 0, 1) := by decide +kernel
theorem d_MO_writeNumeral_29 : decode b_MO_writeNumeral 29 = .ok (.aload_n 0, 1) := by decide +kernel
theorem d_MO_writeNumeral_30 : decode b_MO_writeNumeral 30 = .ok (.getfield 29, 3) := by decide +kernel
theorem d_MO_writeNumeral_33 : decode b_MO_writeNumeral 33 = .ok (.iload_n 1, 1) := by decide +kernel
theorem d_MO_writeNumeral_34 : decode b_MO_writeNumeral 34 = .ok (.laload, 1) := by decide +kernel
theorem d_MO_writeNumeral_35 : decode b_MO_writeNumeral 35 = .ok (.lload_n 2, 1) := by decide +kernel
theorem d_MO_writeNumeral_36 : decode b_MO_writeNumeral 36 = .ok (.ldiv, 1) := by decide +kernel
theorem d_MO_writeNumeral_37 : decode b_MO_writeNumeral 37 = .ok (.iconst 1, 1) := by decide +kernel
theorem d_MO_writeNumeral_38 : decode b_MO_writeNumeral 38 = .ok (.invokevirtual 306, 3) := by decide +kernel
theorem d_MO_writeNumeral_41 : decode b_MO_writeNumeral 41 = .ok (.aload_n 0, 1) := by decide +kernel
theorem d_MO_writeNumeral_42 : decode b_MO_writeNumeral 42 = .ok (.getfield 23, 3) := by decide +kernel
theorem d_MO_writeNumeral_45 : decode b_MO_writeNumeral 45 = .ok (.iload_n 1, 1) := by decide +kernel
theorem d_MO_writeNumeral_46 : decode b_MO_writeNumeral 46 = .ok (.iaload, 1) := by decide +kernel
theorem d_MO_writeNumeral_47 : decode b_MO_writeNumeral 47 = .ok (.ifCond .ne 4, 3) := by decide +kernel
theorem d_MO_writeNumeral_50 : decode b_MO_writeNumeral 50 = .ok (.return_, 1) := by decide +kernel
theorem d_MO_writeNumeral_51 : decode b_MO_writeNumeral 51 = .ok (.aload_n 0, 1) := by decide +kernel
theorem d_MO_writeNumeral_52 : decode b_MO_writeNumeral 52 = .ok (.bipush 46, 2) := by decide +kernel
theorem d_MO_writeNumeral_54 : decode b_MO_writeNumeral 54 = .ok (.invokevirtual 303, 3) := by decide +kernel
theorem d_MO_writeNumeral_57 : decode b_MO_writeNumeral 57 = .ok (.aload_n 0, 1) := by decide +kernel
theorem d_MO_writeNumeral_58 : decode b_MO_writeNumeral 58 = .ok (.aload_n 0, 1) := by decide +kernel
theorem d_MO_writeNumeral_59 : decode b_MO_writeNumeral 59 = .ok (.getfield 29, 3) := by decide +kernel
theorem d_MO_writeNumeral_62 : decode b_MO_writeNumeral 62 = .ok (.iload_n 1, 1) := by decide +kernel
theorem d_MO_writeNumeral_63 : decode b_MO_writeNumeral 63 = .ok (.laload, 1) := by decide +kernel
theorem d_MO_writeNumeral_64 : decode b_MO_writeNumeral 64 = .ok (.lload_n 2, 1) := by decide +kernel
theorem d_MO_writeNumeral_65 : decode b_MO_writeNumeral 65 = .ok (.lrem, 1) := by decide +kernel
theorem d_MO_writeNumeral_66 : decode b_MO_writeNumeral 66 = .ok (.aload_n 0, 1) := by decide +kernel
theorem d_MO_writeNumeral_67 : decode b_MO_writeNumeral 67 = .ok (.getfield 23, 3) := by decide +kernel
theorem d_MO_writeNumeral_70 : decode b_MO_writeNumeral 70 = .ok (.iload_n 1, 1) := by decide +kernel
theorem d_MO_writeNumeral_71 : decode b_MO_writeNumeral 71 = .ok (.iaload, 1) := by decide +kernel
theorem d_MO_writeNumeral_72 : decode b_MO_writeNumeral 72 = .ok (.invokevirtual 306, 3) := by decide +kernel
theorem d_MO_writeNumeral_75 : decode b_MO_writeNumeral 75 = .ok (.return_, 1) := by decide +kernel
abbrev b_MO_writeReference : ByteArray := prog_14_method_70_code
def y_MO_writeReference : MethodName := ⟨"FormulaSheetModel", "writeReference", "(I)V"⟩
theorem d_MO_writeReference_0 : decode b_MO_writeReference 0 = .ok (.iload_n 1, 1) := by decide +kernel
theorem d_MO_writeReference_1 : decode b_MO_writeReference 1 = .ok (.invokestatic 215, 3) := by decide +kernel
theorem d_MO_writeReference_4 : decode b_MO_writeReference 4 = .ok (.ifCond .eq 10, 3) := by decide +kernel
theorem d_MO_writeReference_7 : decode b_MO_writeReference 7 = .ok (.aload_n 0, 1) := by decide +kernel
theorem d_MO_writeReference_8 : decode b_MO_writeReference 8 = .ok (.bipush 126, 2) := by decide +kernel
theorem d_MO_writeReference_10 : decode b_MO_writeReference 10 = .ok (.invokevirtual 303, 3) := by decide +kernel
theorem d_MO_writeReference_13 : decode b_MO_writeReference 13 = .ok (.return_, 1) := by decide +kernel
theorem d_MO_writeReference_14 : decode b_MO_writeReference 14 = .ok (.iload_n 1, 1) := by decide +kernel
theorem d_MO_writeReference_15 : decode b_MO_writeReference 15 = .ok (.sipush 128, 3) := by decide +kernel
theorem d_MO_writeReference_18 : decode b_MO_writeReference 18 = .ok (.iand, 1) := by decide +kernel
theorem d_MO_writeReference_19 : decode b_MO_writeReference 19 = .ok (.ifCond .eq 9, 3) := by decide +kernel
theorem d_MO_writeReference_22 : decode b_MO_writeReference 22 = .ok (.aload_n 0, 1) := by decide +kernel
theorem d_MO_writeReference_23 : decode b_MO_writeReference 23 = .ok (.bipush 36, 2) := by decide +kernel
theorem d_MO_writeReference_25 : decode b_MO_writeReference 25 = .ok (.invokevirtual 303, 3) := by decide +kernel
theorem d_MO_writeReference_28 : decode b_MO_writeReference 28 = .ok (.aload_n 0, 1) := by decide +kernel
theorem d_MO_writeReference_29 : decode b_MO_writeReference 29 = .ok (.bipush 97, 2) := by decide +kernel
theorem d_MO_writeReference_31 : decode b_MO_writeReference 31 = .ok (.iload_n 1, 1) := by decide +kernel
theorem d_MO_writeReference_32 : decode b_MO_writeReference 32 = .ok (.invokestatic 200, 3) := by decide +kernel
theorem d_MO_writeReference_35 : decode b_MO_writeReference 35 = .ok (.iadd, 1) := by decide +kernel
theorem d_MO_writeReference_36 : decode b_MO_writeReference 36 = .ok (.invokevirtual 303, 3) := by decide +kernel
theorem d_MO_writeReference_39 : decode b_MO_writeReference 39 = .ok (.iload_n 1, 1) := by decide +kernel
theorem d_MO_writeReference_40 : decode b_MO_writeReference 40 = .ok (.sipush 256, 3) := by decide +kernel
theorem d_MO_writeReference_43 : decode b_MO_writeReference 43 = .ok (.iand, 1) := by decide +kernel
theorem d_MO_writeReference_44 : decode b_MO_writeReference 44 = .ok (.ifCond .eq 9, 3) := by decide +kernel
theorem d_MO_writeReference_47 : decode b_MO_writeReference 47 = .ok (.aload_n 0, 1) := by decide +kernel
theorem d_MO_writeReference_48 : decode b_MO_writeReference 48 = .ok (.bipush 36, 2) := by decide +kernel
theorem d_MO_writeReference_50 : decode b_MO_writeReference 50 = .ok (.invokevirtual 303, 3) := by decide +kernel
theorem d_MO_writeReference_53 : decode b_MO_writeReference 53 = .ok (.aload_n 0, 1) := by decide +kernel
theorem d_MO_writeReference_54 : decode b_MO_writeReference 54 = .ok (.iload_n 1, 1) := by decide +kernel
theorem d_MO_writeReference_55 : decode b_MO_writeReference 55 = .ok (.invokestatic 209, 3) := by decide +kernel
theorem d_MO_writeReference_58 : decode b_MO_writeReference 58 = .ok (.iconst 1, 1) := by decide +kernel
theorem d_MO_writeReference_59 : decode b_MO_writeReference 59 = .ok (.iadd, 1) := by decide +kernel
theorem d_MO_writeReference_60 : decode b_MO_writeReference 60 = .ok (.i2l, 1) := by decide +kernel
theorem d_MO_writeReference_61 : decode b_MO_writeReference 61 = .ok (.iconst 1, 1) := by decide +kernel
theorem d_MO_writeReference_62 : decode b_MO_writeReference 62 = .ok (.invokevirtual 306, 3) := by decide +kernel
theorem d_MO_writeReference_65 : decode b_MO_writeReference 65 = .ok (.return_, 1) := by decide +kernel
abbrev b_MO_name : ByteArray := prog_14_method_71_code
def y_MO_name : MethodName := ⟨"FormulaSheetModel", "name", "(II)V"⟩
theorem d_MO_name_0 : decode b_MO_name 0 = .ok (.aload_n 0, 1) := by decide +kernel
theorem d_MO_name_1 : decode b_MO_name 1 = .ok (.iload_n 1, 1) := by decide +kernel
theorem d_MO_name_2 : decode b_MO_name 2 = .ok (.bipush 40, 2) := by decide +kernel
theorem d_MO_name_4 : decode b_MO_name 4 = .ok (.invokevirtual 297, 3) := by decide +kernel
theorem d_MO_name_7 : decode b_MO_name 7 = .ok (.iconst 2, 1) := by decide +kernel
theorem d_MO_name_8 : decode b_MO_name 8 = .ok (.istore_n 3, 1) := by decide +kernel
theorem d_MO_name_9 : decode b_MO_name 9 = .ok (.iload_n 3, 1) := by decide +kernel
theorem d_MO_name_10 : decode b_MO_name 10 = .ok (.ifCond .lt 29, 3) := by decide +kernel
theorem d_MO_name_13 : decode b_MO_name 13 = .ok (.aload_n 0, 1) := by decide +kernel
theorem d_MO_name_14 : decode b_MO_name 14 = .ok (.iload_n 2, 1) := by decide +kernel
theorem d_MO_name_15 : decode b_MO_name 15 = .ok (.iload_n 3, 1) := by decide +kernel
theorem d_MO_name_16 : decode b_MO_name 16 = .ok (.invokevirtual 128, 3) := by decide +kernel
theorem d_MO_name_19 : decode b_MO_name 19 = .ok (.ifCond .eq 14, 3) := by decide +kernel
theorem d_MO_name_22 : decode b_MO_name 22 = .ok (.aload_n 0, 1) := by decide +kernel
theorem d_MO_name_23 : decode b_MO_name 23 = .ok (.iload_n 1, 1) := by decide +kernel
theorem d_MO_name_24 : decode b_MO_name 24 = .ok (.aload_n 0, 1) := by decide +kernel
theorem d_MO_name_25 : decode b_MO_name 25 = .ok (.iload_n 2, 1) := by decide +kernel
theorem d_MO_name_26 : decode b_MO_name 26 = .ok (.iload_n 3, 1) := by decide +kernel
theorem d_MO_name_27 : decode b_MO_name 27 = .ok (.invokevirtual 128, 3) := by decide +kernel
theorem d_MO_name_30 : decode b_MO_name 30 = .ok (.invokevirtual 297, 3) := by decide +kernel
theorem d_MO_name_33 : decode b_MO_name 33 = .ok (.iinc 3 (-1), 3) := by decide +kernel
theorem d_MO_name_36 : decode b_MO_name 36 = .ok (.goto (-27), 3) := by decide +kernel
theorem d_MO_name_39 : decode b_MO_name 39 = .ok (.aload_n 0, 1) := by decide +kernel
theorem d_MO_name_40 : decode b_MO_name 40 = .ok (.iload_n 1, 1) := by decide +kernel
theorem d_MO_name_41 : decode b_MO_name 41 = .ok (.bipush 64, 2) := by decide +kernel
theorem d_MO_name_43 : decode b_MO_name 43 = .ok (.invokevirtual 297, 3) := by decide +kernel
theorem d_MO_name_46 : decode b_MO_name 46 = .ok (.return_, 1) := by decide +kernel
theorem tw_79 : lw_tbl[79]? = some (Cond.selects "FormulaSheetModel" ⟨"FormulaSheetModel", "writeNumber", "(JI)V"⟩ ⟨"FormulaSheetModel", "writeNumber", "(JI)V"⟩) := by decide +kernel
theorem tw_80 : lw_tbl[80]? = some (Cond.selects "FormulaSheetModel" ⟨"FormulaSheetModel", "append", "(I)V"⟩ ⟨"FormulaSheetModel", "append", "(I)V"⟩) := by decide +kernel
theorem tw_81 : lw_tbl[81]? = some (Cond.selects "FormulaSheetModel" ⟨"FormulaSheetModel", "insertAt", "(II)V"⟩ ⟨"FormulaSheetModel", "insertAt", "(II)V"⟩) := by decide +kernel
theorem tw_1487 : lw_tbl[1487]? = some (Jvm.Cond.fieldLink "FormulaSheetModel" (87 : Nat) "FormulaSheetModel" "text" "[I") := by decide +kernel
theorem tw_1488 : lw_tbl[1488]? = some (Jvm.Cond.fieldLink "FormulaSheetModel" (90 : Nat) "FormulaSheetModel" "starts" "[I") := by decide +kernel
theorem tw_1489 : lw_tbl[1489]? = some (Jvm.Cond.fieldLink "FormulaSheetModel" (93 : Nat) "FormulaSheetModel" "levels" "[I") := by decide +kernel
theorem tw_1490 : lw_tbl[1490]? = some (Jvm.Cond.fieldLink "FormulaSheetModel" (294 : Nat) "FormulaSheetModel" "textLength" "I") := by decide +kernel
theorem tw_1491 : lw_tbl[1491]? = some (Jvm.Cond.fieldLink "FormulaSheetModel" (300 : Nat) "FormulaSheetModel" "pieces" "I") := by decide +kernel
theorem tw_1824 : lw_tbl[1824]? = some (Jvm.Cond.methodLink "FormulaSheetModel" (306 : Nat) ({ cls := "FormulaSheetModel", name := "writeNumber", desc := "(JI)V" } : Jvm.MethodName)) := by decide +kernel
theorem tw_1826 : lw_tbl[1826]? = some (Jvm.Cond.instanceMethod ({ cls := "FormulaSheetModel", name := "writeNumber", desc := "(JI)V" } : Jvm.MethodName)) := by decide +kernel
theorem tw_1827 : lw_tbl[1827]? = some (Jvm.Cond.code ({ cls := "FormulaSheetModel", name := "writeNumber", desc := "(JI)V" } : Jvm.MethodName) prog_14_method_68_code (7 : Nat) (Option.none : Option Jvm.ClassFile.FieldType)) := by decide +kernel
theorem tw_1828 : lw_tbl[1828]? = some (Jvm.Cond.methodLink "FormulaSheetModel" (303 : Nat) ({ cls := "FormulaSheetModel", name := "append", desc := "(I)V" } : Jvm.MethodName)) := by decide +kernel
theorem tw_1830 : lw_tbl[1830]? = some (Jvm.Cond.instanceMethod ({ cls := "FormulaSheetModel", name := "append", desc := "(I)V" } : Jvm.MethodName)) := by decide +kernel
theorem tw_1831 : lw_tbl[1831]? = some (Jvm.Cond.code ({ cls := "FormulaSheetModel", name := "append", desc := "(I)V" } : Jvm.MethodName) prog_14_method_65_code (2 : Nat) (Option.none : Option Jvm.ClassFile.FieldType)) := by decide +kernel
theorem tw_1832 : lw_tbl[1832]? = some (Jvm.Cond.methodLink "FormulaSheetModel" (297 : Nat) ({ cls := "FormulaSheetModel", name := "insertAt", desc := "(II)V" } : Jvm.MethodName)) := by decide +kernel
theorem tw_1834 : lw_tbl[1834]? = some (Jvm.Cond.instanceMethod ({ cls := "FormulaSheetModel", name := "insertAt", desc := "(II)V" } : Jvm.MethodName)) := by decide +kernel
theorem tw_1835 : lw_tbl[1835]? = some (Jvm.Cond.code ({ cls := "FormulaSheetModel", name := "insertAt", desc := "(II)V" } : Jvm.MethodName) prog_14_method_64_code (4 : Nat) (Option.none : Option Jvm.ClassFile.FieldType)) := by decide +kernel
noncomputable def q_MO_insertAt_L5 : Nat → Int32 → Int32 → Int32 → mo_S → Option (mo_S)
  | 0, _, _, _, _ => none
  | n + 1, z1, z2, z3, M1 => (if z3 ≤ z1 then some (M1) else fs_okp (vp_in (z3 - 1) 400) (fs_okp (vp_in z3 400) ((q_MO_insertAt_L5 n) z1 z2 (z3 - 1) (mo_i M1 31 (Int32.toNatClampNeg z3) (M1.2.1 31 (Int32.toNatClampNeg (z3 - 1)))))))
noncomputable def q_MO_insertAt (M : mo_S) (x1 : Int32) (x2 : Int32) : Option (mo_S) := Option.bind (q_MO_insertAt_L5 401 x1 x2 (M.1 34) M) (fun R1083 => fs_okp (vp_in x1 400) (some (mo_f (mo_i R1083 31 (Int32.toNatClampNeg x1) x2) 34 ((R1083.1 34) + 1))))
set_option maxHeartbeats 4000000 in
set_option maxRecDepth 100000 in
theorem l_MO_insertAt_5 {p : Program} {l : Launch} {e : Env} {R : Room} {s : State} {m : MethodId} {args : Array Value} {below : List Frame} {meth : Method} {c : Code} {Q : State → Prop} {s00 : State} {G : fs_G} (hSt : fs_St l s00 G) (B : fs_B p l e s m args meth c s00 G y_MO_insertAt b_MO_insertAt 4 none) {h : fs_Hp} {a : Nat} {ad : Nat → Nat} (hR : 0 ≤ R.frames ∧ 0 ≤ R.locals) : ∀ (n : Nat) (z1 : Int32) (z2 : Int32) (z3 : Int32) (M1 : mo_S) (h1 : fs_Hp) (H : Heap) (locs : List Loc) (ls : Array Slot) (r : mo_S), q_MO_insertAt_L5 n z1 z2 z3 M1 = some r → fs_P G.1 fs_cl (fs_A s00) h1 H → va_S (fs_A s00) s00.heap H locs → mo_at G h1 a ad M1 → mo_fr a ad h h1 → lv_has ls 4 [(0, .ref a), (1, .int z1), (2, .int z2), (3, .int z3)] → (∀ (h' : fs_Hp) (H : Heap) (locs : List Loc) (ls : Array Slot), fs_P G.1 fs_cl (fs_A s00) h' H → va_S (fs_A s00) s00.heap H locs → mo_at G h' a ad r → mo_fr a ad h h' → lv_has ls 4 [(0, .ref a), (1, .int z1), (2, .int z2)] → W p l e R s m args below meth c H locs 0 0 Q (F0 m 30 ls [])) → W p l e R s m args below meth c H locs 0 0 Q (F0 m 5 ls []) := by
  obtain ⟨hx, hb, hr, hml, hown, hts, hlocks, hname, hK, hw, htr⟩ := id B
  have hown : s.vm.findClass "FormulaSheetModel" = some m.cls := hown
  intro n
  induction n with
  | zero => intro z1 z2 z3 M1 h1 H locs ls r hq; rw [q_MO_insertAt_L5] at hq; cases hq
  | succ n ih =>
    intro z1 z2 z3 M1 h1 H locs ls r hq hP hS hM hf hl kk
    rw [q_MO_insertAt_L5] at hq
    refine lv_iload_n hx hb d_MO_insertAt_5 rfl (lv_at hl 3 rfl) ?_
    refine lv_iload_n hx hb d_MO_insertAt_6 rfl (lv_at hl 1 rfl) ?_
    refine lv_icmp_le (tgt := 30) hx hb d_MO_insertAt_7 (by decide) (fun c_1081 => ?_) (fun c_1081 => ?_)
    · have hq := fs_ifp c_1081 hq
      cases hq
      exact kk _ _ _ _ hP hS hM hf (lv_sub hl [0, 1, 2] rfl)
    · have hq := fs_ifn c_1081 hq
      refine lv_aload_n hx hb d_MO_insertAt_10 rfl (lv_at hl 0 rfl) ?_
      refine fs_get (v := .ref (ad 31)) hx hb hts hown hK c_MO hP hM.1 31 (by decide) (hts _ (fs_tb_at 1487 tw_1487 rfl)) (fun _ h9 => h9) rfl d_MO_insertAt_11 ?_
      refine lv_iload_n hx hb d_MO_insertAt_14 rfl (lv_at hl 3 rfl) ?_
      refine lv_aload_n hx hb d_MO_insertAt_15 rfl (lv_at hl 0 rfl) ?_
      refine fs_get (v := .ref (ad 31)) hx hb hts hown hK c_MO hP hM.1 31 (by decide) (hts _ (fs_tb_at 1487 tw_1487 rfl)) (fun _ h9 => h9) rfl d_MO_insertAt_16 ?_
      refine lv_iload_n hx hb d_MO_insertAt_19 rfl (lv_at hl 3 rfl) ?_
      refine lv_iconst (v := 1) hx hb d_MO_insertAt_20 (by decide) ?_
      refine lv_isub hx hb d_MO_insertAt_21 ?_
      obtain ⟨hi_, hq⟩ := fs_okp_some hq
      refine fs_iald (f := M1.2.1 31) hx hb hK hP 0 (hM.2.1 31 0 400 rfl) rfl hi_ d_MO_insertAt_22 ?_
      obtain ⟨hi_, hq⟩ := fs_okp_some hq
      refine fs_iast hx hb hK hP hS 0 (hM.2.1 31 0 400 rfl) rfl hi_ d_MO_insertAt_23 (fun H locs hP hS => ?_)
      obtain ⟨h1082, hP, hM, hf⟩ : ∃ x, fs_P G.1 fs_cl (fs_A s00) x H ∧ mo_at G x a ad (mo_i M1 31 (Int32.toNatClampNeg z3) (M1.2.1 31 (Int32.toNatClampNeg (z3 - 1)))) ∧ mo_fr a ad h x := ⟨_, hP, hM.I (j := 31) (k := (Int32.toNatClampNeg z3)) (x := (M1.2.1 31 (Int32.toNatClampNeg (z3 - 1)))) rfl (fun _ => rfl), hf.arr (j := 31) (by decide)⟩
      refine lv_iinc (v := z3 - 1) (lv' := [(3, .int (z3 - 1)), (0, .ref a), (1, .int z1), (2, .int z2)]) hx hb d_MO_insertAt_24 hl (k := 3) rfl (fs_dec1 _) (by decide) rfl (fun ls hl => ?_)
      refine lv_goto (tgt := 5) hx hb d_MO_insertAt_27 (by decide) ?_
      exact ih z1 z2 (z3 - 1) (mo_i M1 31 (Int32.toNatClampNeg z3) (M1.2.1 31 (Int32.toNatClampNeg (z3 - 1)))) _ _ _ _ r hq hP hS hM hf (lv_sub hl [1, 2, 3, 0] rfl) kk
set_option maxHeartbeats 4000000 in
set_option maxRecDepth 100000 in
theorem k_MO_insertAt {l : Launch} {s00 : State} {G : fs_G} (hSt : fs_St l s00 G) {h : fs_Hp} {a : Nat} {ad : Nat → Nat} {M : mo_S} (hM : mo_at G h a ad M) (x1 : Int32) (x2 : Int32) {r : mo_S} (hq : q_MO_insertAt M x1 x2 = some r) : fs_Ct l s00 G y_MO_insertAt (.code y_MO_insertAt b_MO_insertAt 4 none) { frames := 0, cells := 0, slots := 0, locals := 0 } [.ref a, .int x1, .int x2] h (fun o h' => o = .inl none ∧ mo_at G h' a ad r ∧ mo_fr a ad h h') := by
  refine fs_Ct.ofW hSt (by decide) ?_
  intro p e s m below meth c B hout hP
  obtain ⟨hx, hb, hr, hml, hown, hts, hlocks, hname, hK, hw, htr⟩ := id B
  have hown : s.vm.findClass "FormulaSheetModel" = some m.cls := hown
  have hS := hw.S
  have hA : ∀ q : Nat, s00.heap.size ≤ q → fs_A s00 q := fun _ h9 => h9
  generalize hH : s.heap = H at hP hS ⊢
  have hH0 : s.heap.size ≤ H.size := by rw [hH]; exact Nat.le_refl _
  have hl := lv_entry ([.ref a, .int x1, .int x2]) (n := 4) (Nat.le_of_ble_eq_true rfl)
  rw [lg_entry_eq]
  generalize (lg_sl ([.ref a, .int x1, .int x2]) ++ List.replicate (4 - (lg_sl ([.ref a, .int x1, .int x2])).length) Slot.unset).toArray = ls at hl ⊢
  have hl : lv_has ls 4 [(0, .ref a), (1, .int x1), (2, .int x2)] := hl
  have hf : mo_fr a ad h h := mo_fr.rf
  rw [q_MO_insertAt] at hq
  refine lv_aload_n hx hb d_MO_insertAt_0 rfl (lv_at hl 0 rfl) ?_
  refine fs_get (v := .int (M.1 34)) hx hb hts hown hK c_MO hP hM.1 34 (by decide) (hts _ (fs_tb_at 1490 tw_1490 rfl)) (fun _ h9 => h9) rfl d_MO_insertAt_1 ?_
  refine lv_istore_n (lv' := [(3, .int (M.1 34)), (0, .ref a), (1, .int x1), (2, .int x2)]) hx hb d_MO_insertAt_4 rfl hl (by decide) rfl (fun ls hl => ?_)
  obtain ⟨R1083, eR1083, hq⟩ := fs_bind_some hq
  refine l_MO_insertAt_5 hSt B ⟨Nat.le_of_ble_eq_true rfl, Nat.le_of_ble_eq_true rfl⟩ 401 x1 x2 (M.1 34) M _ _ _ _ R1083 eR1083 hP hS hM hf (lv_sub hl [1, 2, 3, 0] rfl) (fun h_ H locs ls hP hS hM hf hl => ?_)
  refine lv_aload_n hx hb d_MO_insertAt_30 rfl (lv_at hl 0 rfl) ?_
  refine fs_get (v := .ref (ad 31)) hx hb hts hown hK c_MO hP hM.1 31 (by decide) (hts _ (fs_tb_at 1487 tw_1487 rfl)) (fun _ h9 => h9) rfl d_MO_insertAt_31 ?_
  refine lv_iload_n hx hb d_MO_insertAt_34 rfl (lv_at hl 1 rfl) ?_
  refine lv_iload_n hx hb d_MO_insertAt_35 rfl (lv_at hl 2 rfl) ?_
  obtain ⟨hi_, hq⟩ := fs_okp_some hq
  refine fs_iast hx hb hK hP hS 0 (hM.2.1 31 0 400 rfl) rfl hi_ d_MO_insertAt_36 (fun H locs hP hS => ?_)
  obtain ⟨h1084, hP, hM, hf⟩ : ∃ x, fs_P G.1 fs_cl (fs_A s00) x H ∧ mo_at G x a ad (mo_i R1083 31 (Int32.toNatClampNeg x1) x2) ∧ mo_fr a ad h x := ⟨_, hP, hM.I (j := 31) (k := (Int32.toNatClampNeg x1)) (x := x2) rfl (fun _ => rfl), hf.arr (j := 31) (by decide)⟩
  refine lv_aload_n hx hb d_MO_insertAt_37 rfl (lv_at hl 0 rfl) ?_
  refine lv_dup hx hb d_MO_insertAt_38 rfl ?_
  refine fs_get (v := .int (R1083.1 34)) hx hb hts hown hK c_MO hP hM.1 34 (by decide) (hts _ (fs_tb_at 1490 tw_1490 rfl)) (fun _ h9 => h9) rfl d_MO_insertAt_39 ?_
  refine lv_iconst (v := 1) hx hb d_MO_insertAt_42 (by decide) ?_
  refine lv_iadd hx hb d_MO_insertAt_43 ?_
  refine fs_put hx hb hts hown hK c_MO hP hS hM.1 34 (by decide) (hts _ (fs_tb_at 1490 tw_1490 rfl)) (fun _ h9 => h9) rfl rfl rfl (Nat.le_of_ble_eq_true rfl) d_MO_insertAt_44 (fun H locs hP hS => ?_)
  obtain ⟨h1085, hP, hM, hf⟩ : ∃ x, fs_P G.1 fs_cl (fs_A s00) x H ∧ mo_at G x a ad (mo_f (mo_i R1083 31 (Int32.toNatClampNeg x1) x2) 34 ((R1083.1 34) + 1)) ∧ mo_fr a ad h x := ⟨_, hP, hM.F (mo_F34 ad (mo_i R1083 31 (Int32.toNatClampNeg x1) x2) ((R1083.1 34) + 1)), hf.self⟩
  cases hq
  exact fs_vret hx hb hr hlocks hw hP hS (by omega) (by omega) (⟨rfl, hM, hf⟩) d_MO_insertAt_47
noncomputable def q_MO_append (M : mo_S) (x1 : Int32) : Option (mo_S) := Option.bind (q_MO_insertAt M (M.1 34) x1) (fun R1087 => some R1087)
set_option maxHeartbeats 4000000 in
set_option maxRecDepth 100000 in
theorem k_MO_append {l : Launch} {s00 : State} {G : fs_G} (hSt : fs_St l s00 G) {h : fs_Hp} {a : Nat} {ad : Nat → Nat} {M : mo_S} (hM : mo_at G h a ad M) (x1 : Int32) {r : mo_S} (hq : q_MO_append M x1 = some r) : fs_Ct l s00 G y_MO_append (.code y_MO_append b_MO_append 2 none) { frames := 1, cells := 0, slots := 0, locals := 15 } [.ref a, .int x1] h (fun o h' => o = .inl none ∧ mo_at G h' a ad r ∧ mo_fr a ad h h') := by
  refine fs_Ct.ofW hSt (by decide) ?_
  intro p e s m below meth c B hout hP
  obtain ⟨hx, hb, hr, hml, hown, hts, hlocks, hname, hK, hw, htr⟩ := id B
  have hown : s.vm.findClass "FormulaSheetModel" = some m.cls := hown
  have hS := hw.S
  have hA : ∀ q : Nat, s00.heap.size ≤ q → fs_A s00 q := fun _ h9 => h9
  generalize hH : s.heap = H at hP hS ⊢
  have hH0 : s.heap.size ≤ H.size := by rw [hH]; exact Nat.le_refl _
  have hl := lv_entry ([.ref a, .int x1]) (n := 2) (Nat.le_of_ble_eq_true rfl)
  rw [lg_entry_eq]
  generalize (lg_sl ([.ref a, .int x1]) ++ List.replicate (2 - (lg_sl ([.ref a, .int x1])).length) Slot.unset).toArray = ls at hl ⊢
  have hl : lv_has ls 2 [(0, .ref a), (1, .int x1)] := hl
  have hf : mo_fr a ad h h := mo_fr.rf
  rw [q_MO_append] at hq
  refine lv_aload_n hx hb d_MO_append_0 rfl (lv_at hl 0 rfl) ?_
  refine lv_aload_n hx hb d_MO_append_1 rfl (lv_at hl 0 rfl) ?_
  refine fs_get (v := .int (M.1 34)) hx hb hts hown hK c_MO hP hM.1 34 (by decide) (hts _ (fs_tb_at 1490 tw_1490 rfl)) (fun _ h9 => h9) rfl d_MO_append_2 ?_
  refine lv_iload_n hx hb d_MO_append_5 rfl (lv_at hl 1 rfl) ?_
  obtain ⟨R1087, eR1087, hq⟩ := fs_bind_some hq
  refine fs_cV B hl.1 hP hS (k_MO_insertAt hSt hM (M.1 34) x1 eR1087) (fs_tb_at 1832 tw_1832 rfl) hM.1 rfl (fs_tb_at 1834 tw_1834 rfl) (fs_tb_at 81 tw_81 rfl) (fs_tb_at 96 tw_96 rfl) (fs_tb_at 1835 tw_1835 rfl) (by decide) (show (parseMethodDescriptor y_MO_insertAt.desc).map (fun d => d.parameters.length) = some 2 by decide +kernel) rfl d_MO_append_6 ⟨Nat.le_of_ble_eq_true rfl, Nat.le_of_ble_eq_true rfl, Nat.le_of_ble_eq_true rfl, Nat.le_of_ble_eq_true rfl⟩ (fun v_ h_ H locs hc_ hP hS => ?_) (fun C_ a_ h_ H locs hc_ => absurd hc_.1 (fun h9 => by cases h9))
  obtain ⟨ev, hM, hf2⟩ := hc_
  cases ev
  have hf := hf.trans hf2
  refine W.widen (k := 0) (n := 0) (Nat.le_of_ble_eq_true rfl) (Nat.le_of_ble_eq_true rfl) ?_
  refine W.eq (g2 := F0 m 9 ls ([])) rfl ?_
  cases hq
  exact fs_vret hx hb hr hlocks hw hP hS (by omega) (by omega) (⟨rfl, hM, hf⟩) d_MO_append_9
noncomputable def q_MO_beginPiece (M : mo_S) (x1 : Int32) : Option (mo_S) := fs_okp (vp_in (M.1 35) 44) (fs_okp (vp_in (M.1 35) 44) (some (mo_f (mo_i (mo_i M 32 (Int32.toNatClampNeg (M.1 35)) (M.1 34)) 33 (Int32.toNatClampNeg (M.1 35)) x1) 35 ((M.1 35) + 1))))
set_option maxHeartbeats 4000000 in
set_option maxRecDepth 100000 in
theorem k_MO_beginPiece {l : Launch} {s00 : State} {G : fs_G} (hSt : fs_St l s00 G) {h : fs_Hp} {a : Nat} {ad : Nat → Nat} {M : mo_S} (hM : mo_at G h a ad M) (x1 : Int32) {r : mo_S} (hq : q_MO_beginPiece M x1 = some r) : fs_Ct l s00 G y_MO_beginPiece (.code y_MO_beginPiece b_MO_beginPiece 2 none) { frames := 0, cells := 0, slots := 0, locals := 0 } [.ref a, .int x1] h (fun o h' => o = .inl none ∧ mo_at G h' a ad r ∧ mo_fr a ad h h') := by
  refine fs_Ct.ofW hSt (by decide) ?_
  intro p e s m below meth c B hout hP
  obtain ⟨hx, hb, hr, hml, hown, hts, hlocks, hname, hK, hw, htr⟩ := id B
  have hown : s.vm.findClass "FormulaSheetModel" = some m.cls := hown
  have hS := hw.S
  have hA : ∀ q : Nat, s00.heap.size ≤ q → fs_A s00 q := fun _ h9 => h9
  generalize hH : s.heap = H at hP hS ⊢
  have hH0 : s.heap.size ≤ H.size := by rw [hH]; exact Nat.le_refl _
  have hl := lv_entry ([.ref a, .int x1]) (n := 2) (Nat.le_of_ble_eq_true rfl)
  rw [lg_entry_eq]
  generalize (lg_sl ([.ref a, .int x1]) ++ List.replicate (2 - (lg_sl ([.ref a, .int x1])).length) Slot.unset).toArray = ls at hl ⊢
  have hl : lv_has ls 2 [(0, .ref a), (1, .int x1)] := hl
  have hf : mo_fr a ad h h := mo_fr.rf
  rw [q_MO_beginPiece] at hq
  refine lv_aload_n hx hb d_MO_beginPiece_0 rfl (lv_at hl 0 rfl) ?_
  refine fs_get (v := .ref (ad 32)) hx hb hts hown hK c_MO hP hM.1 32 (by decide) (hts _ (fs_tb_at 1488 tw_1488 rfl)) (fun _ h9 => h9) rfl d_MO_beginPiece_1 ?_
  refine lv_aload_n hx hb d_MO_beginPiece_4 rfl (lv_at hl 0 rfl) ?_
  refine fs_get (v := .int (M.1 35)) hx hb hts hown hK c_MO hP hM.1 35 (by decide) (hts _ (fs_tb_at 1491 tw_1491 rfl)) (fun _ h9 => h9) rfl d_MO_beginPiece_5 ?_
  refine lv_aload_n hx hb d_MO_beginPiece_8 rfl (lv_at hl 0 rfl) ?_
  refine fs_get (v := .int (M.1 34)) hx hb hts hown hK c_MO hP hM.1 34 (by decide) (hts _ (fs_tb_at 1490 tw_1490 rfl)) (fun _ h9 => h9) rfl d_MO_beginPiece_9 ?_
  obtain ⟨hi_, hq⟩ := fs_okp_some hq
  refine fs_iast hx hb hK hP hS 0 (hM.2.1 32 0 44 rfl) rfl hi_ d_MO_beginPiece_12 (fun H locs hP hS => ?_)
  obtain ⟨h1091, hP, hM, hf⟩ : ∃ x, fs_P G.1 fs_cl (fs_A s00) x H ∧ mo_at G x a ad (mo_i M 32 (Int32.toNatClampNeg (M.1 35)) (M.1 34)) ∧ mo_fr a ad h x := ⟨_, hP, hM.I (j := 32) (k := (Int32.toNatClampNeg (M.1 35))) (x := (M.1 34)) rfl (fun _ => rfl), hf.arr (j := 32) (by decide)⟩
  refine lv_aload_n hx hb d_MO_beginPiece_13 rfl (lv_at hl 0 rfl) ?_
  refine fs_get (v := .ref (ad 33)) hx hb hts hown hK c_MO hP hM.1 33 (by decide) (hts _ (fs_tb_at 1489 tw_1489 rfl)) (fun _ h9 => h9) rfl d_MO_beginPiece_14 ?_
  refine lv_aload_n hx hb d_MO_beginPiece_17 rfl (lv_at hl 0 rfl) ?_
  refine fs_get (v := .int (M.1 35)) hx hb hts hown hK c_MO hP hM.1 35 (by decide) (hts _ (fs_tb_at 1491 tw_1491 rfl)) (fun _ h9 => h9) rfl d_MO_beginPiece_18 ?_
  refine lv_iload_n hx hb d_MO_beginPiece_21 rfl (lv_at hl 1 rfl) ?_
  obtain ⟨hi_, hq⟩ := fs_okp_some hq
  refine fs_iast hx hb hK hP hS 0 (hM.2.1 33 0 44 rfl) rfl hi_ d_MO_beginPiece_22 (fun H locs hP hS => ?_)
  obtain ⟨h1092, hP, hM, hf⟩ : ∃ x, fs_P G.1 fs_cl (fs_A s00) x H ∧ mo_at G x a ad (mo_i (mo_i M 32 (Int32.toNatClampNeg (M.1 35)) (M.1 34)) 33 (Int32.toNatClampNeg (M.1 35)) x1) ∧ mo_fr a ad h x := ⟨_, hP, hM.I (j := 33) (k := (Int32.toNatClampNeg (M.1 35))) (x := x1) rfl (fun _ => rfl), hf.arr (j := 33) (by decide)⟩
  refine lv_aload_n hx hb d_MO_beginPiece_23 rfl (lv_at hl 0 rfl) ?_
  refine lv_dup hx hb d_MO_beginPiece_24 rfl ?_
  refine fs_get (v := .int (M.1 35)) hx hb hts hown hK c_MO hP hM.1 35 (by decide) (hts _ (fs_tb_at 1491 tw_1491 rfl)) (fun _ h9 => h9) rfl d_MO_beginPiece_25 ?_
  refine lv_iconst (v := 1) hx hb d_MO_beginPiece_28 (by decide) ?_
  refine lv_iadd hx hb d_MO_beginPiece_29 ?_
  refine fs_put hx hb hts hown hK c_MO hP hS hM.1 35 (by decide) (hts _ (fs_tb_at 1491 tw_1491 rfl)) (fun _ h9 => h9) rfl rfl rfl (Nat.le_of_ble_eq_true rfl) d_MO_beginPiece_30 (fun H locs hP hS => ?_)
  obtain ⟨h1093, hP, hM, hf⟩ : ∃ x, fs_P G.1 fs_cl (fs_A s00) x H ∧ mo_at G x a ad (mo_f (mo_i (mo_i M 32 (Int32.toNatClampNeg (M.1 35)) (M.1 34)) 33 (Int32.toNatClampNeg (M.1 35)) x1) 35 ((M.1 35) + 1)) ∧ mo_fr a ad h x := ⟨_, hP, hM.F (mo_F35 ad (mo_i (mo_i M 32 (Int32.toNatClampNeg (M.1 35)) (M.1 34)) 33 (Int32.toNatClampNeg (M.1 35)) x1) ((M.1 35) + 1)), hf.self⟩
  cases hq
  exact fs_vret hx hb hr hlocks hw hP hS (by omega) (by omega) (⟨rfl, hM, hf⟩) d_MO_beginPiece_33
noncomputable def q_MO_bracketLast (M : mo_S) (x1 : Int32) : Option (mo_S) := fs_okp (vp_in ((M.1 35) - 1) 44) ((if (M.2.1 33 (Int32.toNatClampNeg ((M.1 35) - 1))) < x1 then fs_okp (vp_in ((M.1 35) - 1) 44) (Option.bind (q_MO_insertAt M (M.2.1 32 (Int32.toNatClampNeg ((M.1 35) - 1))) 40) (fun R1098 => Option.bind (q_MO_append R1098 41) (fun R1099 => some R1099))) else some M))
set_option maxHeartbeats 4000000 in
set_option maxRecDepth 100000 in
theorem k_MO_bracketLast {l : Launch} {s00 : State} {G : fs_G} (hSt : fs_St l s00 G) {h : fs_Hp} {a : Nat} {ad : Nat → Nat} {M : mo_S} (hM : mo_at G h a ad M) (x1 : Int32) {r : mo_S} (hq : q_MO_bracketLast M x1 = some r) : fs_Ct l s00 G y_MO_bracketLast (.code y_MO_bracketLast b_MO_bracketLast 2 none) { frames := 2, cells := 0, slots := 0, locals := 28 } [.ref a, .int x1] h (fun o h' => o = .inl none ∧ mo_at G h' a ad r ∧ mo_fr a ad h h') := by
  refine fs_Ct.ofW hSt (by decide) ?_
  intro p e s m below meth c B hout hP
  obtain ⟨hx, hb, hr, hml, hown, hts, hlocks, hname, hK, hw, htr⟩ := id B
  have hown : s.vm.findClass "FormulaSheetModel" = some m.cls := hown
  have hS := hw.S
  have hA : ∀ q : Nat, s00.heap.size ≤ q → fs_A s00 q := fun _ h9 => h9
  generalize hH : s.heap = H at hP hS ⊢
  have hH0 : s.heap.size ≤ H.size := by rw [hH]; exact Nat.le_refl _
  have hl := lv_entry ([.ref a, .int x1]) (n := 2) (Nat.le_of_ble_eq_true rfl)
  rw [lg_entry_eq]
  generalize (lg_sl ([.ref a, .int x1]) ++ List.replicate (2 - (lg_sl ([.ref a, .int x1])).length) Slot.unset).toArray = ls at hl ⊢
  have hl : lv_has ls 2 [(0, .ref a), (1, .int x1)] := hl
  have hf : mo_fr a ad h h := mo_fr.rf
  rw [q_MO_bracketLast] at hq
  refine lv_aload_n hx hb d_MO_bracketLast_0 rfl (lv_at hl 0 rfl) ?_
  refine fs_get (v := .ref (ad 33)) hx hb hts hown hK c_MO hP hM.1 33 (by decide) (hts _ (fs_tb_at 1489 tw_1489 rfl)) (fun _ h9 => h9) rfl d_MO_bracketLast_1 ?_
  refine lv_aload_n hx hb d_MO_bracketLast_4 rfl (lv_at hl 0 rfl) ?_
  refine fs_get (v := .int (M.1 35)) hx hb hts hown hK c_MO hP hM.1 35 (by decide) (hts _ (fs_tb_at 1491 tw_1491 rfl)) (fun _ h9 => h9) rfl d_MO_bracketLast_5 ?_
  refine lv_iconst (v := 1) hx hb d_MO_bracketLast_8 (by decide) ?_
  refine lv_isub hx hb d_MO_bracketLast_9 ?_
  obtain ⟨hi_, hq⟩ := fs_okp_some hq
  refine fs_iald (f := M.2.1 33) hx hb hK hP 0 (hM.2.1 33 0 44 rfl) rfl hi_ d_MO_bracketLast_10 ?_
  refine lv_iload_n hx hb d_MO_bracketLast_11 rfl (lv_at hl 1 rfl) ?_
  refine lv_icmp_lt (tgt := 16) hx hb d_MO_bracketLast_12 (by decide) (fun c_1097 => ?_) (fun c_1097 => ?_)
  · have hq := fs_ifp c_1097 hq
    refine lv_aload_n hx hb d_MO_bracketLast_16 rfl (lv_at hl 0 rfl) ?_
    refine lv_aload_n hx hb d_MO_bracketLast_17 rfl (lv_at hl 0 rfl) ?_
    refine fs_get (v := .ref (ad 32)) hx hb hts hown hK c_MO hP hM.1 32 (by decide) (hts _ (fs_tb_at 1488 tw_1488 rfl)) (fun _ h9 => h9) rfl d_MO_bracketLast_18 ?_
    refine lv_aload_n hx hb d_MO_bracketLast_21 rfl (lv_at hl 0 rfl) ?_
    refine fs_get (v := .int (M.1 35)) hx hb hts hown hK c_MO hP hM.1 35 (by decide) (hts _ (fs_tb_at 1491 tw_1491 rfl)) (fun _ h9 => h9) rfl d_MO_bracketLast_22 ?_
    refine lv_iconst (v := 1) hx hb d_MO_bracketLast_25 (by decide) ?_
    refine lv_isub hx hb d_MO_bracketLast_26 ?_
    obtain ⟨hi_, hq⟩ := fs_okp_some hq
    refine fs_iald (f := M.2.1 32) hx hb hK hP 0 (hM.2.1 32 0 44 rfl) rfl hi_ d_MO_bracketLast_27 ?_
    refine lv_bipush (v := 40) hx hb d_MO_bracketLast_28 (by decide) ?_
    obtain ⟨R1098, eR1098, hq⟩ := fs_bind_some hq
    refine fs_cV B hl.1 hP hS (k_MO_insertAt hSt hM (M.2.1 32 (Int32.toNatClampNeg ((M.1 35) - 1))) 40 eR1098) (fs_tb_at 1832 tw_1832 rfl) hM.1 rfl (fs_tb_at 1834 tw_1834 rfl) (fs_tb_at 81 tw_81 rfl) (fs_tb_at 96 tw_96 rfl) (fs_tb_at 1835 tw_1835 rfl) (by decide) (show (parseMethodDescriptor y_MO_insertAt.desc).map (fun d => d.parameters.length) = some 2 by decide +kernel) rfl d_MO_bracketLast_30 ⟨Nat.le_of_ble_eq_true rfl, Nat.le_of_ble_eq_true rfl, Nat.le_of_ble_eq_true rfl, Nat.le_of_ble_eq_true rfl⟩ (fun v_ h_ H locs hc_ hP hS => ?_) (fun C_ a_ h_ H locs hc_ => absurd hc_.1 (fun h9 => by cases h9))
    obtain ⟨ev, hM, hf2⟩ := hc_
    cases ev
    have hf := hf.trans hf2
    refine W.widen (k := 0) (n := 0) (Nat.le_of_ble_eq_true rfl) (Nat.le_of_ble_eq_true rfl) ?_
    refine W.eq (g2 := F0 m 33 ls ([])) rfl ?_
    refine lv_aload_n hx hb d_MO_bracketLast_33 rfl (lv_at hl 0 rfl) ?_
    refine lv_bipush (v := 41) hx hb d_MO_bracketLast_34 (by decide) ?_
    obtain ⟨R1099, eR1099, hq⟩ := fs_bind_some hq
    refine fs_cV B hl.1 hP hS (k_MO_append hSt hM 41 eR1099) (fs_tb_at 1828 tw_1828 rfl) hM.1 rfl (fs_tb_at 1830 tw_1830 rfl) (fs_tb_at 80 tw_80 rfl) (fs_tb_at 96 tw_96 rfl) (fs_tb_at 1831 tw_1831 rfl) (by decide) (show (parseMethodDescriptor y_MO_append.desc).map (fun d => d.parameters.length) = some 1 by decide +kernel) rfl d_MO_bracketLast_36 ⟨Nat.le_of_ble_eq_true rfl, Nat.le_of_ble_eq_true rfl, Nat.le_of_ble_eq_true rfl, Nat.le_of_ble_eq_true rfl⟩ (fun v_ h_ H locs hc_ hP hS => ?_) (fun C_ a_ h_ H locs hc_ => absurd hc_.1 (fun h9 => by cases h9))
    obtain ⟨ev, hM, hf2⟩ := hc_
    cases ev
    have hf := hf.trans hf2
    refine W.widen (k := 0) (n := 0) (Nat.le_of_ble_eq_true rfl) (Nat.le_of_ble_eq_true rfl) ?_
    refine W.eq (g2 := F0 m 39 ls ([])) rfl ?_
    cases hq
    exact fs_vret hx hb hr hlocks hw hP hS (by omega) (by omega) (⟨rfl, hM, hf⟩) d_MO_bracketLast_39
  · have hq := fs_ifn c_1097 hq
    cases hq
    exact fs_vret hx hb hr hlocks hw hP hS (by omega) (by omega) (⟨rfl, hM, hf⟩) d_MO_bracketLast_15
noncomputable def q_MO_writeNumber_L6 : Nat → Int64 → Int32 → Int64 → Int32 → mo_S → Option (Int64)
  | 0, _, _, _, _, _ => none
  | n + 1, z1, z3, z4, z6, M1 => (if z3 ≤ z6 then some (z4) else (q_MO_writeNumber_L6 n) z1 z3 (z4 * 10) (z6 + 1) M1)
noncomputable def q_MO_writeNumber_L26 : Nat → Int64 → Int64 → mo_S → Option (Int64)
  | 0, _, _, _ => none
  | n + 1, z1, z4, M1 => (if 0 < (lg_cmp (z4 * 10) z1) then some (z4) else (q_MO_writeNumber_L26 n) z1 (z4 * 10) M1)
noncomputable def q_MO_writeNumber_L48 : Nat → Int64 → Int64 → mo_S → Option (mo_S)
  | 0, _, _, _ => none
  | n + 1, z1, z4, M1 => (if (lg_cmp z4 0) ≤ 0 then some (M1) else fs_okp (¬ (z4 : Int64) = 0) (fs_okp (¬ (10 : Int64) = 0) (Option.bind (q_MO_append M1 (48 + (Int64.toInt32 ((z1 / z4) - (z1 / z4) / 10 * 10)))) (fun R1109 => fs_okp (¬ (10 : Int64) = 0) ((q_MO_writeNumber_L48 n) z1 (z4 / 10) R1109)))))
noncomputable def q_MO_writeNumber (M : mo_S) (x1 : Int64) (x2 : Int32) : Option (mo_S) := Option.bind (q_MO_writeNumber_L6 5 x1 x2 1 1 M) (fun R1105 => Option.bind (q_MO_writeNumber_L26 20 x1 R1105 M) (fun R1107 => Option.bind (q_MO_writeNumber_L48 20 x1 R1107 M) (fun R1110 => some R1110)))
set_option maxHeartbeats 4000000 in
set_option maxRecDepth 100000 in
theorem l_MO_writeNumber_6 {p : Program} {l : Launch} {e : Env} {R : Room} {s : State} {m : MethodId} {args : Array Value} {below : List Frame} {meth : Method} {c : Code} {Q : State → Prop} {s00 : State} {G : fs_G} (hSt : fs_St l s00 G) (B : fs_B p l e s m args meth c s00 G y_MO_writeNumber b_MO_writeNumber 7 none) {h : fs_Hp} {a : Nat} {ad : Nat → Nat} (hR : 2 ≤ R.frames ∧ 28 ≤ R.locals) : ∀ (n : Nat) (z1 : Int64) (z3 : Int32) (z4 : Int64) (z6 : Int32) (M1 : mo_S) (h1 : fs_Hp) (H : Heap) (locs : List Loc) (ls : Array Slot) (r : Int64), q_MO_writeNumber_L6 n z1 z3 z4 z6 M1 = some r → fs_P G.1 fs_cl (fs_A s00) h1 H → va_S (fs_A s00) s00.heap H locs → mo_at G h1 a ad M1 → mo_fr a ad h h1 → lv_has ls 7 [(0, .ref a), (1, .long z1), (3, .int z3), (4, .long z4), (6, .int z6)] → (∀ (h' : fs_Hp) (H : Heap) (locs : List Loc) (ls : Array Slot), fs_P G.1 fs_cl (fs_A s00) h' H → va_S (fs_A s00) s00.heap H locs → mo_at G h' a ad M1 → mo_fr a ad h h' → lv_has ls 7 [(0, .ref a), (1, .long z1), (3, .int z3), (4, .long r)] → W p l e R s m args below meth c H locs 0 0 Q (F0 m 26 ls [])) → W p l e R s m args below meth c H locs 0 0 Q (F0 m 6 ls []) := by
  obtain ⟨hx, hb, hr, hml, hown, hts, hlocks, hname, hK, hw, htr⟩ := id B
  have hown : s.vm.findClass "FormulaSheetModel" = some m.cls := hown
  intro n
  induction n with
  | zero => intro z1 z3 z4 z6 M1 h1 H locs ls r hq; rw [q_MO_writeNumber_L6] at hq; cases hq
  | succ n ih =>
    intro z1 z3 z4 z6 M1 h1 H locs ls r hq hP hS hM hf hl kk
    rw [q_MO_writeNumber_L6] at hq
    refine lv_iload hx hb d_MO_writeNumber_6 (lv_at hl 4 rfl) ?_
    refine lv_iload_n hx hb d_MO_writeNumber_8 rfl (lv_at hl 2 rfl) ?_
    refine lv_icmp_ge (tgt := 26) hx hb d_MO_writeNumber_9 (by decide) (fun c_1104 => ?_) (fun c_1104 => ?_)
    · have hq := fs_ifp c_1104 hq
      cases hq
      exact kk _ _ _ _ hP hS hM hf (lv_sub hl [0, 1, 2, 3] rfl)
    · have hq := fs_ifn c_1104 hq
      refine lv_lload hx hb d_MO_writeNumber_12 (lv_at hl 3 rfl) ?_
      refine lv_ldc2 (v := 10) hx hb hown (hts _ (fs_tb_at 1631 tw_1631 rfl)) d_MO_writeNumber_14 ?_
      refine lv_lmul hx hb d_MO_writeNumber_17 ?_
      refine lv_lstore (lv' := [(4, .long (z4 * 10)), (0, .ref a), (1, .long z1), (3, .int z3), (6, .int z6)]) hx hb d_MO_writeNumber_18 hl (by decide) rfl (fun ls hl => ?_)
      refine lv_iinc (v := z6 + 1) (lv' := [(6, .int (z6 + 1)), (4, .long (z4 * 10)), (0, .ref a), (1, .long z1), (3, .int z3)]) hx hb d_MO_writeNumber_20 hl (k := 4) rfl rfl (by decide) rfl (fun ls hl => ?_)
      refine lv_goto (tgt := 6) hx hb d_MO_writeNumber_23 (by decide) ?_
      exact ih z1 z3 (z4 * 10) (z6 + 1) M1 _ _ _ _ r hq hP hS hM hf (lv_sub hl [2, 3, 4, 1, 0] rfl) kk
set_option maxHeartbeats 4000000 in
set_option maxRecDepth 100000 in
theorem l_MO_writeNumber_26 {p : Program} {l : Launch} {e : Env} {R : Room} {s : State} {m : MethodId} {args : Array Value} {below : List Frame} {meth : Method} {c : Code} {Q : State → Prop} {s00 : State} {G : fs_G} (hSt : fs_St l s00 G) (B : fs_B p l e s m args meth c s00 G y_MO_writeNumber b_MO_writeNumber 7 none) {h : fs_Hp} {a : Nat} {ad : Nat → Nat} (hR : 2 ≤ R.frames ∧ 28 ≤ R.locals) : ∀ (n : Nat) (z1 : Int64) (z4 : Int64) (M1 : mo_S) (h1 : fs_Hp) (H : Heap) (locs : List Loc) (ls : Array Slot) (r : Int64), q_MO_writeNumber_L26 n z1 z4 M1 = some r → fs_P G.1 fs_cl (fs_A s00) h1 H → va_S (fs_A s00) s00.heap H locs → mo_at G h1 a ad M1 → mo_fr a ad h h1 → lv_has ls 7 [(0, .ref a), (1, .long z1), (4, .long z4)] → (∀ (h' : fs_Hp) (H : Heap) (locs : List Loc) (ls : Array Slot), fs_P G.1 fs_cl (fs_A s00) h' H → va_S (fs_A s00) s00.heap H locs → mo_at G h' a ad M1 → mo_fr a ad h h' → lv_has ls 7 [(0, .ref a), (1, .long z1), (4, .long r)] → W p l e R s m args below meth c H locs 0 0 Q (F0 m 48 ls [])) → W p l e R s m args below meth c H locs 0 0 Q (F0 m 26 ls []) := by
  obtain ⟨hx, hb, hr, hml, hown, hts, hlocks, hname, hK, hw, htr⟩ := id B
  have hown : s.vm.findClass "FormulaSheetModel" = some m.cls := hown
  intro n
  induction n with
  | zero => intro z1 z4 M1 h1 H locs ls r hq; rw [q_MO_writeNumber_L26] at hq; cases hq
  | succ n ih =>
    intro z1 z4 M1 h1 H locs ls r hq hP hS hM hf hl kk
    rw [q_MO_writeNumber_L26] at hq
    refine lv_lload hx hb d_MO_writeNumber_26 (lv_at hl 2 rfl) ?_
    refine lv_ldc2 (v := 10) hx hb hown (hts _ (fs_tb_at 1631 tw_1631 rfl)) d_MO_writeNumber_28 ?_
    refine lv_lmul hx hb d_MO_writeNumber_31 ?_
    refine lv_lload_n hx hb d_MO_writeNumber_32 rfl (lv_at hl 1 rfl) ?_
    refine W.lcmp hx hb d_MO_writeNumber_33 ?_
    refine lv_if_gt (tgt := 48) hx hb d_MO_writeNumber_34 (by decide) (fun c_1106 => ?_) (fun c_1106 => ?_)
    · have hq := fs_ifp c_1106 hq
      cases hq
      exact kk _ _ _ _ hP hS hM hf (lv_sub hl [0, 1, 2] rfl)
    · have hq := fs_ifn c_1106 hq
      refine lv_lload hx hb d_MO_writeNumber_37 (lv_at hl 2 rfl) ?_
      refine lv_ldc2 (v := 10) hx hb hown (hts _ (fs_tb_at 1631 tw_1631 rfl)) d_MO_writeNumber_39 ?_
      refine lv_lmul hx hb d_MO_writeNumber_42 ?_
      refine lv_lstore (lv' := [(4, .long (z4 * 10)), (0, .ref a), (1, .long z1)]) hx hb d_MO_writeNumber_43 hl (by decide) rfl (fun ls hl => ?_)
      refine lv_goto (tgt := 26) hx hb d_MO_writeNumber_45 (by decide) ?_
      exact ih z1 (z4 * 10) M1 _ _ _ _ r hq hP hS hM hf (lv_sub hl [1, 2, 0] rfl) kk
set_option maxHeartbeats 4000000 in
set_option maxRecDepth 100000 in
theorem l_MO_writeNumber_48 {p : Program} {l : Launch} {e : Env} {R : Room} {s : State} {m : MethodId} {args : Array Value} {below : List Frame} {meth : Method} {c : Code} {Q : State → Prop} {s00 : State} {G : fs_G} (hSt : fs_St l s00 G) (B : fs_B p l e s m args meth c s00 G y_MO_writeNumber b_MO_writeNumber 7 none) {h : fs_Hp} {a : Nat} {ad : Nat → Nat} (hR : 2 ≤ R.frames ∧ 28 ≤ R.locals) : ∀ (n : Nat) (z1 : Int64) (z4 : Int64) (M1 : mo_S) (h1 : fs_Hp) (H : Heap) (locs : List Loc) (ls : Array Slot) (r : mo_S), q_MO_writeNumber_L48 n z1 z4 M1 = some r → fs_P G.1 fs_cl (fs_A s00) h1 H → va_S (fs_A s00) s00.heap H locs → mo_at G h1 a ad M1 → mo_fr a ad h h1 → lv_has ls 7 [(0, .ref a), (1, .long z1), (4, .long z4)] → (∀ (h' : fs_Hp) (H : Heap) (locs : List Loc) (ls : Array Slot), fs_P G.1 fs_cl (fs_A s00) h' H → va_S (fs_A s00) s00.heap H locs → mo_at G h' a ad r → mo_fr a ad h h' → lv_has ls 7 [(0, .ref a), (1, .long z1)] → W p l e R s m args below meth c H locs 0 0 Q (F0 m 82 ls [])) → W p l e R s m args below meth c H locs 0 0 Q (F0 m 48 ls []) := by
  obtain ⟨hx, hb, hr, hml, hown, hts, hlocks, hname, hK, hw, htr⟩ := id B
  have hown : s.vm.findClass "FormulaSheetModel" = some m.cls := hown
  intro n
  induction n with
  | zero => intro z1 z4 M1 h1 H locs ls r hq; rw [q_MO_writeNumber_L48] at hq; cases hq
  | succ n ih =>
    intro z1 z4 M1 h1 H locs ls r hq hP hS hM hf hl kk
    rw [q_MO_writeNumber_L48] at hq
    refine lv_lload hx hb d_MO_writeNumber_48 (lv_at hl 2 rfl) ?_
    refine lv_lconst (v := 0) hx hb d_MO_writeNumber_50 (by decide) ?_
    refine W.lcmp hx hb d_MO_writeNumber_51 ?_
    refine lv_if_le (tgt := 82) hx hb d_MO_writeNumber_52 (by decide) (fun c_1108 => ?_) (fun c_1108 => ?_)
    · have hq := fs_ifp c_1108 hq
      cases hq
      exact kk _ _ _ _ hP hS hM hf (lv_sub hl [0, 1] rfl)
    · have hq := fs_ifn c_1108 hq
      refine lv_aload_n hx hb d_MO_writeNumber_55 rfl (lv_at hl 0 rfl) ?_
      refine lv_bipush (v := 48) hx hb d_MO_writeNumber_56 (by decide) ?_
      refine lv_lload_n hx hb d_MO_writeNumber_58 rfl (lv_at hl 1 rfl) ?_
      refine lv_lload hx hb d_MO_writeNumber_59 (lv_at hl 2 rfl) ?_
      obtain ⟨hk_, hq⟩ := fs_okp_some hq
      refine lv_ldiv hx hb d_MO_writeNumber_61 hk_ ?_
      refine lv_ldc2 (v := 10) hx hb hown (hts _ (fs_tb_at 1631 tw_1631 rfl)) d_MO_writeNumber_62 ?_
      obtain ⟨hk_, hq⟩ := fs_okp_some hq
      refine lv_lrem hx hb d_MO_writeNumber_65 hk_ ?_
      refine lv_l2i hx hb d_MO_writeNumber_66 rfl ?_
      refine lv_iadd hx hb d_MO_writeNumber_67 ?_
      obtain ⟨R1109, eR1109, hq⟩ := fs_bind_some hq
      refine fs_cV B hl.1 hP hS (k_MO_append hSt hM (48 + (Int64.toInt32 ((z1 / z4) - (z1 / z4) / 10 * 10))) eR1109) (fs_tb_at 1828 tw_1828 rfl) hM.1 rfl (fs_tb_at 1830 tw_1830 rfl) (fs_tb_at 80 tw_80 rfl) (fs_tb_at 96 tw_96 rfl) (fs_tb_at 1831 tw_1831 rfl) (by decide) (show (parseMethodDescriptor y_MO_append.desc).map (fun d => d.parameters.length) = some 1 by decide +kernel) rfl d_MO_writeNumber_68 ⟨Nat.le_trans (Nat.le_of_ble_eq_true rfl) hR.1, Nat.le_trans (Nat.le_of_ble_eq_true rfl) hR.2, Nat.zero_le _, Nat.zero_le _⟩ (fun v_ h_ H locs hc_ hP hS => ?_) (fun C_ a_ h_ H locs hc_ => absurd hc_.1 (fun h9 => by cases h9))
      obtain ⟨ev, hM, hf2⟩ := hc_
      cases ev
      have hf := hf.trans hf2
      refine W.widen (k := 0) (n := 0) (Nat.le_of_ble_eq_true rfl) (Nat.le_of_ble_eq_true rfl) ?_
      refine W.eq (g2 := F0 m 71 ls ([])) rfl ?_
      refine lv_lload hx hb d_MO_writeNumber_71 (lv_at hl 2 rfl) ?_
      refine lv_ldc2 (v := 10) hx hb hown (hts _ (fs_tb_at 1631 tw_1631 rfl)) d_MO_writeNumber_73 ?_
      obtain ⟨hk_, hq⟩ := fs_okp_some hq
      refine lv_ldiv hx hb d_MO_writeNumber_76 hk_ ?_
      refine lv_lstore (lv' := [(4, .long (z4 / 10)), (0, .ref a), (1, .long z1)]) hx hb d_MO_writeNumber_77 hl (by decide) rfl (fun ls hl => ?_)
      refine lv_goto (tgt := 48) hx hb d_MO_writeNumber_79 (by decide) ?_
      exact ih z1 (z4 / 10) R1109 _ _ _ _ r hq hP hS hM hf (lv_sub hl [1, 2, 0] rfl) kk
set_option maxHeartbeats 4000000 in
set_option maxRecDepth 100000 in
theorem k_MO_writeNumber {l : Launch} {s00 : State} {G : fs_G} (hSt : fs_St l s00 G) {h : fs_Hp} {a : Nat} {ad : Nat → Nat} {M : mo_S} (hM : mo_at G h a ad M) (x1 : Int64) (x2 : Int32) {r : mo_S} (hq : q_MO_writeNumber M x1 x2 = some r) : fs_Ct l s00 G y_MO_writeNumber (.code y_MO_writeNumber b_MO_writeNumber 7 none) { frames := 2, cells := 0, slots := 0, locals := 28 } [.ref a, .long x1, .int x2] h (fun o h' => o = .inl none ∧ mo_at G h' a ad r ∧ mo_fr a ad h h') := by
  refine fs_Ct.ofW hSt (by decide) ?_
  intro p e s m below meth c B hout hP
  obtain ⟨hx, hb, hr, hml, hown, hts, hlocks, hname, hK, hw, htr⟩ := id B
  have hown : s.vm.findClass "FormulaSheetModel" = some m.cls := hown
  have hS := hw.S
  have hA : ∀ q : Nat, s00.heap.size ≤ q → fs_A s00 q := fun _ h9 => h9
  generalize hH : s.heap = H at hP hS ⊢
  have hH0 : s.heap.size ≤ H.size := by rw [hH]; exact Nat.le_refl _
  have hl := lv_entry ([.ref a, .long x1, .int x2]) (n := 7) (Nat.le_of_ble_eq_true rfl)
  rw [lg_entry_eq]
  generalize (lg_sl ([.ref a, .long x1, .int x2]) ++ List.replicate (7 - (lg_sl ([.ref a, .long x1, .int x2])).length) Slot.unset).toArray = ls at hl ⊢
  have hl : lv_has ls 7 [(0, .ref a), (1, .long x1), (3, .int x2)] := hl
  have hf : mo_fr a ad h h := mo_fr.rf
  rw [q_MO_writeNumber] at hq
  refine lv_lconst (v := 1) hx hb d_MO_writeNumber_0 (by decide) ?_
  refine lv_lstore (lv' := [(4, .long 1), (0, .ref a), (1, .long x1), (3, .int x2)]) hx hb d_MO_writeNumber_1 hl (by decide) rfl (fun ls hl => ?_)
  refine lv_iconst (v := 1) hx hb d_MO_writeNumber_3 (by decide) ?_
  refine lv_istore (lv' := [(6, .int 1), (4, .long 1), (0, .ref a), (1, .long x1), (3, .int x2)]) hx hb d_MO_writeNumber_4 hl (by decide) rfl (fun ls hl => ?_)
  obtain ⟨R1105, eR1105, hq⟩ := fs_bind_some hq
  refine l_MO_writeNumber_6 hSt B ⟨Nat.le_of_ble_eq_true rfl, Nat.le_of_ble_eq_true rfl⟩ 5 x1 x2 1 1 M _ _ _ _ R1105 eR1105 hP hS hM hf (lv_sub hl [2, 3, 4, 1, 0] rfl) (fun h_ H locs ls hP hS hM hf hl => ?_)
  obtain ⟨R1107, eR1107, hq⟩ := fs_bind_some hq
  refine l_MO_writeNumber_26 hSt B ⟨Nat.le_of_ble_eq_true rfl, Nat.le_of_ble_eq_true rfl⟩ 20 x1 R1105 M _ _ _ _ R1107 eR1107 hP hS hM hf (lv_sub hl [0, 1, 3] rfl) (fun h_ H locs ls hP hS hM hf hl => ?_)
  obtain ⟨R1110, eR1110, hq⟩ := fs_bind_some hq
  refine l_MO_writeNumber_48 hSt B ⟨Nat.le_of_ble_eq_true rfl, Nat.le_of_ble_eq_true rfl⟩ 20 x1 R1107 M _ _ _ _ R1110 eR1110 hP hS hM hf (lv_sub hl [0, 1, 2] rfl) (fun h_ H locs ls hP hS hM hf hl => ?_)
  cases hq
  exact fs_vret hx hb hr hlocks hw hP hS (by omega) (by omega) (⟨rfl, hM, hf⟩) d_MO_writeNumber_82
noncomputable def q_MO_writeNumeral_L5 : Nat → Int32 → Int64 → Int32 → mo_S → Option (Int64)
  | 0, _, _, _, _ => none
  | n + 1, z1, z2, z4, M1 => fs_okp (vp_in z1 3240) ((if (M1.2.1 4 (Int32.toNatClampNeg z1)) ≤ z4 then some (z2) else (q_MO_writeNumeral_L5 n) z1 (z2 * 10) (z4 + 1) M1))
noncomputable def q_MO_writeNumeral (M : mo_S) (x1 : Int32) : Option (mo_S) := Option.bind (q_MO_writeNumeral_L5 5 x1 1 0 M) (fun R1117 => fs_okp (vp_in x1 3240) (fs_okp (¬ (R1117 : Int64) = 0) (Option.bind (q_MO_writeNumber M ((M.2.2.1 6 (Int32.toNatClampNeg x1)) / R1117) 1) (fun R1118 => fs_okp (vp_in x1 3240) ((if (R1118.2.1 4 (Int32.toNatClampNeg x1)) = 0 then some R1118 else Option.bind (q_MO_append R1118 46) (fun R1120 => fs_okp (vp_in x1 3240) (fs_okp (¬ (R1117 : Int64) = 0) (fs_okp (vp_in x1 3240) (Option.bind (q_MO_writeNumber R1120 ((R1120.2.2.1 6 (Int32.toNatClampNeg x1)) - (R1120.2.2.1 6 (Int32.toNatClampNeg x1)) / R1117 * R1117) (R1120.2.1 4 (Int32.toNatClampNeg x1))) (fun R1121 => some R1121)))))))))))
set_option maxHeartbeats 4000000 in
set_option maxRecDepth 100000 in
theorem l_MO_writeNumeral_5 {p : Program} {l : Launch} {e : Env} {R : Room} {s : State} {m : MethodId} {args : Array Value} {below : List Frame} {meth : Method} {c : Code} {Q : State → Prop} {s00 : State} {G : fs_G} (hSt : fs_St l s00 G) (B : fs_B p l e s m args meth c s00 G y_MO_writeNumeral b_MO_writeNumeral 5 none) {h : fs_Hp} {a : Nat} {ad : Nat → Nat} (hR : 3 ≤ R.frames ∧ 46 ≤ R.locals) : ∀ (n : Nat) (z1 : Int32) (z2 : Int64) (z4 : Int32) (M1 : mo_S) (h1 : fs_Hp) (H : Heap) (locs : List Loc) (ls : Array Slot) (r : Int64), q_MO_writeNumeral_L5 n z1 z2 z4 M1 = some r → fs_P G.1 fs_cl (fs_A s00) h1 H → va_S (fs_A s00) s00.heap H locs → mo_at G h1 a ad M1 → mo_fr a ad h h1 → lv_has ls 5 [(0, .ref a), (1, .int z1), (2, .long z2), (4, .int z4)] → (∀ (h' : fs_Hp) (H : Heap) (locs : List Loc) (ls : Array Slot), fs_P G.1 fs_cl (fs_A s00) h' H → va_S (fs_A s00) s00.heap H locs → mo_at G h' a ad M1 → mo_fr a ad h h' → lv_has ls 5 [(0, .ref a), (1, .int z1), (2, .long r)] → W p l e R s m args below meth c H locs 0 0 Q (F0 m 28 ls [])) → W p l e R s m args below meth c H locs 0 0 Q (F0 m 5 ls []) := by
  obtain ⟨hx, hb, hr, hml, hown, hts, hlocks, hname, hK, hw, htr⟩ := id B
  have hown : s.vm.findClass "FormulaSheetModel" = some m.cls := hown
  intro n
  induction n with
  | zero => intro z1 z2 z4 M1 h1 H locs ls r hq; rw [q_MO_writeNumeral_L5] at hq; cases hq
  | succ n ih =>
    intro z1 z2 z4 M1 h1 H locs ls r hq hP hS hM hf hl kk
    rw [q_MO_writeNumeral_L5] at hq
    refine lv_iload hx hb d_MO_writeNumeral_5 (lv_at hl 3 rfl) ?_
    refine lv_aload_n hx hb d_MO_writeNumeral_7 rfl (lv_at hl 0 rfl) ?_
    refine fs_get (v := .ref (ad 4)) hx hb hts hown hK c_MO hP hM.1 4 (by decide) (hts _ (fs_tb_at 1460 tw_1460 rfl)) (fun _ h9 => h9) rfl d_MO_writeNumeral_8 ?_
    refine lv_iload_n hx hb d_MO_writeNumeral_11 rfl (lv_at hl 1 rfl) ?_
    obtain ⟨hi_, hq⟩ := fs_okp_some hq
    refine fs_iald (f := M1.2.1 4) hx hb hK hP 0 (hM.2.1 4 0 3240 rfl) rfl hi_ d_MO_writeNumeral_12 ?_
    refine lv_icmp_ge (tgt := 28) hx hb d_MO_writeNumeral_13 (by decide) (fun c_1116 => ?_) (fun c_1116 => ?_)
    · have hq := fs_ifp c_1116 hq
      cases hq
      exact kk _ _ _ _ hP hS hM hf (lv_sub hl [0, 1, 2] rfl)
    · have hq := fs_ifn c_1116 hq
      refine lv_lload_n hx hb d_MO_writeNumeral_16 rfl (lv_at hl 2 rfl) ?_
      refine lv_ldc2 (v := 10) hx hb hown (hts _ (fs_tb_at 1631 tw_1631 rfl)) d_MO_writeNumeral_17 ?_
      refine lv_lmul hx hb d_MO_writeNumeral_20 ?_
      refine lv_lstore_n (lv' := [(2, .long (z2 * 10)), (0, .ref a), (1, .int z1), (4, .int z4)]) hx hb d_MO_writeNumeral_21 rfl hl (by decide) rfl (fun ls hl => ?_)
      refine lv_iinc (v := z4 + 1) (lv' := [(4, .int (z4 + 1)), (2, .long (z2 * 10)), (0, .ref a), (1, .int z1)]) hx hb d_MO_writeNumeral_22 hl (k := 3) rfl rfl (by decide) rfl (fun ls hl => ?_)
      refine lv_goto (tgt := 5) hx hb d_MO_writeNumeral_25 (by decide) ?_
      exact ih z1 (z2 * 10) (z4 + 1) M1 _ _ _ _ r hq hP hS hM hf (lv_sub hl [2, 3, 1, 0] rfl) kk
set_option maxHeartbeats 4000000 in
set_option maxRecDepth 100000 in
theorem k_MO_writeNumeral {l : Launch} {s00 : State} {G : fs_G} (hSt : fs_St l s00 G) {h : fs_Hp} {a : Nat} {ad : Nat → Nat} {M : mo_S} (hM : mo_at G h a ad M) (x1 : Int32) {r : mo_S} (hq : q_MO_writeNumeral M x1 = some r) : fs_Ct l s00 G y_MO_writeNumeral (.code y_MO_writeNumeral b_MO_writeNumeral 5 none) { frames := 3, cells := 0, slots := 0, locals := 46 } [.ref a, .int x1] h (fun o h' => o = .inl none ∧ mo_at G h' a ad r ∧ mo_fr a ad h h') := by
  refine fs_Ct.ofW hSt (by decide) ?_
  intro p e s m below meth c B hout hP
  obtain ⟨hx, hb, hr, hml, hown, hts, hlocks, hname, hK, hw, htr⟩ := id B
  have hown : s.vm.findClass "FormulaSheetModel" = some m.cls := hown
  have hS := hw.S
  have hA : ∀ q : Nat, s00.heap.size ≤ q → fs_A s00 q := fun _ h9 => h9
  generalize hH : s.heap = H at hP hS ⊢
  have hH0 : s.heap.size ≤ H.size := by rw [hH]; exact Nat.le_refl _
  have hl := lv_entry ([.ref a, .int x1]) (n := 5) (Nat.le_of_ble_eq_true rfl)
  rw [lg_entry_eq]
  generalize (lg_sl ([.ref a, .int x1]) ++ List.replicate (5 - (lg_sl ([.ref a, .int x1])).length) Slot.unset).toArray = ls at hl ⊢
  have hl : lv_has ls 5 [(0, .ref a), (1, .int x1)] := hl
  have hf : mo_fr a ad h h := mo_fr.rf
  rw [q_MO_writeNumeral] at hq
  refine lv_lconst (v := 1) hx hb d_MO_writeNumeral_0 (by decide) ?_
  refine lv_lstore_n (lv' := [(2, .long 1), (0, .ref a), (1, .int x1)]) hx hb d_MO_writeNumeral_1 rfl hl (by decide) rfl (fun ls hl => ?_)
  refine lv_iconst (v := 0) hx hb d_MO_writeNumeral_2 (by decide) ?_
  refine lv_istore (lv' := [(4, .int 0), (2, .long 1), (0, .ref a), (1, .int x1)]) hx hb d_MO_writeNumeral_3 hl (by decide) rfl (fun ls hl => ?_)
  obtain ⟨R1117, eR1117, hq⟩ := fs_bind_some hq
  refine l_MO_writeNumeral_5 hSt B ⟨Nat.le_of_ble_eq_true rfl, Nat.le_of_ble_eq_true rfl⟩ 5 x1 1 0 M _ _ _ _ R1117 eR1117 hP hS hM hf (lv_sub hl [2, 3, 1, 0] rfl) (fun h_ H locs ls hP hS hM hf hl => ?_)
  refine lv_aload_n hx hb d_MO_writeNumeral_28 rfl (lv_at hl 0 rfl) ?_
  refine lv_aload_n hx hb d_MO_writeNumeral_29 rfl (lv_at hl 0 rfl) ?_
  refine fs_get (v := .ref (ad 6)) hx hb hts hown hK c_MO hP hM.1 6 (by decide) (hts _ (fs_tb_at 1462 tw_1462 rfl)) (fun _ h9 => h9) rfl d_MO_writeNumeral_30 ?_
  refine lv_iload_n hx hb d_MO_writeNumeral_33 rfl (lv_at hl 1 rfl) ?_
  obtain ⟨hi_, hq⟩ := fs_okp_some hq
  refine fs_lald (f := M.2.2.1 6) hx hb hK hP 1 (hM.2.1 6 1 3240 rfl) rfl hi_ d_MO_writeNumeral_34 ?_
  refine lv_lload_n hx hb d_MO_writeNumeral_35 rfl (lv_at hl 2 rfl) ?_
  obtain ⟨hk_, hq⟩ := fs_okp_some hq
  refine lv_ldiv hx hb d_MO_writeNumeral_36 hk_ ?_
  refine lv_iconst (v := 1) hx hb d_MO_writeNumeral_37 (by decide) ?_
  obtain ⟨R1118, eR1118, hq⟩ := fs_bind_some hq
  refine fs_cV B hl.1 hP hS (k_MO_writeNumber hSt hM ((M.2.2.1 6 (Int32.toNatClampNeg x1)) / R1117) 1 eR1118) (fs_tb_at 1824 tw_1824 rfl) hM.1 rfl (fs_tb_at 1826 tw_1826 rfl) (fs_tb_at 79 tw_79 rfl) (fs_tb_at 96 tw_96 rfl) (fs_tb_at 1827 tw_1827 rfl) (by decide) (show (parseMethodDescriptor y_MO_writeNumber.desc).map (fun d => d.parameters.length) = some 2 by decide +kernel) rfl d_MO_writeNumeral_38 ⟨Nat.le_of_ble_eq_true rfl, Nat.le_of_ble_eq_true rfl, Nat.le_of_ble_eq_true rfl, Nat.le_of_ble_eq_true rfl⟩ (fun v_ h_ H locs hc_ hP hS => ?_) (fun C_ a_ h_ H locs hc_ => absurd hc_.1 (fun h9 => by cases h9))
  obtain ⟨ev, hM, hf2⟩ := hc_
  cases ev
  have hf := hf.trans hf2
  refine W.widen (k := 0) (n := 0) (Nat.le_of_ble_eq_true rfl) (Nat.le_of_ble_eq_true rfl) ?_
  refine W.eq (g2 := F0 m 41 ls ([])) rfl ?_
  refine lv_aload_n hx hb d_MO_writeNumeral_41 rfl (lv_at hl 0 rfl) ?_
  refine fs_get (v := .ref (ad 4)) hx hb hts hown hK c_MO hP hM.1 4 (by decide) (hts _ (fs_tb_at 1460 tw_1460 rfl)) (fun _ h9 => h9) rfl d_MO_writeNumeral_42 ?_
  refine lv_iload_n hx hb d_MO_writeNumeral_45 rfl (lv_at hl 1 rfl) ?_
  obtain ⟨hi_, hq⟩ := fs_okp_some hq
  refine fs_iald (f := R1118.2.1 4) hx hb hK hP 0 (hM.2.1 4 0 3240 rfl) rfl hi_ d_MO_writeNumeral_46 ?_
  refine lv_if_ne (tgt := 51) hx hb d_MO_writeNumeral_47 (by decide) (fun c_1119 => ?_) (fun c_1119 => ?_)
  · have hq := fs_ifn c_1119 hq
    refine lv_aload_n hx hb d_MO_writeNumeral_51 rfl (lv_at hl 0 rfl) ?_
    refine lv_bipush (v := 46) hx hb d_MO_writeNumeral_52 (by decide) ?_
    obtain ⟨R1120, eR1120, hq⟩ := fs_bind_some hq
    refine fs_cV B hl.1 hP hS (k_MO_append hSt hM 46 eR1120) (fs_tb_at 1828 tw_1828 rfl) hM.1 rfl (fs_tb_at 1830 tw_1830 rfl) (fs_tb_at 80 tw_80 rfl) (fs_tb_at 96 tw_96 rfl) (fs_tb_at 1831 tw_1831 rfl) (by decide) (show (parseMethodDescriptor y_MO_append.desc).map (fun d => d.parameters.length) = some 1 by decide +kernel) rfl d_MO_writeNumeral_54 ⟨Nat.le_of_ble_eq_true rfl, Nat.le_of_ble_eq_true rfl, Nat.le_of_ble_eq_true rfl, Nat.le_of_ble_eq_true rfl⟩ (fun v_ h_ H locs hc_ hP hS => ?_) (fun C_ a_ h_ H locs hc_ => absurd hc_.1 (fun h9 => by cases h9))
    obtain ⟨ev, hM, hf2⟩ := hc_
    cases ev
    have hf := hf.trans hf2
    refine W.widen (k := 0) (n := 0) (Nat.le_of_ble_eq_true rfl) (Nat.le_of_ble_eq_true rfl) ?_
    refine W.eq (g2 := F0 m 57 ls ([])) rfl ?_
    refine lv_aload_n hx hb d_MO_writeNumeral_57 rfl (lv_at hl 0 rfl) ?_
    refine lv_aload_n hx hb d_MO_writeNumeral_58 rfl (lv_at hl 0 rfl) ?_
    refine fs_get (v := .ref (ad 6)) hx hb hts hown hK c_MO hP hM.1 6 (by decide) (hts _ (fs_tb_at 1462 tw_1462 rfl)) (fun _ h9 => h9) rfl d_MO_writeNumeral_59 ?_
    refine lv_iload_n hx hb d_MO_writeNumeral_62 rfl (lv_at hl 1 rfl) ?_
    obtain ⟨hi_, hq⟩ := fs_okp_some hq
    refine fs_lald (f := R1120.2.2.1 6) hx hb hK hP 1 (hM.2.1 6 1 3240 rfl) rfl hi_ d_MO_writeNumeral_63 ?_
    refine lv_lload_n hx hb d_MO_writeNumeral_64 rfl (lv_at hl 2 rfl) ?_
    obtain ⟨hk_, hq⟩ := fs_okp_some hq
    refine lv_lrem hx hb d_MO_writeNumeral_65 hk_ ?_
    refine lv_aload_n hx hb d_MO_writeNumeral_66 rfl (lv_at hl 0 rfl) ?_
    refine fs_get (v := .ref (ad 4)) hx hb hts hown hK c_MO hP hM.1 4 (by decide) (hts _ (fs_tb_at 1460 tw_1460 rfl)) (fun _ h9 => h9) rfl d_MO_writeNumeral_67 ?_
    refine lv_iload_n hx hb d_MO_writeNumeral_70 rfl (lv_at hl 1 rfl) ?_
    obtain ⟨hi_, hq⟩ := fs_okp_some hq
    refine fs_iald (f := R1120.2.1 4) hx hb hK hP 0 (hM.2.1 4 0 3240 rfl) rfl hi_ d_MO_writeNumeral_71 ?_
    obtain ⟨R1121, eR1121, hq⟩ := fs_bind_some hq
    refine fs_cV B hl.1 hP hS (k_MO_writeNumber hSt hM ((R1120.2.2.1 6 (Int32.toNatClampNeg x1)) - (R1120.2.2.1 6 (Int32.toNatClampNeg x1)) / R1117 * R1117) (R1120.2.1 4 (Int32.toNatClampNeg x1)) eR1121) (fs_tb_at 1824 tw_1824 rfl) hM.1 rfl (fs_tb_at 1826 tw_1826 rfl) (fs_tb_at 79 tw_79 rfl) (fs_tb_at 96 tw_96 rfl) (fs_tb_at 1827 tw_1827 rfl) (by decide) (show (parseMethodDescriptor y_MO_writeNumber.desc).map (fun d => d.parameters.length) = some 2 by decide +kernel) rfl d_MO_writeNumeral_72 ⟨Nat.le_of_ble_eq_true rfl, Nat.le_of_ble_eq_true rfl, Nat.le_of_ble_eq_true rfl, Nat.le_of_ble_eq_true rfl⟩ (fun v_ h_ H locs hc_ hP hS => ?_) (fun C_ a_ h_ H locs hc_ => absurd hc_.1 (fun h9 => by cases h9))
    obtain ⟨ev, hM, hf2⟩ := hc_
    cases ev
    have hf := hf.trans hf2
    refine W.widen (k := 0) (n := 0) (Nat.le_of_ble_eq_true rfl) (Nat.le_of_ble_eq_true rfl) ?_
    refine W.eq (g2 := F0 m 75 ls ([])) rfl ?_
    cases hq
    exact fs_vret hx hb hr hlocks hw hP hS (by omega) (by omega) (⟨rfl, hM, hf⟩) d_MO_writeNumeral_75
  · have hq := fs_ifp c_1119 hq
    cases hq
    exact fs_vret hx hb hr hlocks hw hP hS (by omega) (by omega) (⟨rfl, hM, hf⟩) d_MO_writeNumeral_50
noncomputable def q_MO_writeReference_J53 (z1 : Int32) (M1 : mo_S) : Option (mo_S) := Option.bind (q_MO_writeNumber M1 (Int32.toInt64 ((p_MO_row z1) + 1)) 1) (fun R1134 => some R1134)
noncomputable def q_MO_writeReference_J28 (z1 : Int32) (M1 : mo_S) : Option (mo_S) := Option.bind (q_MO_append M1 (97 + (p_MO_column z1))) (fun R1135 => (if (z1 &&& (256 : Int32)) = 0 then q_MO_writeReference_J53 z1 R1135 else Option.bind (q_MO_append R1135 36) (fun R1137 => q_MO_writeReference_J53 z1 R1137)))
noncomputable def q_MO_writeReference (M : mo_S) (x1 : Int32) : Option (mo_S) := (if (p_MO_lost x1) = 0 then (if (x1 &&& (128 : Int32)) = 0 then q_MO_writeReference_J28 x1 M else Option.bind (q_MO_append M 36) (fun R1140 => q_MO_writeReference_J28 x1 R1140)) else Option.bind (q_MO_append M 126) (fun R1141 => some R1141))
set_option maxHeartbeats 4000000 in
set_option maxRecDepth 100000 in
theorem k_MO_writeReference {l : Launch} {s00 : State} {G : fs_G} (hSt : fs_St l s00 G) {h : fs_Hp} {a : Nat} {ad : Nat → Nat} {M : mo_S} (hM : mo_at G h a ad M) (x1 : Int32) {r : mo_S} (hq : q_MO_writeReference M x1 = some r) : fs_Ct l s00 G y_MO_writeReference (.code y_MO_writeReference b_MO_writeReference 2 none) { frames := 3, cells := 0, slots := 0, locals := 46 } [.ref a, .int x1] h (fun o h' => o = .inl none ∧ mo_at G h' a ad r ∧ mo_fr a ad h h') := by
  refine fs_Ct.ofW hSt (by decide) ?_
  intro p e s m below meth c B hout hP
  obtain ⟨hx, hb, hr, hml, hown, hts, hlocks, hname, hK, hw, htr⟩ := id B
  have hown : s.vm.findClass "FormulaSheetModel" = some m.cls := hown
  have hS := hw.S
  have hA : ∀ q : Nat, s00.heap.size ≤ q → fs_A s00 q := fun _ h9 => h9
  generalize hH : s.heap = H at hP hS ⊢
  have hH0 : s.heap.size ≤ H.size := by rw [hH]; exact Nat.le_refl _
  have hJ53 : ∀ (z1 : Int32) (M1 : mo_S) (h1 : fs_Hp) (H : Heap) (locs : List Loc) (ls : Array Slot), q_MO_writeReference_J53 z1 M1 = some r → fs_P G.1 fs_cl (fs_A s00) h1 H → va_S (fs_A s00) s00.heap H locs → mo_at G h1 a ad M1 → mo_fr a ad h h1 → lv_has ls 2 [(0, .ref a), (1, .int z1)] → W p l e { frames := 3, cells := 0, slots := 0, locals := 46 } s m ([.ref a, .int x1] : List Value).toArray below meth c H locs 0 0 (fx_MQ below (fs_Qc s00 G (fun o h' => o = .inl none ∧ mo_at G h' a ad r ∧ mo_fr a ad h h')) ([.ref a, .int x1] : List Value).toArray s 0 0 (fs_A s00)) (F0 m 53 ls ([])) := by
    intro z1 M1 h1 H locs ls hq hP hS hM hf hl
    rw [q_MO_writeReference_J53] at hq
    refine lv_aload_n hx hb d_MO_writeReference_53 rfl (lv_at hl 0 rfl) ?_
    refine lv_iload_n hx hb d_MO_writeReference_54 rfl (lv_at hl 1 rfl) ?_
    refine fs_cS B hl.1 hP hS (k_MO_row hSt z1) (fs_tb_at 1675 tw_1675 rfl) (fs_tb_at 1676 tw_1676 rfl) (fs_tb_at 96 tw_96 rfl) (fs_tb_at 1677 tw_1677 rfl) (by decide) (show (parseMethodDescriptor y_MO_row.desc).map (fun d => d.parameters.length) = some 1 by decide +kernel) rfl d_MO_writeReference_55 ⟨Nat.le_of_ble_eq_true rfl, Nat.le_of_ble_eq_true rfl, Nat.le_of_ble_eq_true rfl, Nat.le_of_ble_eq_true rfl⟩ (fun v_ h_ H locs hc_ hP hS => ?_) (fun C_ a_ h_ H locs hc_ => absurd hc_.1 (fun h9 => by cases h9))
    obtain ⟨ev, eh⟩ := hc_
    cases ev
    rw [eh] at hP
    refine W.widen (k := 0) (n := 0) (Nat.le_of_ble_eq_true rfl) (Nat.le_of_ble_eq_true rfl) ?_
    refine W.eq (g2 := F0 m 58 ls (.int (p_MO_row z1) :: .ref a :: [])) rfl ?_
    refine lv_iconst (v := 1) hx hb d_MO_writeReference_58 (by decide) ?_
    refine lv_iadd hx hb d_MO_writeReference_59 ?_
    refine lv_i2l hx hb d_MO_writeReference_60 rfl ?_
    refine lv_iconst (v := 1) hx hb d_MO_writeReference_61 (by decide) ?_
    obtain ⟨R1134, eR1134, hq⟩ := fs_bind_some hq
    refine fs_cV B hl.1 hP hS (k_MO_writeNumber hSt hM (Int32.toInt64 ((p_MO_row z1) + 1)) 1 eR1134) (fs_tb_at 1824 tw_1824 rfl) hM.1 rfl (fs_tb_at 1826 tw_1826 rfl) (fs_tb_at 79 tw_79 rfl) (fs_tb_at 96 tw_96 rfl) (fs_tb_at 1827 tw_1827 rfl) (by decide) (show (parseMethodDescriptor y_MO_writeNumber.desc).map (fun d => d.parameters.length) = some 2 by decide +kernel) rfl d_MO_writeReference_62 ⟨Nat.le_of_ble_eq_true rfl, Nat.le_of_ble_eq_true rfl, Nat.le_of_ble_eq_true rfl, Nat.le_of_ble_eq_true rfl⟩ (fun v_ h_ H locs hc_ hP hS => ?_) (fun C_ a_ h_ H locs hc_ => absurd hc_.1 (fun h9 => by cases h9))
    obtain ⟨ev, hM, hf2⟩ := hc_
    cases ev
    have hf := hf.trans hf2
    refine W.widen (k := 0) (n := 0) (Nat.le_of_ble_eq_true rfl) (Nat.le_of_ble_eq_true rfl) ?_
    refine W.eq (g2 := F0 m 65 ls ([])) rfl ?_
    cases hq
    exact fs_vret hx hb hr hlocks hw hP hS (by omega) (by omega) (⟨rfl, hM, hf⟩) d_MO_writeReference_65
  have hJ28 : ∀ (z1 : Int32) (M1 : mo_S) (h1 : fs_Hp) (H : Heap) (locs : List Loc) (ls : Array Slot), q_MO_writeReference_J28 z1 M1 = some r → fs_P G.1 fs_cl (fs_A s00) h1 H → va_S (fs_A s00) s00.heap H locs → mo_at G h1 a ad M1 → mo_fr a ad h h1 → lv_has ls 2 [(0, .ref a), (1, .int z1)] → W p l e { frames := 3, cells := 0, slots := 0, locals := 46 } s m ([.ref a, .int x1] : List Value).toArray below meth c H locs 0 0 (fx_MQ below (fs_Qc s00 G (fun o h' => o = .inl none ∧ mo_at G h' a ad r ∧ mo_fr a ad h h')) ([.ref a, .int x1] : List Value).toArray s 0 0 (fs_A s00)) (F0 m 28 ls ([])) := by
    intro z1 M1 h1 H locs ls hq hP hS hM hf hl
    rw [q_MO_writeReference_J28] at hq
    refine lv_aload_n hx hb d_MO_writeReference_28 rfl (lv_at hl 0 rfl) ?_
    refine lv_bipush (v := 97) hx hb d_MO_writeReference_29 (by decide) ?_
    refine lv_iload_n hx hb d_MO_writeReference_31 rfl (lv_at hl 1 rfl) ?_
    refine fs_cS B hl.1 hP hS (k_MO_column hSt z1) (fs_tb_at 1672 tw_1672 rfl) (fs_tb_at 1673 tw_1673 rfl) (fs_tb_at 96 tw_96 rfl) (fs_tb_at 1674 tw_1674 rfl) (by decide) (show (parseMethodDescriptor y_MO_column.desc).map (fun d => d.parameters.length) = some 1 by decide +kernel) rfl d_MO_writeReference_32 ⟨Nat.le_of_ble_eq_true rfl, Nat.le_of_ble_eq_true rfl, Nat.le_of_ble_eq_true rfl, Nat.le_of_ble_eq_true rfl⟩ (fun v_ h_ H locs hc_ hP hS => ?_) (fun C_ a_ h_ H locs hc_ => absurd hc_.1 (fun h9 => by cases h9))
    obtain ⟨ev, eh⟩ := hc_
    cases ev
    rw [eh] at hP
    refine W.widen (k := 0) (n := 0) (Nat.le_of_ble_eq_true rfl) (Nat.le_of_ble_eq_true rfl) ?_
    refine W.eq (g2 := F0 m 35 ls (.int (p_MO_column z1) :: .int 97 :: .ref a :: [])) rfl ?_
    refine lv_iadd hx hb d_MO_writeReference_35 ?_
    obtain ⟨R1135, eR1135, hq⟩ := fs_bind_some hq
    refine fs_cV B hl.1 hP hS (k_MO_append hSt hM (97 + (p_MO_column z1)) eR1135) (fs_tb_at 1828 tw_1828 rfl) hM.1 rfl (fs_tb_at 1830 tw_1830 rfl) (fs_tb_at 80 tw_80 rfl) (fs_tb_at 96 tw_96 rfl) (fs_tb_at 1831 tw_1831 rfl) (by decide) (show (parseMethodDescriptor y_MO_append.desc).map (fun d => d.parameters.length) = some 1 by decide +kernel) rfl d_MO_writeReference_36 ⟨Nat.le_of_ble_eq_true rfl, Nat.le_of_ble_eq_true rfl, Nat.le_of_ble_eq_true rfl, Nat.le_of_ble_eq_true rfl⟩ (fun v_ h_ H locs hc_ hP hS => ?_) (fun C_ a_ h_ H locs hc_ => absurd hc_.1 (fun h9 => by cases h9))
    obtain ⟨ev, hM, hf2⟩ := hc_
    cases ev
    have hf := hf.trans hf2
    refine W.widen (k := 0) (n := 0) (Nat.le_of_ble_eq_true rfl) (Nat.le_of_ble_eq_true rfl) ?_
    refine W.eq (g2 := F0 m 39 ls ([])) rfl ?_
    refine lv_iload_n hx hb d_MO_writeReference_39 rfl (lv_at hl 1 rfl) ?_
    refine lv_sipush (v := 256) hx hb d_MO_writeReference_40 (by decide) ?_
    refine lv_iand hx hb d_MO_writeReference_43 ?_
    refine lv_if_eq (tgt := 53) hx hb d_MO_writeReference_44 (by decide) (fun c_1136 => ?_) (fun c_1136 => ?_)
    · have hq := fs_ifp c_1136 hq
      exact hJ53 z1 R1135 _ _ _ _ hq hP hS hM hf (lv_sub hl [0, 1] rfl)
    · have hq := fs_ifn c_1136 hq
      refine lv_aload_n hx hb d_MO_writeReference_47 rfl (lv_at hl 0 rfl) ?_
      refine lv_bipush (v := 36) hx hb d_MO_writeReference_48 (by decide) ?_
      obtain ⟨R1137, eR1137, hq⟩ := fs_bind_some hq
      refine fs_cV B hl.1 hP hS (k_MO_append hSt hM 36 eR1137) (fs_tb_at 1828 tw_1828 rfl) hM.1 rfl (fs_tb_at 1830 tw_1830 rfl) (fs_tb_at 80 tw_80 rfl) (fs_tb_at 96 tw_96 rfl) (fs_tb_at 1831 tw_1831 rfl) (by decide) (show (parseMethodDescriptor y_MO_append.desc).map (fun d => d.parameters.length) = some 1 by decide +kernel) rfl d_MO_writeReference_50 ⟨Nat.le_of_ble_eq_true rfl, Nat.le_of_ble_eq_true rfl, Nat.le_of_ble_eq_true rfl, Nat.le_of_ble_eq_true rfl⟩ (fun v_ h_ H locs hc_ hP hS => ?_) (fun C_ a_ h_ H locs hc_ => absurd hc_.1 (fun h9 => by cases h9))
      obtain ⟨ev, hM, hf2⟩ := hc_
      cases ev
      have hf := hf.trans hf2
      refine W.widen (k := 0) (n := 0) (Nat.le_of_ble_eq_true rfl) (Nat.le_of_ble_eq_true rfl) ?_
      refine W.eq (g2 := F0 m 53 ls ([])) rfl ?_
      exact hJ53 z1 R1137 _ _ _ _ hq hP hS hM hf (lv_sub hl [0, 1] rfl)
  have hl := lv_entry ([.ref a, .int x1]) (n := 2) (Nat.le_of_ble_eq_true rfl)
  rw [lg_entry_eq]
  generalize (lg_sl ([.ref a, .int x1]) ++ List.replicate (2 - (lg_sl ([.ref a, .int x1])).length) Slot.unset).toArray = ls at hl ⊢
  have hl : lv_has ls 2 [(0, .ref a), (1, .int x1)] := hl
  have hf : mo_fr a ad h h := mo_fr.rf
  rw [q_MO_writeReference] at hq
  refine lv_iload_n hx hb d_MO_writeReference_0 rfl (lv_at hl 1 rfl) ?_
  refine fs_cS B hl.1 hP hS (k_MO_lost hSt x1) (fs_tb_at 1669 tw_1669 rfl) (fs_tb_at 1670 tw_1670 rfl) (fs_tb_at 96 tw_96 rfl) (fs_tb_at 1671 tw_1671 rfl) (by decide) (show (parseMethodDescriptor y_MO_lost.desc).map (fun d => d.parameters.length) = some 1 by decide +kernel) rfl d_MO_writeReference_1 ⟨Nat.le_of_ble_eq_true rfl, Nat.le_of_ble_eq_true rfl, Nat.le_of_ble_eq_true rfl, Nat.le_of_ble_eq_true rfl⟩ (fun v_ h_ H locs hc_ hP hS => ?_) (fun C_ a_ h_ H locs hc_ => absurd hc_.1 (fun h9 => by cases h9))
  obtain ⟨ev, eh⟩ := hc_
  cases ev
  rw [eh] at hP
  refine W.widen (k := 0) (n := 0) (Nat.le_of_ble_eq_true rfl) (Nat.le_of_ble_eq_true rfl) ?_
  refine W.eq (g2 := F0 m 4 ls (.int (p_MO_lost x1) :: [])) rfl ?_
  refine lv_if_eq (tgt := 14) hx hb d_MO_writeReference_4 (by decide) (fun c_1138 => ?_) (fun c_1138 => ?_)
  · have hq := fs_ifp c_1138 hq
    refine lv_iload_n hx hb d_MO_writeReference_14 rfl (lv_at hl 1 rfl) ?_
    refine lv_sipush (v := 128) hx hb d_MO_writeReference_15 (by decide) ?_
    refine lv_iand hx hb d_MO_writeReference_18 ?_
    refine lv_if_eq (tgt := 28) hx hb d_MO_writeReference_19 (by decide) (fun c_1139 => ?_) (fun c_1139 => ?_)
    · have hq := fs_ifp c_1139 hq
      exact hJ28 x1 M _ _ _ _ hq hP hS hM hf (lv_sub hl [0, 1] rfl)
    · have hq := fs_ifn c_1139 hq
      refine lv_aload_n hx hb d_MO_writeReference_22 rfl (lv_at hl 0 rfl) ?_
      refine lv_bipush (v := 36) hx hb d_MO_writeReference_23 (by decide) ?_
      obtain ⟨R1140, eR1140, hq⟩ := fs_bind_some hq
      refine fs_cV B hl.1 hP hS (k_MO_append hSt hM 36 eR1140) (fs_tb_at 1828 tw_1828 rfl) hM.1 rfl (fs_tb_at 1830 tw_1830 rfl) (fs_tb_at 80 tw_80 rfl) (fs_tb_at 96 tw_96 rfl) (fs_tb_at 1831 tw_1831 rfl) (by decide) (show (parseMethodDescriptor y_MO_append.desc).map (fun d => d.parameters.length) = some 1 by decide +kernel) rfl d_MO_writeReference_25 ⟨Nat.le_of_ble_eq_true rfl, Nat.le_of_ble_eq_true rfl, Nat.le_of_ble_eq_true rfl, Nat.le_of_ble_eq_true rfl⟩ (fun v_ h_ H locs hc_ hP hS => ?_) (fun C_ a_ h_ H locs hc_ => absurd hc_.1 (fun h9 => by cases h9))
      obtain ⟨ev, hM, hf2⟩ := hc_
      cases ev
      have hf := hf.trans hf2
      refine W.widen (k := 0) (n := 0) (Nat.le_of_ble_eq_true rfl) (Nat.le_of_ble_eq_true rfl) ?_
      refine W.eq (g2 := F0 m 28 ls ([])) rfl ?_
      exact hJ28 x1 R1140 _ _ _ _ hq hP hS hM hf (lv_sub hl [0, 1] rfl)
  · have hq := fs_ifn c_1138 hq
    refine lv_aload_n hx hb d_MO_writeReference_7 rfl (lv_at hl 0 rfl) ?_
    refine lv_bipush (v := 126) hx hb d_MO_writeReference_8 (by decide) ?_
    obtain ⟨R1141, eR1141, hq⟩ := fs_bind_some hq
    refine fs_cV B hl.1 hP hS (k_MO_append hSt hM 126 eR1141) (fs_tb_at 1828 tw_1828 rfl) hM.1 rfl (fs_tb_at 1830 tw_1830 rfl) (fs_tb_at 80 tw_80 rfl) (fs_tb_at 96 tw_96 rfl) (fs_tb_at 1831 tw_1831 rfl) (by decide) (show (parseMethodDescriptor y_MO_append.desc).map (fun d => d.parameters.length) = some 1 by decide +kernel) rfl d_MO_writeReference_10 ⟨Nat.le_of_ble_eq_true rfl, Nat.le_of_ble_eq_true rfl, Nat.le_of_ble_eq_true rfl, Nat.le_of_ble_eq_true rfl⟩ (fun v_ h_ H locs hc_ hP hS => ?_) (fun C_ a_ h_ H locs hc_ => absurd hc_.1 (fun h9 => by cases h9))
    obtain ⟨ev, hM, hf2⟩ := hc_
    cases ev
    have hf := hf.trans hf2
    refine W.widen (k := 0) (n := 0) (Nat.le_of_ble_eq_true rfl) (Nat.le_of_ble_eq_true rfl) ?_
    refine W.eq (g2 := F0 m 13 ls ([])) rfl ?_
    cases hq
    exact fs_vret hx hb hr hlocks hw hP hS (by omega) (by omega) (⟨rfl, hM, hf⟩) d_MO_writeReference_13
noncomputable def q_MO_name_L9 : Nat → Int32 → Int32 → Int32 → mo_S → Option (mo_S)
  | 0, _, _, _, _ => none
  | n + 1, z1, z2, z3, M1 => (if z3 < 0 then some (M1) else fs_okp ((2 ≤ (Int32.toInt z2)) ∧ ((Int32.toInt z2) ≤ 9) ∧ (0 ≤ (Int32.toInt z3)) ∧ ((Int32.toInt z3) < 3)) ((if ((p_MO_nameLetter M1 z2 z3).1) = 0 then (q_MO_name_L9 n) z1 z2 (z3 - 1) M1 else fs_okp ((2 ≤ (Int32.toInt z2)) ∧ ((Int32.toInt z2) ≤ 9) ∧ (0 ≤ (Int32.toInt z3)) ∧ ((Int32.toInt z3) < 3)) (Option.bind (q_MO_insertAt M1 z1 ((p_MO_nameLetter M1 z2 z3).1)) (fun R1150 => (q_MO_name_L9 n) z1 z2 (z3 - 1) R1150)))))
noncomputable def q_MO_name (M : mo_S) (x1 : Int32) (x2 : Int32) : Option (mo_S) := Option.bind (q_MO_insertAt M x1 40) (fun R1147 => Option.bind (q_MO_name_L9 4 x1 x2 2 R1147) (fun R1151 => Option.bind (q_MO_insertAt R1151 x1 64) (fun R1152 => some R1152)))
set_option maxHeartbeats 4000000 in
set_option maxRecDepth 100000 in
theorem l_MO_name_9 {p : Program} {l : Launch} {e : Env} {R : Room} {s : State} {m : MethodId} {args : Array Value} {below : List Frame} {meth : Method} {c : Code} {Q : State → Prop} {s00 : State} {G : fs_G} (hSt : fs_St l s00 G) (B : fs_B p l e s m args meth c s00 G y_MO_name b_MO_name 4 none) {h : fs_Hp} {a : Nat} {ad : Nat → Nat} (hR : 1 ≤ R.frames ∧ 16 ≤ R.locals) : ∀ (n : Nat) (z1 : Int32) (z2 : Int32) (z3 : Int32) (M1 : mo_S) (h1 : fs_Hp) (H : Heap) (locs : List Loc) (ls : Array Slot) (r : mo_S), q_MO_name_L9 n z1 z2 z3 M1 = some r → fs_P G.1 fs_cl (fs_A s00) h1 H → va_S (fs_A s00) s00.heap H locs → mo_at G h1 a ad M1 → mo_fr a ad h h1 → lv_has ls 4 [(0, .ref a), (1, .int z1), (2, .int z2), (3, .int z3)] → (∀ (h' : fs_Hp) (H : Heap) (locs : List Loc) (ls : Array Slot), fs_P G.1 fs_cl (fs_A s00) h' H → va_S (fs_A s00) s00.heap H locs → mo_at G h' a ad r → mo_fr a ad h h' → lv_has ls 4 [(0, .ref a), (1, .int z1), (2, .int z2)] → W p l e R s m args below meth c H locs 0 0 Q (F0 m 39 ls [])) → W p l e R s m args below meth c H locs 0 0 Q (F0 m 9 ls []) := by
  obtain ⟨hx, hb, hr, hml, hown, hts, hlocks, hname, hK, hw, htr⟩ := id B
  have hown : s.vm.findClass "FormulaSheetModel" = some m.cls := hown
  intro n
  induction n with
  | zero => intro z1 z2 z3 M1 h1 H locs ls r hq; rw [q_MO_name_L9] at hq; cases hq
  | succ n ih =>
    intro z1 z2 z3 M1 h1 H locs ls r hq hP hS hM hf hl kk
    rw [q_MO_name_L9] at hq
    refine lv_iload_n hx hb d_MO_name_9 rfl (lv_at hl 3 rfl) ?_
    refine lv_if_lt (tgt := 39) hx hb d_MO_name_10 (by decide) (fun c_1148 => ?_) (fun c_1148 => ?_)
    · have hq := fs_ifp c_1148 hq
      cases hq
      exact kk _ _ _ _ hP hS hM hf (lv_sub hl [0, 1, 2] rfl)
    · have hq := fs_ifn c_1148 hq
      refine lv_aload_n hx hb d_MO_name_13 rfl (lv_at hl 0 rfl) ?_
      refine lv_iload_n hx hb d_MO_name_14 rfl (lv_at hl 2 rfl) ?_
      refine lv_iload_n hx hb d_MO_name_15 rfl (lv_at hl 3 rfl) ?_
      obtain ⟨⟨b0_, b1_, b2_, b3_⟩, hq⟩ := fs_okp_some hq
      refine fs_cV B hl.1 hP hS (k_MO_nameLetter hSt hM z2 z3 b0_ b1_ b2_ b3_) (fs_tb_at 1649 tw_1649 rfl) hM.1 rfl (fs_tb_at 1651 tw_1651 rfl) (fs_tb_at 55 tw_55 rfl) (fs_tb_at 96 tw_96 rfl) (fs_tb_at 1652 tw_1652 rfl) (by decide) (show (parseMethodDescriptor y_MO_nameLetter.desc).map (fun d => d.parameters.length) = some 2 by decide +kernel) rfl d_MO_name_16 ⟨Nat.le_trans (Nat.le_of_ble_eq_true rfl) hR.1, Nat.le_trans (Nat.le_of_ble_eq_true rfl) hR.2, Nat.zero_le _, Nat.zero_le _⟩ (fun v_ h_ H locs hc_ hP hS => ?_) (fun C_ a_ h_ H locs hc_ => absurd hc_.1 (fun h9 => by cases h9))
      obtain ⟨ev, hM, hf2⟩ := hc_
      cases ev
      have hf := hf.trans hf2
      rw [ke_MO_nameLetter] at hM
      refine W.widen (k := 0) (n := 0) (Nat.le_of_ble_eq_true rfl) (Nat.le_of_ble_eq_true rfl) ?_
      refine W.eq (g2 := F0 m 19 ls (.int ((p_MO_nameLetter M1 z2 z3).1) :: [])) rfl ?_
      refine lv_if_eq (tgt := 33) hx hb d_MO_name_19 (by decide) (fun c_1149 => ?_) (fun c_1149 => ?_)
      · have hq := fs_ifp c_1149 hq
        refine lv_iinc (v := z3 - 1) (lv' := [(3, .int (z3 - 1)), (0, .ref a), (1, .int z1), (2, .int z2)]) hx hb d_MO_name_33 hl (k := 3) rfl (fs_dec1 _) (by decide) rfl (fun ls hl => ?_)
        refine lv_goto (tgt := 9) hx hb d_MO_name_36 (by decide) ?_
        exact ih z1 z2 (z3 - 1) M1 _ _ _ _ r hq hP hS hM hf (lv_sub hl [1, 2, 3, 0] rfl) kk
      · have hq := fs_ifn c_1149 hq
        refine lv_aload_n hx hb d_MO_name_22 rfl (lv_at hl 0 rfl) ?_
        refine lv_iload_n hx hb d_MO_name_23 rfl (lv_at hl 1 rfl) ?_
        refine lv_aload_n hx hb d_MO_name_24 rfl (lv_at hl 0 rfl) ?_
        refine lv_iload_n hx hb d_MO_name_25 rfl (lv_at hl 2 rfl) ?_
        refine lv_iload_n hx hb d_MO_name_26 rfl (lv_at hl 3 rfl) ?_
        obtain ⟨⟨b0_, b1_, b2_, b3_⟩, hq⟩ := fs_okp_some hq
        refine fs_cV B hl.1 hP hS (k_MO_nameLetter hSt hM z2 z3 b0_ b1_ b2_ b3_) (fs_tb_at 1649 tw_1649 rfl) hM.1 rfl (fs_tb_at 1651 tw_1651 rfl) (fs_tb_at 55 tw_55 rfl) (fs_tb_at 96 tw_96 rfl) (fs_tb_at 1652 tw_1652 rfl) (by decide) (show (parseMethodDescriptor y_MO_nameLetter.desc).map (fun d => d.parameters.length) = some 2 by decide +kernel) rfl d_MO_name_27 ⟨Nat.le_trans (Nat.le_of_ble_eq_true rfl) hR.1, Nat.le_trans (Nat.le_of_ble_eq_true rfl) hR.2, Nat.zero_le _, Nat.zero_le _⟩ (fun v_ h_ H locs hc_ hP hS => ?_) (fun C_ a_ h_ H locs hc_ => absurd hc_.1 (fun h9 => by cases h9))
        obtain ⟨ev, hM, hf2⟩ := hc_
        cases ev
        have hf := hf.trans hf2
        rw [ke_MO_nameLetter] at hM
        refine W.widen (k := 0) (n := 0) (Nat.le_of_ble_eq_true rfl) (Nat.le_of_ble_eq_true rfl) ?_
        refine W.eq (g2 := F0 m 30 ls (.int ((p_MO_nameLetter M1 z2 z3).1) :: .int z1 :: .ref a :: [])) rfl ?_
        obtain ⟨R1150, eR1150, hq⟩ := fs_bind_some hq
        refine fs_cV B hl.1 hP hS (k_MO_insertAt hSt hM z1 ((p_MO_nameLetter M1 z2 z3).1) eR1150) (fs_tb_at 1832 tw_1832 rfl) hM.1 rfl (fs_tb_at 1834 tw_1834 rfl) (fs_tb_at 81 tw_81 rfl) (fs_tb_at 96 tw_96 rfl) (fs_tb_at 1835 tw_1835 rfl) (by decide) (show (parseMethodDescriptor y_MO_insertAt.desc).map (fun d => d.parameters.length) = some 2 by decide +kernel) rfl d_MO_name_30 ⟨Nat.le_trans (Nat.le_of_ble_eq_true rfl) hR.1, Nat.le_trans (Nat.le_of_ble_eq_true rfl) hR.2, Nat.zero_le _, Nat.zero_le _⟩ (fun v_ h_ H locs hc_ hP hS => ?_) (fun C_ a_ h_ H locs hc_ => absurd hc_.1 (fun h9 => by cases h9))
        obtain ⟨ev, hM, hf2⟩ := hc_
        cases ev
        have hf := hf.trans hf2
        refine W.widen (k := 0) (n := 0) (Nat.le_of_ble_eq_true rfl) (Nat.le_of_ble_eq_true rfl) ?_
        refine W.eq (g2 := F0 m 33 ls ([])) rfl ?_
        refine lv_iinc (v := z3 - 1) (lv' := [(3, .int (z3 - 1)), (0, .ref a), (1, .int z1), (2, .int z2)]) hx hb d_MO_name_33 hl (k := 3) rfl (fs_dec1 _) (by decide) rfl (fun ls hl => ?_)
        refine lv_goto (tgt := 9) hx hb d_MO_name_36 (by decide) ?_
        exact ih z1 z2 (z3 - 1) R1150 _ _ _ _ r hq hP hS hM hf (lv_sub hl [1, 2, 3, 0] rfl) kk
set_option maxHeartbeats 4000000 in
set_option maxRecDepth 100000 in
theorem k_MO_name {l : Launch} {s00 : State} {G : fs_G} (hSt : fs_St l s00 G) {h : fs_Hp} {a : Nat} {ad : Nat → Nat} {M : mo_S} (hM : mo_at G h a ad M) (x1 : Int32) (x2 : Int32) {r : mo_S} (hq : q_MO_name M x1 x2 = some r) : fs_Ct l s00 G y_MO_name (.code y_MO_name b_MO_name 4 none) { frames := 1, cells := 0, slots := 0, locals := 16 } [.ref a, .int x1, .int x2] h (fun o h' => o = .inl none ∧ mo_at G h' a ad r ∧ mo_fr a ad h h') := by
  refine fs_Ct.ofW hSt (by decide) ?_
  intro p e s m below meth c B hout hP
  obtain ⟨hx, hb, hr, hml, hown, hts, hlocks, hname, hK, hw, htr⟩ := id B
  have hown : s.vm.findClass "FormulaSheetModel" = some m.cls := hown
  have hS := hw.S
  have hA : ∀ q : Nat, s00.heap.size ≤ q → fs_A s00 q := fun _ h9 => h9
  generalize hH : s.heap = H at hP hS ⊢
  have hH0 : s.heap.size ≤ H.size := by rw [hH]; exact Nat.le_refl _
  have hl := lv_entry ([.ref a, .int x1, .int x2]) (n := 4) (Nat.le_of_ble_eq_true rfl)
  rw [lg_entry_eq]
  generalize (lg_sl ([.ref a, .int x1, .int x2]) ++ List.replicate (4 - (lg_sl ([.ref a, .int x1, .int x2])).length) Slot.unset).toArray = ls at hl ⊢
  have hl : lv_has ls 4 [(0, .ref a), (1, .int x1), (2, .int x2)] := hl
  have hf : mo_fr a ad h h := mo_fr.rf
  rw [q_MO_name] at hq
  refine lv_aload_n hx hb d_MO_name_0 rfl (lv_at hl 0 rfl) ?_
  refine lv_iload_n hx hb d_MO_name_1 rfl (lv_at hl 1 rfl) ?_
  refine lv_bipush (v := 40) hx hb d_MO_name_2 (by decide) ?_
  obtain ⟨R1147, eR1147, hq⟩ := fs_bind_some hq
  refine fs_cV B hl.1 hP hS (k_MO_insertAt hSt hM x1 40 eR1147) (fs_tb_at 1832 tw_1832 rfl) hM.1 rfl (fs_tb_at 1834 tw_1834 rfl) (fs_tb_at 81 tw_81 rfl) (fs_tb_at 96 tw_96 rfl) (fs_tb_at 1835 tw_1835 rfl) (by decide) (show (parseMethodDescriptor y_MO_insertAt.desc).map (fun d => d.parameters.length) = some 2 by decide +kernel) rfl d_MO_name_4 ⟨Nat.le_of_ble_eq_true rfl, Nat.le_of_ble_eq_true rfl, Nat.le_of_ble_eq_true rfl, Nat.le_of_ble_eq_true rfl⟩ (fun v_ h_ H locs hc_ hP hS => ?_) (fun C_ a_ h_ H locs hc_ => absurd hc_.1 (fun h9 => by cases h9))
  obtain ⟨ev, hM, hf2⟩ := hc_
  cases ev
  have hf := hf.trans hf2
  refine W.widen (k := 0) (n := 0) (Nat.le_of_ble_eq_true rfl) (Nat.le_of_ble_eq_true rfl) ?_
  refine W.eq (g2 := F0 m 7 ls ([])) rfl ?_
  refine lv_iconst (v := 2) hx hb d_MO_name_7 (by decide) ?_
  refine lv_istore_n (lv' := [(3, .int 2), (0, .ref a), (1, .int x1), (2, .int x2)]) hx hb d_MO_name_8 rfl hl (by decide) rfl (fun ls hl => ?_)
  obtain ⟨R1151, eR1151, hq⟩ := fs_bind_some hq
  refine l_MO_name_9 hSt B ⟨Nat.le_of_ble_eq_true rfl, Nat.le_of_ble_eq_true rfl⟩ 4 x1 x2 2 R1147 _ _ _ _ R1151 eR1151 hP hS hM hf (lv_sub hl [1, 2, 3, 0] rfl) (fun h_ H locs ls hP hS hM hf hl => ?_)
  refine lv_aload_n hx hb d_MO_name_39 rfl (lv_at hl 0 rfl) ?_
  refine lv_iload_n hx hb d_MO_name_40 rfl (lv_at hl 1 rfl) ?_
  refine lv_bipush (v := 64) hx hb d_MO_name_41 (by decide) ?_
  obtain ⟨R1152, eR1152, hq⟩ := fs_bind_some hq
  refine fs_cV B hl.1 hP hS (k_MO_insertAt hSt hM x1 64 eR1152) (fs_tb_at 1832 tw_1832 rfl) hM.1 rfl (fs_tb_at 1834 tw_1834 rfl) (fs_tb_at 81 tw_81 rfl) (fs_tb_at 96 tw_96 rfl) (fs_tb_at 1835 tw_1835 rfl) (by decide) (show (parseMethodDescriptor y_MO_insertAt.desc).map (fun d => d.parameters.length) = some 2 by decide +kernel) rfl d_MO_name_43 ⟨Nat.le_of_ble_eq_true rfl, Nat.le_of_ble_eq_true rfl, Nat.le_of_ble_eq_true rfl, Nat.le_of_ble_eq_true rfl⟩ (fun v_ h_ H locs hc_ hP hS => ?_) (fun C_ a_ h_ H locs hc_ => absurd hc_.1 (fun h9 => by cases h9))
  obtain ⟨ev, hM, hf2⟩ := hc_
  cases ev
  have hf := hf.trans hf2
  refine W.widen (k := 0) (n := 0) (Nat.le_of_ble_eq_true rfl) (Nat.le_of_ble_eq_true rfl) ?_
  refine W.eq (g2 := F0 m 46 ls ([])) rfl ?_
  cases hq
  exact fs_vret hx hb hr hlocks hw hP hS (by omega) (by omega) (⟨rfl, hM, hf⟩) d_MO_name_46
