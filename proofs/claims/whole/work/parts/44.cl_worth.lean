/-! Parts: what they are worth. -/
abbrev b_SH_isNaN : ByteArray := prog_1_method_19_code
def y_SH_isNaN : MethodName := ⟨"FormulaSheet", "isNaN", "(D)Z"⟩
theorem d_SH_isNaN_0 : decode b_SH_isNaN 0 = .ok (.dload_n 0, 1) := by decide +kernel
theorem d_SH_isNaN_1 : decode b_SH_isNaN 1 = .ok (.dload_n 0, 1) := by decide +kernel
theorem d_SH_isNaN_2 : decode b_SH_isNaN 2 = .ok (.dcmp .l, 1) := by decide +kernel
theorem d_SH_isNaN_3 : decode b_SH_isNaN 3 = .ok (.ifCond .eq 7, 3) := by decide +kernel
theorem d_SH_isNaN_6 : decode b_SH_isNaN 6 = .ok (.iconst 1, 1) := by decide +kernel
theorem d_SH_isNaN_7 : decode b_SH_isNaN 7 = .ok (.goto 4, 3) := by decide +kernel
theorem d_SH_isNaN_10 : decode b_SH_isNaN 10 = .ok (.iconst 0, 1) := by decide +kernel
theorem d_SH_isNaN_11 : decode b_SH_isNaN 11 = .ok (.ireturn, 1) := by decide +kernel
abbrev b_SH_workedOut : ByteArray := prog_1_method_20_code
def y_SH_workedOut : MethodName := ⟨"FormulaSheet", "workedOut", "(DCD)D"⟩
theorem d_SH_workedOut_0 : decode b_SH_workedOut 0 = .ok (.dload_n 0, 1) := by decide +kernel
theorem d_SH_workedOut_1 : decode b_SH_workedOut 1 = .ok (.invokestatic 75, 3) := by decide +kernel
theorem d_SH_workedOut_4 : decode b_SH_workedOut 4 = .ok (.ifCond .ne 22, 3) := by decide +kernel
theorem d_SH_workedOut_7 : decode b_SH_workedOut 7 = .ok (.dload_n 3, 1) := by decide +kernel
theorem d_SH_workedOut_8 : decode b_SH_workedOut 8 = .ok (.invokestatic 75, 3) := by decide +kernel
theorem d_SH_workedOut_11 : decode b_SH_workedOut 11 = .ok (.ifCond .ne 15, 3) := by decide +kernel
theorem d_SH_workedOut_14 : decode b_SH_workedOut 14 = .ok (.iload_n 2, 1) := by decide +kernel
theorem d_SH_workedOut_15 : decode b_SH_workedOut 15 = .ok (.bipush 47, 2) := by decide +kernel
theorem d_SH_workedOut_17 : decode b_SH_workedOut 17 = .ok (.if_icmp .ne 13, 3) := by decide +kernel
theorem d_SH_workedOut_20 : decode b_SH_workedOut 20 = .ok (.dload_n 3, 1) := by decide +kernel
theorem d_SH_workedOut_21 : decode b_SH_workedOut 21 = .ok (.dconst 0, 1) := by decide +kernel
theorem d_SH_workedOut_22 : decode b_SH_workedOut 22 = .ok (.dcmp .l, 1) := by decide +kernel
theorem d_SH_workedOut_23 : decode b_SH_workedOut 23 = .ok (.ifCond .ne 7, 3) := by decide +kernel
theorem d_SH_workedOut_26 : decode b_SH_workedOut 26 = .ok (.ldc2_w 178, 3) := by decide +kernel
theorem d_SH_workedOut_29 : decode b_SH_workedOut 29 = .ok (.dreturn, 1) := by decide +kernel
theorem d_SH_workedOut_30 : decode b_SH_workedOut 30 = .ok (.dload_n 0, 1) := by decide +kernel
theorem d_SH_workedOut_31 : decode b_SH_workedOut 31 = .ok (.invokestatic 180, 3) := by decide +kernel
theorem d_SH_workedOut_34 : decode b_SH_workedOut 34 = .ok (.ifCond .ne 10, 3) := by decide +kernel
theorem d_SH_workedOut_37 : decode b_SH_workedOut 37 = .ok (.dload_n 3, 1) := by decide +kernel
theorem d_SH_workedOut_38 : decode b_SH_workedOut 38 = .ok (.invokestatic 180, 3) := by decide +kernel
theorem d_SH_workedOut_41 : decode b_SH_workedOut 41 = .ok (.ifCond .eq 16, 3) := by decide +kernel
theorem d_SH_workedOut_44 : decode b_SH_workedOut 44 = .ok (.dload_n 0, 1) := by decide +kernel
theorem d_SH_workedOut_45 : decode b_SH_workedOut 45 = .ok (.invokestatic 180, 3) := by decide +kernel
theorem d_SH_workedOut_48 : decode b_SH_workedOut 48 = .ok (.ifCond .eq 7, 3) := by decide +kernel
theorem d_SH_workedOut_51 : decode b_SH_workedOut 51 = .ok (.dload_n 0, 1) := by decide +kernel
theorem d_SH_workedOut_52 : decode b_SH_workedOut 52 = .ok (.goto 4, 3) := by decide +kernel
theorem d_SH_workedOut_55 : decode b_SH_workedOut 55 = .ok (.dload_n 3, 1) := by decide +kernel
theorem d_SH_workedOut_56 : decode b_SH_workedOut 56 = .ok (.dreturn, 1) := by decide +kernel
theorem d_SH_workedOut_57 : decode b_SH_workedOut 57 = .ok (.iload_n 2, 1) := by decide +kernel
theorem d_SH_workedOut_58 : decode b_SH_workedOut 58 = .ok (.tableswitch 42 42 45 #[38, 30, 42, 34], 30) := by decide +kernel
theorem d_SH_workedOut_88 : decode b_SH_workedOut 88 = .ok (.dload_n 0, 1) := by decide +kernel
theorem d_SH_workedOut_89 : decode b_SH_workedOut 89 = .ok (.dload_n 3, 1) := by decide +kernel
theorem d_SH_workedOut_90 : decode b_SH_workedOut 90 = .ok (.dadd, 1) := by decide +kernel
theorem d_SH_workedOut_91 : decode b_SH_workedOut 91 = .ok (.dreturn, 1) := by decide +kernel
theorem d_SH_workedOut_92 : decode b_SH_workedOut 92 = .ok (.dload_n 0, 1) := by decide +kernel
theorem d_SH_workedOut_93 : decode b_SH_workedOut 93 = .ok (.dload_n 3, 1) := by decide +kernel
theorem d_SH_workedOut_94 : decode b_SH_workedOut 94 = .ok (.dsub, 1) := by decide +kernel
theorem d_SH_workedOut_95 : decode b_SH_workedOut 95 = .ok (.dreturn, 1) := by decide +kernel
theorem d_SH_workedOut_96 : decode b_SH_workedOut 96 = .ok (.dload_n 0, 1) := by decide +kernel
theorem d_SH_workedOut_97 : decode b_SH_workedOut 97 = .ok (.dload_n 3, 1) := by decide +kernel
theorem d_SH_workedOut_98 : decode b_SH_workedOut 98 = .ok (.dmul, 1) := by decide +kernel
theorem d_SH_workedOut_99 : decode b_SH_workedOut 99 = .ok (.dreturn, 1) := by decide +kernel
theorem d_SH_workedOut_100 : decode b_SH_workedOut 100 = .ok (.dload_n 0, 1) := by decide +kernel
theorem d_SH_workedOut_101 : decode b_SH_workedOut 101 = .ok (.dload_n 3, 1) := by decide +kernel
theorem d_SH_workedOut_102 : decode b_SH_workedOut 102 = .ok (.ddiv, 1) := by decide +kernel
theorem d_SH_workedOut_103 : decode b_SH_workedOut 103 = .ok (.dreturn, 1) := by decide +kernel
abbrev b_OV_gather : ByteArray := prog_8_method_14_code
def y_OV_gather : MethodName := ⟨"FormulaSheet$OverRange", "gather", "(LFormulaSheet$Cells;)I"⟩
theorem d_OV_gather_0 : decode b_OV_gather 0 = .ok (.iconst 0, 1) := by decide +kernel
theorem d_OV_gather_1 : decode b_OV_gather 1 = .ok (.istore_n 2, 1) := by decide +kernel
theorem d_OV_gather_2 : decode b_OV_gather 2 = .ok (.aload_n 0, 1) := by decide +kernel
theorem d_OV_gather_3 : decode b_OV_gather 3 = .ok (.invokevirtual 55, 3) := by decide +kernel
theorem d_OV_gather_6 : decode b_OV_gather 6 = .ok (.istore_n 3, 1) := by decide +kernel
theorem d_OV_gather_7 : decode b_OV_gather 7 = .ok (.iload_n 3, 1) := by decide +kernel
theorem d_OV_gather_8 : decode b_OV_gather 8 = .ok (.aload_n 0, 1) := by decide +kernel
theorem d_OV_gather_9 : decode b_OV_gather 9 = .ok (.invokevirtual 59, 3) := by decide +kernel
theorem d_OV_gather_12 : decode b_OV_gather 12 = .ok (.if_icmp .gt 65, 3) := by decide +kernel
theorem d_OV_gather_15 : decode b_OV_gather 15 = .ok (.aload_n 0, 1) := by decide +kernel
theorem d_OV_gather_16 : decode b_OV_gather 16 = .ok (.invokevirtual 62, 3) := by decide +kernel
theorem d_OV_gather_19 : decode b_OV_gather 19 = .ok (.istore 4, 2) := by decide +kernel
theorem d_OV_gather_21 : decode b_OV_gather 21 = .ok (.iload 4, 2) := by decide +kernel
theorem d_OV_gather_23 : decode b_OV_gather 23 = .ok (.aload_n 0, 1) := by decide +kernel
theorem d_OV_gather_24 : decode b_OV_gather 24 = .ok (.invokevirtual 65, 3) := by decide +kernel
theorem d_OV_gather_27 : decode b_OV_gather 27 = .ok (.if_icmp .gt 44, 3) := by decide +kernel
theorem d_OV_gather_30 : decode b_OV_gather 30 = .ok (.iload 4, 2) := by decide +kernel
theorem d_OV_gather_32 : decode b_OV_gather 32 = .ok (.bipush 8, 2) := by decide +kernel
theorem d_OV_gather_34 : decode b_OV_gather 34 = .ok (.imul, 1) := by decide +kernel
theorem d_OV_gather_35 : decode b_OV_gather 35 = .ok (.iload_n 3, 1) := by decide +kernel
theorem d_OV_gather_36 : decode b_OV_gather 36 = .ok (.iadd, 1) := by decide +kernel
theorem d_OV_gather_37 : decode b_OV_gather 37 = .ok (.istore 5, 2) := by decide +kernel
theorem d_OV_gather_39 : decode b_OV_gather 39 = .ok (.aload_n 1, 1) := by decide +kernel
theorem d_OV_gather_40 : decode b_OV_gather 40 = .ok (.getfield 121, 3) := by decide +kernel
theorem d_OV_gather_43 : decode b_OV_gather 43 = .ok (.iload 5, 2) := by decide +kernel
theorem d_OV_gather_45 : decode b_OV_gather 45 = .ok (.baload, 1) := by decide +kernel
theorem d_OV_gather_46 : decode b_OV_gather 46 = .ok (.ifCond .eq 19, 3) := by decide +kernel
theorem d_OV_gather_49 : decode b_OV_gather 49 = .ok (.aload_n 1, 1) := by decide +kernel
theorem d_OV_gather_50 : decode b_OV_gather 50 = .ok (.getfield 101, 3) := by decide +kernel
theorem d_OV_gather_53 : decode b_OV_gather 53 = .ok (.iload_n 2, 1) := by decide +kernel
theorem d_OV_gather_54 : decode b_OV_gather 54 = .ok (.aload_n 1, 1) := by decide +kernel
theorem d_OV_gather_55 : decode b_OV_gather 55 = .ok (.getfield 125, 3) := by decide +kernel
theorem d_OV_gather_58 : decode b_OV_gather 58 = .ok (.iload 5, 2) := by decide +kernel
theorem d_OV_gather_60 : decode b_OV_gather 60 = .ok (.daload, 1) := by decide +kernel
theorem d_OV_gather_61 : decode b_OV_gather 61 = .ok (.dastore, 1) := by decide +kernel
theorem d_OV_gather_62 : decode b_OV_gather 62 = .ok (.iinc 2 1, 3) := by decide +kernel
theorem d_OV_gather_65 : decode b_OV_gather 65 = .ok (.iinc 4 1, 3) := by decide +kernel
theorem d_OV_gather_68 : decode b_OV_gather 68 = .ok (.goto (-47), 3) := by decide +kernel
theorem d_OV_gather_71 : decode b_OV_gather 71 = .ok (.iinc 3 1, 3) := by decide +kernel
theorem d_OV_gather_74 : decode b_OV_gather 74 = .ok (.goto (-67), 3) := by decide +kernel
theorem d_OV_gather_77 : decode b_OV_gather 77 = .ok (.iload_n 2, 1) := by decide +kernel
theorem d_OV_gather_78 : decode b_OV_gather 78 = .ok (.ireturn, 1) := by decide +kernel
abbrev b_OV_sum : ByteArray := prog_8_method_15_code
def y_OV_sum : MethodName := ⟨"FormulaSheet$OverRange", "sum", "([DI)D"⟩
theorem d_OV_sum_0 : decode b_OV_sum 0 = .ok (.dconst 0, 1) := by decide +kernel
theorem d_OV_sum_1 : decode b_OV_sum 1 = .ok (.dstore_n 2, 1) := by decide +kernel
theorem d_OV_sum_2 : decode b_OV_sum 2 = .ok (.iconst 0, 1) := by decide +kernel
theorem d_OV_sum_3 : decode b_OV_sum 3 = .ok (.istore 4, 2) := by decide +kernel
theorem d_OV_sum_5 : decode b_OV_sum 5 = .ok (.iload 4, 2) := by decide +kernel
theorem d_OV_sum_7 : decode b_OV_sum 7 = .ok (.iload_n 1, 1) := by decide +kernel
theorem d_OV_sum_8 : decode b_OV_sum 8 = .ok (.if_icmp .ge 20, 3) := by decide +kernel
theorem d_OV_sum_11 : decode b_OV_sum 11 = .ok (.dload_n 2, 1) := by decide +kernel
theorem d_OV_sum_12 : decode b_OV_sum 12 = .ok (.bipush 43, 2) := by decide +kernel
theorem d_OV_sum_14 : decode b_OV_sum 14 = .ok (.aload_n 0, 1) := by decide +kernel
theorem d_OV_sum_15 : decode b_OV_sum 15 = .ok (.iload 4, 2) := by decide +kernel
theorem d_OV_sum_17 : decode b_OV_sum 17 = .ok (.daload, 1) := by decide +kernel
theorem d_OV_sum_18 : decode b_OV_sum 18 = .ok (.invokestatic 117, 3) := by decide +kernel
theorem d_OV_sum_21 : decode b_OV_sum 21 = .ok (.dstore_n 2, 1) := by decide +kernel
theorem d_OV_sum_22 : decode b_OV_sum 22 = .ok (.iinc 4 1, 3) := by decide +kernel
theorem d_OV_sum_25 : decode b_OV_sum 25 = .ok (.goto (-20), 3) := by decide +kernel
theorem d_OV_sum_28 : decode b_OV_sum 28 = .ok (.dload_n 2, 1) := by decide +kernel
theorem d_OV_sum_29 : decode b_OV_sum 29 = .ok (.dreturn, 1) := by decide +kernel
abbrev b_OV_extreme : ByteArray := prog_8_method_16_code
def y_OV_extreme : MethodName := ⟨"FormulaSheet$OverRange", "extreme", "([DI)D"⟩
theorem d_OV_extreme_0 : decode b_OV_extreme 0 = .ok (.ldc2_w 84, 3) := by decide +kernel
theorem d_OV_extreme_3 : decode b_OV_extreme 3 = .ok (.dstore_n 3, 1) := by decide +kernel
theorem d_OV_extreme_4 : decode b_OV_extreme 4 = .ok (.iconst 0, 1) := by decide +kernel
theorem d_OV_extreme_5 : decode b_OV_extreme 5 = .ok (.istore 5, 2) := by decide +kernel
theorem d_OV_extreme_7 : decode b_OV_extreme 7 = .ok (.iload 5, 2) := by decide +kernel
theorem d_OV_extreme_9 : decode b_OV_extreme 9 = .ok (.iload_n 2, 1) := by decide +kernel
theorem d_OV_extreme_10 : decode b_OV_extreme 10 = .ok (.if_icmp .ge 81, 3) := by decide +kernel
theorem d_OV_extreme_13 : decode b_OV_extreme 13 = .ok (.aload_n 1, 1) := by decide +kernel
theorem d_OV_extreme_14 : decode b_OV_extreme 14 = .ok (.iload 5, 2) := by decide +kernel
theorem d_OV_extreme_16 : decode b_OV_extreme 16 = .ok (.daload, 1) := by decide +kernel
theorem d_OV_extreme_17 : decode b_OV_extreme 17 = .ok (.invokestatic 128, 3) := by decide +kernel
theorem d_OV_extreme_20 : decode b_OV_extreme 20 = .ok (.ifCond .eq 7, 3) := by decide +kernel
theorem d_OV_extreme_23 : decode b_OV_extreme 23 = .ok (.ldc2_w 84, 3) := by decide +kernel
theorem d_OV_extreme_26 : decode b_OV_extreme 26 = .ok (.dreturn, 1) := by decide +kernel
theorem d_OV_extreme_27 : decode b_OV_extreme 27 = .ok (.aload_n 0, 1) := by decide +kernel
theorem d_OV_extreme_28 : decode b_OV_extreme 28 = .ok (.getfield 9, 3) := by decide +kernel
theorem d_OV_extreme_31 : decode b_OV_extreme 31 = .ok (.getstatic 95, 3) := by decide +kernel
theorem d_OV_extreme_34 : decode b_OV_extreme 34 = .ok (.if_acmp .ne 20, 3) := by decide +kernel
theorem d_OV_extreme_37 : decode b_OV_extreme 37 = .ok (.aload_n 1, 1) := by decide +kernel
theorem d_OV_extreme_38 : decode b_OV_extreme 38 = .ok (.iload 5, 2) := by decide +kernel
theorem d_OV_extreme_40 : decode b_OV_extreme 40 = .ok (.daload, 1) := by decide +kernel
theorem d_OV_extreme_41 : decode b_OV_extreme 41 = .ok (.dload_n 3, 1) := by decide +kernel
theorem d_OV_extreme_42 : decode b_OV_extreme 42 = .ok (.dcmp .g, 1) := by decide +kernel
theorem d_OV_extreme_43 : decode b_OV_extreme 43 = .ok (.ifCond .ge 7, 3) := by decide +kernel
theorem d_OV_extreme_46 : decode b_OV_extreme 46 = .ok (.iconst 1, 1) := by decide +kernel
theorem d_OV_extreme_47 : decode b_OV_extreme 47 = .ok (.goto 21, 3) := by decide +kernel
theorem d_OV_extreme_50 : decode b_OV_extreme 50 = .ok (.iconst 0, 1) := by decide +kernel
theorem d_OV_extreme_51 : decode b_OV_extreme 51 = .ok (.goto 17, 3) := by decide +kernel
theorem d_OV_extreme_54 : decode b_OV_extreme 54 = .ok (.aload_n 1, 1) := by decide +kernel
theorem d_OV_extreme_55 : decode b_OV_extreme 55 = .ok (.iload 5, 2) := by decide +kernel
theorem d_OV_extreme_57 : decode b_OV_extreme 57 = .ok (.daload, 1) := by decide +kernel
theorem d_OV_extreme_58 : decode b_OV_extreme 58 = .ok (.dload_n 3, 1) := by decide +kernel
theorem d_OV_extreme_59 : decode b_OV_extreme 59 = .ok (.dcmp .l, 1) := by decide +kernel
theorem d_OV_extreme_60 : decode b_OV_extreme 60 = .ok (.ifCond .le 7, 3) := by decide +kernel
theorem d_OV_extreme_63 : decode b_OV_extreme 63 = .ok (.iconst 1, 1) := by decide +kernel
theorem d_OV_extreme_64 : decode b_OV_extreme 64 = .ok (.goto 4, 3) := by decide +kernel
theorem d_OV_extreme_67 : decode b_OV_extreme 67 = .ok (.iconst 0, 1) := by decide +kernel
theorem d_OV_extreme_68 : decode b_OV_extreme 68 = .ok (.istore 6, 2) := by decide +kernel
theorem d_OV_extreme_70 : decode b_OV_extreme 70 = .ok (.iload 5, 2) := by decide +kernel
theorem d_OV_extreme_72 : decode b_OV_extreme 72 = .ok (.ifCond .eq 8, 3) := by decide +kernel
theorem d_OV_extreme_75 : decode b_OV_extreme 75 = .ok (.iload 6, 2) := by decide +kernel
theorem d_OV_extreme_77 : decode b_OV_extreme 77 = .ok (.ifCond .eq 8, 3) := by decide +kernel
theorem d_OV_extreme_80 : decode b_OV_extreme 80 = .ok (.aload_n 1, 1) := by decide +kernel
theorem d_OV_extreme_81 : decode b_OV_extreme 81 = .ok (.iload 5, 2) := by decide +kernel
theorem d_OV_extreme_83 : decode b_OV_extreme 83 = .ok (.daload, 1) := by decide +kernel
theorem d_OV_extreme_84 : decode b_OV_extreme 84 = .ok (.dstore_n 3, 1) := by decide +kernel
theorem d_OV_extreme_85 : decode b_OV_extreme 85 = .ok (.iinc 5 1, 3) := by decide +kernel
theorem d_OV_extreme_88 : decode b_OV_extreme 88 = .ok (.goto (-81), 3) := by decide +kernel
theorem d_OV_extreme_91 : decode b_OV_extreme 91 = .ok (.dload_n 3, 1) := by decide +kernel
theorem d_OV_extreme_92 : decode b_OV_extreme 92 = .ok (.dreturn, 1) := by decide +kernel
abbrev b_PA_holds : ByteArray := prog_9_method_5_code
def y_PA_holds : MethodName := ⟨"FormulaSheet$Pair", "holds", "(DD)Z"⟩
theorem d_PA_holds_0 : decode b_PA_holds 0 = .ok (.aload_n 0, 1) := by decide +kernel
theorem d_PA_holds_1 : decode b_PA_holds 1 = .ok (.getfield 9, 3) := by decide +kernel
theorem d_PA_holds_4 : decode b_PA_holds 4 = .ok (.lookupswitch 118 #[(35, 64), (38, 100), (60, 76), (61, 52), (62, 88)], 52) := by decide +kernel
theorem d_PA_holds_56 : decode b_PA_holds 56 = .ok (.dload_n 1, 1) := by decide +kernel
theorem d_PA_holds_57 : decode b_PA_holds 57 = .ok (.dload_n 3, 1) := by decide +kernel
theorem d_PA_holds_58 : decode b_PA_holds 58 = .ok (.dcmp .l, 1) := by decide +kernel
theorem d_PA_holds_59 : decode b_PA_holds 59 = .ok (.ifCond .ne 7, 3) := by decide +kernel
theorem d_PA_holds_62 : decode b_PA_holds 62 = .ok (.iconst 1, 1) := by decide +kernel
theorem d_PA_holds_63 : decode b_PA_holds 63 = .ok (.goto 4, 3) := by decide +kernel
theorem d_PA_holds_66 : decode b_PA_holds 66 = .ok (.iconst 0, 1) := by decide +kernel
theorem d_PA_holds_67 : decode b_PA_holds 67 = .ok (.ireturn, 1) := by decide +kernel
theorem d_PA_holds_68 : decode b_PA_holds 68 = .ok (.dload_n 1, 1) := by decide +kernel
theorem d_PA_holds_69 : decode b_PA_holds 69 = .ok (.dload_n 3, 1) := by decide +kernel
theorem d_PA_holds_70 : decode b_PA_holds 70 = .ok (.dcmp .l, 1) := by decide +kernel
theorem d_PA_holds_71 : decode b_PA_holds 71 = .ok (.ifCond .eq 7, 3) := by decide +kernel
theorem d_PA_holds_74 : decode b_PA_holds 74 = .ok (.iconst 1, 1) := by decide +kernel
theorem d_PA_holds_75 : decode b_PA_holds 75 = .ok (.goto 4, 3) := by decide +kernel
theorem d_PA_holds_78 : decode b_PA_holds 78 = .ok (.iconst 0, 1) := by decide +kernel
theorem d_PA_holds_79 : decode b_PA_holds 79 = .ok (.ireturn, 1) := by decide +kernel
theorem d_PA_holds_80 : decode b_PA_holds 80 = .ok (.dload_n 1, 1) := by decide +kernel
theorem d_PA_holds_81 : decode b_PA_holds 81 = .ok (.dload_n 3, 1) := by decide +kernel
theorem d_PA_holds_82 : decode b_PA_holds 82 = .ok (.dcmp .g, 1) := by decide +kernel
theorem d_PA_holds_83 : decode b_PA_holds 83 = .ok (.ifCond .ge 7, 3) := by decide +kernel
theorem d_PA_holds_86 : decode b_PA_holds 86 = .ok (.iconst 1, 1) := by decide +kernel
theorem d_PA_holds_87 : decode b_PA_holds 87 = .ok (.goto 4, 3) := by decide +kernel
theorem d_PA_holds_90 : decode b_PA_holds 90 = .ok (.iconst 0, 1) := by decide +kernel
theorem d_PA_holds_91 : decode b_PA_holds 91 = .ok (.ireturn, 1) := by decide +kernel
theorem d_PA_holds_92 : decode b_PA_holds 92 = .ok (.dload_n 1, 1) := by decide +kernel
theorem d_PA_holds_93 : decode b_PA_holds 93 = .ok (.dload_n 3, 1) := by decide +kernel
theorem d_PA_holds_94 : decode b_PA_holds 94 = .ok (.dcmp .l, 1) := by decide +kernel
theorem d_PA_holds_95 : decode b_PA_holds 95 = .ok (.ifCond .le 7, 3) := by decide +kernel
theorem d_PA_holds_98 : decode b_PA_holds 98 = .ok (.iconst 1, 1) := by decide +kernel
theorem d_PA_holds_99 : decode b_PA_holds 99 = .ok (.goto 4, 3) := by decide +kernel
theorem d_PA_holds_102 : decode b_PA_holds 102 = .ok (.iconst 0, 1) := by decide +kernel
theorem d_PA_holds_103 : decode b_PA_holds 103 = .ok (.ireturn, 1) := by decide +kernel
theorem d_PA_holds_104 : decode b_PA_holds 104 = .ok (.dload_n 1, 1) := by decide +kernel
theorem d_PA_holds_105 : decode b_PA_holds 105 = .ok (.dconst 0, 1) := by decide +kernel
theorem d_PA_holds_106 : decode b_PA_holds 106 = .ok (.dcmp .l, 1) := by decide +kernel
theorem d_PA_holds_107 : decode b_PA_holds 107 = .ok (.ifCond .eq 13, 3) := by decide +kernel
theorem d_PA_holds_110 : decode b_PA_holds 110 = .ok (.dload_n 3, 1) := by decide +kernel
theorem d_PA_holds_111 : decode b_PA_holds 111 = .ok (.dconst 0, 1) := by decide +kernel
theorem d_PA_holds_112 : decode b_PA_holds 112 = .ok (.dcmp .l, 1) := by decide +kernel
theorem d_PA_holds_113 : decode b_PA_holds 113 = .ok (.ifCond .eq 7, 3) := by decide +kernel
theorem d_PA_holds_116 : decode b_PA_holds 116 = .ok (.iconst 1, 1) := by decide +kernel
theorem d_PA_holds_117 : decode b_PA_holds 117 = .ok (.goto 4, 3) := by decide +kernel
theorem d_PA_holds_120 : decode b_PA_holds 120 = .ok (.iconst 0, 1) := by decide +kernel
theorem d_PA_holds_121 : decode b_PA_holds 121 = .ok (.ireturn, 1) := by decide +kernel
theorem d_PA_holds_122 : decode b_PA_holds 122 = .ok (.dload_n 1, 1) := by decide +kernel
theorem d_PA_holds_123 : decode b_PA_holds 123 = .ok (.dconst 0, 1) := by decide +kernel
theorem d_PA_holds_124 : decode b_PA_holds 124 = .ok (.dcmp .l, 1) := by decide +kernel
theorem d_PA_holds_125 : decode b_PA_holds 125 = .ok (.ifCond .ne 9, 3) := by decide +kernel
theorem d_PA_holds_128 : decode b_PA_holds 128 = .ok (.dload_n 3, 1) := by decide +kernel
theorem d_PA_holds_129 : decode b_PA_holds 129 = .ok (.dconst 0, 1) := by decide +kernel
theorem d_PA_holds_130 : decode b_PA_holds 130 = .ok (.dcmp .l, 1) := by decide +kernel
theorem d_PA_holds_131 : decode b_PA_holds 131 = .ok (.ifCond .eq 7, 3) := by decide +kernel
theorem d_PA_holds_134 : decode b_PA_holds 134 = .ok (.iconst 1, 1) := by decide +kernel
theorem d_PA_holds_135 : decode b_PA_holds 135 = .ok (.goto 4, 3) := by decide +kernel
theorem d_PA_holds_138 : decode b_PA_holds 138 = .ok (.iconst 0, 1) := by decide +kernel
theorem d_PA_holds_139 : decode b_PA_holds 139 = .ok (.ireturn, 1) := by decide +kernel
abbrev b_NU_worth : ByteArray := prog_7_method_3_code
def y_NU_worth : MethodName := ⟨"FormulaSheet$Numeral", "worth", "(LFormulaSheet$Cells;)D"⟩
theorem d_NU_worth_0 : decode b_NU_worth 0 = .ok (.aload_n 0, 1) := by decide +kernel
theorem d_NU_worth_1 : decode b_NU_worth 1 = .ok (.getfield 9, 3) := by decide +kernel
theorem d_NU_worth_4 : decode b_NU_worth 4 = .ok (.l2d, 1) := by decide +kernel
theorem d_NU_worth_5 : decode b_NU_worth 5 = .ok (.aload_n 0, 1) := by decide +kernel
theorem d_NU_worth_6 : decode b_NU_worth 6 = .ok (.invokevirtual 19, 3) := by decide +kernel
theorem d_NU_worth_9 : decode b_NU_worth 9 = .ok (.l2d, 1) := by decide +kernel
theorem d_NU_worth_10 : decode b_NU_worth 10 = .ok (.ddiv, 1) := by decide +kernel
theorem d_NU_worth_11 : decode b_NU_worth 11 = .ok (.dreturn, 1) := by decide +kernel
abbrev b_RE_worth : ByteArray := prog_11_method_6_code
def y_RE_worth : MethodName := ⟨"FormulaSheet$Reference", "worth", "(LFormulaSheet$Cells;)D"⟩
theorem d_RE_worth_0 : decode b_RE_worth 0 = .ok (.aload_n 0, 1) := by decide +kernel
theorem d_RE_worth_1 : decode b_RE_worth 1 = .ok (.getfield 32, 3) := by decide +kernel
theorem d_RE_worth_4 : decode b_RE_worth 4 = .ok (.ifCond .eq 7, 3) := by decide +kernel
theorem d_RE_worth_7 : decode b_RE_worth 7 = .ok (.ldc2_w 39, 3) := by decide +kernel
theorem d_RE_worth_10 : decode b_RE_worth 10 = .ok (.dreturn, 1) := by decide +kernel
theorem d_RE_worth_11 : decode b_RE_worth 11 = .ok (.aload_n 1, 1) := by decide +kernel
theorem d_RE_worth_12 : decode b_RE_worth 12 = .ok (.getfield 41, 3) := by decide +kernel
theorem d_RE_worth_15 : decode b_RE_worth 15 = .ok (.aload_n 0, 1) := by decide +kernel
theorem d_RE_worth_16 : decode b_RE_worth 16 = .ok (.invokevirtual 47, 3) := by decide +kernel
theorem d_RE_worth_19 : decode b_RE_worth 19 = .ok (.baload, 1) := by decide +kernel
theorem d_RE_worth_20 : decode b_RE_worth 20 = .ok (.ifCond .eq 15, 3) := by decide +kernel
theorem d_RE_worth_23 : decode b_RE_worth 23 = .ok (.aload_n 1, 1) := by decide +kernel
theorem d_RE_worth_24 : decode b_RE_worth 24 = .ok (.getfield 51, 3) := by decide +kernel
theorem d_RE_worth_27 : decode b_RE_worth 27 = .ok (.aload_n 0, 1) := by decide +kernel
theorem d_RE_worth_28 : decode b_RE_worth 28 = .ok (.invokevirtual 47, 3) := by decide +kernel
theorem d_RE_worth_31 : decode b_RE_worth 31 = .ok (.daload, 1) := by decide +kernel
theorem d_RE_worth_32 : decode b_RE_worth 32 = .ok (.goto 4, 3) := by decide +kernel
theorem d_RE_worth_35 : decode b_RE_worth 35 = .ok (.dconst 0, 1) := by decide +kernel
theorem d_RE_worth_36 : decode b_RE_worth 36 = .ok (.dreturn, 1) := by decide +kernel
abbrev b_SI_worth : ByteArray := prog_12_method_4_code
def y_SI_worth : MethodName := ⟨"FormulaSheet$Single", "worth", "(LFormulaSheet$Cells;)D"⟩
theorem d_SI_worth_0 : decode b_SI_worth 0 = .ok (.aload_n 0, 1) := by decide +kernel
theorem d_SI_worth_1 : decode b_SI_worth 1 = .ok (.getfield 18, 3) := by decide +kernel
theorem d_SI_worth_4 : decode b_SI_worth 4 = .ok (.iconst 0, 1) := by decide +kernel
theorem d_SI_worth_5 : decode b_SI_worth 5 = .ok (.aaload, 1) := by decide +kernel
theorem d_SI_worth_6 : decode b_SI_worth 6 = .ok (.aload_n 1, 1) := by decide +kernel
theorem d_SI_worth_7 : decode b_SI_worth 7 = .ok (.invokevirtual 22, 3) := by decide +kernel
theorem d_SI_worth_10 : decode b_SI_worth 10 = .ok (.dstore_n 2, 1) := by decide +kernel
theorem d_SI_worth_11 : decode b_SI_worth 11 = .ok (.dload_n 2, 1) := by decide +kernel
theorem d_SI_worth_12 : decode b_SI_worth 12 = .ok (.invokestatic 26, 3) := by decide +kernel
theorem d_SI_worth_15 : decode b_SI_worth 15 = .ok (.ifCond .eq 7, 3) := by decide +kernel
theorem d_SI_worth_18 : decode b_SI_worth 18 = .ok (.ldc2_w 30, 3) := by decide +kernel
theorem d_SI_worth_21 : decode b_SI_worth 21 = .ok (.dreturn, 1) := by decide +kernel
theorem d_SI_worth_22 : decode b_SI_worth 22 = .ok (.aload_n 0, 1) := by decide +kernel
theorem d_SI_worth_23 : decode b_SI_worth 23 = .ok (.getfield 9, 3) := by decide +kernel
theorem d_SI_worth_26 : decode b_SI_worth 26 = .ok (.bipush 33, 2) := by decide +kernel
theorem d_SI_worth_28 : decode b_SI_worth 28 = .ok (.if_icmp .ne 15, 3) := by decide +kernel
theorem d_SI_worth_31 : decode b_SI_worth 31 = .ok (.dload_n 2, 1) := by decide +kernel
theorem d_SI_worth_32 : decode b_SI_worth 32 = .ok (.dconst 0, 1) := by decide +kernel
theorem d_SI_worth_33 : decode b_SI_worth 33 = .ok (.dcmp .l, 1) := by decide +kernel
theorem d_SI_worth_34 : decode b_SI_worth 34 = .ok (.ifCond .ne 7, 3) := by decide +kernel
theorem d_SI_worth_37 : decode b_SI_worth 37 = .ok (.dconst 1, 1) := by decide +kernel
theorem d_SI_worth_38 : decode b_SI_worth 38 = .ok (.goto 4, 3) := by decide +kernel
theorem d_SI_worth_41 : decode b_SI_worth 41 = .ok (.dconst 0, 1) := by decide +kernel
theorem d_SI_worth_42 : decode b_SI_worth 42 = .ok (.dreturn, 1) := by decide +kernel
theorem d_SI_worth_43 : decode b_SI_worth 43 = .ok (.dload_n 2, 1) := by decide +kernel
theorem d_SI_worth_44 : decode b_SI_worth 44 = .ok (.invokestatic 32, 3) := by decide +kernel
theorem d_SI_worth_47 : decode b_SI_worth 47 = .ok (.ifCond .eq 7, 3) := by decide +kernel
theorem d_SI_worth_50 : decode b_SI_worth 50 = .ok (.dload_n 2, 1) := by decide +kernel
theorem d_SI_worth_51 : decode b_SI_worth 51 = .ok (.goto 5, 3) := by decide +kernel
theorem d_SI_worth_54 : decode b_SI_worth 54 = .ok (.dload_n 2, 1) := by decide +kernel
theorem d_SI_worth_55 : decode b_SI_worth 55 = .ok (.dneg, 1) := by decide +kernel
theorem d_SI_worth_56 : decode b_SI_worth 56 = .ok (.dreturn, 1) := by decide +kernel
def y_PT_worth : MethodName := ⟨"FormulaSheet$Part", "worth", "(LFormulaSheet$Cells;)D"⟩
abbrev b_PA_worth : ByteArray := prog_9_method_4_code
def y_PA_worth : MethodName := ⟨"FormulaSheet$Pair", "worth", "(LFormulaSheet$Cells;)D"⟩
theorem d_PA_worth_0 : decode b_PA_worth 0 = .ok (.aload_n 0, 1) := by decide +kernel
theorem d_PA_worth_1 : decode b_PA_worth 1 = .ok (.getfield 18, 3) := by decide +kernel
theorem d_PA_worth_4 : decode b_PA_worth 4 = .ok (.iconst 0, 1) := by decide +kernel
theorem d_PA_worth_5 : decode b_PA_worth 5 = .ok (.aaload, 1) := by decide +kernel
theorem d_PA_worth_6 : decode b_PA_worth 6 = .ok (.aload_n 1, 1) := by decide +kernel
theorem d_PA_worth_7 : decode b_PA_worth 7 = .ok (.invokevirtual 22, 3) := by decide +kernel
theorem d_PA_worth_10 : decode b_PA_worth 10 = .ok (.dstore_n 2, 1) := by decide +kernel
theorem d_PA_worth_11 : decode b_PA_worth 11 = .ok (.aload_n 0, 1) := by decide +kernel
theorem d_PA_worth_12 : decode b_PA_worth 12 = .ok (.getfield 18, 3) := by decide +kernel
theorem d_PA_worth_15 : decode b_PA_worth 15 = .ok (.iconst 1, 1) := by decide +kernel
theorem d_PA_worth_16 : decode b_PA_worth 16 = .ok (.aaload, 1) := by decide +kernel
theorem d_PA_worth_17 : decode b_PA_worth 17 = .ok (.aload_n 1, 1) := by decide +kernel
theorem d_PA_worth_18 : decode b_PA_worth 18 = .ok (.invokevirtual 22, 3) := by decide +kernel
theorem d_PA_worth_21 : decode b_PA_worth 21 = .ok (.dstore 4, 2) := by decide +kernel
theorem d_PA_worth_23 : decode b_PA_worth 23 = .ok (.aload_n 0, 1) := by decide +kernel
theorem d_PA_worth_24 : decode b_PA_worth 24 = .ok (.invokevirtual 26, 3) := by decide +kernel
theorem d_PA_worth_27 : decode b_PA_worth 27 = .ok (.istore 6, 2) := by decide +kernel
theorem d_PA_worth_29 : decode b_PA_worth 29 = .ok (.iload 6, 2) := by decide +kernel
theorem d_PA_worth_31 : decode b_PA_worth 31 = .ok (.iconst 2, 1) := by decide +kernel
theorem d_PA_worth_32 : decode b_PA_worth 32 = .ok (.if_icmp .eq 9, 3) := by decide +kernel
theorem d_PA_worth_35 : decode b_PA_worth 35 = .ok (.iload 6, 2) := by decide +kernel
theorem d_PA_worth_37 : decode b_PA_worth 37 = .ok (.iconst 3, 1) := by decide +kernel
theorem d_PA_worth_38 : decode b_PA_worth 38 = .ok (.if_icmp .ne 14, 3) := by decide +kernel
theorem d_PA_worth_41 : decode b_PA_worth 41 = .ok (.dload_n 2, 1) := by decide +kernel
theorem d_PA_worth_42 : decode b_PA_worth 42 = .ok (.aload_n 0, 1) := by decide +kernel
theorem d_PA_worth_43 : decode b_PA_worth 43 = .ok (.getfield 9, 3) := by decide +kernel
theorem d_PA_worth_46 : decode b_PA_worth 46 = .ok (.dload 4, 2) := by decide +kernel
theorem d_PA_worth_48 : decode b_PA_worth 48 = .ok (.invokestatic 30, 3) := by decide +kernel
theorem d_PA_worth_51 : decode b_PA_worth 51 = .ok (.dreturn, 1) := by decide +kernel
theorem d_PA_worth_52 : decode b_PA_worth 52 = .ok (.dload_n 2, 1) := by decide +kernel
theorem d_PA_worth_53 : decode b_PA_worth 53 = .ok (.invokestatic 34, 3) := by decide +kernel
theorem d_PA_worth_56 : decode b_PA_worth 56 = .ok (.ifCond .ne 11, 3) := by decide +kernel
theorem d_PA_worth_59 : decode b_PA_worth 59 = .ok (.dload 4, 2) := by decide +kernel
theorem d_PA_worth_61 : decode b_PA_worth 61 = .ok (.invokestatic 34, 3) := by decide +kernel
theorem d_PA_worth_64 : decode b_PA_worth 64 = .ok (.ifCond .eq 7, 3) := by decide +kernel
theorem d_PA_worth_67 : decode b_PA_worth 67 = .ok (.ldc2_w 38, 3) := by decide +kernel
theorem d_PA_worth_70 : decode b_PA_worth 70 = .ok (.dreturn, 1) := by decide +kernel
theorem d_PA_worth_71 : decode b_PA_worth 71 = .ok (.aload_n 0, 1) := by decide +kernel
theorem d_PA_worth_72 : decode b_PA_worth 72 = .ok (.dload_n 2, 1) := by decide +kernel
theorem d_PA_worth_73 : decode b_PA_worth 73 = .ok (.dload 4, 2) := by decide +kernel
theorem d_PA_worth_75 : decode b_PA_worth 75 = .ok (.invokevirtual 40, 3) := by decide +kernel
theorem d_PA_worth_78 : decode b_PA_worth 78 = .ok (.ifCond .eq 7, 3) := by decide +kernel
theorem d_PA_worth_81 : decode b_PA_worth 81 = .ok (.dconst 1, 1) := by decide +kernel
theorem d_PA_worth_82 : decode b_PA_worth 82 = .ok (.goto 4, 3) := by decide +kernel
theorem d_PA_worth_85 : decode b_PA_worth 85 = .ok (.dconst 0, 1) := by decide +kernel
theorem d_PA_worth_86 : decode b_PA_worth 86 = .ok (.dreturn, 1) := by decide +kernel
abbrev b_CA_worth : ByteArray := prog_2_method_4_code
def y_CA_worth : MethodName := ⟨"FormulaSheet$Call", "worth", "(LFormulaSheet$Cells;)D"⟩
theorem d_CA_worth_0 : decode b_CA_worth 0 = .ok (.aload_n 0, 1) := by decide +kernel
theorem d_CA_worth_1 : decode b_CA_worth 1 = .ok (.getfield 18, 3) := by decide +kernel
theorem d_CA_worth_4 : decode b_CA_worth 4 = .ok (.iconst 0, 1) := by decide +kernel
theorem d_CA_worth_5 : decode b_CA_worth 5 = .ok (.aaload, 1) := by decide +kernel
theorem d_CA_worth_6 : decode b_CA_worth 6 = .ok (.aload_n 1, 1) := by decide +kernel
theorem d_CA_worth_7 : decode b_CA_worth 7 = .ok (.invokevirtual 22, 3) := by decide +kernel
theorem d_CA_worth_10 : decode b_CA_worth 10 = .ok (.dstore_n 2, 1) := by decide +kernel
theorem d_CA_worth_11 : decode b_CA_worth 11 = .ok (.dload_n 2, 1) := by decide +kernel
theorem d_CA_worth_12 : decode b_CA_worth 12 = .ok (.invokestatic 26, 3) := by decide +kernel
theorem d_CA_worth_15 : decode b_CA_worth 15 = .ok (.ifCond .eq 7, 3) := by decide +kernel
theorem d_CA_worth_18 : decode b_CA_worth 18 = .ok (.ldc2_w 30, 3) := by decide +kernel
theorem d_CA_worth_21 : decode b_CA_worth 21 = .ok (.dreturn, 1) := by decide +kernel
theorem d_CA_worth_22 : decode b_CA_worth 22 = .ok (.aload_n 0, 1) := by decide +kernel
theorem d_CA_worth_23 : decode b_CA_worth 23 = .ok (.getfield 9, 3) := by decide +kernel
theorem d_CA_worth_26 : decode b_CA_worth 26 = .ok (.getstatic 32, 3) := by decide +kernel
theorem d_CA_worth_29 : decode b_CA_worth 29 = .ok (.if_acmp .ne 24, 3) := by decide +kernel
theorem d_CA_worth_32 : decode b_CA_worth 32 = .ok (.aload_n 0, 1) := by decide +kernel
theorem d_CA_worth_33 : decode b_CA_worth 33 = .ok (.getfield 18, 3) := by decide +kernel
theorem d_CA_worth_36 : decode b_CA_worth 36 = .ok (.dload_n 2, 1) := by decide +kernel
theorem d_CA_worth_37 : decode b_CA_worth 37 = .ok (.dconst 0, 1) := by decide +kernel
theorem d_CA_worth_38 : decode b_CA_worth 38 = .ok (.dcmp .l, 1) := by decide +kernel
theorem d_CA_worth_39 : decode b_CA_worth 39 = .ok (.ifCond .eq 7, 3) := by decide +kernel
theorem d_CA_worth_42 : decode b_CA_worth 42 = .ok (.iconst 1, 1) := by decide +kernel
theorem d_CA_worth_43 : decode b_CA_worth 43 = .ok (.goto 4, 3) := by decide +kernel
theorem d_CA_worth_46 : decode b_CA_worth 46 = .ok (.iconst 2, 1) := by decide +kernel
theorem d_CA_worth_47 : decode b_CA_worth 47 = .ok (.aaload, 1) := by decide +kernel
theorem d_CA_worth_48 : decode b_CA_worth 48 = .ok (.aload_n 1, 1) := by decide +kernel
theorem d_CA_worth_49 : decode b_CA_worth 49 = .ok (.invokevirtual 22, 3) := by decide +kernel
theorem d_CA_worth_52 : decode b_CA_worth 52 = .ok (.dreturn, 1) := by decide +kernel
theorem d_CA_worth_53 : decode b_CA_worth 53 = .ok (.aload_n 0, 1) := by decide +kernel
theorem d_CA_worth_54 : decode b_CA_worth 54 = .ok (.getfield 9, 3) := by decide +kernel
theorem d_CA_worth_57 : decode b_CA_worth 57 = .ok (.getstatic 37, 3) := by decide +kernel
theorem d_CA_worth_60 : decode b_CA_worth 60 = .ok (.if_acmp .ne 7, 3) := by decide +kernel
theorem d_CA_worth_63 : decode b_CA_worth 63 = .ok (.dload_n 2, 1) := by decide +kernel
theorem d_CA_worth_64 : decode b_CA_worth 64 = .ok (.d2l, 1) := by decide +kernel
theorem d_CA_worth_65 : decode b_CA_worth 65 = .ok (.l2d, 1) := by decide +kernel
theorem d_CA_worth_66 : decode b_CA_worth 66 = .ok (.dreturn, 1) := by decide +kernel
theorem d_CA_worth_67 : decode b_CA_worth 67 = .ok (.dload_n 2, 1) := by decide +kernel
theorem d_CA_worth_68 : decode b_CA_worth 68 = .ok (.dconst 0, 1) := by decide +kernel
theorem d_CA_worth_69 : decode b_CA_worth 69 = .ok (.dcmp .g, 1) := by decide +kernel
theorem d_CA_worth_70 : decode b_CA_worth 70 = .ok (.ifCond .ge 8, 3) := by decide +kernel
theorem d_CA_worth_73 : decode b_CA_worth 73 = .ok (.dload_n 2, 1) := by decide +kernel
theorem d_CA_worth_74 : decode b_CA_worth 74 = .ok (.dneg, 1) := by decide +kernel
theorem d_CA_worth_75 : decode b_CA_worth 75 = .ok (.goto 4, 3) := by decide +kernel
theorem d_CA_worth_78 : decode b_CA_worth 78 = .ok (.dload_n 2, 1) := by decide +kernel
theorem d_CA_worth_79 : decode b_CA_worth 79 = .ok (.dreturn, 1) := by decide +kernel
abbrev b_OV_worth : ByteArray := prog_8_method_13_code
def y_OV_worth : MethodName := ⟨"FormulaSheet$OverRange", "worth", "(LFormulaSheet$Cells;)D"⟩
theorem d_OV_worth_0 : decode b_OV_worth 0 = .ok (.aload_n 0, 1) := by decide +kernel
theorem d_OV_worth_1 : decode b_OV_worth 1 = .ok (.invokevirtual 51, 3) := by decide +kernel
theorem d_OV_worth_4 : decode b_OV_worth 4 = .ok (.ifCond .eq 7, 3) := by decide +kernel
theorem d_OV_worth_7 : decode b_OV_worth 7 = .ok (.ldc2_w 84, 3) := by decide +kernel
theorem d_OV_worth_10 : decode b_OV_worth 10 = .ok (.dreturn, 1) := by decide +kernel
theorem d_OV_worth_11 : decode b_OV_worth 11 = .ok (.aload_n 0, 1) := by decide +kernel
theorem d_OV_worth_12 : decode b_OV_worth 12 = .ok (.aload_n 1, 1) := by decide +kernel
theorem d_OV_worth_13 : decode b_OV_worth 13 = .ok (.invokevirtual 86, 3) := by decide +kernel
theorem d_OV_worth_16 : decode b_OV_worth 16 = .ok (.istore_n 2, 1) := by decide +kernel
theorem d_OV_worth_17 : decode b_OV_worth 17 = .ok (.aload_n 0, 1) := by decide +kernel
theorem d_OV_worth_18 : decode b_OV_worth 18 = .ok (.getfield 9, 3) := by decide +kernel
theorem d_OV_worth_21 : decode b_OV_worth 21 = .ok (.getstatic 90, 3) := by decide +kernel
theorem d_OV_worth_24 : decode b_OV_worth 24 = .ok (.if_acmp .ne 6, 3) := by decide +kernel
theorem d_OV_worth_27 : decode b_OV_worth 27 = .ok (.iload_n 2, 1) := by decide +kernel
theorem d_OV_worth_28 : decode b_OV_worth 28 = .ok (.i2d, 1) := by decide +kernel
theorem d_OV_worth_29 : decode b_OV_worth 29 = .ok (.dreturn, 1) := by decide +kernel
theorem d_OV_worth_30 : decode b_OV_worth 30 = .ok (.aload_n 0, 1) := by decide +kernel
theorem d_OV_worth_31 : decode b_OV_worth 31 = .ok (.getfield 9, 3) := by decide +kernel
theorem d_OV_worth_34 : decode b_OV_worth 34 = .ok (.getstatic 95, 3) := by decide +kernel
theorem d_OV_worth_37 : decode b_OV_worth 37 = .ok (.if_acmp .eq 13, 3) := by decide +kernel
theorem d_OV_worth_40 : decode b_OV_worth 40 = .ok (.aload_n 0, 1) := by decide +kernel
theorem d_OV_worth_41 : decode b_OV_worth 41 = .ok (.getfield 9, 3) := by decide +kernel
theorem d_OV_worth_44 : decode b_OV_worth 44 = .ok (.getstatic 98, 3) := by decide +kernel
theorem d_OV_worth_47 : decode b_OV_worth 47 = .ok (.if_acmp .ne 13, 3) := by decide +kernel
theorem d_OV_worth_50 : decode b_OV_worth 50 = .ok (.aload_n 0, 1) := by decide +kernel
theorem d_OV_worth_51 : decode b_OV_worth 51 = .ok (.aload_n 1, 1) := by decide +kernel
theorem d_OV_worth_52 : decode b_OV_worth 52 = .ok (.getfield 101, 3) := by decide +kernel
theorem d_OV_worth_55 : decode b_OV_worth 55 = .ok (.iload_n 2, 1) := by decide +kernel
theorem d_OV_worth_56 : decode b_OV_worth 56 = .ok (.invokevirtual 107, 3) := by decide +kernel
theorem d_OV_worth_59 : decode b_OV_worth 59 = .ok (.dreturn, 1) := by decide +kernel
theorem d_OV_worth_60 : decode b_OV_worth 60 = .ok (.aload_n 1, 1) := by decide +kernel
theorem d_OV_worth_61 : decode b_OV_worth 61 = .ok (.getfield 101, 3) := by decide +kernel
theorem d_OV_worth_64 : decode b_OV_worth 64 = .ok (.iload_n 2, 1) := by decide +kernel
theorem d_OV_worth_65 : decode b_OV_worth 65 = .ok (.invokestatic 111, 3) := by decide +kernel
theorem d_OV_worth_68 : decode b_OV_worth 68 = .ok (.dstore_n 3, 1) := by decide +kernel
theorem d_OV_worth_69 : decode b_OV_worth 69 = .ok (.aload_n 0, 1) := by decide +kernel
theorem d_OV_worth_70 : decode b_OV_worth 70 = .ok (.getfield 9, 3) := by decide +kernel
theorem d_OV_worth_73 : decode b_OV_worth 73 = .ok (.getstatic 114, 3) := by decide +kernel
theorem d_OV_worth_76 : decode b_OV_worth 76 = .ok (.if_acmp .ne 7, 3) := by decide +kernel
theorem d_OV_worth_79 : decode b_OV_worth 79 = .ok (.dload_n 3, 1) := by decide +kernel
theorem d_OV_worth_80 : decode b_OV_worth 80 = .ok (.goto 11, 3) := by decide +kernel
theorem d_OV_worth_83 : decode b_OV_worth 83 = .ok (.dload_n 3, 1) := by decide +kernel
theorem d_OV_worth_84 : decode b_OV_worth 84 = .ok (.bipush 47, 2) := by decide +kernel
theorem d_OV_worth_86 : decode b_OV_worth 86 = .ok (.iload_n 2, 1) := by decide +kernel
theorem d_OV_worth_87 : decode b_OV_worth 87 = .ok (.i2d, 1) := by decide +kernel
theorem d_OV_worth_88 : decode b_OV_worth 88 = .ok (.invokestatic 117, 3) := by decide +kernel
theorem d_OV_worth_91 : decode b_OV_worth 91 = .ok (.dreturn, 1) := by decide +kernel
theorem tw_10 : lw_tbl[10]? = some (Cond.selects "FormulaSheet$Numeral" ⟨"FormulaSheet$Numeral", "scale", "()J"⟩ ⟨"FormulaSheet$Numeral", "scale", "()J"⟩) := by decide +kernel
theorem tw_11 : lw_tbl[11]? = some (Cond.selects "FormulaSheet$OverRange" ⟨"FormulaSheet$OverRange", "gather", "(LFormulaSheet$Cells;)I"⟩ ⟨"FormulaSheet$OverRange", "gather", "(LFormulaSheet$Cells;)I"⟩) := by decide +kernel
theorem tw_12 : lw_tbl[12]? = some (Cond.selects "FormulaSheet$OverRange" ⟨"FormulaSheet$OverRange", "extreme", "([DI)D"⟩ ⟨"FormulaSheet$OverRange", "extreme", "([DI)D"⟩) := by decide +kernel
theorem tw_13 : lw_tbl[13]? = some (Cond.selects "FormulaSheet$Pair" ⟨"FormulaSheet$Pair", "holds", "(DD)Z"⟩ ⟨"FormulaSheet$Pair", "holds", "(DD)Z"⟩) := by decide +kernel
theorem tw_116 : lw_tbl[116]? = some (Jvm.Cond.initialized "FormulaSheet$Name") := by decide +kernel
theorem tw_181 : lw_tbl[181]? = some (Jvm.Cond.fieldLink "FormulaSheet$Reference" (41 : Nat) "FormulaSheet$Cells" "filled" "[Z") := by decide +kernel
theorem tw_183 : lw_tbl[183]? = some (Jvm.Cond.fieldLink "FormulaSheet$OverRange" (121 : Nat) "FormulaSheet$Cells" "filled" "[Z") := by decide +kernel
theorem tw_187 : lw_tbl[187]? = some (Jvm.Cond.fieldLink "FormulaSheet$Reference" (51 : Nat) "FormulaSheet$Cells" "values" "[D") := by decide +kernel
theorem tw_189 : lw_tbl[189]? = some (Jvm.Cond.fieldLink "FormulaSheet$OverRange" (125 : Nat) "FormulaSheet$Cells" "values" "[D") := by decide +kernel
theorem tw_193 : lw_tbl[193]? = some (Jvm.Cond.fieldLink "FormulaSheet$OverRange" (101 : Nat) "FormulaSheet$Cells" "gathered" "[D") := by decide +kernel
theorem tw_377 : lw_tbl[377]? = some (Jvm.Cond.declares ({ cls := "FormulaSheet$Part", name := "worth", desc := "(LFormulaSheet$Cells;)D" } : Jvm.MethodName)) := by decide +kernel
theorem tw_378 : lw_tbl[378]? = some (Jvm.Cond.sameMethod "FormulaSheet$Part" "FormulaSheet$Part" "worth" "(LFormulaSheet$Cells;)D") := by decide +kernel
theorem tw_379 : lw_tbl[379]? = some (Jvm.Cond.selects "FormulaSheet$Call" ({ cls := "FormulaSheet$Part", name := "worth", desc := "(LFormulaSheet$Cells;)D" } : Jvm.MethodName) ({ cls := "FormulaSheet$Call", name := "worth", desc := "(LFormulaSheet$Cells;)D" } : Jvm.MethodName)) := by decide +kernel
theorem tw_380 : lw_tbl[380]? = some (Jvm.Cond.instanceMethod ({ cls := "FormulaSheet$Call", name := "worth", desc := "(LFormulaSheet$Cells;)D" } : Jvm.MethodName)) := by decide +kernel
theorem tw_381 : lw_tbl[381]? = some (Jvm.Cond.code ({ cls := "FormulaSheet$Call", name := "worth", desc := "(LFormulaSheet$Cells;)D" } : Jvm.MethodName) prog_2_method_4_code (4 : Nat) (Option.some Jvm.ClassFile.FieldType.double)) := by decide +kernel
theorem tw_382 : lw_tbl[382]? = some (Jvm.Cond.methodLink "FormulaSheet$Call" (22 : Nat) ({ cls := "FormulaSheet$Part", name := "worth", desc := "(LFormulaSheet$Cells;)D" } : Jvm.MethodName)) := by decide +kernel
theorem tw_383 : lw_tbl[383]? = some (Jvm.Cond.instanceMethod ({ cls := "FormulaSheet$Numeral", name := "worth", desc := "(LFormulaSheet$Cells;)D" } : Jvm.MethodName)) := by decide +kernel
theorem tw_384 : lw_tbl[384]? = some (Jvm.Cond.code ({ cls := "FormulaSheet$Numeral", name := "worth", desc := "(LFormulaSheet$Cells;)D" } : Jvm.MethodName) prog_7_method_3_code (2 : Nat) (Option.some Jvm.ClassFile.FieldType.double)) := by decide +kernel
theorem tw_385 : lw_tbl[385]? = some (Jvm.Cond.methodLink "FormulaSheet$Numeral" (19 : Nat) ({ cls := "FormulaSheet$Numeral", name := "scale", desc := "()J" } : Jvm.MethodName)) := by decide +kernel
theorem tw_387 : lw_tbl[387]? = some (Jvm.Cond.instanceMethod ({ cls := "FormulaSheet$Numeral", name := "scale", desc := "()J" } : Jvm.MethodName)) := by decide +kernel
theorem tw_389 : lw_tbl[389]? = some (Jvm.Cond.code ({ cls := "FormulaSheet$Numeral", name := "scale", desc := "()J" } : Jvm.MethodName) prog_7_method_5_code (4 : Nat) (Option.some Jvm.ClassFile.FieldType.long)) := by decide +kernel
theorem tw_391 : lw_tbl[391]? = some (Jvm.Cond.instanceMethod ({ cls := "FormulaSheet$OverRange", name := "worth", desc := "(LFormulaSheet$Cells;)D" } : Jvm.MethodName)) := by decide +kernel
theorem tw_392 : lw_tbl[392]? = some (Jvm.Cond.code ({ cls := "FormulaSheet$OverRange", name := "worth", desc := "(LFormulaSheet$Cells;)D" } : Jvm.MethodName) prog_8_method_13_code (5 : Nat) (Option.some Jvm.ClassFile.FieldType.double)) := by decide +kernel
theorem tw_393 : lw_tbl[393]? = some (Jvm.Cond.constantDouble "FormulaSheet$OverRange" (84 : Nat) (4836865999795912704 : UInt64)) := by decide +kernel
theorem tw_394 : lw_tbl[394]? = some (Jvm.Cond.methodLink "FormulaSheet$OverRange" (86 : Nat) ({ cls := "FormulaSheet$OverRange", name := "gather", desc := "(LFormulaSheet$Cells;)I" } : Jvm.MethodName)) := by decide +kernel
theorem tw_396 : lw_tbl[396]? = some (Jvm.Cond.instanceMethod ({ cls := "FormulaSheet$OverRange", name := "gather", desc := "(LFormulaSheet$Cells;)I" } : Jvm.MethodName)) := by decide +kernel
theorem tw_397 : lw_tbl[397]? = some (Jvm.Cond.code ({ cls := "FormulaSheet$OverRange", name := "gather", desc := "(LFormulaSheet$Cells;)I" } : Jvm.MethodName) prog_8_method_14_code (6 : Nat) (Option.some Jvm.ClassFile.FieldType.int)) := by decide +kernel
theorem tw_398 : lw_tbl[398]? = some (Jvm.Cond.fieldLink "FormulaSheet$OverRange" (90 : Nat) "FormulaSheet$Name" "CNT" "LFormulaSheet$Name;") := by decide +kernel
theorem tw_399 : lw_tbl[399]? = some (Jvm.Cond.laysStatic "FormulaSheet$Name" "CNT" "LFormulaSheet$Name;") := by decide +kernel
theorem tw_400 : lw_tbl[400]? = some (Jvm.Cond.fieldLink "FormulaSheet$OverRange" (95 : Nat) "FormulaSheet$Name" "MIN" "LFormulaSheet$Name;") := by decide +kernel
theorem tw_401 : lw_tbl[401]? = some (Jvm.Cond.laysStatic "FormulaSheet$Name" "MIN" "LFormulaSheet$Name;") := by decide +kernel
theorem tw_402 : lw_tbl[402]? = some (Jvm.Cond.fieldLink "FormulaSheet$OverRange" (98 : Nat) "FormulaSheet$Name" "MAX" "LFormulaSheet$Name;") := by decide +kernel
theorem tw_403 : lw_tbl[403]? = some (Jvm.Cond.laysStatic "FormulaSheet$Name" "MAX" "LFormulaSheet$Name;") := by decide +kernel
theorem tw_404 : lw_tbl[404]? = some (Jvm.Cond.methodLink "FormulaSheet$OverRange" (107 : Nat) ({ cls := "FormulaSheet$OverRange", name := "extreme", desc := "([DI)D" } : Jvm.MethodName)) := by decide +kernel
theorem tw_406 : lw_tbl[406]? = some (Jvm.Cond.instanceMethod ({ cls := "FormulaSheet$OverRange", name := "extreme", desc := "([DI)D" } : Jvm.MethodName)) := by decide +kernel
theorem tw_407 : lw_tbl[407]? = some (Jvm.Cond.code ({ cls := "FormulaSheet$OverRange", name := "extreme", desc := "([DI)D" } : Jvm.MethodName) prog_8_method_16_code (7 : Nat) (Option.some Jvm.ClassFile.FieldType.double)) := by decide +kernel
theorem tw_408 : lw_tbl[408]? = some (Jvm.Cond.methodLinkNest "FormulaSheet$OverRange" (128 : Nat) ({ cls := "FormulaSheet", name := "isBad", desc := "(D)Z" } : Jvm.MethodName) "FormulaSheet") := by decide +kernel
theorem tw_409 : lw_tbl[409]? = some (Jvm.Cond.static ({ cls := "FormulaSheet", name := "isBad", desc := "(D)Z" } : Jvm.MethodName)) := by decide +kernel
theorem tw_410 : lw_tbl[410]? = some (Jvm.Cond.code ({ cls := "FormulaSheet", name := "isBad", desc := "(D)Z" } : Jvm.MethodName) prog_1_method_18_code (2 : Nat) (Option.some Jvm.ClassFile.FieldType.boolean)) := by decide +kernel
theorem tw_413 : lw_tbl[413]? = some (Jvm.Cond.methodLink "FormulaSheet$OverRange" (111 : Nat) ({ cls := "FormulaSheet$OverRange", name := "sum", desc := "([DI)D" } : Jvm.MethodName)) := by decide +kernel
theorem tw_414 : lw_tbl[414]? = some (Jvm.Cond.static ({ cls := "FormulaSheet$OverRange", name := "sum", desc := "([DI)D" } : Jvm.MethodName)) := by decide +kernel
theorem tw_415 : lw_tbl[415]? = some (Jvm.Cond.code ({ cls := "FormulaSheet$OverRange", name := "sum", desc := "([DI)D" } : Jvm.MethodName) prog_8_method_15_code (5 : Nat) (Option.some Jvm.ClassFile.FieldType.double)) := by decide +kernel
theorem tw_416 : lw_tbl[416]? = some (Jvm.Cond.methodLinkNest "FormulaSheet$OverRange" (117 : Nat) ({ cls := "FormulaSheet", name := "workedOut", desc := "(DCD)D" } : Jvm.MethodName) "FormulaSheet") := by decide +kernel
theorem tw_417 : lw_tbl[417]? = some (Jvm.Cond.static ({ cls := "FormulaSheet", name := "workedOut", desc := "(DCD)D" } : Jvm.MethodName)) := by decide +kernel
theorem tw_418 : lw_tbl[418]? = some (Jvm.Cond.code ({ cls := "FormulaSheet", name := "workedOut", desc := "(DCD)D" } : Jvm.MethodName) prog_1_method_20_code (5 : Nat) (Option.some Jvm.ClassFile.FieldType.double)) := by decide +kernel
theorem tw_419 : lw_tbl[419]? = some (Jvm.Cond.methodLink "FormulaSheet" (75 : Nat) ({ cls := "FormulaSheet", name := "isBad", desc := "(D)Z" } : Jvm.MethodName)) := by decide +kernel
theorem tw_420 : lw_tbl[420]? = some (Jvm.Cond.constantDouble "FormulaSheet" (178 : Nat) (4836865999795912704 : UInt64)) := by decide +kernel
theorem tw_421 : lw_tbl[421]? = some (Jvm.Cond.methodLink "FormulaSheet" (180 : Nat) ({ cls := "FormulaSheet", name := "isNaN", desc := "(D)Z" } : Jvm.MethodName)) := by decide +kernel
theorem tw_422 : lw_tbl[422]? = some (Jvm.Cond.static ({ cls := "FormulaSheet", name := "isNaN", desc := "(D)Z" } : Jvm.MethodName)) := by decide +kernel
theorem tw_423 : lw_tbl[423]? = some (Jvm.Cond.code ({ cls := "FormulaSheet", name := "isNaN", desc := "(D)Z" } : Jvm.MethodName) prog_1_method_19_code (2 : Nat) (Option.some Jvm.ClassFile.FieldType.boolean)) := by decide +kernel
theorem tw_424 : lw_tbl[424]? = some (Jvm.Cond.fieldLink "FormulaSheet$OverRange" (114 : Nat) "FormulaSheet$Name" "SUM" "LFormulaSheet$Name;") := by decide +kernel
theorem tw_425 : lw_tbl[425]? = some (Jvm.Cond.laysStatic "FormulaSheet$Name" "SUM" "LFormulaSheet$Name;") := by decide +kernel
theorem tw_426 : lw_tbl[426]? = some (Jvm.Cond.instanceMethod ({ cls := "FormulaSheet$Pair", name := "worth", desc := "(LFormulaSheet$Cells;)D" } : Jvm.MethodName)) := by decide +kernel
theorem tw_427 : lw_tbl[427]? = some (Jvm.Cond.code ({ cls := "FormulaSheet$Pair", name := "worth", desc := "(LFormulaSheet$Cells;)D" } : Jvm.MethodName) prog_9_method_4_code (7 : Nat) (Option.some Jvm.ClassFile.FieldType.double)) := by decide +kernel
theorem tw_428 : lw_tbl[428]? = some (Jvm.Cond.methodLink "FormulaSheet$Pair" (22 : Nat) ({ cls := "FormulaSheet$Part", name := "worth", desc := "(LFormulaSheet$Cells;)D" } : Jvm.MethodName)) := by decide +kernel
theorem tw_429 : lw_tbl[429]? = some (Jvm.Cond.instanceMethod ({ cls := "FormulaSheet$Reference", name := "worth", desc := "(LFormulaSheet$Cells;)D" } : Jvm.MethodName)) := by decide +kernel
theorem tw_430 : lw_tbl[430]? = some (Jvm.Cond.code ({ cls := "FormulaSheet$Reference", name := "worth", desc := "(LFormulaSheet$Cells;)D" } : Jvm.MethodName) prog_11_method_6_code (2 : Nat) (Option.some Jvm.ClassFile.FieldType.double)) := by decide +kernel
theorem tw_431 : lw_tbl[431]? = some (Jvm.Cond.constantDouble "FormulaSheet$Reference" (39 : Nat) (4836865999795912704 : UInt64)) := by decide +kernel
theorem tw_432 : lw_tbl[432]? = some (Jvm.Cond.instanceMethod ({ cls := "FormulaSheet$Single", name := "worth", desc := "(LFormulaSheet$Cells;)D" } : Jvm.MethodName)) := by decide +kernel
theorem tw_433 : lw_tbl[433]? = some (Jvm.Cond.code ({ cls := "FormulaSheet$Single", name := "worth", desc := "(LFormulaSheet$Cells;)D" } : Jvm.MethodName) prog_12_method_4_code (4 : Nat) (Option.some Jvm.ClassFile.FieldType.double)) := by decide +kernel
theorem tw_434 : lw_tbl[434]? = some (Jvm.Cond.methodLink "FormulaSheet$Single" (22 : Nat) ({ cls := "FormulaSheet$Part", name := "worth", desc := "(LFormulaSheet$Cells;)D" } : Jvm.MethodName)) := by decide +kernel
theorem tw_435 : lw_tbl[435]? = some (Jvm.Cond.methodLinkNest "FormulaSheet$Single" (26 : Nat) ({ cls := "FormulaSheet", name := "isBad", desc := "(D)Z" } : Jvm.MethodName) "FormulaSheet") := by decide +kernel
theorem tw_436 : lw_tbl[436]? = some (Jvm.Cond.constantDouble "FormulaSheet$Single" (30 : Nat) (4836865999795912704 : UInt64)) := by decide +kernel
theorem tw_437 : lw_tbl[437]? = some (Jvm.Cond.methodLinkNest "FormulaSheet$Single" (32 : Nat) ({ cls := "FormulaSheet", name := "isNaN", desc := "(D)Z" } : Jvm.MethodName) "FormulaSheet") := by decide +kernel
theorem tw_438 : lw_tbl[438]? = some (Jvm.Cond.methodLink "FormulaSheet$Pair" (26 : Nat) ({ cls := "FormulaSheet$Pair", name := "rule", desc := "()I" } : Jvm.MethodName)) := by decide +kernel
theorem tw_440 : lw_tbl[440]? = some (Jvm.Cond.selects "FormulaSheet$Pair" ({ cls := "FormulaSheet$Pair", name := "rule", desc := "()I" } : Jvm.MethodName) ({ cls := "FormulaSheet$Pair", name := "rule", desc := "()I" } : Jvm.MethodName)) := by decide +kernel
theorem tw_442 : lw_tbl[442]? = some (Jvm.Cond.methodLinkNest "FormulaSheet$Pair" (30 : Nat) ({ cls := "FormulaSheet", name := "workedOut", desc := "(DCD)D" } : Jvm.MethodName) "FormulaSheet") := by decide +kernel
theorem tw_443 : lw_tbl[443]? = some (Jvm.Cond.methodLinkNest "FormulaSheet$Pair" (34 : Nat) ({ cls := "FormulaSheet", name := "isBad", desc := "(D)Z" } : Jvm.MethodName) "FormulaSheet") := by decide +kernel
theorem tw_444 : lw_tbl[444]? = some (Jvm.Cond.constantDouble "FormulaSheet$Pair" (38 : Nat) (4836865999795912704 : UInt64)) := by decide +kernel
theorem tw_445 : lw_tbl[445]? = some (Jvm.Cond.methodLink "FormulaSheet$Pair" (40 : Nat) ({ cls := "FormulaSheet$Pair", name := "holds", desc := "(DD)Z" } : Jvm.MethodName)) := by decide +kernel
theorem tw_447 : lw_tbl[447]? = some (Jvm.Cond.instanceMethod ({ cls := "FormulaSheet$Pair", name := "holds", desc := "(DD)Z" } : Jvm.MethodName)) := by decide +kernel
theorem tw_449 : lw_tbl[449]? = some (Jvm.Cond.code ({ cls := "FormulaSheet$Pair", name := "holds", desc := "(DD)Z" } : Jvm.MethodName) prog_9_method_5_code (5 : Nat) (Option.some Jvm.ClassFile.FieldType.boolean)) := by decide +kernel
theorem tw_450 : lw_tbl[450]? = some (Jvm.Cond.methodLinkNest "FormulaSheet$Call" (26 : Nat) ({ cls := "FormulaSheet", name := "isBad", desc := "(D)Z" } : Jvm.MethodName) "FormulaSheet") := by decide +kernel
theorem tw_451 : lw_tbl[451]? = some (Jvm.Cond.constantDouble "FormulaSheet$Call" (30 : Nat) (4836865999795912704 : UInt64)) := by decide +kernel
theorem tw_452 : lw_tbl[452]? = some (Jvm.Cond.fieldLink "FormulaSheet$Call" (32 : Nat) "FormulaSheet$Name" "IF" "LFormulaSheet$Name;") := by decide +kernel
theorem tw_453 : lw_tbl[453]? = some (Jvm.Cond.laysStatic "FormulaSheet$Name" "IF" "LFormulaSheet$Name;") := by decide +kernel
theorem tw_454 : lw_tbl[454]? = some (Jvm.Cond.fieldLink "FormulaSheet$Call" (37 : Nat) "FormulaSheet$Name" "INT" "LFormulaSheet$Name;") := by decide +kernel
theorem tw_455 : lw_tbl[455]? = some (Jvm.Cond.laysStatic "FormulaSheet$Name" "INT" "LFormulaSheet$Name;") := by decide +kernel
theorem tw_456 : lw_tbl[456]? = some (Jvm.Cond.selects "FormulaSheet$Numeral" ({ cls := "FormulaSheet$Part", name := "worth", desc := "(LFormulaSheet$Cells;)D" } : Jvm.MethodName) ({ cls := "FormulaSheet$Numeral", name := "worth", desc := "(LFormulaSheet$Cells;)D" } : Jvm.MethodName)) := by decide +kernel
theorem tw_457 : lw_tbl[457]? = some (Jvm.Cond.selects "FormulaSheet$OverRange" ({ cls := "FormulaSheet$Part", name := "worth", desc := "(LFormulaSheet$Cells;)D" } : Jvm.MethodName) ({ cls := "FormulaSheet$OverRange", name := "worth", desc := "(LFormulaSheet$Cells;)D" } : Jvm.MethodName)) := by decide +kernel
theorem tw_458 : lw_tbl[458]? = some (Jvm.Cond.selects "FormulaSheet$Pair" ({ cls := "FormulaSheet$Part", name := "worth", desc := "(LFormulaSheet$Cells;)D" } : Jvm.MethodName) ({ cls := "FormulaSheet$Pair", name := "worth", desc := "(LFormulaSheet$Cells;)D" } : Jvm.MethodName)) := by decide +kernel
theorem tw_459 : lw_tbl[459]? = some (Jvm.Cond.selects "FormulaSheet$Reference" ({ cls := "FormulaSheet$Part", name := "worth", desc := "(LFormulaSheet$Cells;)D" } : Jvm.MethodName) ({ cls := "FormulaSheet$Reference", name := "worth", desc := "(LFormulaSheet$Cells;)D" } : Jvm.MethodName)) := by decide +kernel
theorem tw_460 : lw_tbl[460]? = some (Jvm.Cond.selects "FormulaSheet$Single" ({ cls := "FormulaSheet$Part", name := "worth", desc := "(LFormulaSheet$Cells;)D" } : Jvm.MethodName) ({ cls := "FormulaSheet$Single", name := "worth", desc := "(LFormulaSheet$Cells;)D" } : Jvm.MethodName)) := by decide +kernel
theorem tw_674 : lw_tbl[674]? = some (Jvm.Cond.fieldLink "FormulaSheet$Call" (18 : Nat) "FormulaSheet$Call" "inner" "[LFormulaSheet$Part;") := by decide +kernel
theorem tw_675 : lw_tbl[675]? = some (Jvm.Cond.sameField "FormulaSheet$Call" "FormulaSheet$Part" "inner" "[LFormulaSheet$Part;") := by decide +kernel
theorem tw_676 : lw_tbl[676]? = some (Jvm.Cond.fieldLink "FormulaSheet$Pair" (18 : Nat) "FormulaSheet$Pair" "inner" "[LFormulaSheet$Part;") := by decide +kernel
theorem tw_677 : lw_tbl[677]? = some (Jvm.Cond.sameField "FormulaSheet$Pair" "FormulaSheet$Part" "inner" "[LFormulaSheet$Part;") := by decide +kernel
theorem tw_678 : lw_tbl[678]? = some (Jvm.Cond.fieldLink "FormulaSheet$Single" (18 : Nat) "FormulaSheet$Single" "inner" "[LFormulaSheet$Part;") := by decide +kernel
theorem tw_679 : lw_tbl[679]? = some (Jvm.Cond.sameField "FormulaSheet$Single" "FormulaSheet$Part" "inner" "[LFormulaSheet$Part;") := by decide +kernel
def w_SH_isNaN (E : fs_E) (h : fs_Hp) (x1 : UInt64) (Post : fs_Ps) : Prop := (if (Op.cmpValue (FP.dcmp x1 x1) .l) = 0 then Post (.inl (some (.int 0))) h else Post (.inl (some (.int 1))) h)
set_option maxHeartbeats 4000000 in
set_option maxRecDepth 100000 in
theorem kw_SH_isNaN {l : Launch} {s00 : State} {E : fs_E} (hE : fs_SE l s00 E) {h : fs_Hp} {x1 : UInt64} {Post : fs_Ps} (hq : w_SH_isNaN E h x1 Post) : fs_Ct l s00 E.1 y_SH_isNaN (.code y_SH_isNaN b_SH_isNaN 2 (some .boolean)) { frames := 0, cells := 0, slots := 0, locals := 0 } [.double x1] h Post := by
  refine fs_Ct.ofR hE.1 (by decide) ?_
  intro p e R s m below meth c hRf hRl hRc hRs B hout hP
  skip
  obtain ⟨hx, hb, hr, hml, hown, hts, hlocks, hname, hK, hw, htr⟩ := id B
  have hown : s.vm.findClass "FormulaSheet" = some m.cls := hown
  have hS := hw.S
  have hl := lv_entry ([.double x1]) (n := 2) (Nat.le_of_ble_eq_true rfl)
  rw [lg_entry_eq]
  generalize (lg_sl ([.double x1]) ++ List.replicate (2 - (lg_sl ([.double x1])).length) Slot.unset).toArray = ls at hl ⊢
  have hl : lv_has ls 2 [(0, .double x1)] := hl
  unfold w_SH_isNaN at hq
  refine lv_dload_n hx hb d_SH_isNaN_0 rfl (lv_at hl 0 rfl) ?_
  refine lv_dload_n hx hb d_SH_isNaN_1 rfl (lv_at hl 0 rfl) ?_
  refine lv_dcmp hx hb d_SH_isNaN_2 ?_
  refine lv_if_eq (tgt := 10) hx hb d_SH_isNaN_3 (by decide) (fun c_101 => ?_) (fun c_101 => ?_)
  · have hq := fs_wifp c_101 hq
    refine lv_iconst (v := 0) hx hb d_SH_isNaN_10 (by decide) ?_
    exact fs_iret hx hb hr hlocks hw hP hS (by decide) (Nat.le_refl _) (Nat.le_refl _) hq d_SH_isNaN_11
  · have hq := fs_wifn c_101 hq
    refine lv_iconst (v := 1) hx hb d_SH_isNaN_6 (by decide) ?_
    refine lv_goto (tgt := 11) hx hb d_SH_isNaN_7 (by decide) ?_
    exact fs_iret hx hb hr hlocks hw hP hS (by decide) (Nat.le_refl _) (Nat.le_refl _) hq d_SH_isNaN_11
def w_SH_workedOut_J44 (E : fs_E) (Post : fs_Ps) (z0 : UInt64) (z3 : UInt64) (h1 : fs_Hp) : Prop := w_SH_isNaN E h1 z0 (fs_ki (fun x102 h101 => (if x102 = 0 then Post (.inl (some (.double z3))) h101 else Post (.inl (some (.double z0))) h101)) (fun C_ h_ => Post (.inr C_) h_))
def w_SH_workedOut_J30 (E : fs_E) (Post : fs_Ps) (z0 : UInt64) (z2 : Int32) (z3 : UInt64) (h1 : fs_Hp) : Prop := w_SH_isNaN E h1 z0 (fs_ki (fun x105 h104 => (if x105 = 0 then w_SH_isNaN E h104 z3 (fs_ki (fun x108 h107 => (if x108 = 0 then (if z2 = 42 then vf_n64 (FP.dmul z0 z3) ∧ (Post (.inl (some (.double (FP.dmul z0 z3)))) h107) else (if z2 = 43 then vf_n64 (FP.dadd z0 z3) ∧ (Post (.inl (some (.double (FP.dadd z0 z3)))) h107) else (if z2 = 45 then vf_n64 (FP.dsub z0 z3) ∧ (Post (.inl (some (.double (FP.dsub z0 z3)))) h107) else vf_n64 (FP.ddiv z0 z3) ∧ (Post (.inl (some (.double (FP.ddiv z0 z3)))) h107)))) else w_SH_workedOut_J44 E Post z0 z3 h107)) (fun C_ h_ => Post (.inr C_) h_)) else w_SH_workedOut_J44 E Post z0 z3 h104)) (fun C_ h_ => Post (.inr C_) h_))
def w_SH_workedOut (E : fs_E) (h : fs_Hp) (x1 : UInt64) (x2 : Int32) (x3 : UInt64) (Post : fs_Ps) : Prop := w_SH_isBad E h x1 (fs_ki (fun x114 h113 => (if x114 = 0 then w_SH_isBad E h113 x3 (fs_ki (fun x117 h116 => (if x117 = 0 then (if x2 = 47 then (if (Op.cmpValue (FP.dcmp x3 FP.dconst0) .l) = 0 then Post (.inl (some (.double 4836865999795912704))) h116 else w_SH_workedOut_J30 E Post x1 x2 x3 h116) else w_SH_workedOut_J30 E Post x1 x2 x3 h116) else Post (.inl (some (.double 4836865999795912704))) h116)) (fun C_ h_ => Post (.inr C_) h_)) else Post (.inl (some (.double 4836865999795912704))) h113)) (fun C_ h_ => Post (.inr C_) h_))
set_option maxHeartbeats 4000000 in
set_option maxRecDepth 100000 in
theorem kw_SH_workedOut {l : Launch} {s00 : State} {E : fs_E} (hE : fs_SE l s00 E) {h : fs_Hp} {x1 : UInt64} {x2 : Int32} {x3 : UInt64} {Post : fs_Ps} (hq : w_SH_workedOut E h x1 x2 x3 Post) : fs_Ct l s00 E.1 y_SH_workedOut (.code y_SH_workedOut b_SH_workedOut 5 (some .double)) { frames := 1, cells := 0, slots := 0, locals := 13 } [.double x1, .int x2, .double x3] h Post := by
  refine fs_Ct.ofR hE.1 (by decide) ?_
  intro p e R s m below meth c hRf hRl hRc hRs B hout hP
  skip
  obtain ⟨hx, hb, hr, hml, hown, hts, hlocks, hname, hK, hw, htr⟩ := id B
  have hown : s.vm.findClass "FormulaSheet" = some m.cls := hown
  have hS := hw.S
  have hJ44 : ∀ (z0 : UInt64) (z3 : UInt64) (h1 : fs_Hp) (H : Heap) (locs : List Loc) (ls : Array Slot), w_SH_workedOut_J44 E Post z0 z3 h1 → fs_P E.1.1 fs_cl (fs_A s00) h1 H → va_S (fs_A s00) s00.heap H locs → lv_has ls 5 [(0, .double z0), (3, .double z3)] → W p l e R s m ([.double x1, .int x2, .double x3] : List Value).toArray below meth c H locs 0 0 (fx_MQ below (fs_Qc s00 E.1 Post) ([.double x1, .int x2, .double x3] : List Value).toArray s 0 0 (fs_A s00)) (F0 m 44 ls ([])) := by
    intro z0 z3 h1 H locs ls hq hP hS hl
    unfold w_SH_workedOut_J44 at hq
    refine lv_dload_n hx hb d_SH_workedOut_44 rfl (lv_at hl 0 rfl) ?_
    refine fs_cS B hl.1 hP hS (kw_SH_isNaN hE hq) (fs_tb_at 421 tw_421 rfl) (fs_tb_at 422 tw_422 rfl) (fs_tb_at 88 tw_88 rfl) (fs_tb_at 423 tw_423 rfl) (by decide) (show (parseMethodDescriptor y_SH_isNaN.desc).map (fun d => d.parameters.length) = some 1 by decide +kernel) rfl d_SH_workedOut_45 (fs_rm (k := 0) (by omega) (by omega) (by omega) (by omega) rfl) (fun v_ h101 H locs hq hP hS => ?_) (fun C_ a_ h_ H locs hq hP hS hX => fs_out (hout _) hlocks hw hP hS hX (Nat.le_of_ble_eq_true rfl) (Nat.le_of_ble_eq_true rfl) hq)
    refine fs_cs (k := 0) (n := 0) rfl rfl ?_
    replace hq := fs_ki_some hq
    obtain ⟨x102, rfl, hq⟩ := hq
    refine W.eq (g2 := F0 m 48 ls (.int x102 :: [])) rfl ?_
    refine lv_if_eq (tgt := 55) hx hb d_SH_workedOut_48 (by decide) (fun c_103 => ?_) (fun c_103 => ?_)
    · have hq := fs_wifp c_103 hq
      refine lv_dload_n hx hb d_SH_workedOut_55 rfl (lv_at hl 1 rfl) ?_
      exact fs_dret hx hb hr hlocks hw hP hS (Nat.le_refl _) (Nat.le_refl _) hq d_SH_workedOut_56
    · have hq := fs_wifn c_103 hq
      refine lv_dload_n hx hb d_SH_workedOut_51 rfl (lv_at hl 0 rfl) ?_
      refine lv_goto (tgt := 56) hx hb d_SH_workedOut_52 (by decide) ?_
      exact fs_dret hx hb hr hlocks hw hP hS (Nat.le_refl _) (Nat.le_refl _) hq d_SH_workedOut_56
  have hJ30 : ∀ (z0 : UInt64) (z2 : Int32) (z3 : UInt64) (h1 : fs_Hp) (H : Heap) (locs : List Loc) (ls : Array Slot), w_SH_workedOut_J30 E Post z0 z2 z3 h1 → fs_P E.1.1 fs_cl (fs_A s00) h1 H → va_S (fs_A s00) s00.heap H locs → lv_has ls 5 [(0, .double z0), (2, .int z2), (3, .double z3)] → W p l e R s m ([.double x1, .int x2, .double x3] : List Value).toArray below meth c H locs 0 0 (fx_MQ below (fs_Qc s00 E.1 Post) ([.double x1, .int x2, .double x3] : List Value).toArray s 0 0 (fs_A s00)) (F0 m 30 ls ([])) := by
    intro z0 z2 z3 h1 H locs ls hq hP hS hl
    unfold w_SH_workedOut_J30 at hq
    refine lv_dload_n hx hb d_SH_workedOut_30 rfl (lv_at hl 0 rfl) ?_
    refine fs_cS B hl.1 hP hS (kw_SH_isNaN hE hq) (fs_tb_at 421 tw_421 rfl) (fs_tb_at 422 tw_422 rfl) (fs_tb_at 88 tw_88 rfl) (fs_tb_at 423 tw_423 rfl) (by decide) (show (parseMethodDescriptor y_SH_isNaN.desc).map (fun d => d.parameters.length) = some 1 by decide +kernel) rfl d_SH_workedOut_31 (fs_rm (k := 0) (by omega) (by omega) (by omega) (by omega) rfl) (fun v_ h104 H locs hq hP hS => ?_) (fun C_ a_ h_ H locs hq hP hS hX => fs_out (hout _) hlocks hw hP hS hX (Nat.le_of_ble_eq_true rfl) (Nat.le_of_ble_eq_true rfl) hq)
    refine fs_cs (k := 0) (n := 0) rfl rfl ?_
    replace hq := fs_ki_some hq
    obtain ⟨x105, rfl, hq⟩ := hq
    refine W.eq (g2 := F0 m 34 ls (.int x105 :: [])) rfl ?_
    refine lv_if_ne (tgt := 44) hx hb d_SH_workedOut_34 (by decide) (fun c_106 => ?_) (fun c_106 => ?_)
    · have hq := fs_wifn c_106 hq
      exact hJ44 z0 z3 _ _ _ _ hq hP hS (show lv_has ls 5 [(0, .double z0), (3, .double z3)] from lv_sub hl [0, 2] rfl)
    · have hq := fs_wifp c_106 hq
      refine lv_dload_n hx hb d_SH_workedOut_37 rfl (lv_at hl 2 rfl) ?_
      refine fs_cS B hl.1 hP hS (kw_SH_isNaN hE hq) (fs_tb_at 421 tw_421 rfl) (fs_tb_at 422 tw_422 rfl) (fs_tb_at 88 tw_88 rfl) (fs_tb_at 423 tw_423 rfl) (by decide) (show (parseMethodDescriptor y_SH_isNaN.desc).map (fun d => d.parameters.length) = some 1 by decide +kernel) rfl d_SH_workedOut_38 (fs_rm (k := 0) (by omega) (by omega) (by omega) (by omega) rfl) (fun v_ h107 H locs hq hP hS => ?_) (fun C_ a_ h_ H locs hq hP hS hX => fs_out (hout _) hlocks hw hP hS hX (Nat.le_of_ble_eq_true rfl) (Nat.le_of_ble_eq_true rfl) hq)
      refine fs_cs (k := 0) (n := 0) rfl rfl ?_
      replace hq := fs_ki_some hq
      obtain ⟨x108, rfl, hq⟩ := hq
      refine W.eq (g2 := F0 m 41 ls (.int x108 :: [])) rfl ?_
      refine lv_if_eq (tgt := 57) hx hb d_SH_workedOut_41 (by decide) (fun c_109 => ?_) (fun c_109 => ?_)
      · have hq := fs_wifp c_109 hq
        refine lv_iload_n hx hb d_SH_workedOut_57 rfl (lv_at hl 1 rfl) ?_
        by_cases c_110 : z2 = 42
        · have hq := fs_wifp c_110 hq
          refine lv_tableIn (off := 38) (tgt := 96) hx hb d_SH_workedOut_58 (by rw [c_110]; decide) (by rw [c_110]; decide) (by rw [c_110]; decide) (by decide) ?_
          refine lv_dload_n hx hb d_SH_workedOut_96 rfl (lv_at hl 0 rfl) ?_
          refine lv_dload_n hx hb d_SH_workedOut_97 rfl (lv_at hl 2 rfl) ?_
          obtain ⟨hk_, hq⟩ := hq
          refine lv_dmul hx hb d_SH_workedOut_98 hk_ ?_
          exact fs_dret hx hb hr hlocks hw hP hS (Nat.le_refl _) (Nat.le_refl _) hq d_SH_workedOut_99
        · have hq := fs_wifn c_110 hq
          by_cases c_111 : z2 = 43
          · have hq := fs_wifp c_111 hq
            refine lv_tableIn (off := 30) (tgt := 88) hx hb d_SH_workedOut_58 (by rw [c_111]; decide) (by rw [c_111]; decide) (by rw [c_111]; decide) (by decide) ?_
            refine lv_dload_n hx hb d_SH_workedOut_88 rfl (lv_at hl 0 rfl) ?_
            refine lv_dload_n hx hb d_SH_workedOut_89 rfl (lv_at hl 2 rfl) ?_
            obtain ⟨hk_, hq⟩ := hq
            refine lv_dadd hx hb d_SH_workedOut_90 hk_ ?_
            exact fs_dret hx hb hr hlocks hw hP hS (Nat.le_refl _) (Nat.le_refl _) hq d_SH_workedOut_91
          · have hq := fs_wifn c_111 hq
            by_cases c_112 : z2 = 45
            · have hq := fs_wifp c_112 hq
              refine lv_tableIn (off := 34) (tgt := 92) hx hb d_SH_workedOut_58 (by rw [c_112]; decide) (by rw [c_112]; decide) (by rw [c_112]; decide) (by decide) ?_
              refine lv_dload_n hx hb d_SH_workedOut_92 rfl (lv_at hl 0 rfl) ?_
              refine lv_dload_n hx hb d_SH_workedOut_93 rfl (lv_at hl 2 rfl) ?_
              obtain ⟨hk_, hq⟩ := hq
              refine lv_dsub hx hb d_SH_workedOut_94 hk_ ?_
              exact fs_dret hx hb hr hlocks hw hP hS (Nat.le_refl _) (Nat.le_refl _) hq d_SH_workedOut_95
            · have hq := fs_wifn c_112 hq
              have hd_ : ¬ Int32.toInt z2 < 42 → ¬ 45 < Int32.toInt z2 → (#[38, 30, 42, 34] : Array Int)[(Int32.toInt z2 - 42).toNat]? = some 42 := by
                intro h1_ h2_
                have key : ∀ n : Nat, n < 4 → n = 0 ∨ n = 1 ∨ n = 3 ∨ (#[38, 30, 42, 34] : Array Int)[n]? = some 42 := by decide
                have hn_ : (Int32.toInt z2 - 42).toNat < 4 := by omega
                rcases key _ hn_ with h_ | h_ | h_ | h_
                · exact absurd (Int32.toInt_inj.mp (by rw [show Int32.toInt 42 = 42 by decide]; omega)) c_110
                · exact absurd (Int32.toInt_inj.mp (by rw [show Int32.toInt 43 = 43 by decide]; omega)) c_111
                · exact absurd (Int32.toInt_inj.mp (by rw [show Int32.toInt 45 = 45 by decide]; omega)) c_112
                · exact h_
              refine fs_tabD (tgt := 100) hx hb d_SH_workedOut_58 hd_ (by decide) ?_
              refine lv_dload_n hx hb d_SH_workedOut_100 rfl (lv_at hl 0 rfl) ?_
              refine lv_dload_n hx hb d_SH_workedOut_101 rfl (lv_at hl 2 rfl) ?_
              obtain ⟨hk_, hq⟩ := hq
              refine lv_ddiv hx hb d_SH_workedOut_102 hk_ ?_
              exact fs_dret hx hb hr hlocks hw hP hS (Nat.le_refl _) (Nat.le_refl _) hq d_SH_workedOut_103
      · have hq := fs_wifn c_109 hq
        exact hJ44 z0 z3 _ _ _ _ hq hP hS (show lv_has ls 5 [(0, .double z0), (3, .double z3)] from lv_sub hl [0, 2] rfl)
  have hl := lv_entry ([.double x1, .int x2, .double x3]) (n := 5) (Nat.le_of_ble_eq_true rfl)
  rw [lg_entry_eq]
  generalize (lg_sl ([.double x1, .int x2, .double x3]) ++ List.replicate (5 - (lg_sl ([.double x1, .int x2, .double x3])).length) Slot.unset).toArray = ls at hl ⊢
  have hl : lv_has ls 5 [(0, .double x1), (2, .int x2), (3, .double x3)] := hl
  unfold w_SH_workedOut at hq
  refine lv_dload_n hx hb d_SH_workedOut_0 rfl (lv_at hl 0 rfl) ?_
  refine fs_cS B hl.1 hP hS (kw_SH_isBad hE hq) (fs_tb_at 419 tw_419 rfl) (fs_tb_at 409 tw_409 rfl) (fs_tb_at 88 tw_88 rfl) (fs_tb_at 410 tw_410 rfl) (by decide) (show (parseMethodDescriptor y_SH_isBad.desc).map (fun d => d.parameters.length) = some 1 by decide +kernel) rfl d_SH_workedOut_1 (fs_rm (k := 0) (by omega) (by omega) (by omega) (by omega) rfl) (fun v_ h113 H locs hq hP hS => ?_) (fun C_ a_ h_ H locs hq hP hS hX => fs_out (hout _) hlocks hw hP hS hX (Nat.le_of_ble_eq_true rfl) (Nat.le_of_ble_eq_true rfl) hq)
  refine fs_cs (k := 0) (n := 0) rfl rfl ?_
  replace hq := fs_ki_some hq
  obtain ⟨x114, rfl, hq⟩ := hq
  refine W.eq (g2 := F0 m 4 ls (.int x114 :: [])) rfl ?_
  refine lv_if_ne (tgt := 26) hx hb d_SH_workedOut_4 (by decide) (fun c_115 => ?_) (fun c_115 => ?_)
  · have hq := fs_wifn c_115 hq
    refine lv_ldc2d (v := 4836865999795912704) hx hb hown (hts _ (fs_tb_at 420 tw_420 rfl)) d_SH_workedOut_26 ?_
    exact fs_dret hx hb hr hlocks hw hP hS (Nat.le_refl _) (Nat.le_refl _) hq d_SH_workedOut_29
  · have hq := fs_wifp c_115 hq
    refine lv_dload_n hx hb d_SH_workedOut_7 rfl (lv_at hl 2 rfl) ?_
    refine fs_cS B hl.1 hP hS (kw_SH_isBad hE hq) (fs_tb_at 419 tw_419 rfl) (fs_tb_at 409 tw_409 rfl) (fs_tb_at 88 tw_88 rfl) (fs_tb_at 410 tw_410 rfl) (by decide) (show (parseMethodDescriptor y_SH_isBad.desc).map (fun d => d.parameters.length) = some 1 by decide +kernel) rfl d_SH_workedOut_8 (fs_rm (k := 0) (by omega) (by omega) (by omega) (by omega) rfl) (fun v_ h116 H locs hq hP hS => ?_) (fun C_ a_ h_ H locs hq hP hS hX => fs_out (hout _) hlocks hw hP hS hX (Nat.le_of_ble_eq_true rfl) (Nat.le_of_ble_eq_true rfl) hq)
    refine fs_cs (k := 0) (n := 0) rfl rfl ?_
    replace hq := fs_ki_some hq
    obtain ⟨x117, rfl, hq⟩ := hq
    refine W.eq (g2 := F0 m 11 ls (.int x117 :: [])) rfl ?_
    refine lv_if_ne (tgt := 26) hx hb d_SH_workedOut_11 (by decide) (fun c_118 => ?_) (fun c_118 => ?_)
    · have hq := fs_wifn c_118 hq
      refine lv_ldc2d (v := 4836865999795912704) hx hb hown (hts _ (fs_tb_at 420 tw_420 rfl)) d_SH_workedOut_26 ?_
      exact fs_dret hx hb hr hlocks hw hP hS (Nat.le_refl _) (Nat.le_refl _) hq d_SH_workedOut_29
    · have hq := fs_wifp c_118 hq
      refine lv_iload_n hx hb d_SH_workedOut_14 rfl (lv_at hl 1 rfl) ?_
      refine lv_bipush (v := 47) hx hb d_SH_workedOut_15 (by decide) ?_
      refine lv_icmp_ne (tgt := 30) hx hb d_SH_workedOut_17 (by decide) (fun c_119 => ?_) (fun c_119 => ?_)
      · have hq := fs_wifn c_119 hq
        exact hJ30 x1 x2 x3 _ _ _ _ hq hP hS (show lv_has ls 5 [(0, .double x1), (2, .int x2), (3, .double x3)] from lv_sub hl [0, 1, 2] rfl)
      · have hq := fs_wifp c_119 hq
        refine lv_dload_n hx hb d_SH_workedOut_20 rfl (lv_at hl 2 rfl) ?_
        refine lv_dconst0 hx hb d_SH_workedOut_21 ?_
        refine lv_dcmp hx hb d_SH_workedOut_22 ?_
        refine lv_if_ne (tgt := 30) hx hb d_SH_workedOut_23 (by decide) (fun c_120 => ?_) (fun c_120 => ?_)
        · have hq := fs_wifn c_120 hq
          exact hJ30 x1 x2 x3 _ _ _ _ hq hP hS (show lv_has ls 5 [(0, .double x1), (2, .int x2), (3, .double x3)] from lv_sub hl [0, 1, 2] rfl)
        · have hq := fs_wifp c_120 hq
          refine lv_ldc2d (v := 4836865999795912704) hx hb hown (hts _ (fs_tb_at 420 tw_420 rfl)) d_SH_workedOut_26 ?_
          exact fs_dret hx hb hr hlocks hw hP hS (Nat.le_refl _) (Nat.le_refl _) hq d_SH_workedOut_29
def w_OV_gather_L21 (E : fs_E) (K : Int32 → fs_Hp → Prop) (Post : fs_Ps) : Nat → Nat → Nat → Int32 → Int32 → Int32 → fs_Hp → Prop
  | 0 => fun _ _ _ _ _ _ => False
  | n + 1 => fun z0 z1 z2 z3 z4 h1 => fs_isc h1 z0 9 ∧ (w_OV_bottom E h1 z0 (fs_ki (fun x109 h108 => (if x109 < z4 then K z2 h108 else fs_gr h108 z1 2 0 (fun a111 => fs_ai h108 a111 (E.1.2 3) ((z4 * 8) + z3) (fun x112 => (if x112 = 0 then (w_OV_gather_L21 E K Post n) z0 z1 z2 z3 (z4 + 1) h108 else fs_gr h108 z1 2 4 (fun a114 => fs_gr h108 z1 2 2 (fun a115 => fs_ad h108 a115 (E.1.2 2) ((z4 * 8) + z3) (fun x116 => fs_sd h108 a114 (E.1.2 2) z2 x116 (fun h117 => (w_OV_gather_L21 E K Post n) z0 z1 (z2 + 1) z3 (z4 + 1) h117))))))))) (fun C_ h_ => Post (.inr C_) h_)))
def w_OV_gather_L7 (E : fs_E) (K : Int32 → fs_Hp → Prop) (Post : fs_Ps) : Nat → Nat → Nat → Int32 → Int32 → fs_Hp → Prop
  | 0 => fun _ _ _ _ _ => False
  | n + 1 => fun z0 z1 z2 z3 h1 => fs_isc h1 z0 9 ∧ (w_OV_right E h1 z0 (fs_ki (fun x104 h103 => (if x104 < z3 then K z2 h103 else fs_isc h103 z0 9 ∧ (w_OV_top E h103 z0 (fs_ki (fun x107 h106 => (∃ n120 : Nat, w_OV_gather_L21 E (fun y118 h119 => (w_OV_gather_L7 E K Post n) z0 z1 y118 (z3 + 1) h119) Post n120 z0 z1 z2 z3 x107 h106)) (fun C_ h_ => Post (.inr C_) h_))))) (fun C_ h_ => Post (.inr C_) h_)))
def w_OV_gather (E : fs_E) (h : fs_Hp) (a0 : Nat) (x1 : Nat) (Post : fs_Ps) : Prop := fs_isc h a0 9 ∧ (w_OV_left E h a0 (fs_ki (fun x102 h101 => (∃ n123 : Nat, w_OV_gather_L7 E (fun y121 h122 => Post (.inl (some (.int y121))) h122) Post n123 a0 x1 0 x102 h101)) (fun C_ h_ => Post (.inr C_) h_)))
set_option maxHeartbeats 4000000 in
set_option maxRecDepth 100000 in
theorem lw_w_OV_gather_21 {p : Program} {l : Launch} {e : Env} {R : Room} {s : State} {m : MethodId} {args : Array Value} {below : List Frame} {meth : Method} {c : Code} {s00 : State} {E : fs_E} {Post : fs_Ps} (hE : fs_SE l s00 E) (B : fs_B p l e s m args meth c s00 E.1 y_OV_gather b_OV_gather 6 (some .int)) (hout : ∀ pc, ∀ x ∈ c.exceptionTable.toList, covers x pc = false) (hRf : 2 ≤ R.frames) (hRl : 26 ≤ R.locals) (K : Int32 → fs_Hp → Prop) : ∀ (n : Nat) (z0 : Nat) (z1 : Nat) (z2 : Int32) (z3 : Int32) (z4 : Int32) (h1 : fs_Hp) (H : Heap) (locs : List Loc) (ls : Array Slot), w_OV_gather_L21 E K Post n z0 z1 z2 z3 z4 h1 → fs_P E.1.1 fs_cl (fs_A s00) h1 H → va_S (fs_A s00) s00.heap H locs → lv_has ls 6 [(0, .ref z0), (1, .ref z1), (2, .int z2), (3, .int z3), (4, .int z4)] → (∀ (y2 : Int32) (h' : fs_Hp) (H : Heap) (locs : List Loc) (ls : Array Slot), K y2 h' → fs_P E.1.1 fs_cl (fs_A s00) h' H → va_S (fs_A s00) s00.heap H locs → lv_has ls 6 [(0, .ref z0), (1, .ref z1), (2, .int y2), (3, .int z3)] → W p l e R s m args below meth c H locs 0 0 (fx_MQ below (fs_Qc s00 E.1 Post) args s 0 0 (fs_A s00)) (F0 m 71 ls [])) → W p l e R s m args below meth c H locs 0 0 (fx_MQ below (fs_Qc s00 E.1 Post) args s 0 0 (fs_A s00)) (F0 m 21 ls []) := by
  obtain ⟨hx, hb, hr, hml, hown, hts, hlocks, hname, hK, hw, htr⟩ := id B
  have hown : s.vm.findClass "FormulaSheet$OverRange" = some m.cls := hown
  intro n
  induction n with
  | zero => intro z0 z1 z2 z3 z4 h1 H locs ls hq; exact False.elim hq
  | succ n ih =>
    intro z0 z1 z2 z3 z4 h1 H locs ls hq hP hS hl kk
    rw [w_OV_gather_L21] at hq
    refine lv_iload hx hb d_OV_gather_21 (lv_at hl 4 rfl) ?_
    refine lv_aload_n hx hb d_OV_gather_23 rfl (lv_at hl 0 rfl) ?_
    obtain ⟨hi_, hq⟩ := hq
    obtain ⟨fs_, he_⟩ := fs_isc_some hi_
    refine fs_cV B hl.1 hP hS (kw_OV_bottom hE hq) (fs_tb_at 320 tw_320 rfl) he_ rfl (fs_tb_at 322 tw_322 rfl) (fs_tb_at 5 tw_5 rfl) (fs_tb_at 109 tw_109 rfl) (fs_tb_at 323 tw_323 rfl) (by decide) (show (parseMethodDescriptor y_OV_bottom.desc).map (fun d => d.parameters.length) = some 0 by decide +kernel) rfl d_OV_gather_24 (fs_rm (k := 1) (by omega) (by omega) (by omega) (by omega) rfl) (fun v_ h108 H locs hq hP hS => ?_) (fun C_ a_ h_ H locs hq hP hS hX => fs_out (hout _) hlocks hw hP hS hX (Nat.le_of_ble_eq_true rfl) (Nat.le_of_ble_eq_true rfl) hq)
    refine fs_cs (k := 0) (n := 0) rfl rfl ?_
    replace hq := fs_ki_some hq
    obtain ⟨x109, rfl, hq⟩ := hq
    refine W.eq (g2 := F0 m 27 ls (.int x109 :: .int z4 :: [])) rfl ?_
    refine lv_icmp_gt (tgt := 71) hx hb d_OV_gather_27 (by decide) (fun c_110 => ?_) (fun c_110 => ?_)
    · have hq := fs_wifp c_110 hq
      exact kk z2 _ _ _ _ hq hP hS (show lv_has ls 6 [(0, .ref z0), (1, .ref z1), (2, .int z2), (3, .int z3)] from lv_sub hl [0, 1, 2, 3] rfl)
    · have hq := fs_wifn c_110 hq
      refine lv_iload hx hb d_OV_gather_30 (lv_at hl 4 rfl) ?_
      refine lv_bipush (v := 8) hx hb d_OV_gather_32 (by decide) ?_
      refine lv_imul hx hb d_OV_gather_34 ?_
      refine lv_iload_n hx hb d_OV_gather_35 rfl (lv_at hl 3 rfl) ?_
      refine lv_iadd hx hb d_OV_gather_36 ?_
      refine lv_istore (lv' := [(5, .int ((z4 * 8) + z3)), (0, .ref z0), (1, .ref z1), (2, .int z2), (3, .int z3), (4, .int z4)]) hx hb d_OV_gather_37 hl (by decide) rfl (fun ls hl => ?_)
      refine lv_aload_n hx hb d_OV_gather_39 rfl (lv_at hl 2 rfl) ?_
      obtain ⟨fs_, a111, he_, hv_, hq⟩ := fs_gr_some hq
      refine fs_get hx hb hts hown hK c_CE hP he_ 0 (by decide) (hts _ (fs_tb_at 183 tw_183 rfl)) (fun _ h9 => h9) hv_ d_OV_gather_40 ?_
      refine lv_iload hx hb d_OV_gather_43 (lv_at hl 0 rfl) ?_
      obtain ⟨n_, f_, x112, e_, hi_, ex_, hq⟩ := fs_ai_some hq
      refine fs_zald hx hb hK hP 3 e_ rfl hi_ d_OV_gather_45 ?_
      rw [← ex_]
      refine lv_if_eq (tgt := 65) hx hb d_OV_gather_46 (by decide) (fun c_113 => ?_) (fun c_113 => ?_)
      · have hq := fs_wifp c_113 hq
        refine lv_iinc (v := z4 + 1) (lv' := [(4, .int (z4 + 1)), (5, .int ((z4 * 8) + z3)), (0, .ref z0), (1, .ref z1), (2, .int z2), (3, .int z3)]) hx hb d_OV_gather_65 hl (k := 5) rfl rfl (by decide) rfl (fun ls hl => ?_)
        refine lv_goto (tgt := 21) hx hb d_OV_gather_68 (by decide) ?_
        exact ih z0 z1 z2 z3 (z4 + 1) _ _ _ _ hq hP hS (show lv_has ls 6 [(0, .ref z0), (1, .ref z1), (2, .int z2), (3, .int z3), (4, .int (z4 + 1))] from lv_sub hl [2, 3, 4, 5, 0] rfl) kk
      · have hq := fs_wifn c_113 hq
        refine lv_aload_n hx hb d_OV_gather_49 rfl (lv_at hl 2 rfl) ?_
        obtain ⟨fs_, a114, he_, hv_, hq⟩ := fs_gr_some hq
        refine fs_get hx hb hts hown hK c_CE hP he_ 4 (by decide) (hts _ (fs_tb_at 193 tw_193 rfl)) (fun _ h9 => h9) hv_ d_OV_gather_50 ?_
        refine lv_iload_n hx hb d_OV_gather_53 rfl (lv_at hl 3 rfl) ?_
        refine lv_aload_n hx hb d_OV_gather_54 rfl (lv_at hl 2 rfl) ?_
        obtain ⟨fs_, a115, he_, hv_, hq⟩ := fs_gr_some hq
        refine fs_get hx hb hts hown hK c_CE hP he_ 2 (by decide) (hts _ (fs_tb_at 189 tw_189 rfl)) (fun _ h9 => h9) hv_ d_OV_gather_55 ?_
        refine lv_iload hx hb d_OV_gather_58 (lv_at hl 0 rfl) ?_
        obtain ⟨n_, f_, x116, e_, hi_, ex_, hq⟩ := fs_ad_some hq
        refine fs_dald hx hb hK hP 2 e_ rfl hi_ d_OV_gather_60 ?_
        rw [← ex_]
        obtain ⟨n_, f_, h117, e_, hi_, eh_, hq⟩ := fs_sd_some hq
        refine fs_dast hx hb hK hP hS 2 e_ rfl hi_ d_OV_gather_61 (fun H locs hP hS => ?_)
        rw [← eh_] at hP
        refine lv_iinc (v := z2 + 1) (lv' := [(2, .int (z2 + 1)), (5, .int ((z4 * 8) + z3)), (0, .ref z0), (1, .ref z1), (3, .int z3), (4, .int z4)]) hx hb d_OV_gather_62 hl (k := 3) rfl rfl (by decide) rfl (fun ls hl => ?_)
        refine lv_iinc (v := z4 + 1) (lv' := [(4, .int (z4 + 1)), (2, .int (z2 + 1)), (5, .int ((z4 * 8) + z3)), (0, .ref z0), (1, .ref z1), (3, .int z3)]) hx hb d_OV_gather_65 hl (k := 5) rfl rfl (by decide) rfl (fun ls hl => ?_)
        refine lv_goto (tgt := 21) hx hb d_OV_gather_68 (by decide) ?_
        exact ih z0 z1 (z2 + 1) z3 (z4 + 1) _ _ _ _ hq hP hS (show lv_has ls 6 [(0, .ref z0), (1, .ref z1), (2, .int (z2 + 1)), (3, .int z3), (4, .int (z4 + 1))] from lv_sub hl [3, 4, 1, 5, 0] rfl) kk
set_option maxHeartbeats 4000000 in
set_option maxRecDepth 100000 in
theorem lw_w_OV_gather_7 {p : Program} {l : Launch} {e : Env} {R : Room} {s : State} {m : MethodId} {args : Array Value} {below : List Frame} {meth : Method} {c : Code} {s00 : State} {E : fs_E} {Post : fs_Ps} (hE : fs_SE l s00 E) (B : fs_B p l e s m args meth c s00 E.1 y_OV_gather b_OV_gather 6 (some .int)) (hout : ∀ pc, ∀ x ∈ c.exceptionTable.toList, covers x pc = false) (hRf : 2 ≤ R.frames) (hRl : 26 ≤ R.locals) (K : Int32 → fs_Hp → Prop) : ∀ (n : Nat) (z0 : Nat) (z1 : Nat) (z2 : Int32) (z3 : Int32) (h1 : fs_Hp) (H : Heap) (locs : List Loc) (ls : Array Slot), w_OV_gather_L7 E K Post n z0 z1 z2 z3 h1 → fs_P E.1.1 fs_cl (fs_A s00) h1 H → va_S (fs_A s00) s00.heap H locs → lv_has ls 6 [(0, .ref z0), (1, .ref z1), (2, .int z2), (3, .int z3)] → (∀ (y2 : Int32) (h' : fs_Hp) (H : Heap) (locs : List Loc) (ls : Array Slot), K y2 h' → fs_P E.1.1 fs_cl (fs_A s00) h' H → va_S (fs_A s00) s00.heap H locs → lv_has ls 6 [(0, .ref z0), (1, .ref z1), (2, .int y2)] → W p l e R s m args below meth c H locs 0 0 (fx_MQ below (fs_Qc s00 E.1 Post) args s 0 0 (fs_A s00)) (F0 m 77 ls [])) → W p l e R s m args below meth c H locs 0 0 (fx_MQ below (fs_Qc s00 E.1 Post) args s 0 0 (fs_A s00)) (F0 m 7 ls []) := by
  obtain ⟨hx, hb, hr, hml, hown, hts, hlocks, hname, hK, hw, htr⟩ := id B
  have hown : s.vm.findClass "FormulaSheet$OverRange" = some m.cls := hown
  intro n
  induction n with
  | zero => intro z0 z1 z2 z3 h1 H locs ls hq; exact False.elim hq
  | succ n ih =>
    intro z0 z1 z2 z3 h1 H locs ls hq hP hS hl kk
    rw [w_OV_gather_L7] at hq
    refine lv_iload_n hx hb d_OV_gather_7 rfl (lv_at hl 3 rfl) ?_
    refine lv_aload_n hx hb d_OV_gather_8 rfl (lv_at hl 0 rfl) ?_
    obtain ⟨hi_, hq⟩ := hq
    obtain ⟨fs_, he_⟩ := fs_isc_some hi_
    refine fs_cV B hl.1 hP hS (kw_OV_right hE hq) (fs_tb_at 309 tw_309 rfl) he_ rfl (fs_tb_at 311 tw_311 rfl) (fs_tb_at 3 tw_3 rfl) (fs_tb_at 109 tw_109 rfl) (fs_tb_at 312 tw_312 rfl) (by decide) (show (parseMethodDescriptor y_OV_right.desc).map (fun d => d.parameters.length) = some 0 by decide +kernel) rfl d_OV_gather_9 (fs_rm (k := 1) (by omega) (by omega) (by omega) (by omega) rfl) (fun v_ h103 H locs hq hP hS => ?_) (fun C_ a_ h_ H locs hq hP hS hX => fs_out (hout _) hlocks hw hP hS hX (Nat.le_of_ble_eq_true rfl) (Nat.le_of_ble_eq_true rfl) hq)
    refine fs_cs (k := 0) (n := 0) rfl rfl ?_
    replace hq := fs_ki_some hq
    obtain ⟨x104, rfl, hq⟩ := hq
    refine W.eq (g2 := F0 m 12 ls (.int x104 :: .int z3 :: [])) rfl ?_
    refine lv_icmp_gt (tgt := 77) hx hb d_OV_gather_12 (by decide) (fun c_105 => ?_) (fun c_105 => ?_)
    · have hq := fs_wifp c_105 hq
      exact kk z2 _ _ _ _ hq hP hS (show lv_has ls 6 [(0, .ref z0), (1, .ref z1), (2, .int z2)] from lv_sub hl [0, 1, 2] rfl)
    · have hq := fs_wifn c_105 hq
      refine lv_aload_n hx hb d_OV_gather_15 rfl (lv_at hl 0 rfl) ?_
      obtain ⟨hi_, hq⟩ := hq
      obtain ⟨fs_, he_⟩ := fs_isc_some hi_
      refine fs_cV B hl.1 hP hS (kw_OV_top hE hq) (fs_tb_at 316 tw_316 rfl) he_ rfl (fs_tb_at 318 tw_318 rfl) (fs_tb_at 4 tw_4 rfl) (fs_tb_at 109 tw_109 rfl) (fs_tb_at 319 tw_319 rfl) (by decide) (show (parseMethodDescriptor y_OV_top.desc).map (fun d => d.parameters.length) = some 0 by decide +kernel) rfl d_OV_gather_16 (fs_rm (k := 0) (by omega) (by omega) (by omega) (by omega) rfl) (fun v_ h106 H locs hq hP hS => ?_) (fun C_ a_ h_ H locs hq hP hS hX => fs_out (hout _) hlocks hw hP hS hX (Nat.le_of_ble_eq_true rfl) (Nat.le_of_ble_eq_true rfl) hq)
      refine fs_cs (k := 0) (n := 0) rfl rfl ?_
      replace hq := fs_ki_some hq
      obtain ⟨x107, rfl, hq⟩ := hq
      refine W.eq (g2 := F0 m 19 ls (.int x107 :: [])) rfl ?_
      refine lv_istore (lv' := [(4, .int x107), (0, .ref z0), (1, .ref z1), (2, .int z2), (3, .int z3)]) hx hb d_OV_gather_19 hl (by decide) rfl (fun ls hl => ?_)
      obtain ⟨n120, hq⟩ := hq
      refine lw_w_OV_gather_21 hE B hout (by omega) (by omega) _ n120 z0 z1 z2 z3 x107 _ _ _ _ hq hP hS (show lv_has ls 6 [(0, .ref z0), (1, .ref z1), (2, .int z2), (3, .int z3), (4, .int x107)] from lv_sub hl [1, 2, 3, 4, 0] rfl) (fun y118 h119 H locs ls hq hP hS hl => ?_)
      refine lv_iinc (v := z3 + 1) (lv' := [(3, .int (z3 + 1)), (0, .ref z0), (1, .ref z1), (2, .int y118)]) hx hb d_OV_gather_71 hl (k := 3) rfl rfl (by decide) rfl (fun ls hl => ?_)
      refine lv_goto (tgt := 7) hx hb d_OV_gather_74 (by decide) ?_
      exact ih z0 z1 y118 (z3 + 1) _ _ _ _ hq hP hS (show lv_has ls 6 [(0, .ref z0), (1, .ref z1), (2, .int y118), (3, .int (z3 + 1))] from lv_sub hl [1, 2, 3, 0] rfl) kk
set_option maxHeartbeats 4000000 in
set_option maxRecDepth 100000 in
theorem kw_OV_gather {l : Launch} {s00 : State} {E : fs_E} (hE : fs_SE l s00 E) {h : fs_Hp} {a0 : Nat} {x1 : Nat} {Post : fs_Ps} (hq : w_OV_gather E h a0 x1 Post) : fs_Ct l s00 E.1 y_OV_gather (.code y_OV_gather b_OV_gather 6 (some .int)) { frames := 2, cells := 0, slots := 0, locals := 26 } [.ref a0, .ref x1] h Post := by
  refine fs_Ct.ofR hE.1 (by decide) ?_
  intro p e R s m below meth c hRf hRl hRc hRs B hout hP
  skip
  obtain ⟨hx, hb, hr, hml, hown, hts, hlocks, hname, hK, hw, htr⟩ := id B
  have hown : s.vm.findClass "FormulaSheet$OverRange" = some m.cls := hown
  have hS := hw.S
  have hl := lv_entry ([.ref a0, .ref x1]) (n := 6) (Nat.le_of_ble_eq_true rfl)
  rw [lg_entry_eq]
  generalize (lg_sl ([.ref a0, .ref x1]) ++ List.replicate (6 - (lg_sl ([.ref a0, .ref x1])).length) Slot.unset).toArray = ls at hl ⊢
  have hl : lv_has ls 6 [(0, .ref a0), (1, .ref x1)] := hl
  unfold w_OV_gather at hq
  refine lv_iconst (v := 0) hx hb d_OV_gather_0 (by decide) ?_
  refine lv_istore_n (lv' := [(2, .int 0), (0, .ref a0), (1, .ref x1)]) hx hb d_OV_gather_1 rfl hl (by decide) rfl (fun ls hl => ?_)
  refine lv_aload_n hx hb d_OV_gather_2 rfl (lv_at hl 1 rfl) ?_
  obtain ⟨hi_, hq⟩ := hq
  obtain ⟨fs_, he_⟩ := fs_isc_some hi_
  refine fs_cV B hl.1 hP hS (kw_OV_left hE hq) (fs_tb_at 302 tw_302 rfl) he_ rfl (fs_tb_at 304 tw_304 rfl) (fs_tb_at 2 tw_2 rfl) (fs_tb_at 109 tw_109 rfl) (fs_tb_at 305 tw_305 rfl) (by decide) (show (parseMethodDescriptor y_OV_left.desc).map (fun d => d.parameters.length) = some 0 by decide +kernel) rfl d_OV_gather_3 (fs_rm (k := 0) (by omega) (by omega) (by omega) (by omega) rfl) (fun v_ h101 H locs hq hP hS => ?_) (fun C_ a_ h_ H locs hq hP hS hX => fs_out (hout _) hlocks hw hP hS hX (Nat.le_of_ble_eq_true rfl) (Nat.le_of_ble_eq_true rfl) hq)
  refine fs_cs (k := 0) (n := 0) rfl rfl ?_
  replace hq := fs_ki_some hq
  obtain ⟨x102, rfl, hq⟩ := hq
  refine W.eq (g2 := F0 m 6 ls (.int x102 :: [])) rfl ?_
  refine lv_istore_n (lv' := [(3, .int x102), (2, .int 0), (0, .ref a0), (1, .ref x1)]) hx hb d_OV_gather_6 rfl hl (by decide) rfl (fun ls hl => ?_)
  obtain ⟨n123, hq⟩ := hq
  refine lw_w_OV_gather_7 hE B hout (by omega) (by omega) _ n123 a0 x1 0 x102 _ _ _ _ hq hP hS (show lv_has ls 6 [(0, .ref a0), (1, .ref x1), (2, .int 0), (3, .int x102)] from lv_sub hl [2, 3, 1, 0] rfl) (fun y121 h122 H locs ls hq hP hS hl => ?_)
  refine lv_iload_n hx hb d_OV_gather_77 rfl (lv_at hl 2 rfl) ?_
  exact fs_iret hx hb hr hlocks hw hP hS (vp_nar_int _) (Nat.le_refl _) (Nat.le_refl _) hq d_OV_gather_78
def w_OV_sum_L5 (E : fs_E) (K : UInt64 → fs_Hp → Prop) (Post : fs_Ps) : Nat → Nat → Int32 → UInt64 → Int32 → fs_Hp → Prop
  | 0 => fun _ _ _ _ _ => False
  | n + 1 => fun z0 z1 z2 z4 h1 => (if z1 ≤ z4 then K z2 h1 else fs_ad h1 z0 (E.1.2 2) z4 (fun x102 => w_SH_workedOut E h1 z2 43 x102 (fs_kd (fun x104 h103 => (w_OV_sum_L5 E K Post n) z0 z1 x104 (z4 + 1) h103) (fun C_ h_ => Post (.inr C_) h_))))
def w_OV_sum (E : fs_E) (h : fs_Hp) (x1 : Nat) (x2 : Int32) (Post : fs_Ps) : Prop := (∃ n107 : Nat, w_OV_sum_L5 E (fun y105 h106 => Post (.inl (some (.double y105))) h106) Post n107 x1 x2 FP.dconst0 0 h)
set_option maxHeartbeats 4000000 in
set_option maxRecDepth 100000 in
theorem lw_w_OV_sum_5 {p : Program} {l : Launch} {e : Env} {R : Room} {s : State} {m : MethodId} {args : Array Value} {below : List Frame} {meth : Method} {c : Code} {s00 : State} {E : fs_E} {Post : fs_Ps} (hE : fs_SE l s00 E) (B : fs_B p l e s m args meth c s00 E.1 y_OV_sum b_OV_sum 5 (some .double)) (hout : ∀ pc, ∀ x ∈ c.exceptionTable.toList, covers x pc = false) (hRf : 2 ≤ R.frames) (hRl : 29 ≤ R.locals) (K : UInt64 → fs_Hp → Prop) : ∀ (n : Nat) (z0 : Nat) (z1 : Int32) (z2 : UInt64) (z4 : Int32) (h1 : fs_Hp) (H : Heap) (locs : List Loc) (ls : Array Slot), w_OV_sum_L5 E K Post n z0 z1 z2 z4 h1 → fs_P E.1.1 fs_cl (fs_A s00) h1 H → va_S (fs_A s00) s00.heap H locs → lv_has ls 5 [(0, .ref z0), (1, .int z1), (2, .double z2), (4, .int z4)] → (∀ (y2 : UInt64) (h' : fs_Hp) (H : Heap) (locs : List Loc) (ls : Array Slot), K y2 h' → fs_P E.1.1 fs_cl (fs_A s00) h' H → va_S (fs_A s00) s00.heap H locs → lv_has ls 5 [(0, .ref z0), (1, .int z1), (2, .double y2)] → W p l e R s m args below meth c H locs 0 0 (fx_MQ below (fs_Qc s00 E.1 Post) args s 0 0 (fs_A s00)) (F0 m 28 ls [])) → W p l e R s m args below meth c H locs 0 0 (fx_MQ below (fs_Qc s00 E.1 Post) args s 0 0 (fs_A s00)) (F0 m 5 ls []) := by
  obtain ⟨hx, hb, hr, hml, hown, hts, hlocks, hname, hK, hw, htr⟩ := id B
  have hown : s.vm.findClass "FormulaSheet$OverRange" = some m.cls := hown
  intro n
  induction n with
  | zero => intro z0 z1 z2 z4 h1 H locs ls hq; exact False.elim hq
  | succ n ih =>
    intro z0 z1 z2 z4 h1 H locs ls hq hP hS hl kk
    rw [w_OV_sum_L5] at hq
    refine lv_iload hx hb d_OV_sum_5 (lv_at hl 3 rfl) ?_
    refine lv_iload_n hx hb d_OV_sum_7 rfl (lv_at hl 1 rfl) ?_
    refine lv_icmp_ge (tgt := 28) hx hb d_OV_sum_8 (by decide) (fun c_101 => ?_) (fun c_101 => ?_)
    · have hq := fs_wifp c_101 hq
      exact kk z2 _ _ _ _ hq hP hS (show lv_has ls 5 [(0, .ref z0), (1, .int z1), (2, .double z2)] from lv_sub hl [0, 1, 2] rfl)
    · have hq := fs_wifn c_101 hq
      refine lv_dload_n hx hb d_OV_sum_11 rfl (lv_at hl 2 rfl) ?_
      refine lv_bipush (v := 43) hx hb d_OV_sum_12 (by decide) ?_
      refine lv_aload_n hx hb d_OV_sum_14 rfl (lv_at hl 0 rfl) ?_
      refine lv_iload hx hb d_OV_sum_15 (lv_at hl 3 rfl) ?_
      obtain ⟨n_, f_, x102, e_, hi_, ex_, hq⟩ := fs_ad_some hq
      refine fs_dald hx hb hK hP 2 e_ rfl hi_ d_OV_sum_17 ?_
      rw [← ex_]
      refine fs_cSN B hl.1 hP hS (kw_SH_workedOut hE hq) (fs_tb_at 416 tw_416 rfl) (fs_tb_at 417 tw_417 rfl) (fs_tb_at 88 tw_88 rfl) (fs_tb_at 418 tw_418 rfl) (by decide) (show (parseMethodDescriptor y_SH_workedOut.desc).map (fun d => d.parameters.length) = some 3 by decide +kernel) rfl d_OV_sum_18 (fs_rm (k := 0) (by omega) (by omega) (by omega) (by omega) rfl) (fun v_ h103 H locs hq hP hS => ?_) (fun C_ a_ h_ H locs hq hP hS hX => fs_out (hout _) hlocks hw hP hS hX (Nat.le_of_ble_eq_true rfl) (Nat.le_of_ble_eq_true rfl) hq)
      refine fs_cs (k := 0) (n := 0) rfl rfl ?_
      replace hq := fs_kd_some hq
      obtain ⟨x104, rfl, hq⟩ := hq
      refine W.eq (g2 := F0 m 21 ls (.double x104 :: [])) rfl ?_
      refine lv_dstore_n (lv' := [(2, .double x104), (0, .ref z0), (1, .int z1), (4, .int z4)]) hx hb d_OV_sum_21 rfl hl (by decide) rfl (fun ls hl => ?_)
      refine lv_iinc (v := z4 + 1) (lv' := [(4, .int (z4 + 1)), (2, .double x104), (0, .ref z0), (1, .int z1)]) hx hb d_OV_sum_22 hl (k := 3) rfl rfl (by decide) rfl (fun ls hl => ?_)
      refine lv_goto (tgt := 5) hx hb d_OV_sum_25 (by decide) ?_
      exact ih z0 z1 x104 (z4 + 1) _ _ _ _ hq hP hS (show lv_has ls 5 [(0, .ref z0), (1, .int z1), (2, .double x104), (4, .int (z4 + 1))] from lv_sub hl [2, 3, 1, 0] rfl) kk
set_option maxHeartbeats 4000000 in
set_option maxRecDepth 100000 in
theorem kw_OV_sum {l : Launch} {s00 : State} {E : fs_E} (hE : fs_SE l s00 E) {h : fs_Hp} {x1 : Nat} {x2 : Int32} {Post : fs_Ps} (hq : w_OV_sum E h x1 x2 Post) : fs_Ct l s00 E.1 y_OV_sum (.code y_OV_sum b_OV_sum 5 (some .double)) { frames := 2, cells := 0, slots := 0, locals := 29 } [.ref x1, .int x2] h Post := by
  refine fs_Ct.ofR hE.1 (by decide) ?_
  intro p e R s m below meth c hRf hRl hRc hRs B hout hP
  skip
  obtain ⟨hx, hb, hr, hml, hown, hts, hlocks, hname, hK, hw, htr⟩ := id B
  have hown : s.vm.findClass "FormulaSheet$OverRange" = some m.cls := hown
  have hS := hw.S
  have hl := lv_entry ([.ref x1, .int x2]) (n := 5) (Nat.le_of_ble_eq_true rfl)
  rw [lg_entry_eq]
  generalize (lg_sl ([.ref x1, .int x2]) ++ List.replicate (5 - (lg_sl ([.ref x1, .int x2])).length) Slot.unset).toArray = ls at hl ⊢
  have hl : lv_has ls 5 [(0, .ref x1), (1, .int x2)] := hl
  unfold w_OV_sum at hq
  refine lv_dconst0 hx hb d_OV_sum_0 ?_
  refine lv_dstore_n (lv' := [(2, .double FP.dconst0), (0, .ref x1), (1, .int x2)]) hx hb d_OV_sum_1 rfl hl (by decide) rfl (fun ls hl => ?_)
  refine lv_iconst (v := 0) hx hb d_OV_sum_2 (by decide) ?_
  refine lv_istore (lv' := [(4, .int 0), (2, .double FP.dconst0), (0, .ref x1), (1, .int x2)]) hx hb d_OV_sum_3 hl (by decide) rfl (fun ls hl => ?_)
  obtain ⟨n107, hq⟩ := hq
  refine lw_w_OV_sum_5 hE B hout (by omega) (by omega) _ n107 x1 x2 FP.dconst0 0 _ _ _ _ hq hP hS (show lv_has ls 5 [(0, .ref x1), (1, .int x2), (2, .double FP.dconst0), (4, .int 0)] from lv_sub hl [2, 3, 1, 0] rfl) (fun y105 h106 H locs ls hq hP hS hl => ?_)
  refine lv_dload_n hx hb d_OV_sum_28 rfl (lv_at hl 2 rfl) ?_
  exact fs_dret hx hb hr hlocks hw hP hS (Nat.le_refl _) (Nat.le_refl _) hq d_OV_sum_29
def w_OV_extreme_L7_J80 (self1 : Nat → Nat → Int32 → UInt64 → Int32 → fs_Hp → Prop) (E : fs_E) (K : UInt64 → fs_Hp → Prop) (Post : fs_Ps) (z0 : Nat) (z1 : Nat) (z2 : Int32) (z5 : Int32) (h1 : fs_Hp) : Prop := fs_ad h1 z1 (E.1.2 2) z5 (fun x101 => self1 z0 z1 z2 x101 (z5 + 1) h1)
def w_OV_extreme_L7_J68 (self1 : Nat → Nat → Int32 → UInt64 → Int32 → fs_Hp → Prop) (E : fs_E) (K : UInt64 → fs_Hp → Prop) (Post : fs_Ps) (z0 : Nat) (z1 : Nat) (z2 : Int32) (z3 : UInt64) (z5 : Int32) (w0 : Int32) (h1 : fs_Hp) : Prop := (if z5 = 0 then w_OV_extreme_L7_J80 self1 E K Post z0 z1 z2 z5 h1 else (if w0 = 0 then self1 z0 z1 z2 z3 (z5 + 1) h1 else w_OV_extreme_L7_J80 self1 E K Post z0 z1 z2 z5 h1))
def w_OV_extreme_L7 (E : fs_E) (K : UInt64 → fs_Hp → Prop) (Post : fs_Ps) : Nat → Nat → Nat → Int32 → UInt64 → Int32 → fs_Hp → Prop
  | 0 => fun _ _ _ _ _ _ => False
  | n + 1 => fun z0 z1 z2 z3 z5 h1 => (if z2 ≤ z5 then K z3 h1 else fs_ad h1 z1 (E.1.2 2) z5 (fun x105 => w_SH_isBad E h1 x105 (fs_ki (fun x107 h106 => (if x107 = 0 then fs_gr h106 z0 9 0 (fun a109 => (if a109 = (E.2 1) then fs_ad h106 z1 (E.1.2 2) z5 (fun x113 => (if 0 ≤ (Op.cmpValue (FP.dcmp x113 z3) .g) then w_OV_extreme_L7_J68 (w_OV_extreme_L7 E K Post n) E K Post z0 z1 z2 z3 z5 0 h106 else w_OV_extreme_L7_J68 (w_OV_extreme_L7 E K Post n) E K Post z0 z1 z2 z3 z5 1 h106)) else fs_ad h106 z1 (E.1.2 2) z5 (fun x111 => (if (Op.cmpValue (FP.dcmp x111 z3) .l) ≤ 0 then w_OV_extreme_L7_J68 (w_OV_extreme_L7 E K Post n) E K Post z0 z1 z2 z3 z5 0 h106 else w_OV_extreme_L7_J68 (w_OV_extreme_L7 E K Post n) E K Post z0 z1 z2 z3 z5 1 h106)))) else Post (.inl (some (.double 4836865999795912704))) h106)) (fun C_ h_ => Post (.inr C_) h_))))
def w_OV_extreme (E : fs_E) (h : fs_Hp) (a0 : Nat) (x1 : Nat) (x2 : Int32) (Post : fs_Ps) : Prop := (∃ n117 : Nat, w_OV_extreme_L7 E (fun y115 h116 => Post (.inl (some (.double y115))) h116) Post n117 a0 x1 x2 4836865999795912704 0 h)
set_option maxHeartbeats 4000000 in
set_option maxRecDepth 100000 in
theorem lw_w_OV_extreme_7 {p : Program} {l : Launch} {e : Env} {R : Room} {s : State} {m : MethodId} {args : Array Value} {below : List Frame} {meth : Method} {c : Code} {s00 : State} {E : fs_E} {Post : fs_Ps} (hE : fs_SE l s00 E) (B : fs_B p l e s m args meth c s00 E.1 y_OV_extreme b_OV_extreme 7 (some .double)) (hout : ∀ pc, ∀ x ∈ c.exceptionTable.toList, covers x pc = false) (hRf : 1 ≤ R.frames) (hRl : 13 ≤ R.locals) (K : UInt64 → fs_Hp → Prop) : ∀ (n : Nat) (z0 : Nat) (z1 : Nat) (z2 : Int32) (z3 : UInt64) (z5 : Int32) (h1 : fs_Hp) (H : Heap) (locs : List Loc) (ls : Array Slot), w_OV_extreme_L7 E K Post n z0 z1 z2 z3 z5 h1 → fs_P E.1.1 fs_cl (fs_A s00) h1 H → va_S (fs_A s00) s00.heap H locs → lv_has ls 7 [(0, .ref z0), (1, .ref z1), (2, .int z2), (3, .double z3), (5, .int z5)] → (∀ (y3 : UInt64) (h' : fs_Hp) (H : Heap) (locs : List Loc) (ls : Array Slot), K y3 h' → fs_P E.1.1 fs_cl (fs_A s00) h' H → va_S (fs_A s00) s00.heap H locs → lv_has ls 7 [(0, .ref z0), (1, .ref z1), (2, .int z2), (3, .double y3)] → W p l e R s m args below meth c H locs 0 0 (fx_MQ below (fs_Qc s00 E.1 Post) args s 0 0 (fs_A s00)) (F0 m 91 ls [])) → W p l e R s m args below meth c H locs 0 0 (fx_MQ below (fs_Qc s00 E.1 Post) args s 0 0 (fs_A s00)) (F0 m 7 ls []) := by
  obtain ⟨hx, hb, hr, hml, hown, hts, hlocks, hname, hK, hw, htr⟩ := id B
  have hown : s.vm.findClass "FormulaSheet$OverRange" = some m.cls := hown
  intro n
  induction n with
  | zero => intro z0 z1 z2 z3 z5 h1 H locs ls hq; exact False.elim hq
  | succ n ih =>
    intro z0 z1 z2 z3 z5 h1 H locs ls hq hP hS hl kk
    rw [w_OV_extreme_L7] at hq
    have hJ80 : ∀ (z5 : Int32) (h1 : fs_Hp) (H : Heap) (locs : List Loc) (ls : Array Slot), w_OV_extreme_L7_J80 (w_OV_extreme_L7 E K Post n) E K Post z0 z1 z2 z5 h1 → fs_P E.1.1 fs_cl (fs_A s00) h1 H → va_S (fs_A s00) s00.heap H locs → lv_has ls 7 [(0, .ref z0), (1, .ref z1), (2, .int z2), (5, .int z5)] → W p l e R s m args below meth c H locs 0 0 (fx_MQ below (fs_Qc s00 E.1 Post) args s 0 0 (fs_A s00)) (F0 m 80 ls ([])) := by
      intro z5 h1 H locs ls hq hP hS hl
      unfold w_OV_extreme_L7_J80 at hq
      refine lv_aload_n hx hb d_OV_extreme_80 rfl (lv_at hl 1 rfl) ?_
      refine lv_iload hx hb d_OV_extreme_81 (lv_at hl 3 rfl) ?_
      obtain ⟨n_, f_, x101, e_, hi_, ex_, hq⟩ := fs_ad_some hq
      refine fs_dald hx hb hK hP 2 e_ rfl hi_ d_OV_extreme_83 ?_
      rw [← ex_]
      refine lv_dstore_n (lv' := [(3, .double x101), (0, .ref z0), (1, .ref z1), (2, .int z2), (5, .int z5)]) hx hb d_OV_extreme_84 rfl hl (by decide) rfl (fun ls hl => ?_)
      refine lv_iinc (v := z5 + 1) (lv' := [(5, .int (z5 + 1)), (3, .double x101), (0, .ref z0), (1, .ref z1), (2, .int z2)]) hx hb d_OV_extreme_85 hl (k := 4) rfl rfl (by decide) rfl (fun ls hl => ?_)
      refine lv_goto (tgt := 7) hx hb d_OV_extreme_88 (by decide) ?_
      exact ih z0 z1 z2 x101 (z5 + 1) _ _ _ _ hq hP hS (show lv_has ls 7 [(0, .ref z0), (1, .ref z1), (2, .int z2), (3, .double x101), (5, .int (z5 + 1))] from lv_sub hl [2, 3, 4, 1, 0] rfl) kk
    have hJ68 : ∀ (z3 : UInt64) (z5 : Int32) (w0 : Int32) (h1 : fs_Hp) (H : Heap) (locs : List Loc) (ls : Array Slot), w_OV_extreme_L7_J68 (w_OV_extreme_L7 E K Post n) E K Post z0 z1 z2 z3 z5 w0 h1 → fs_P E.1.1 fs_cl (fs_A s00) h1 H → va_S (fs_A s00) s00.heap H locs → lv_has ls 7 [(0, .ref z0), (1, .ref z1), (2, .int z2), (3, .double z3), (5, .int z5)] → W p l e R s m args below meth c H locs 0 0 (fx_MQ below (fs_Qc s00 E.1 Post) args s 0 0 (fs_A s00)) (F0 m 68 ls (.int w0 :: [])) := by
      intro z3 z5 w0 h1 H locs ls hq hP hS hl
      unfold w_OV_extreme_L7_J68 at hq
      refine lv_istore (lv' := [(6, .int w0), (0, .ref z0), (1, .ref z1), (2, .int z2), (3, .double z3), (5, .int z5)]) hx hb d_OV_extreme_68 hl (by decide) rfl (fun ls hl => ?_)
      refine lv_iload hx hb d_OV_extreme_70 (lv_at hl 5 rfl) ?_
      refine lv_if_eq (tgt := 80) hx hb d_OV_extreme_72 (by decide) (fun c_102 => ?_) (fun c_102 => ?_)
      · have hq := fs_wifp c_102 hq
        exact hJ80 z5 _ _ _ _ hq hP hS (show lv_has ls 7 [(0, .ref z0), (1, .ref z1), (2, .int z2), (5, .int z5)] from lv_sub hl [1, 2, 3, 5] rfl)
      · have hq := fs_wifn c_102 hq
        refine lv_iload hx hb d_OV_extreme_75 (lv_at hl 0 rfl) ?_
        refine lv_if_eq (tgt := 85) hx hb d_OV_extreme_77 (by decide) (fun c_103 => ?_) (fun c_103 => ?_)
        · have hq := fs_wifp c_103 hq
          refine lv_iinc (v := z5 + 1) (lv' := [(5, .int (z5 + 1)), (6, .int w0), (0, .ref z0), (1, .ref z1), (2, .int z2), (3, .double z3)]) hx hb d_OV_extreme_85 hl (k := 5) rfl rfl (by decide) rfl (fun ls hl => ?_)
          refine lv_goto (tgt := 7) hx hb d_OV_extreme_88 (by decide) ?_
          exact ih z0 z1 z2 z3 (z5 + 1) _ _ _ _ hq hP hS (show lv_has ls 7 [(0, .ref z0), (1, .ref z1), (2, .int z2), (3, .double z3), (5, .int (z5 + 1))] from lv_sub hl [2, 3, 4, 5, 0] rfl) kk
        · have hq := fs_wifn c_103 hq
          exact hJ80 z5 _ _ _ _ hq hP hS (show lv_has ls 7 [(0, .ref z0), (1, .ref z1), (2, .int z2), (5, .int z5)] from lv_sub hl [1, 2, 3, 5] rfl)
    refine lv_iload hx hb d_OV_extreme_7 (lv_at hl 4 rfl) ?_
    refine lv_iload_n hx hb d_OV_extreme_9 rfl (lv_at hl 2 rfl) ?_
    refine lv_icmp_ge (tgt := 91) hx hb d_OV_extreme_10 (by decide) (fun c_104 => ?_) (fun c_104 => ?_)
    · have hq := fs_wifp c_104 hq
      exact kk z3 _ _ _ _ hq hP hS (show lv_has ls 7 [(0, .ref z0), (1, .ref z1), (2, .int z2), (3, .double z3)] from lv_sub hl [0, 1, 2, 3] rfl)
    · have hq := fs_wifn c_104 hq
      refine lv_aload_n hx hb d_OV_extreme_13 rfl (lv_at hl 1 rfl) ?_
      refine lv_iload hx hb d_OV_extreme_14 (lv_at hl 4 rfl) ?_
      obtain ⟨n_, f_, x105, e_, hi_, ex_, hq⟩ := fs_ad_some hq
      refine fs_dald hx hb hK hP 2 e_ rfl hi_ d_OV_extreme_16 ?_
      rw [← ex_]
      refine fs_cSN B hl.1 hP hS (kw_SH_isBad hE hq) (fs_tb_at 408 tw_408 rfl) (fs_tb_at 409 tw_409 rfl) (fs_tb_at 88 tw_88 rfl) (fs_tb_at 410 tw_410 rfl) (by decide) (show (parseMethodDescriptor y_SH_isBad.desc).map (fun d => d.parameters.length) = some 1 by decide +kernel) rfl d_OV_extreme_17 (fs_rm (k := 0) (by omega) (by omega) (by omega) (by omega) rfl) (fun v_ h106 H locs hq hP hS => ?_) (fun C_ a_ h_ H locs hq hP hS hX => fs_out (hout _) hlocks hw hP hS hX (Nat.le_of_ble_eq_true rfl) (Nat.le_of_ble_eq_true rfl) hq)
      refine fs_cs (k := 0) (n := 0) rfl rfl ?_
      replace hq := fs_ki_some hq
      obtain ⟨x107, rfl, hq⟩ := hq
      refine W.eq (g2 := F0 m 20 ls (.int x107 :: [])) rfl ?_
      refine lv_if_eq (tgt := 27) hx hb d_OV_extreme_20 (by decide) (fun c_108 => ?_) (fun c_108 => ?_)
      · have hq := fs_wifp c_108 hq
        refine lv_aload_n hx hb d_OV_extreme_27 rfl (lv_at hl 0 rfl) ?_
        obtain ⟨fs_, a109, he_, hv_, hq⟩ := fs_gr_some hq
        refine fs_get hx hb hts hown hK c_OV hP he_ 0 (by decide) (hts _ (fs_tb_at 797 tw_797 rfl)) (fun _ h9 => h9) hv_ d_OV_extreme_28 ?_
        refine fs_gets hx hb (fs_zr hE (i := 1) rfl (List.mem_of_getElem? tw_401) (List.mem_of_getElem? tw_116)) hw hS hown (hts _ (fs_tb_at 400 tw_400 rfl)) d_OV_extreme_31 ?_
        refine fs_acmp_ne (tgt := 54) hx hb d_OV_extreme_34 (by decide) (fun c_110 => ?_) (fun c_110 => ?_)
        · have hq := fs_wifn c_110 hq
          refine lv_aload_n hx hb d_OV_extreme_54 rfl (lv_at hl 1 rfl) ?_
          refine lv_iload hx hb d_OV_extreme_55 (lv_at hl 4 rfl) ?_
          obtain ⟨n_, f_, x111, e_, hi_, ex_, hq⟩ := fs_ad_some hq
          refine fs_dald hx hb hK hP 2 e_ rfl hi_ d_OV_extreme_57 ?_
          rw [← ex_]
          refine lv_dload_n hx hb d_OV_extreme_58 rfl (lv_at hl 3 rfl) ?_
          refine lv_dcmp hx hb d_OV_extreme_59 ?_
          refine lv_if_le (tgt := 67) hx hb d_OV_extreme_60 (by decide) (fun c_112 => ?_) (fun c_112 => ?_)
          · have hq := fs_wifp c_112 hq
            refine lv_iconst (v := 0) hx hb d_OV_extreme_67 (by decide) ?_
            exact hJ68 z3 z5 0 _ _ _ _ hq hP hS (show lv_has ls 7 [(0, .ref z0), (1, .ref z1), (2, .int z2), (3, .double z3), (5, .int z5)] from lv_sub hl [0, 1, 2, 3, 4] rfl)
          · have hq := fs_wifn c_112 hq
            refine lv_iconst (v := 1) hx hb d_OV_extreme_63 (by decide) ?_
            refine lv_goto (tgt := 68) hx hb d_OV_extreme_64 (by decide) ?_
            exact hJ68 z3 z5 1 _ _ _ _ hq hP hS (show lv_has ls 7 [(0, .ref z0), (1, .ref z1), (2, .int z2), (3, .double z3), (5, .int z5)] from lv_sub hl [0, 1, 2, 3, 4] rfl)
        · have hq := fs_wifp c_110 hq
          refine lv_aload_n hx hb d_OV_extreme_37 rfl (lv_at hl 1 rfl) ?_
          refine lv_iload hx hb d_OV_extreme_38 (lv_at hl 4 rfl) ?_
          obtain ⟨n_, f_, x113, e_, hi_, ex_, hq⟩ := fs_ad_some hq
          refine fs_dald hx hb hK hP 2 e_ rfl hi_ d_OV_extreme_40 ?_
          rw [← ex_]
          refine lv_dload_n hx hb d_OV_extreme_41 rfl (lv_at hl 3 rfl) ?_
          refine lv_dcmp hx hb d_OV_extreme_42 ?_
          refine lv_if_ge (tgt := 50) hx hb d_OV_extreme_43 (by decide) (fun c_114 => ?_) (fun c_114 => ?_)
          · have hq := fs_wifp c_114 hq
            refine lv_iconst (v := 0) hx hb d_OV_extreme_50 (by decide) ?_
            refine lv_goto (tgt := 68) hx hb d_OV_extreme_51 (by decide) ?_
            exact hJ68 z3 z5 0 _ _ _ _ hq hP hS (show lv_has ls 7 [(0, .ref z0), (1, .ref z1), (2, .int z2), (3, .double z3), (5, .int z5)] from lv_sub hl [0, 1, 2, 3, 4] rfl)
          · have hq := fs_wifn c_114 hq
            refine lv_iconst (v := 1) hx hb d_OV_extreme_46 (by decide) ?_
            refine lv_goto (tgt := 68) hx hb d_OV_extreme_47 (by decide) ?_
            exact hJ68 z3 z5 1 _ _ _ _ hq hP hS (show lv_has ls 7 [(0, .ref z0), (1, .ref z1), (2, .int z2), (3, .double z3), (5, .int z5)] from lv_sub hl [0, 1, 2, 3, 4] rfl)
      · have hq := fs_wifn c_108 hq
        refine lv_ldc2d (v := 4836865999795912704) hx hb hown (hts _ (fs_tb_at 393 tw_393 rfl)) d_OV_extreme_23 ?_
        exact fs_dret hx hb hr hlocks hw hP hS (Nat.le_refl _) (Nat.le_refl _) hq d_OV_extreme_26
set_option maxHeartbeats 4000000 in
set_option maxRecDepth 100000 in
theorem kw_OV_extreme {l : Launch} {s00 : State} {E : fs_E} (hE : fs_SE l s00 E) {h : fs_Hp} {a0 : Nat} {x1 : Nat} {x2 : Int32} {Post : fs_Ps} (hq : w_OV_extreme E h a0 x1 x2 Post) : fs_Ct l s00 E.1 y_OV_extreme (.code y_OV_extreme b_OV_extreme 7 (some .double)) { frames := 1, cells := 0, slots := 0, locals := 13 } [.ref a0, .ref x1, .int x2] h Post := by
  refine fs_Ct.ofR hE.1 (by decide) ?_
  intro p e R s m below meth c hRf hRl hRc hRs B hout hP
  skip
  obtain ⟨hx, hb, hr, hml, hown, hts, hlocks, hname, hK, hw, htr⟩ := id B
  have hown : s.vm.findClass "FormulaSheet$OverRange" = some m.cls := hown
  have hS := hw.S
  have hl := lv_entry ([.ref a0, .ref x1, .int x2]) (n := 7) (Nat.le_of_ble_eq_true rfl)
  rw [lg_entry_eq]
  generalize (lg_sl ([.ref a0, .ref x1, .int x2]) ++ List.replicate (7 - (lg_sl ([.ref a0, .ref x1, .int x2])).length) Slot.unset).toArray = ls at hl ⊢
  have hl : lv_has ls 7 [(0, .ref a0), (1, .ref x1), (2, .int x2)] := hl
  unfold w_OV_extreme at hq
  refine lv_ldc2d (v := 4836865999795912704) hx hb hown (hts _ (fs_tb_at 393 tw_393 rfl)) d_OV_extreme_0 ?_
  refine lv_dstore_n (lv' := [(3, .double 4836865999795912704), (0, .ref a0), (1, .ref x1), (2, .int x2)]) hx hb d_OV_extreme_3 rfl hl (by decide) rfl (fun ls hl => ?_)
  refine lv_iconst (v := 0) hx hb d_OV_extreme_4 (by decide) ?_
  refine lv_istore (lv' := [(5, .int 0), (3, .double 4836865999795912704), (0, .ref a0), (1, .ref x1), (2, .int x2)]) hx hb d_OV_extreme_5 hl (by decide) rfl (fun ls hl => ?_)
  obtain ⟨n117, hq⟩ := hq
  refine lw_w_OV_extreme_7 hE B hout (by omega) (by omega) _ n117 a0 x1 x2 4836865999795912704 0 _ _ _ _ hq hP hS (show lv_has ls 7 [(0, .ref a0), (1, .ref x1), (2, .int x2), (3, .double 4836865999795912704), (5, .int 0)] from lv_sub hl [2, 3, 4, 1, 0] rfl) (fun y115 h116 H locs ls hq hP hS hl => ?_)
  refine lv_dload_n hx hb d_OV_extreme_91 rfl (lv_at hl 3 rfl) ?_
  exact fs_dret hx hb hr hlocks hw hP hS (Nat.le_refl _) (Nat.le_refl _) hq d_OV_extreme_92
def w_PA_holds (E : fs_E) (h : fs_Hp) (a0 : Nat) (x1 : UInt64) (x2 : UInt64) (Post : fs_Ps) : Prop := fs_gi h a0 7 0 (fun x101 => (if x101 = 35 then (if (Op.cmpValue (FP.dcmp x1 x2) .l) = 0 then Post (.inl (some (.int 0))) h else Post (.inl (some (.int 1))) h) else (if x101 = 38 then (if (Op.cmpValue (FP.dcmp x1 FP.dconst0) .l) = 0 then Post (.inl (some (.int 0))) h else (if (Op.cmpValue (FP.dcmp x2 FP.dconst0) .l) = 0 then Post (.inl (some (.int 0))) h else Post (.inl (some (.int 1))) h)) else (if x101 = 60 then (if 0 ≤ (Op.cmpValue (FP.dcmp x1 x2) .g) then Post (.inl (some (.int 0))) h else Post (.inl (some (.int 1))) h) else (if x101 = 61 then (if (Op.cmpValue (FP.dcmp x1 x2) .l) = 0 then Post (.inl (some (.int 1))) h else Post (.inl (some (.int 0))) h) else (if x101 = 62 then (if (Op.cmpValue (FP.dcmp x1 x2) .l) ≤ 0 then Post (.inl (some (.int 0))) h else Post (.inl (some (.int 1))) h) else (if (Op.cmpValue (FP.dcmp x1 FP.dconst0) .l) = 0 then (if (Op.cmpValue (FP.dcmp x2 FP.dconst0) .l) = 0 then Post (.inl (some (.int 0))) h else Post (.inl (some (.int 1))) h) else Post (.inl (some (.int 1))) h)))))))
set_option maxHeartbeats 4000000 in
set_option maxRecDepth 100000 in
theorem kw_PA_holds {l : Launch} {s00 : State} {E : fs_E} (hE : fs_SE l s00 E) {h : fs_Hp} {a0 : Nat} {x1 : UInt64} {x2 : UInt64} {Post : fs_Ps} (hq : w_PA_holds E h a0 x1 x2 Post) : fs_Ct l s00 E.1 y_PA_holds (.code y_PA_holds b_PA_holds 5 (some .boolean)) { frames := 0, cells := 0, slots := 0, locals := 0 } [.ref a0, .double x1, .double x2] h Post := by
  refine fs_Ct.ofR hE.1 (by decide) ?_
  intro p e R s m below meth c hRf hRl hRc hRs B hout hP
  skip
  obtain ⟨hx, hb, hr, hml, hown, hts, hlocks, hname, hK, hw, htr⟩ := id B
  have hown : s.vm.findClass "FormulaSheet$Pair" = some m.cls := hown
  have hS := hw.S
  have hl := lv_entry ([.ref a0, .double x1, .double x2]) (n := 5) (Nat.le_of_ble_eq_true rfl)
  rw [lg_entry_eq]
  generalize (lg_sl ([.ref a0, .double x1, .double x2]) ++ List.replicate (5 - (lg_sl ([.ref a0, .double x1, .double x2])).length) Slot.unset).toArray = ls at hl ⊢
  have hl : lv_has ls 5 [(0, .ref a0), (1, .double x1), (3, .double x2)] := hl
  unfold w_PA_holds at hq
  refine lv_aload_n hx hb d_PA_holds_0 rfl (lv_at hl 0 rfl) ?_
  obtain ⟨fs_, x101, he_, hv_, hq⟩ := fs_gi_some hq
  refine fs_get hx hb hts hown hK c_PA hP he_ 0 (by decide) (hts _ (fs_tb_at 852 tw_852 rfl)) (fun _ h9 => h9) hv_ d_PA_holds_1 ?_
  by_cases c_102 : x101 = 35
  · have hq := fs_wifp c_102 hq
    refine lv_lookup (off := 64) (tgt := 68) hx hb d_PA_holds_4 (by decide) (by rw [c_102]; decide) (by decide) ?_
    refine lv_dload_n hx hb d_PA_holds_68 rfl (lv_at hl 1 rfl) ?_
    refine lv_dload_n hx hb d_PA_holds_69 rfl (lv_at hl 2 rfl) ?_
    refine lv_dcmp hx hb d_PA_holds_70 ?_
    refine lv_if_eq (tgt := 78) hx hb d_PA_holds_71 (by decide) (fun c_103 => ?_) (fun c_103 => ?_)
    · have hq := fs_wifp c_103 hq
      refine lv_iconst (v := 0) hx hb d_PA_holds_78 (by decide) ?_
      exact fs_iret hx hb hr hlocks hw hP hS (by decide) (Nat.le_refl _) (Nat.le_refl _) hq d_PA_holds_79
    · have hq := fs_wifn c_103 hq
      refine lv_iconst (v := 1) hx hb d_PA_holds_74 (by decide) ?_
      refine lv_goto (tgt := 79) hx hb d_PA_holds_75 (by decide) ?_
      exact fs_iret hx hb hr hlocks hw hP hS (by decide) (Nat.le_refl _) (Nat.le_refl _) hq d_PA_holds_79
  · have hq := fs_wifn c_102 hq
    by_cases c_104 : x101 = 38
    · have hq := fs_wifp c_104 hq
      refine lv_lookup (off := 100) (tgt := 104) hx hb d_PA_holds_4 (by decide) (by rw [c_104]; decide) (by decide) ?_
      refine lv_dload_n hx hb d_PA_holds_104 rfl (lv_at hl 1 rfl) ?_
      refine lv_dconst0 hx hb d_PA_holds_105 ?_
      refine lv_dcmp hx hb d_PA_holds_106 ?_
      refine lv_if_eq (tgt := 120) hx hb d_PA_holds_107 (by decide) (fun c_105 => ?_) (fun c_105 => ?_)
      · have hq := fs_wifp c_105 hq
        refine lv_iconst (v := 0) hx hb d_PA_holds_120 (by decide) ?_
        exact fs_iret hx hb hr hlocks hw hP hS (by decide) (Nat.le_refl _) (Nat.le_refl _) hq d_PA_holds_121
      · have hq := fs_wifn c_105 hq
        refine lv_dload_n hx hb d_PA_holds_110 rfl (lv_at hl 2 rfl) ?_
        refine lv_dconst0 hx hb d_PA_holds_111 ?_
        refine lv_dcmp hx hb d_PA_holds_112 ?_
        refine lv_if_eq (tgt := 120) hx hb d_PA_holds_113 (by decide) (fun c_106 => ?_) (fun c_106 => ?_)
        · have hq := fs_wifp c_106 hq
          refine lv_iconst (v := 0) hx hb d_PA_holds_120 (by decide) ?_
          exact fs_iret hx hb hr hlocks hw hP hS (by decide) (Nat.le_refl _) (Nat.le_refl _) hq d_PA_holds_121
        · have hq := fs_wifn c_106 hq
          refine lv_iconst (v := 1) hx hb d_PA_holds_116 (by decide) ?_
          refine lv_goto (tgt := 121) hx hb d_PA_holds_117 (by decide) ?_
          exact fs_iret hx hb hr hlocks hw hP hS (by decide) (Nat.le_refl _) (Nat.le_refl _) hq d_PA_holds_121
    · have hq := fs_wifn c_104 hq
      by_cases c_107 : x101 = 60
      · have hq := fs_wifp c_107 hq
        refine lv_lookup (off := 76) (tgt := 80) hx hb d_PA_holds_4 (by decide) (by rw [c_107]; decide) (by decide) ?_
        refine lv_dload_n hx hb d_PA_holds_80 rfl (lv_at hl 1 rfl) ?_
        refine lv_dload_n hx hb d_PA_holds_81 rfl (lv_at hl 2 rfl) ?_
        refine lv_dcmp hx hb d_PA_holds_82 ?_
        refine lv_if_ge (tgt := 90) hx hb d_PA_holds_83 (by decide) (fun c_108 => ?_) (fun c_108 => ?_)
        · have hq := fs_wifp c_108 hq
          refine lv_iconst (v := 0) hx hb d_PA_holds_90 (by decide) ?_
          exact fs_iret hx hb hr hlocks hw hP hS (by decide) (Nat.le_refl _) (Nat.le_refl _) hq d_PA_holds_91
        · have hq := fs_wifn c_108 hq
          refine lv_iconst (v := 1) hx hb d_PA_holds_86 (by decide) ?_
          refine lv_goto (tgt := 91) hx hb d_PA_holds_87 (by decide) ?_
          exact fs_iret hx hb hr hlocks hw hP hS (by decide) (Nat.le_refl _) (Nat.le_refl _) hq d_PA_holds_91
      · have hq := fs_wifn c_107 hq
        by_cases c_109 : x101 = 61
        · have hq := fs_wifp c_109 hq
          refine lv_lookup (off := 52) (tgt := 56) hx hb d_PA_holds_4 (by decide) (by rw [c_109]; decide) (by decide) ?_
          refine lv_dload_n hx hb d_PA_holds_56 rfl (lv_at hl 1 rfl) ?_
          refine lv_dload_n hx hb d_PA_holds_57 rfl (lv_at hl 2 rfl) ?_
          refine lv_dcmp hx hb d_PA_holds_58 ?_
          refine lv_if_ne (tgt := 66) hx hb d_PA_holds_59 (by decide) (fun c_110 => ?_) (fun c_110 => ?_)
          · have hq := fs_wifn c_110 hq
            refine lv_iconst (v := 0) hx hb d_PA_holds_66 (by decide) ?_
            exact fs_iret hx hb hr hlocks hw hP hS (by decide) (Nat.le_refl _) (Nat.le_refl _) hq d_PA_holds_67
          · have hq := fs_wifp c_110 hq
            refine lv_iconst (v := 1) hx hb d_PA_holds_62 (by decide) ?_
            refine lv_goto (tgt := 67) hx hb d_PA_holds_63 (by decide) ?_
            exact fs_iret hx hb hr hlocks hw hP hS (by decide) (Nat.le_refl _) (Nat.le_refl _) hq d_PA_holds_67
        · have hq := fs_wifn c_109 hq
          by_cases c_111 : x101 = 62
          · have hq := fs_wifp c_111 hq
            refine lv_lookup (off := 88) (tgt := 92) hx hb d_PA_holds_4 (by decide) (by rw [c_111]; decide) (by decide) ?_
            refine lv_dload_n hx hb d_PA_holds_92 rfl (lv_at hl 1 rfl) ?_
            refine lv_dload_n hx hb d_PA_holds_93 rfl (lv_at hl 2 rfl) ?_
            refine lv_dcmp hx hb d_PA_holds_94 ?_
            refine lv_if_le (tgt := 102) hx hb d_PA_holds_95 (by decide) (fun c_112 => ?_) (fun c_112 => ?_)
            · have hq := fs_wifp c_112 hq
              refine lv_iconst (v := 0) hx hb d_PA_holds_102 (by decide) ?_
              exact fs_iret hx hb hr hlocks hw hP hS (by decide) (Nat.le_refl _) (Nat.le_refl _) hq d_PA_holds_103
            · have hq := fs_wifn c_112 hq
              refine lv_iconst (v := 1) hx hb d_PA_holds_98 (by decide) ?_
              refine lv_goto (tgt := 103) hx hb d_PA_holds_99 (by decide) ?_
              exact fs_iret hx hb hr hlocks hw hP hS (by decide) (Nat.le_refl _) (Nat.le_refl _) hq d_PA_holds_103
          · have hq := fs_wifn c_111 hq
            refine lv_lookup (off := 118) (tgt := 122) hx hb d_PA_holds_4 (by decide) ((lv_osw (a := 35) c_102 (by decide)).trans ((lv_osw (a := 38) c_104 (by decide)).trans ((lv_osw (a := 60) c_107 (by decide)).trans ((lv_osw (a := 61) c_109 (by decide)).trans ((lv_osw (a := 62) c_111 (by decide)).trans rfl))))) (by decide) ?_
            refine lv_dload_n hx hb d_PA_holds_122 rfl (lv_at hl 1 rfl) ?_
            refine lv_dconst0 hx hb d_PA_holds_123 ?_
            refine lv_dcmp hx hb d_PA_holds_124 ?_
            refine lv_if_ne (tgt := 134) hx hb d_PA_holds_125 (by decide) (fun c_113 => ?_) (fun c_113 => ?_)
            · have hq := fs_wifn c_113 hq
              refine lv_iconst (v := 1) hx hb d_PA_holds_134 (by decide) ?_
              refine lv_goto (tgt := 139) hx hb d_PA_holds_135 (by decide) ?_
              exact fs_iret hx hb hr hlocks hw hP hS (by decide) (Nat.le_refl _) (Nat.le_refl _) hq d_PA_holds_139
            · have hq := fs_wifp c_113 hq
              refine lv_dload_n hx hb d_PA_holds_128 rfl (lv_at hl 2 rfl) ?_
              refine lv_dconst0 hx hb d_PA_holds_129 ?_
              refine lv_dcmp hx hb d_PA_holds_130 ?_
              refine lv_if_eq (tgt := 138) hx hb d_PA_holds_131 (by decide) (fun c_114 => ?_) (fun c_114 => ?_)
              · have hq := fs_wifp c_114 hq
                refine lv_iconst (v := 0) hx hb d_PA_holds_138 (by decide) ?_
                exact fs_iret hx hb hr hlocks hw hP hS (by decide) (Nat.le_refl _) (Nat.le_refl _) hq d_PA_holds_139
              · have hq := fs_wifn c_114 hq
                refine lv_iconst (v := 1) hx hb d_PA_holds_134 (by decide) ?_
                refine lv_goto (tgt := 139) hx hb d_PA_holds_135 (by decide) ?_
                exact fs_iret hx hb hr hlocks hw hP hS (by decide) (Nat.le_refl _) (Nat.le_refl _) hq d_PA_holds_139
def w_NU_worth (self : fs_E → fs_Hp → Nat → Nat → fs_Ps → Prop) (E : fs_E) (h : fs_Hp) (a0 : Nat) (x1 : Nat) (Post : fs_Ps) : Prop := fs_gl h a0 4 0 (fun x101 => fs_isc h a0 4 ∧ (w_NU_scale E h a0 (fs_kl (fun x103 h102 => vf_n64 (FP.ddiv (FP.l2d x101) (FP.l2d x103)) ∧ (Post (.inl (some (.double (FP.ddiv (FP.l2d x101) (FP.l2d x103))))) h102)) (fun C_ h_ => Post (.inr C_) h_))))
set_option maxHeartbeats 4000000 in
set_option maxRecDepth 100000 in
theorem kw_NU_worth {l : Launch} {s00 : State} {E : fs_E} (hE : fs_SE l s00 E) {self : fs_E → fs_Hp → Nat → Nat → fs_Ps → Prop} {fn ln : Nat} (hself : ∀ {h9 : fs_Hp} {q0 : Nat} {q1 : Nat} {P9 : fs_Ps}, self E h9 q0 q1 P9 → fs_CtV l s00 E.1 y_PT_worth { frames := fn, cells := 0, slots := 0, locals := ln } q0 [.ref q1] h9 P9 7) {h : fs_Hp} {a0 : Nat} {x1 : Nat} {Post : fs_Ps} (hq : w_NU_worth self E h a0 x1 Post) : fs_Ct l s00 E.1 y_NU_worth (.code y_NU_worth b_NU_worth 2 (some .double)) { frames := fn + 3, cells := 0, slots := 0, locals := ln + 45 } [.ref a0, .ref x1] h Post := by
  refine fs_Ct.ofR hE.1 (by decide) ?_
  intro p e R s m below meth c hRf hRl hRc hRs B hout hP
  skip
  obtain ⟨hx, hb, hr, hml, hown, hts, hlocks, hname, hK, hw, htr⟩ := id B
  have hown : s.vm.findClass "FormulaSheet$Numeral" = some m.cls := hown
  have hS := hw.S
  have hl := lv_entry ([.ref a0, .ref x1]) (n := 2) (Nat.le_of_ble_eq_true rfl)
  rw [lg_entry_eq]
  generalize (lg_sl ([.ref a0, .ref x1]) ++ List.replicate (2 - (lg_sl ([.ref a0, .ref x1])).length) Slot.unset).toArray = ls at hl ⊢
  have hl : lv_has ls 2 [(0, .ref a0), (1, .ref x1)] := hl
  unfold w_NU_worth at hq
  refine lv_aload_n hx hb d_NU_worth_0 rfl (lv_at hl 0 rfl) ?_
  obtain ⟨fs_, x101, he_, hv_, hq⟩ := fs_gl_some hq
  refine fs_get hx hb hts hown hK c_NU hP he_ 0 (by decide) (hts _ (fs_tb_at 671 tw_671 rfl)) (fun _ h9 => h9) hv_ d_NU_worth_1 ?_
  refine lv_l2d hx hb d_NU_worth_4 ?_
  refine lv_aload_n hx hb d_NU_worth_5 rfl (lv_at hl 0 rfl) ?_
  obtain ⟨hi_, hq⟩ := hq
  obtain ⟨fs_, he_⟩ := fs_isc_some hi_
  refine fs_cV B hl.1 hP hS (kw_NU_scale hE hq) (fs_tb_at 385 tw_385 rfl) he_ rfl (fs_tb_at 387 tw_387 rfl) (fs_tb_at 10 tw_10 rfl) (fs_tb_at 104 tw_104 rfl) (fs_tb_at 389 tw_389 rfl) (by decide) (show (parseMethodDescriptor y_NU_scale.desc).map (fun d => d.parameters.length) = some 0 by decide +kernel) rfl d_NU_worth_6 (fs_rm (k := 2) (by omega) (by omega) (by omega) (by omega) rfl) (fun v_ h102 H locs hq hP hS => ?_) (fun C_ a_ h_ H locs hq hP hS hX => fs_out (hout _) hlocks hw hP hS hX (Nat.le_of_ble_eq_true rfl) (Nat.le_of_ble_eq_true rfl) hq)
  refine fs_cs (k := 0) (n := 0) rfl rfl ?_
  replace hq := fs_kl_some hq
  obtain ⟨x103, rfl, hq⟩ := hq
  refine W.eq (g2 := F0 m 9 ls (.long x103 :: .double (FP.l2d x101) :: [])) rfl ?_
  refine lv_l2d hx hb d_NU_worth_9 ?_
  obtain ⟨hk_, hq⟩ := hq
  refine lv_ddiv hx hb d_NU_worth_10 hk_ ?_
  exact fs_dret hx hb hr hlocks hw hP hS (Nat.le_refl _) (Nat.le_refl _) hq d_NU_worth_11
def w_RE_worth (self : fs_E → fs_Hp → Nat → Nat → fs_Ps → Prop) (E : fs_E) (h : fs_Hp) (a0 : Nat) (x1 : Nat) (Post : fs_Ps) : Prop := fs_gi h a0 5 4 (fun x101 => (if x101 = 0 then fs_gr h x1 2 0 (fun a103 => fs_isc h a0 5 ∧ (w_RE_cell E h a0 (fs_ki (fun x105 h104 => fs_ai h104 a103 (E.1.2 3) x105 (fun x106 => (if x106 = 0 then Post (.inl (some (.double FP.dconst0))) h104 else fs_gr h104 x1 2 2 (fun a108 => fs_isc h104 a0 5 ∧ (w_RE_cell E h104 a0 (fs_ki (fun x110 h109 => fs_ad h109 a108 (E.1.2 2) x110 (fun x111 => Post (.inl (some (.double x111))) h109)) (fun C_ h_ => Post (.inr C_) h_))))))) (fun C_ h_ => Post (.inr C_) h_)))) else Post (.inl (some (.double 4836865999795912704))) h))
set_option maxHeartbeats 4000000 in
set_option maxRecDepth 100000 in
theorem kw_RE_worth {l : Launch} {s00 : State} {E : fs_E} (hE : fs_SE l s00 E) {self : fs_E → fs_Hp → Nat → Nat → fs_Ps → Prop} {fn ln : Nat} (hself : ∀ {h9 : fs_Hp} {q0 : Nat} {q1 : Nat} {P9 : fs_Ps}, self E h9 q0 q1 P9 → fs_CtV l s00 E.1 y_PT_worth { frames := fn, cells := 0, slots := 0, locals := ln } q0 [.ref q1] h9 P9 7) {h : fs_Hp} {a0 : Nat} {x1 : Nat} {Post : fs_Ps} (hq : w_RE_worth self E h a0 x1 Post) : fs_Ct l s00 E.1 y_RE_worth (.code y_RE_worth b_RE_worth 2 (some .double)) { frames := fn + 3, cells := 0, slots := 0, locals := ln + 45 } [.ref a0, .ref x1] h Post := by
  refine fs_Ct.ofR hE.1 (by decide) ?_
  intro p e R s m below meth c hRf hRl hRc hRs B hout hP
  skip
  obtain ⟨hx, hb, hr, hml, hown, hts, hlocks, hname, hK, hw, htr⟩ := id B
  have hown : s.vm.findClass "FormulaSheet$Reference" = some m.cls := hown
  have hS := hw.S
  have hl := lv_entry ([.ref a0, .ref x1]) (n := 2) (Nat.le_of_ble_eq_true rfl)
  rw [lg_entry_eq]
  generalize (lg_sl ([.ref a0, .ref x1]) ++ List.replicate (2 - (lg_sl ([.ref a0, .ref x1])).length) Slot.unset).toArray = ls at hl ⊢
  have hl : lv_has ls 2 [(0, .ref a0), (1, .ref x1)] := hl
  unfold w_RE_worth at hq
  refine lv_aload_n hx hb d_RE_worth_0 rfl (lv_at hl 0 rfl) ?_
  obtain ⟨fs_, x101, he_, hv_, hq⟩ := fs_gi_some hq
  refine fs_get hx hb hts hown hK c_RE hP he_ 4 (by decide) (hts _ (fs_tb_at 708 tw_708 rfl)) (fun _ h9 => h9) hv_ d_RE_worth_1 ?_
  refine lv_if_eq (tgt := 11) hx hb d_RE_worth_4 (by decide) (fun c_102 => ?_) (fun c_102 => ?_)
  · have hq := fs_wifp c_102 hq
    refine lv_aload_n hx hb d_RE_worth_11 rfl (lv_at hl 1 rfl) ?_
    obtain ⟨fs_, a103, he_, hv_, hq⟩ := fs_gr_some hq
    refine fs_get hx hb hts hown hK c_CE hP he_ 0 (by decide) (hts _ (fs_tb_at 181 tw_181 rfl)) (fun _ h9 => h9) hv_ d_RE_worth_12 ?_
    refine lv_aload_n hx hb d_RE_worth_15 rfl (lv_at hl 0 rfl) ?_
    obtain ⟨hi_, hq⟩ := hq
    obtain ⟨fs_, he_⟩ := fs_isc_some hi_
    refine fs_cV B hl.1 hP hS (kw_RE_cell hE hq) (fs_tb_at 332 tw_332 rfl) he_ rfl (fs_tb_at 334 tw_334 rfl) (fs_tb_at 6 tw_6 rfl) (fs_tb_at 105 tw_105 rfl) (fs_tb_at 336 tw_336 rfl) (by decide) (show (parseMethodDescriptor y_RE_cell.desc).map (fun d => d.parameters.length) = some 0 by decide +kernel) rfl d_RE_worth_16 (fs_rm (k := 1) (by omega) (by omega) (by omega) (by omega) rfl) (fun v_ h104 H locs hq hP hS => ?_) (fun C_ a_ h_ H locs hq hP hS hX => fs_out (hout _) hlocks hw hP hS hX (Nat.le_of_ble_eq_true rfl) (Nat.le_of_ble_eq_true rfl) hq)
    refine fs_cs (k := 0) (n := 0) rfl rfl ?_
    replace hq := fs_ki_some hq
    obtain ⟨x105, rfl, hq⟩ := hq
    refine W.eq (g2 := F0 m 19 ls (.int x105 :: .ref a103 :: [])) rfl ?_
    obtain ⟨n_, f_, x106, e_, hi_, ex_, hq⟩ := fs_ai_some hq
    refine fs_zald hx hb hK hP 3 e_ rfl hi_ d_RE_worth_19 ?_
    rw [← ex_]
    refine lv_if_eq (tgt := 35) hx hb d_RE_worth_20 (by decide) (fun c_107 => ?_) (fun c_107 => ?_)
    · have hq := fs_wifp c_107 hq
      refine lv_dconst0 hx hb d_RE_worth_35 ?_
      exact fs_dret hx hb hr hlocks hw hP hS (Nat.le_refl _) (Nat.le_refl _) hq d_RE_worth_36
    · have hq := fs_wifn c_107 hq
      refine lv_aload_n hx hb d_RE_worth_23 rfl (lv_at hl 1 rfl) ?_
      obtain ⟨fs_, a108, he_, hv_, hq⟩ := fs_gr_some hq
      refine fs_get hx hb hts hown hK c_CE hP he_ 2 (by decide) (hts _ (fs_tb_at 187 tw_187 rfl)) (fun _ h9 => h9) hv_ d_RE_worth_24 ?_
      refine lv_aload_n hx hb d_RE_worth_27 rfl (lv_at hl 0 rfl) ?_
      obtain ⟨hi_, hq⟩ := hq
      obtain ⟨fs_, he_⟩ := fs_isc_some hi_
      refine fs_cV B hl.1 hP hS (kw_RE_cell hE hq) (fs_tb_at 332 tw_332 rfl) he_ rfl (fs_tb_at 334 tw_334 rfl) (fs_tb_at 6 tw_6 rfl) (fs_tb_at 105 tw_105 rfl) (fs_tb_at 336 tw_336 rfl) (by decide) (show (parseMethodDescriptor y_RE_cell.desc).map (fun d => d.parameters.length) = some 0 by decide +kernel) rfl d_RE_worth_28 (fs_rm (k := 1) (by omega) (by omega) (by omega) (by omega) rfl) (fun v_ h109 H locs hq hP hS => ?_) (fun C_ a_ h_ H locs hq hP hS hX => fs_out (hout _) hlocks hw hP hS hX (Nat.le_of_ble_eq_true rfl) (Nat.le_of_ble_eq_true rfl) hq)
      refine fs_cs (k := 0) (n := 0) rfl rfl ?_
      replace hq := fs_ki_some hq
      obtain ⟨x110, rfl, hq⟩ := hq
      refine W.eq (g2 := F0 m 31 ls (.int x110 :: .ref a108 :: [])) rfl ?_
      obtain ⟨n_, f_, x111, e_, hi_, ex_, hq⟩ := fs_ad_some hq
      refine fs_dald hx hb hK hP 2 e_ rfl hi_ d_RE_worth_31 ?_
      rw [← ex_]
      refine lv_goto (tgt := 36) hx hb d_RE_worth_32 (by decide) ?_
      exact fs_dret hx hb hr hlocks hw hP hS (Nat.le_refl _) (Nat.le_refl _) hq d_RE_worth_36
  · have hq := fs_wifn c_102 hq
    refine lv_ldc2d (v := 4836865999795912704) hx hb hown (hts _ (fs_tb_at 431 tw_431 rfl)) d_RE_worth_7 ?_
    exact fs_dret hx hb hr hlocks hw hP hS (Nat.le_refl _) (Nat.le_refl _) hq d_RE_worth_10
def w_SI_worth (self : fs_E → fs_Hp → Nat → Nat → fs_Ps → Prop) (E : fs_E) (h : fs_Hp) (a0 : Nat) (x1 : Nat) (Post : fs_Ps) : Prop := fs_gr h a0 6 1 (fun a101 => fs_aq h a101 (E.1.2 6) 0 (fun o9 => match o9 with | none => False | some a104 => self E h a104 x1 (fs_kd (fun x106 h105 => w_SH_isBad E h105 x106 (fs_ki (fun x108 h107 => (if x108 = 0 then fs_gi h107 a0 6 0 (fun x110 => (if x110 = 33 then (if (Op.cmpValue (FP.dcmp x106 FP.dconst0) .l) = 0 then Post (.inl (some (.double FP.dconst1))) h107 else Post (.inl (some (.double FP.dconst0))) h107) else w_SH_isNaN E h107 x106 (fs_ki (fun x113 h112 => (if x113 = 0 then Post (.inl (some (.double (FP.dneg x106)))) h112 else Post (.inl (some (.double x106))) h112)) (fun C_ h_ => Post (.inr C_) h_)))) else Post (.inl (some (.double 4836865999795912704))) h107)) (fun C_ h_ => Post (.inr C_) h_))) (fun C_ h_ => Post (.inr C_) h_))))
set_option maxHeartbeats 4000000 in
set_option maxRecDepth 100000 in
theorem kw_SI_worth {l : Launch} {s00 : State} {E : fs_E} (hE : fs_SE l s00 E) {self : fs_E → fs_Hp → Nat → Nat → fs_Ps → Prop} {fn ln : Nat} (hself : ∀ {h9 : fs_Hp} {q0 : Nat} {q1 : Nat} {P9 : fs_Ps}, self E h9 q0 q1 P9 → fs_CtV l s00 E.1 y_PT_worth { frames := fn, cells := 0, slots := 0, locals := ln } q0 [.ref q1] h9 P9 7) {h : fs_Hp} {a0 : Nat} {x1 : Nat} {Post : fs_Ps} (hq : w_SI_worth self E h a0 x1 Post) : fs_Ct l s00 E.1 y_SI_worth (.code y_SI_worth b_SI_worth 4 (some .double)) { frames := fn + 3, cells := 0, slots := 0, locals := ln + 45 } [.ref a0, .ref x1] h Post := by
  refine fs_Ct.ofR hE.1 (by decide) ?_
  intro p e R s m below meth c hRf hRl hRc hRs B hout hP
  skip
  obtain ⟨hx, hb, hr, hml, hown, hts, hlocks, hname, hK, hw, htr⟩ := id B
  have hown : s.vm.findClass "FormulaSheet$Single" = some m.cls := hown
  have hS := hw.S
  have hl := lv_entry ([.ref a0, .ref x1]) (n := 4) (Nat.le_of_ble_eq_true rfl)
  rw [lg_entry_eq]
  generalize (lg_sl ([.ref a0, .ref x1]) ++ List.replicate (4 - (lg_sl ([.ref a0, .ref x1])).length) Slot.unset).toArray = ls at hl ⊢
  have hl : lv_has ls 4 [(0, .ref a0), (1, .ref x1)] := hl
  unfold w_SI_worth at hq
  refine lv_aload_n hx hb d_SI_worth_0 rfl (lv_at hl 0 rfl) ?_
  obtain ⟨fs_, a101, he_, hv_, hq⟩ := fs_gr_some hq
  refine fs_get hx hb hts hown hK c_SI hP he_ 1 (by decide) (hts _ (fs_tb_at 678 tw_678 rfl)) (fun x9 h9 => u_same (hts _ (fs_tb_at 679 tw_679 rfl)) x9 h9) hv_ d_SI_worth_1 ?_
  refine lv_iconst (v := 0) hx hb d_SI_worth_4 (by decide) ?_
  obtain ⟨n_, f_, o102, e_, hi_, ex_, hq⟩ := fs_aq_some hq
  refine fs_aald hx hb hK hP 6 e_ rfl hi_ d_SI_worth_5 ?_
  rw [← ex_]
  cases o102 with
  | none =>
    refine W.eq (g2 := F0 m 6 ls (.null :: [])) rfl ?_
    refine lv_aload_n hx hb d_SI_worth_6 rfl (lv_at hl 1 rfl) ?_
    exact False.elim hq
  | some a104 =>
    refine W.eq (g2 := F0 m 6 ls (.ref a104 :: [])) rfl ?_
    refine lv_aload_n hx hb d_SI_worth_6 rfl (lv_at hl 1 rfl) ?_
    refine fs_cVV (owner := "FormulaSheet$Part") B hl.1 hP hS (hself hq) (fs_tb_at 434 tw_434 rfl) (fs_tb_at 378 tw_378 rfl) (fs_dclA (fs_tb_at 377 tw_377 rfl)) (by decide) (show (parseMethodDescriptor y_PT_worth.desc).map (fun d => d.parameters.length) = some 1 by decide +kernel) rfl d_SI_worth_7 (fs_rm (k := 0) (by omega) (by omega) (by omega) (by omega) rfl) (fun v_ h105 H locs hq hP hS => ?_) (fun C_ a_ h_ H locs hq hP hS hX => fs_out (hout _) hlocks hw hP hS hX (Nat.le_of_ble_eq_true rfl) (Nat.le_of_ble_eq_true rfl) hq)
    refine fs_cs (k := 0) (n := 0) rfl rfl ?_
    replace hq := fs_kd_some hq
    obtain ⟨x106, rfl, hq⟩ := hq
    refine W.eq (g2 := F0 m 10 ls (.double x106 :: [])) rfl ?_
    refine lv_dstore_n (lv' := [(2, .double x106), (0, .ref a0), (1, .ref x1)]) hx hb d_SI_worth_10 rfl hl (by decide) rfl (fun ls hl => ?_)
    refine lv_dload_n hx hb d_SI_worth_11 rfl (lv_at hl 0 rfl) ?_
    refine fs_cSN B hl.1 hP hS (kw_SH_isBad hE hq) (fs_tb_at 435 tw_435 rfl) (fs_tb_at 409 tw_409 rfl) (fs_tb_at 88 tw_88 rfl) (fs_tb_at 410 tw_410 rfl) (by decide) (show (parseMethodDescriptor y_SH_isBad.desc).map (fun d => d.parameters.length) = some 1 by decide +kernel) rfl d_SI_worth_12 (fs_rm (k := 0) (by omega) (by omega) (by omega) (by omega) rfl) (fun v_ h107 H locs hq hP hS => ?_) (fun C_ a_ h_ H locs hq hP hS hX => fs_out (hout _) hlocks hw hP hS hX (Nat.le_of_ble_eq_true rfl) (Nat.le_of_ble_eq_true rfl) hq)
    refine fs_cs (k := 0) (n := 0) rfl rfl ?_
    replace hq := fs_ki_some hq
    obtain ⟨x108, rfl, hq⟩ := hq
    refine W.eq (g2 := F0 m 15 ls (.int x108 :: [])) rfl ?_
    refine lv_if_eq (tgt := 22) hx hb d_SI_worth_15 (by decide) (fun c_109 => ?_) (fun c_109 => ?_)
    · have hq := fs_wifp c_109 hq
      refine lv_aload_n hx hb d_SI_worth_22 rfl (lv_at hl 1 rfl) ?_
      obtain ⟨fs_, x110, he_, hv_, hq⟩ := fs_gi_some hq
      refine fs_get hx hb hts hown hK c_SI hP he_ 0 (by decide) (hts _ (fs_tb_at 834 tw_834 rfl)) (fun _ h9 => h9) hv_ d_SI_worth_23 ?_
      refine lv_bipush (v := 33) hx hb d_SI_worth_26 (by decide) ?_
      refine lv_icmp_ne (tgt := 43) hx hb d_SI_worth_28 (by decide) (fun c_111 => ?_) (fun c_111 => ?_)
      · have hq := fs_wifn c_111 hq
        refine lv_dload_n hx hb d_SI_worth_43 rfl (lv_at hl 0 rfl) ?_
        refine fs_cSN B hl.1 hP hS (kw_SH_isNaN hE hq) (fs_tb_at 437 tw_437 rfl) (fs_tb_at 422 tw_422 rfl) (fs_tb_at 88 tw_88 rfl) (fs_tb_at 423 tw_423 rfl) (by decide) (show (parseMethodDescriptor y_SH_isNaN.desc).map (fun d => d.parameters.length) = some 1 by decide +kernel) rfl d_SI_worth_44 (fs_rm (k := 0) (by omega) (by omega) (by omega) (by omega) rfl) (fun v_ h112 H locs hq hP hS => ?_) (fun C_ a_ h_ H locs hq hP hS hX => fs_out (hout _) hlocks hw hP hS hX (Nat.le_of_ble_eq_true rfl) (Nat.le_of_ble_eq_true rfl) hq)
        refine fs_cs (k := 0) (n := 0) rfl rfl ?_
        replace hq := fs_ki_some hq
        obtain ⟨x113, rfl, hq⟩ := hq
        refine W.eq (g2 := F0 m 47 ls (.int x113 :: [])) rfl ?_
        refine lv_if_eq (tgt := 54) hx hb d_SI_worth_47 (by decide) (fun c_114 => ?_) (fun c_114 => ?_)
        · have hq := fs_wifp c_114 hq
          refine lv_dload_n hx hb d_SI_worth_54 rfl (lv_at hl 0 rfl) ?_
          refine lv_dneg hx hb d_SI_worth_55 ?_
          exact fs_dret hx hb hr hlocks hw hP hS (Nat.le_refl _) (Nat.le_refl _) hq d_SI_worth_56
        · have hq := fs_wifn c_114 hq
          refine lv_dload_n hx hb d_SI_worth_50 rfl (lv_at hl 0 rfl) ?_
          refine lv_goto (tgt := 56) hx hb d_SI_worth_51 (by decide) ?_
          exact fs_dret hx hb hr hlocks hw hP hS (Nat.le_refl _) (Nat.le_refl _) hq d_SI_worth_56
      · have hq := fs_wifp c_111 hq
        refine lv_dload_n hx hb d_SI_worth_31 rfl (lv_at hl 0 rfl) ?_
        refine lv_dconst0 hx hb d_SI_worth_32 ?_
        refine lv_dcmp hx hb d_SI_worth_33 ?_
        refine lv_if_ne (tgt := 41) hx hb d_SI_worth_34 (by decide) (fun c_115 => ?_) (fun c_115 => ?_)
        · have hq := fs_wifn c_115 hq
          refine lv_dconst0 hx hb d_SI_worth_41 ?_
          exact fs_dret hx hb hr hlocks hw hP hS (Nat.le_refl _) (Nat.le_refl _) hq d_SI_worth_42
        · have hq := fs_wifp c_115 hq
          refine lv_dconst1 hx hb d_SI_worth_37 ?_
          refine lv_goto (tgt := 42) hx hb d_SI_worth_38 (by decide) ?_
          exact fs_dret hx hb hr hlocks hw hP hS (Nat.le_refl _) (Nat.le_refl _) hq d_SI_worth_42
    · have hq := fs_wifn c_109 hq
      refine lv_ldc2d (v := 4836865999795912704) hx hb hown (hts _ (fs_tb_at 436 tw_436 rfl)) d_SI_worth_18 ?_
      exact fs_dret hx hb hr hlocks hw hP hS (Nat.le_refl _) (Nat.le_refl _) hq d_SI_worth_21
def w_PA_worth_J41 (self : fs_E → fs_Hp → Nat → Nat → fs_Ps → Prop) (E : fs_E) (Post : fs_Ps) (z0 : Nat) (z2 : UInt64) (z4 : UInt64) (h1 : fs_Hp) : Prop := fs_gi h1 z0 7 0 (fun x101 => w_SH_workedOut E h1 z2 x101 z4 (fs_kd (fun x103 h102 => Post (.inl (some (.double x103))) h102) (fun C_ h_ => Post (.inr C_) h_)))
def w_PA_worth (self : fs_E → fs_Hp → Nat → Nat → fs_Ps → Prop) (E : fs_E) (h : fs_Hp) (a0 : Nat) (x1 : Nat) (Post : fs_Ps) : Prop := fs_gr h a0 7 1 (fun a104 => fs_aq h a104 (E.1.2 6) 0 (fun o9 => match o9 with | none => False | some a107 => self E h a107 x1 (fs_kd (fun x109 h108 => fs_gr h108 a0 7 1 (fun a110 => fs_aq h108 a110 (E.1.2 6) 1 (fun o9 => match o9 with | none => False | some a113 => self E h108 a113 x1 (fs_kd (fun x115 h114 => fs_isc h114 a0 7 ∧ (w_PA_rule E h114 a0 (fs_ki (fun x117 h116 => (if x117 = 2 then w_PA_worth_J41 self E Post a0 x109 x115 h116 else (if x117 = 3 then w_PA_worth_J41 self E Post a0 x109 x115 h116 else w_SH_isBad E h116 x109 (fs_ki (fun x121 h120 => (if x121 = 0 then w_SH_isBad E h120 x115 (fs_ki (fun x124 h123 => (if x124 = 0 then fs_isc h123 a0 7 ∧ (w_PA_holds E h123 a0 x109 x115 (fs_ki (fun x127 h126 => (if x127 = 0 then Post (.inl (some (.double FP.dconst0))) h126 else Post (.inl (some (.double FP.dconst1))) h126)) (fun C_ h_ => Post (.inr C_) h_))) else Post (.inl (some (.double 4836865999795912704))) h123)) (fun C_ h_ => Post (.inr C_) h_)) else Post (.inl (some (.double 4836865999795912704))) h120)) (fun C_ h_ => Post (.inr C_) h_))))) (fun C_ h_ => Post (.inr C_) h_)))) (fun C_ h_ => Post (.inr C_) h_))))) (fun C_ h_ => Post (.inr C_) h_))))
set_option maxHeartbeats 4000000 in
set_option maxRecDepth 100000 in
theorem kw_PA_worth {l : Launch} {s00 : State} {E : fs_E} (hE : fs_SE l s00 E) {self : fs_E → fs_Hp → Nat → Nat → fs_Ps → Prop} {fn ln : Nat} (hself : ∀ {h9 : fs_Hp} {q0 : Nat} {q1 : Nat} {P9 : fs_Ps}, self E h9 q0 q1 P9 → fs_CtV l s00 E.1 y_PT_worth { frames := fn, cells := 0, slots := 0, locals := ln } q0 [.ref q1] h9 P9 7) {h : fs_Hp} {a0 : Nat} {x1 : Nat} {Post : fs_Ps} (hq : w_PA_worth self E h a0 x1 Post) : fs_Ct l s00 E.1 y_PA_worth (.code y_PA_worth b_PA_worth 7 (some .double)) { frames := fn + 3, cells := 0, slots := 0, locals := ln + 45 } [.ref a0, .ref x1] h Post := by
  refine fs_Ct.ofR hE.1 (by decide) ?_
  intro p e R s m below meth c hRf hRl hRc hRs B hout hP
  skip
  obtain ⟨hx, hb, hr, hml, hown, hts, hlocks, hname, hK, hw, htr⟩ := id B
  have hown : s.vm.findClass "FormulaSheet$Pair" = some m.cls := hown
  have hS := hw.S
  have hJ41 : ∀ (z0 : Nat) (z2 : UInt64) (z4 : UInt64) (h1 : fs_Hp) (H : Heap) (locs : List Loc) (ls : Array Slot), w_PA_worth_J41 self E Post z0 z2 z4 h1 → fs_P E.1.1 fs_cl (fs_A s00) h1 H → va_S (fs_A s00) s00.heap H locs → lv_has ls 7 [(0, .ref z0), (2, .double z2), (4, .double z4)] → W p l e R s m ([.ref a0, .ref x1] : List Value).toArray below meth c H locs 0 0 (fx_MQ below (fs_Qc s00 E.1 Post) ([.ref a0, .ref x1] : List Value).toArray s 0 0 (fs_A s00)) (F0 m 41 ls ([])) := by
    intro z0 z2 z4 h1 H locs ls hq hP hS hl
    unfold w_PA_worth_J41 at hq
    refine lv_dload_n hx hb d_PA_worth_41 rfl (lv_at hl 1 rfl) ?_
    refine lv_aload_n hx hb d_PA_worth_42 rfl (lv_at hl 0 rfl) ?_
    obtain ⟨fs_, x101, he_, hv_, hq⟩ := fs_gi_some hq
    refine fs_get hx hb hts hown hK c_PA hP he_ 0 (by decide) (hts _ (fs_tb_at 852 tw_852 rfl)) (fun _ h9 => h9) hv_ d_PA_worth_43 ?_
    refine lv_dload hx hb d_PA_worth_46 (lv_at hl 2 rfl) ?_
    refine fs_cSN B hl.1 hP hS (kw_SH_workedOut hE hq) (fs_tb_at 442 tw_442 rfl) (fs_tb_at 417 tw_417 rfl) (fs_tb_at 88 tw_88 rfl) (fs_tb_at 418 tw_418 rfl) (by decide) (show (parseMethodDescriptor y_SH_workedOut.desc).map (fun d => d.parameters.length) = some 3 by decide +kernel) rfl d_PA_worth_48 (fs_rm (k := 0) (by omega) (by omega) (by omega) (by omega) rfl) (fun v_ h102 H locs hq hP hS => ?_) (fun C_ a_ h_ H locs hq hP hS hX => fs_out (hout _) hlocks hw hP hS hX (Nat.le_of_ble_eq_true rfl) (Nat.le_of_ble_eq_true rfl) hq)
    refine fs_cs (k := 0) (n := 0) rfl rfl ?_
    replace hq := fs_kd_some hq
    obtain ⟨x103, rfl, hq⟩ := hq
    refine W.eq (g2 := F0 m 51 ls (.double x103 :: [])) rfl ?_
    exact fs_dret hx hb hr hlocks hw hP hS (Nat.le_refl _) (Nat.le_refl _) hq d_PA_worth_51
  have hl := lv_entry ([.ref a0, .ref x1]) (n := 7) (Nat.le_of_ble_eq_true rfl)
  rw [lg_entry_eq]
  generalize (lg_sl ([.ref a0, .ref x1]) ++ List.replicate (7 - (lg_sl ([.ref a0, .ref x1])).length) Slot.unset).toArray = ls at hl ⊢
  have hl : lv_has ls 7 [(0, .ref a0), (1, .ref x1)] := hl
  unfold w_PA_worth at hq
  refine lv_aload_n hx hb d_PA_worth_0 rfl (lv_at hl 0 rfl) ?_
  obtain ⟨fs_, a104, he_, hv_, hq⟩ := fs_gr_some hq
  refine fs_get hx hb hts hown hK c_PA hP he_ 1 (by decide) (hts _ (fs_tb_at 676 tw_676 rfl)) (fun x9 h9 => u_same (hts _ (fs_tb_at 677 tw_677 rfl)) x9 h9) hv_ d_PA_worth_1 ?_
  refine lv_iconst (v := 0) hx hb d_PA_worth_4 (by decide) ?_
  obtain ⟨n_, f_, o105, e_, hi_, ex_, hq⟩ := fs_aq_some hq
  refine fs_aald hx hb hK hP 6 e_ rfl hi_ d_PA_worth_5 ?_
  rw [← ex_]
  cases o105 with
  | none =>
    refine W.eq (g2 := F0 m 6 ls (.null :: [])) rfl ?_
    refine lv_aload_n hx hb d_PA_worth_6 rfl (lv_at hl 1 rfl) ?_
    exact False.elim hq
  | some a107 =>
    refine W.eq (g2 := F0 m 6 ls (.ref a107 :: [])) rfl ?_
    refine lv_aload_n hx hb d_PA_worth_6 rfl (lv_at hl 1 rfl) ?_
    refine fs_cVV (owner := "FormulaSheet$Part") B hl.1 hP hS (hself hq) (fs_tb_at 428 tw_428 rfl) (fs_tb_at 378 tw_378 rfl) (fs_dclA (fs_tb_at 377 tw_377 rfl)) (by decide) (show (parseMethodDescriptor y_PT_worth.desc).map (fun d => d.parameters.length) = some 1 by decide +kernel) rfl d_PA_worth_7 (fs_rm (k := 0) (by omega) (by omega) (by omega) (by omega) rfl) (fun v_ h108 H locs hq hP hS => ?_) (fun C_ a_ h_ H locs hq hP hS hX => fs_out (hout _) hlocks hw hP hS hX (Nat.le_of_ble_eq_true rfl) (Nat.le_of_ble_eq_true rfl) hq)
    refine fs_cs (k := 0) (n := 0) rfl rfl ?_
    replace hq := fs_kd_some hq
    obtain ⟨x109, rfl, hq⟩ := hq
    refine W.eq (g2 := F0 m 10 ls (.double x109 :: [])) rfl ?_
    refine lv_dstore_n (lv' := [(2, .double x109), (0, .ref a0), (1, .ref x1)]) hx hb d_PA_worth_10 rfl hl (by decide) rfl (fun ls hl => ?_)
    refine lv_aload_n hx hb d_PA_worth_11 rfl (lv_at hl 1 rfl) ?_
    obtain ⟨fs_, a110, he_, hv_, hq⟩ := fs_gr_some hq
    refine fs_get hx hb hts hown hK c_PA hP he_ 1 (by decide) (hts _ (fs_tb_at 676 tw_676 rfl)) (fun x9 h9 => u_same (hts _ (fs_tb_at 677 tw_677 rfl)) x9 h9) hv_ d_PA_worth_12 ?_
    refine lv_iconst (v := 1) hx hb d_PA_worth_15 (by decide) ?_
    obtain ⟨n_, f_, o111, e_, hi_, ex_, hq⟩ := fs_aq_some hq
    refine fs_aald hx hb hK hP 6 e_ rfl hi_ d_PA_worth_16 ?_
    rw [← ex_]
    cases o111 with
    | none =>
      refine W.eq (g2 := F0 m 17 ls (.null :: [])) rfl ?_
      refine lv_aload_n hx hb d_PA_worth_17 rfl (lv_at hl 2 rfl) ?_
      exact False.elim hq
    | some a113 =>
      refine W.eq (g2 := F0 m 17 ls (.ref a113 :: [])) rfl ?_
      refine lv_aload_n hx hb d_PA_worth_17 rfl (lv_at hl 2 rfl) ?_
      refine fs_cVV (owner := "FormulaSheet$Part") B hl.1 hP hS (hself hq) (fs_tb_at 428 tw_428 rfl) (fs_tb_at 378 tw_378 rfl) (fs_dclA (fs_tb_at 377 tw_377 rfl)) (by decide) (show (parseMethodDescriptor y_PT_worth.desc).map (fun d => d.parameters.length) = some 1 by decide +kernel) rfl d_PA_worth_18 (fs_rm (k := 0) (by omega) (by omega) (by omega) (by omega) rfl) (fun v_ h114 H locs hq hP hS => ?_) (fun C_ a_ h_ H locs hq hP hS hX => fs_out (hout _) hlocks hw hP hS hX (Nat.le_of_ble_eq_true rfl) (Nat.le_of_ble_eq_true rfl) hq)
      refine fs_cs (k := 0) (n := 0) rfl rfl ?_
      replace hq := fs_kd_some hq
      obtain ⟨x115, rfl, hq⟩ := hq
      refine W.eq (g2 := F0 m 21 ls (.double x115 :: [])) rfl ?_
      refine lv_dstore (lv' := [(4, .double x115), (2, .double x109), (0, .ref a0), (1, .ref x1)]) hx hb d_PA_worth_21 hl (by decide) rfl (fun ls hl => ?_)
      refine lv_aload_n hx hb d_PA_worth_23 rfl (lv_at hl 2 rfl) ?_
      obtain ⟨hi_, hq⟩ := hq
      obtain ⟨fs_, he_⟩ := fs_isc_some hi_
      refine fs_cV B hl.1 hP hS (kw_PA_rule hE hq) (fs_tb_at 438 tw_438 rfl) he_ rfl (fs_tb_at 439 tw_439 rfl) (fs_tb_at 440 tw_440 rfl) (fs_tb_at 112 tw_112 rfl) (fs_tb_at 441 tw_441 rfl) (by decide) (show (parseMethodDescriptor y_PA_rule.desc).map (fun d => d.parameters.length) = some 0 by decide +kernel) rfl d_PA_worth_24 (fs_rm (k := 0) (by omega) (by omega) (by omega) (by omega) rfl) (fun v_ h116 H locs hq hP hS => ?_) (fun C_ a_ h_ H locs hq hP hS hX => fs_out (hout _) hlocks hw hP hS hX (Nat.le_of_ble_eq_true rfl) (Nat.le_of_ble_eq_true rfl) hq)
      refine fs_cs (k := 0) (n := 0) rfl rfl ?_
      replace hq := fs_ki_some hq
      obtain ⟨x117, rfl, hq⟩ := hq
      refine W.eq (g2 := F0 m 27 ls (.int x117 :: [])) rfl ?_
      refine lv_istore (lv' := [(6, .int x117), (4, .double x115), (2, .double x109), (0, .ref a0), (1, .ref x1)]) hx hb d_PA_worth_27 hl (by decide) rfl (fun ls hl => ?_)
      refine lv_iload hx hb d_PA_worth_29 (lv_at hl 0 rfl) ?_
      refine lv_iconst (v := 2) hx hb d_PA_worth_31 (by decide) ?_
      refine lv_icmp_eq (tgt := 41) hx hb d_PA_worth_32 (by decide) (fun c_118 => ?_) (fun c_118 => ?_)
      · have hq := fs_wifp c_118 hq
        exact hJ41 a0 x109 x115 _ _ _ _ hq hP hS (show lv_has ls 7 [(0, .ref a0), (2, .double x109), (4, .double x115)] from lv_sub hl [3, 2, 1] rfl)
      · have hq := fs_wifn c_118 hq
        refine lv_iload hx hb d_PA_worth_35 (lv_at hl 0 rfl) ?_
        refine lv_iconst (v := 3) hx hb d_PA_worth_37 (by decide) ?_
        refine lv_icmp_ne (tgt := 52) hx hb d_PA_worth_38 (by decide) (fun c_119 => ?_) (fun c_119 => ?_)
        · have hq := fs_wifn c_119 hq
          refine lv_dload_n hx hb d_PA_worth_52 rfl (lv_at hl 2 rfl) ?_
          refine fs_cSN B hl.1 hP hS (kw_SH_isBad hE hq) (fs_tb_at 443 tw_443 rfl) (fs_tb_at 409 tw_409 rfl) (fs_tb_at 88 tw_88 rfl) (fs_tb_at 410 tw_410 rfl) (by decide) (show (parseMethodDescriptor y_SH_isBad.desc).map (fun d => d.parameters.length) = some 1 by decide +kernel) rfl d_PA_worth_53 (fs_rm (k := 0) (by omega) (by omega) (by omega) (by omega) rfl) (fun v_ h120 H locs hq hP hS => ?_) (fun C_ a_ h_ H locs hq hP hS hX => fs_out (hout _) hlocks hw hP hS hX (Nat.le_of_ble_eq_true rfl) (Nat.le_of_ble_eq_true rfl) hq)
          refine fs_cs (k := 0) (n := 0) rfl rfl ?_
          replace hq := fs_ki_some hq
          obtain ⟨x121, rfl, hq⟩ := hq
          refine W.eq (g2 := F0 m 56 ls (.int x121 :: [])) rfl ?_
          refine lv_if_ne (tgt := 67) hx hb d_PA_worth_56 (by decide) (fun c_122 => ?_) (fun c_122 => ?_)
          · have hq := fs_wifn c_122 hq
            refine lv_ldc2d (v := 4836865999795912704) hx hb hown (hts _ (fs_tb_at 444 tw_444 rfl)) d_PA_worth_67 ?_
            exact fs_dret hx hb hr hlocks hw hP hS (Nat.le_refl _) (Nat.le_refl _) hq d_PA_worth_70
          · have hq := fs_wifp c_122 hq
            refine lv_dload hx hb d_PA_worth_59 (lv_at hl 1 rfl) ?_
            refine fs_cSN B hl.1 hP hS (kw_SH_isBad hE hq) (fs_tb_at 443 tw_443 rfl) (fs_tb_at 409 tw_409 rfl) (fs_tb_at 88 tw_88 rfl) (fs_tb_at 410 tw_410 rfl) (by decide) (show (parseMethodDescriptor y_SH_isBad.desc).map (fun d => d.parameters.length) = some 1 by decide +kernel) rfl d_PA_worth_61 (fs_rm (k := 0) (by omega) (by omega) (by omega) (by omega) rfl) (fun v_ h123 H locs hq hP hS => ?_) (fun C_ a_ h_ H locs hq hP hS hX => fs_out (hout _) hlocks hw hP hS hX (Nat.le_of_ble_eq_true rfl) (Nat.le_of_ble_eq_true rfl) hq)
            refine fs_cs (k := 0) (n := 0) rfl rfl ?_
            replace hq := fs_ki_some hq
            obtain ⟨x124, rfl, hq⟩ := hq
            refine W.eq (g2 := F0 m 64 ls (.int x124 :: [])) rfl ?_
            refine lv_if_eq (tgt := 71) hx hb d_PA_worth_64 (by decide) (fun c_125 => ?_) (fun c_125 => ?_)
            · have hq := fs_wifp c_125 hq
              refine lv_aload_n hx hb d_PA_worth_71 rfl (lv_at hl 3 rfl) ?_
              refine lv_dload_n hx hb d_PA_worth_72 rfl (lv_at hl 2 rfl) ?_
              refine lv_dload hx hb d_PA_worth_73 (lv_at hl 1 rfl) ?_
              obtain ⟨hi_, hq⟩ := hq
              obtain ⟨fs_, he_⟩ := fs_isc_some hi_
              refine fs_cV B hl.1 hP hS (kw_PA_holds hE hq) (fs_tb_at 445 tw_445 rfl) he_ rfl (fs_tb_at 447 tw_447 rfl) (fs_tb_at 13 tw_13 rfl) (fs_tb_at 112 tw_112 rfl) (fs_tb_at 449 tw_449 rfl) (by decide) (show (parseMethodDescriptor y_PA_holds.desc).map (fun d => d.parameters.length) = some 2 by decide +kernel) rfl d_PA_worth_75 (fs_rm (k := 0) (by omega) (by omega) (by omega) (by omega) rfl) (fun v_ h126 H locs hq hP hS => ?_) (fun C_ a_ h_ H locs hq hP hS hX => fs_out (hout _) hlocks hw hP hS hX (Nat.le_of_ble_eq_true rfl) (Nat.le_of_ble_eq_true rfl) hq)
              refine fs_cs (k := 0) (n := 0) rfl rfl ?_
              replace hq := fs_ki_some hq
              obtain ⟨x127, rfl, hq⟩ := hq
              refine W.eq (g2 := F0 m 78 ls (.int x127 :: [])) rfl ?_
              refine lv_if_eq (tgt := 85) hx hb d_PA_worth_78 (by decide) (fun c_128 => ?_) (fun c_128 => ?_)
              · have hq := fs_wifp c_128 hq
                refine lv_dconst0 hx hb d_PA_worth_85 ?_
                exact fs_dret hx hb hr hlocks hw hP hS (Nat.le_refl _) (Nat.le_refl _) hq d_PA_worth_86
              · have hq := fs_wifn c_128 hq
                refine lv_dconst1 hx hb d_PA_worth_81 ?_
                refine lv_goto (tgt := 86) hx hb d_PA_worth_82 (by decide) ?_
                exact fs_dret hx hb hr hlocks hw hP hS (Nat.le_refl _) (Nat.le_refl _) hq d_PA_worth_86
            · have hq := fs_wifn c_125 hq
              refine lv_ldc2d (v := 4836865999795912704) hx hb hown (hts _ (fs_tb_at 444 tw_444 rfl)) d_PA_worth_67 ?_
              exact fs_dret hx hb hr hlocks hw hP hS (Nat.le_refl _) (Nat.le_refl _) hq d_PA_worth_70
        · have hq := fs_wifp c_119 hq
          exact hJ41 a0 x109 x115 _ _ _ _ hq hP hS (show lv_has ls 7 [(0, .ref a0), (2, .double x109), (4, .double x115)] from lv_sub hl [3, 2, 1] rfl)
def w_CA_worth_J47 (self : fs_E → fs_Hp → Nat → Nat → fs_Ps → Prop) (E : fs_E) (Post : fs_Ps) (z1 : Nat) (w0 : Int32) (w1 : Nat) (h1 : fs_Hp) : Prop := fs_aq h1 w1 (E.1.2 6) w0 (fun o9 => match o9 with | none => False | some a103 => self E h1 a103 z1 (fs_kd (fun x105 h104 => Post (.inl (some (.double x105))) h104) (fun C_ h_ => Post (.inr C_) h_)))
def w_CA_worth (self : fs_E → fs_Hp → Nat → Nat → fs_Ps → Prop) (E : fs_E) (h : fs_Hp) (a0 : Nat) (x1 : Nat) (Post : fs_Ps) : Prop := fs_gr h a0 8 1 (fun a106 => fs_aq h a106 (E.1.2 6) 0 (fun o9 => match o9 with | none => False | some a109 => self E h a109 x1 (fs_kd (fun x111 h110 => w_SH_isBad E h110 x111 (fs_ki (fun x113 h112 => (if x113 = 0 then fs_gr h112 a0 8 0 (fun a115 => (if a115 = (E.2 7) then fs_gr h112 a0 8 1 (fun a120 => (if (Op.cmpValue (FP.dcmp x111 FP.dconst0) .l) = 0 then w_CA_worth_J47 self E Post x1 2 a120 h112 else w_CA_worth_J47 self E Post x1 1 a120 h112)) else fs_gr h112 a0 8 0 (fun a117 => (if a117 = (E.2 6) then Post (.inl (some (.double (FP.l2d (FP.d2l x111))))) h112 else (if 0 ≤ (Op.cmpValue (FP.dcmp x111 FP.dconst0) .g) then Post (.inl (some (.double x111))) h112 else Post (.inl (some (.double (FP.dneg x111)))) h112))))) else Post (.inl (some (.double 4836865999795912704))) h112)) (fun C_ h_ => Post (.inr C_) h_))) (fun C_ h_ => Post (.inr C_) h_))))
set_option maxHeartbeats 4000000 in
set_option maxRecDepth 100000 in
theorem kw_CA_worth {l : Launch} {s00 : State} {E : fs_E} (hE : fs_SE l s00 E) {self : fs_E → fs_Hp → Nat → Nat → fs_Ps → Prop} {fn ln : Nat} (hself : ∀ {h9 : fs_Hp} {q0 : Nat} {q1 : Nat} {P9 : fs_Ps}, self E h9 q0 q1 P9 → fs_CtV l s00 E.1 y_PT_worth { frames := fn, cells := 0, slots := 0, locals := ln } q0 [.ref q1] h9 P9 7) {h : fs_Hp} {a0 : Nat} {x1 : Nat} {Post : fs_Ps} (hq : w_CA_worth self E h a0 x1 Post) : fs_Ct l s00 E.1 y_CA_worth (.code y_CA_worth b_CA_worth 4 (some .double)) { frames := fn + 3, cells := 0, slots := 0, locals := ln + 45 } [.ref a0, .ref x1] h Post := by
  refine fs_Ct.ofR hE.1 (by decide) ?_
  intro p e R s m below meth c hRf hRl hRc hRs B hout hP
  skip
  obtain ⟨hx, hb, hr, hml, hown, hts, hlocks, hname, hK, hw, htr⟩ := id B
  have hown : s.vm.findClass "FormulaSheet$Call" = some m.cls := hown
  have hS := hw.S
  have hJ47 : ∀ (z1 : Nat) (w0 : Int32) (w1 : Nat) (h1 : fs_Hp) (H : Heap) (locs : List Loc) (ls : Array Slot), w_CA_worth_J47 self E Post z1 w0 w1 h1 → fs_P E.1.1 fs_cl (fs_A s00) h1 H → va_S (fs_A s00) s00.heap H locs → lv_has ls 4 [(1, .ref z1)] → W p l e R s m ([.ref a0, .ref x1] : List Value).toArray below meth c H locs 0 0 (fx_MQ below (fs_Qc s00 E.1 Post) ([.ref a0, .ref x1] : List Value).toArray s 0 0 (fs_A s00)) (F0 m 47 ls (.int w0 :: .ref w1 :: [])) := by
    intro z1 w0 w1 h1 H locs ls hq hP hS hl
    unfold w_CA_worth_J47 at hq
    obtain ⟨n_, f_, o101, e_, hi_, ex_, hq⟩ := fs_aq_some hq
    refine fs_aald hx hb hK hP 6 e_ rfl hi_ d_CA_worth_47 ?_
    rw [← ex_]
    cases o101 with
    | none =>
      refine W.eq (g2 := F0 m 48 ls (.null :: [])) rfl ?_
      refine lv_aload_n hx hb d_CA_worth_48 rfl (lv_at hl 0 rfl) ?_
      exact False.elim hq
    | some a103 =>
      refine W.eq (g2 := F0 m 48 ls (.ref a103 :: [])) rfl ?_
      refine lv_aload_n hx hb d_CA_worth_48 rfl (lv_at hl 0 rfl) ?_
      refine fs_cVV (owner := "FormulaSheet$Part") B hl.1 hP hS (hself hq) (fs_tb_at 382 tw_382 rfl) (fs_tb_at 378 tw_378 rfl) (fs_dclA (fs_tb_at 377 tw_377 rfl)) (by decide) (show (parseMethodDescriptor y_PT_worth.desc).map (fun d => d.parameters.length) = some 1 by decide +kernel) rfl d_CA_worth_49 (fs_rm (k := 0) (by omega) (by omega) (by omega) (by omega) rfl) (fun v_ h104 H locs hq hP hS => ?_) (fun C_ a_ h_ H locs hq hP hS hX => fs_out (hout _) hlocks hw hP hS hX (Nat.le_of_ble_eq_true rfl) (Nat.le_of_ble_eq_true rfl) hq)
      refine fs_cs (k := 0) (n := 0) rfl rfl ?_
      replace hq := fs_kd_some hq
      obtain ⟨x105, rfl, hq⟩ := hq
      refine W.eq (g2 := F0 m 52 ls (.double x105 :: [])) rfl ?_
      exact fs_dret hx hb hr hlocks hw hP hS (Nat.le_refl _) (Nat.le_refl _) hq d_CA_worth_52
  have hl := lv_entry ([.ref a0, .ref x1]) (n := 4) (Nat.le_of_ble_eq_true rfl)
  rw [lg_entry_eq]
  generalize (lg_sl ([.ref a0, .ref x1]) ++ List.replicate (4 - (lg_sl ([.ref a0, .ref x1])).length) Slot.unset).toArray = ls at hl ⊢
  have hl : lv_has ls 4 [(0, .ref a0), (1, .ref x1)] := hl
  unfold w_CA_worth at hq
  refine lv_aload_n hx hb d_CA_worth_0 rfl (lv_at hl 0 rfl) ?_
  obtain ⟨fs_, a106, he_, hv_, hq⟩ := fs_gr_some hq
  refine fs_get hx hb hts hown hK c_CA hP he_ 1 (by decide) (hts _ (fs_tb_at 674 tw_674 rfl)) (fun x9 h9 => u_same (hts _ (fs_tb_at 675 tw_675 rfl)) x9 h9) hv_ d_CA_worth_1 ?_
  refine lv_iconst (v := 0) hx hb d_CA_worth_4 (by decide) ?_
  obtain ⟨n_, f_, o107, e_, hi_, ex_, hq⟩ := fs_aq_some hq
  refine fs_aald hx hb hK hP 6 e_ rfl hi_ d_CA_worth_5 ?_
  rw [← ex_]
  cases o107 with
  | none =>
    refine W.eq (g2 := F0 m 6 ls (.null :: [])) rfl ?_
    refine lv_aload_n hx hb d_CA_worth_6 rfl (lv_at hl 1 rfl) ?_
    exact False.elim hq
  | some a109 =>
    refine W.eq (g2 := F0 m 6 ls (.ref a109 :: [])) rfl ?_
    refine lv_aload_n hx hb d_CA_worth_6 rfl (lv_at hl 1 rfl) ?_
    refine fs_cVV (owner := "FormulaSheet$Part") B hl.1 hP hS (hself hq) (fs_tb_at 382 tw_382 rfl) (fs_tb_at 378 tw_378 rfl) (fs_dclA (fs_tb_at 377 tw_377 rfl)) (by decide) (show (parseMethodDescriptor y_PT_worth.desc).map (fun d => d.parameters.length) = some 1 by decide +kernel) rfl d_CA_worth_7 (fs_rm (k := 0) (by omega) (by omega) (by omega) (by omega) rfl) (fun v_ h110 H locs hq hP hS => ?_) (fun C_ a_ h_ H locs hq hP hS hX => fs_out (hout _) hlocks hw hP hS hX (Nat.le_of_ble_eq_true rfl) (Nat.le_of_ble_eq_true rfl) hq)
    refine fs_cs (k := 0) (n := 0) rfl rfl ?_
    replace hq := fs_kd_some hq
    obtain ⟨x111, rfl, hq⟩ := hq
    refine W.eq (g2 := F0 m 10 ls (.double x111 :: [])) rfl ?_
    refine lv_dstore_n (lv' := [(2, .double x111), (0, .ref a0), (1, .ref x1)]) hx hb d_CA_worth_10 rfl hl (by decide) rfl (fun ls hl => ?_)
    refine lv_dload_n hx hb d_CA_worth_11 rfl (lv_at hl 0 rfl) ?_
    refine fs_cSN B hl.1 hP hS (kw_SH_isBad hE hq) (fs_tb_at 450 tw_450 rfl) (fs_tb_at 409 tw_409 rfl) (fs_tb_at 88 tw_88 rfl) (fs_tb_at 410 tw_410 rfl) (by decide) (show (parseMethodDescriptor y_SH_isBad.desc).map (fun d => d.parameters.length) = some 1 by decide +kernel) rfl d_CA_worth_12 (fs_rm (k := 0) (by omega) (by omega) (by omega) (by omega) rfl) (fun v_ h112 H locs hq hP hS => ?_) (fun C_ a_ h_ H locs hq hP hS hX => fs_out (hout _) hlocks hw hP hS hX (Nat.le_of_ble_eq_true rfl) (Nat.le_of_ble_eq_true rfl) hq)
    refine fs_cs (k := 0) (n := 0) rfl rfl ?_
    replace hq := fs_ki_some hq
    obtain ⟨x113, rfl, hq⟩ := hq
    refine W.eq (g2 := F0 m 15 ls (.int x113 :: [])) rfl ?_
    refine lv_if_eq (tgt := 22) hx hb d_CA_worth_15 (by decide) (fun c_114 => ?_) (fun c_114 => ?_)
    · have hq := fs_wifp c_114 hq
      refine lv_aload_n hx hb d_CA_worth_22 rfl (lv_at hl 1 rfl) ?_
      obtain ⟨fs_, a115, he_, hv_, hq⟩ := fs_gr_some hq
      refine fs_get hx hb hts hown hK c_CA hP he_ 0 (by decide) (hts _ (fs_tb_at 819 tw_819 rfl)) (fun _ h9 => h9) hv_ d_CA_worth_23 ?_
      refine fs_gets hx hb (fs_zr hE (i := 7) rfl (List.mem_of_getElem? tw_453) (List.mem_of_getElem? tw_116)) hw hS hown (hts _ (fs_tb_at 452 tw_452 rfl)) d_CA_worth_26 ?_
      refine fs_acmp_ne (tgt := 53) hx hb d_CA_worth_29 (by decide) (fun c_116 => ?_) (fun c_116 => ?_)
      · have hq := fs_wifn c_116 hq
        refine lv_aload_n hx hb d_CA_worth_53 rfl (lv_at hl 1 rfl) ?_
        obtain ⟨fs_, a117, he_, hv_, hq⟩ := fs_gr_some hq
        refine fs_get hx hb hts hown hK c_CA hP he_ 0 (by decide) (hts _ (fs_tb_at 819 tw_819 rfl)) (fun _ h9 => h9) hv_ d_CA_worth_54 ?_
        refine fs_gets hx hb (fs_zr hE (i := 6) rfl (List.mem_of_getElem? tw_455) (List.mem_of_getElem? tw_116)) hw hS hown (hts _ (fs_tb_at 454 tw_454 rfl)) d_CA_worth_57 ?_
        refine fs_acmp_ne (tgt := 67) hx hb d_CA_worth_60 (by decide) (fun c_118 => ?_) (fun c_118 => ?_)
        · have hq := fs_wifn c_118 hq
          refine lv_dload_n hx hb d_CA_worth_67 rfl (lv_at hl 0 rfl) ?_
          refine lv_dconst0 hx hb d_CA_worth_68 ?_
          refine lv_dcmp hx hb d_CA_worth_69 ?_
          refine lv_if_ge (tgt := 78) hx hb d_CA_worth_70 (by decide) (fun c_119 => ?_) (fun c_119 => ?_)
          · have hq := fs_wifp c_119 hq
            refine lv_dload_n hx hb d_CA_worth_78 rfl (lv_at hl 0 rfl) ?_
            exact fs_dret hx hb hr hlocks hw hP hS (Nat.le_refl _) (Nat.le_refl _) hq d_CA_worth_79
          · have hq := fs_wifn c_119 hq
            refine lv_dload_n hx hb d_CA_worth_73 rfl (lv_at hl 0 rfl) ?_
            refine lv_dneg hx hb d_CA_worth_74 ?_
            refine lv_goto (tgt := 79) hx hb d_CA_worth_75 (by decide) ?_
            exact fs_dret hx hb hr hlocks hw hP hS (Nat.le_refl _) (Nat.le_refl _) hq d_CA_worth_79
        · have hq := fs_wifp c_118 hq
          refine lv_dload_n hx hb d_CA_worth_63 rfl (lv_at hl 0 rfl) ?_
          refine lv_d2l hx hb d_CA_worth_64 ?_
          refine lv_l2d hx hb d_CA_worth_65 ?_
          exact fs_dret hx hb hr hlocks hw hP hS (Nat.le_refl _) (Nat.le_refl _) hq d_CA_worth_66
      · have hq := fs_wifp c_116 hq
        refine lv_aload_n hx hb d_CA_worth_32 rfl (lv_at hl 1 rfl) ?_
        obtain ⟨fs_, a120, he_, hv_, hq⟩ := fs_gr_some hq
        refine fs_get hx hb hts hown hK c_CA hP he_ 1 (by decide) (hts _ (fs_tb_at 674 tw_674 rfl)) (fun x9 h9 => u_same (hts _ (fs_tb_at 675 tw_675 rfl)) x9 h9) hv_ d_CA_worth_33 ?_
        refine lv_dload_n hx hb d_CA_worth_36 rfl (lv_at hl 0 rfl) ?_
        refine lv_dconst0 hx hb d_CA_worth_37 ?_
        refine lv_dcmp hx hb d_CA_worth_38 ?_
        refine lv_if_eq (tgt := 46) hx hb d_CA_worth_39 (by decide) (fun c_121 => ?_) (fun c_121 => ?_)
        · have hq := fs_wifp c_121 hq
          refine lv_iconst (v := 2) hx hb d_CA_worth_46 (by decide) ?_
          exact hJ47 x1 2 a120 _ _ _ _ hq hP hS (show lv_has ls 4 [(1, .ref x1)] from lv_sub hl [2] rfl)
        · have hq := fs_wifn c_121 hq
          refine lv_iconst (v := 1) hx hb d_CA_worth_42 (by decide) ?_
          refine lv_goto (tgt := 47) hx hb d_CA_worth_43 (by decide) ?_
          exact hJ47 x1 1 a120 _ _ _ _ hq hP hS (show lv_has ls 4 [(1, .ref x1)] from lv_sub hl [2] rfl)
    · have hq := fs_wifn c_114 hq
      refine lv_ldc2d (v := 4836865999795912704) hx hb hown (hts _ (fs_tb_at 451 tw_451 rfl)) d_CA_worth_18 ?_
      exact fs_dret hx hb hr hlocks hw hP hS (Nat.le_refl _) (Nat.le_refl _) hq d_CA_worth_21
def w_OV_worth_J50 (self : fs_E → fs_Hp → Nat → Nat → fs_Ps → Prop) (E : fs_E) (Post : fs_Ps) (z0 : Nat) (z1 : Nat) (z2 : Int32) (h1 : fs_Hp) : Prop := fs_gr h1 z1 2 4 (fun a101 => fs_isc h1 z0 9 ∧ (w_OV_extreme E h1 z0 a101 z2 (fs_kd (fun x103 h102 => Post (.inl (some (.double x103))) h102) (fun C_ h_ => Post (.inr C_) h_))))
def w_OV_worth (self : fs_E → fs_Hp → Nat → Nat → fs_Ps → Prop) (E : fs_E) (h : fs_Hp) (a0 : Nat) (x1 : Nat) (Post : fs_Ps) : Prop := fs_isc h a0 9 ∧ (w_OV_isLost E h a0 (fs_ki (fun x105 h104 => (if x105 = 0 then fs_isc h104 a0 9 ∧ (w_OV_gather E h104 a0 x1 (fs_ki (fun x108 h107 => fs_gr h107 a0 9 0 (fun a109 => (if a109 = (E.2 3) then Post (.inl (some (.double (FP.i2d x108)))) h107 else fs_gr h107 a0 9 0 (fun a111 => (if a111 = (E.2 1) then w_OV_worth_J50 self E Post a0 x1 x108 h107 else fs_gr h107 a0 9 0 (fun a113 => (if a113 = (E.2 2) then w_OV_worth_J50 self E Post a0 x1 x108 h107 else fs_gr h107 x1 2 4 (fun a115 => w_OV_sum E h107 a115 x108 (fs_kd (fun x117 h116 => fs_gr h116 a0 9 0 (fun a118 => (if a118 = (E.2 0) then Post (.inl (some (.double x117))) h116 else w_SH_workedOut E h116 x117 47 (FP.i2d x108) (fs_kd (fun x121 h120 => Post (.inl (some (.double x121))) h120) (fun C_ h_ => Post (.inr C_) h_))))) (fun C_ h_ => Post (.inr C_) h_)))))))))) (fun C_ h_ => Post (.inr C_) h_))) else Post (.inl (some (.double 4836865999795912704))) h104)) (fun C_ h_ => Post (.inr C_) h_)))
set_option maxHeartbeats 4000000 in
set_option maxRecDepth 100000 in
theorem kw_OV_worth {l : Launch} {s00 : State} {E : fs_E} (hE : fs_SE l s00 E) {self : fs_E → fs_Hp → Nat → Nat → fs_Ps → Prop} {fn ln : Nat} (hself : ∀ {h9 : fs_Hp} {q0 : Nat} {q1 : Nat} {P9 : fs_Ps}, self E h9 q0 q1 P9 → fs_CtV l s00 E.1 y_PT_worth { frames := fn, cells := 0, slots := 0, locals := ln } q0 [.ref q1] h9 P9 7) {h : fs_Hp} {a0 : Nat} {x1 : Nat} {Post : fs_Ps} (hq : w_OV_worth self E h a0 x1 Post) : fs_Ct l s00 E.1 y_OV_worth (.code y_OV_worth b_OV_worth 5 (some .double)) { frames := fn + 3, cells := 0, slots := 0, locals := ln + 45 } [.ref a0, .ref x1] h Post := by
  refine fs_Ct.ofR hE.1 (by decide) ?_
  intro p e R s m below meth c hRf hRl hRc hRs B hout hP
  skip
  obtain ⟨hx, hb, hr, hml, hown, hts, hlocks, hname, hK, hw, htr⟩ := id B
  have hown : s.vm.findClass "FormulaSheet$OverRange" = some m.cls := hown
  have hS := hw.S
  have hJ50 : ∀ (z0 : Nat) (z1 : Nat) (z2 : Int32) (h1 : fs_Hp) (H : Heap) (locs : List Loc) (ls : Array Slot), w_OV_worth_J50 self E Post z0 z1 z2 h1 → fs_P E.1.1 fs_cl (fs_A s00) h1 H → va_S (fs_A s00) s00.heap H locs → lv_has ls 5 [(0, .ref z0), (1, .ref z1), (2, .int z2)] → W p l e R s m ([.ref a0, .ref x1] : List Value).toArray below meth c H locs 0 0 (fx_MQ below (fs_Qc s00 E.1 Post) ([.ref a0, .ref x1] : List Value).toArray s 0 0 (fs_A s00)) (F0 m 50 ls ([])) := by
    intro z0 z1 z2 h1 H locs ls hq hP hS hl
    unfold w_OV_worth_J50 at hq
    refine lv_aload_n hx hb d_OV_worth_50 rfl (lv_at hl 0 rfl) ?_
    refine lv_aload_n hx hb d_OV_worth_51 rfl (lv_at hl 1 rfl) ?_
    obtain ⟨fs_, a101, he_, hv_, hq⟩ := fs_gr_some hq
    refine fs_get hx hb hts hown hK c_CE hP he_ 4 (by decide) (hts _ (fs_tb_at 193 tw_193 rfl)) (fun _ h9 => h9) hv_ d_OV_worth_52 ?_
    refine lv_iload_n hx hb d_OV_worth_55 rfl (lv_at hl 2 rfl) ?_
    obtain ⟨hi_, hq⟩ := hq
    obtain ⟨fs_, he_⟩ := fs_isc_some hi_
    refine fs_cV B hl.1 hP hS (kw_OV_extreme hE hq) (fs_tb_at 404 tw_404 rfl) he_ rfl (fs_tb_at 406 tw_406 rfl) (fs_tb_at 12 tw_12 rfl) (fs_tb_at 109 tw_109 rfl) (fs_tb_at 407 tw_407 rfl) (by decide) (show (parseMethodDescriptor y_OV_extreme.desc).map (fun d => d.parameters.length) = some 2 by decide +kernel) rfl d_OV_worth_56 (fs_rm (k := 0) (by omega) (by omega) (by omega) (by omega) rfl) (fun v_ h102 H locs hq hP hS => ?_) (fun C_ a_ h_ H locs hq hP hS hX => fs_out (hout _) hlocks hw hP hS hX (Nat.le_of_ble_eq_true rfl) (Nat.le_of_ble_eq_true rfl) hq)
    refine fs_cs (k := 0) (n := 0) rfl rfl ?_
    replace hq := fs_kd_some hq
    obtain ⟨x103, rfl, hq⟩ := hq
    refine W.eq (g2 := F0 m 59 ls (.double x103 :: [])) rfl ?_
    exact fs_dret hx hb hr hlocks hw hP hS (Nat.le_refl _) (Nat.le_refl _) hq d_OV_worth_59
  have hl := lv_entry ([.ref a0, .ref x1]) (n := 5) (Nat.le_of_ble_eq_true rfl)
  rw [lg_entry_eq]
  generalize (lg_sl ([.ref a0, .ref x1]) ++ List.replicate (5 - (lg_sl ([.ref a0, .ref x1])).length) Slot.unset).toArray = ls at hl ⊢
  have hl : lv_has ls 5 [(0, .ref a0), (1, .ref x1)] := hl
  unfold w_OV_worth at hq
  refine lv_aload_n hx hb d_OV_worth_0 rfl (lv_at hl 0 rfl) ?_
  obtain ⟨hi_, hq⟩ := hq
  obtain ⟨fs_, he_⟩ := fs_isc_some hi_
  refine fs_cV B hl.1 hP hS (kw_OV_isLost hE hq) (fs_tb_at 297 tw_297 rfl) he_ rfl (fs_tb_at 299 tw_299 rfl) (fs_tb_at 1 tw_1 rfl) (fs_tb_at 109 tw_109 rfl) (fs_tb_at 301 tw_301 rfl) (by decide) (show (parseMethodDescriptor y_OV_isLost.desc).map (fun d => d.parameters.length) = some 0 by decide +kernel) rfl d_OV_worth_1 (fs_rm (k := 0) (by omega) (by omega) (by omega) (by omega) rfl) (fun v_ h104 H locs hq hP hS => ?_) (fun C_ a_ h_ H locs hq hP hS hX => fs_out (hout _) hlocks hw hP hS hX (Nat.le_of_ble_eq_true rfl) (Nat.le_of_ble_eq_true rfl) hq)
  refine fs_cs (k := 0) (n := 0) rfl rfl ?_
  replace hq := fs_ki_some hq
  obtain ⟨x105, rfl, hq⟩ := hq
  refine W.eq (g2 := F0 m 4 ls (.int x105 :: [])) rfl ?_
  refine lv_if_eq (tgt := 11) hx hb d_OV_worth_4 (by decide) (fun c_106 => ?_) (fun c_106 => ?_)
  · have hq := fs_wifp c_106 hq
    refine lv_aload_n hx hb d_OV_worth_11 rfl (lv_at hl 0 rfl) ?_
    refine lv_aload_n hx hb d_OV_worth_12 rfl (lv_at hl 1 rfl) ?_
    obtain ⟨hi_, hq⟩ := hq
    obtain ⟨fs_, he_⟩ := fs_isc_some hi_
    refine fs_cV B hl.1 hP hS (kw_OV_gather hE hq) (fs_tb_at 394 tw_394 rfl) he_ rfl (fs_tb_at 396 tw_396 rfl) (fs_tb_at 11 tw_11 rfl) (fs_tb_at 109 tw_109 rfl) (fs_tb_at 397 tw_397 rfl) (by decide) (show (parseMethodDescriptor y_OV_gather.desc).map (fun d => d.parameters.length) = some 1 by decide +kernel) rfl d_OV_worth_13 (fs_rm (k := 0) (by omega) (by omega) (by omega) (by omega) rfl) (fun v_ h107 H locs hq hP hS => ?_) (fun C_ a_ h_ H locs hq hP hS hX => fs_out (hout _) hlocks hw hP hS hX (Nat.le_of_ble_eq_true rfl) (Nat.le_of_ble_eq_true rfl) hq)
    refine fs_cs (k := 0) (n := 0) rfl rfl ?_
    replace hq := fs_ki_some hq
    obtain ⟨x108, rfl, hq⟩ := hq
    refine W.eq (g2 := F0 m 16 ls (.int x108 :: [])) rfl ?_
    refine lv_istore_n (lv' := [(2, .int x108), (0, .ref a0), (1, .ref x1)]) hx hb d_OV_worth_16 rfl hl (by decide) rfl (fun ls hl => ?_)
    refine lv_aload_n hx hb d_OV_worth_17 rfl (lv_at hl 1 rfl) ?_
    obtain ⟨fs_, a109, he_, hv_, hq⟩ := fs_gr_some hq
    refine fs_get hx hb hts hown hK c_OV hP he_ 0 (by decide) (hts _ (fs_tb_at 797 tw_797 rfl)) (fun _ h9 => h9) hv_ d_OV_worth_18 ?_
    refine fs_gets hx hb (fs_zr hE (i := 3) rfl (List.mem_of_getElem? tw_399) (List.mem_of_getElem? tw_116)) hw hS hown (hts _ (fs_tb_at 398 tw_398 rfl)) d_OV_worth_21 ?_
    refine fs_acmp_ne (tgt := 30) hx hb d_OV_worth_24 (by decide) (fun c_110 => ?_) (fun c_110 => ?_)
    · have hq := fs_wifn c_110 hq
      refine lv_aload_n hx hb d_OV_worth_30 rfl (lv_at hl 1 rfl) ?_
      obtain ⟨fs_, a111, he_, hv_, hq⟩ := fs_gr_some hq
      refine fs_get hx hb hts hown hK c_OV hP he_ 0 (by decide) (hts _ (fs_tb_at 797 tw_797 rfl)) (fun _ h9 => h9) hv_ d_OV_worth_31 ?_
      refine fs_gets hx hb (fs_zr hE (i := 1) rfl (List.mem_of_getElem? tw_401) (List.mem_of_getElem? tw_116)) hw hS hown (hts _ (fs_tb_at 400 tw_400 rfl)) d_OV_worth_34 ?_
      refine fs_acmp_eq (tgt := 50) hx hb d_OV_worth_37 (by decide) (fun c_112 => ?_) (fun c_112 => ?_)
      · have hq := fs_wifp c_112 hq
        exact hJ50 a0 x1 x108 _ _ _ _ hq hP hS (show lv_has ls 5 [(0, .ref a0), (1, .ref x1), (2, .int x108)] from lv_sub hl [1, 2, 0] rfl)
      · have hq := fs_wifn c_112 hq
        refine lv_aload_n hx hb d_OV_worth_40 rfl (lv_at hl 1 rfl) ?_
        obtain ⟨fs_, a113, he_, hv_, hq⟩ := fs_gr_some hq
        refine fs_get hx hb hts hown hK c_OV hP he_ 0 (by decide) (hts _ (fs_tb_at 797 tw_797 rfl)) (fun _ h9 => h9) hv_ d_OV_worth_41 ?_
        refine fs_gets hx hb (fs_zr hE (i := 2) rfl (List.mem_of_getElem? tw_403) (List.mem_of_getElem? tw_116)) hw hS hown (hts _ (fs_tb_at 402 tw_402 rfl)) d_OV_worth_44 ?_
        refine fs_acmp_ne (tgt := 60) hx hb d_OV_worth_47 (by decide) (fun c_114 => ?_) (fun c_114 => ?_)
        · have hq := fs_wifn c_114 hq
          refine lv_aload_n hx hb d_OV_worth_60 rfl (lv_at hl 2 rfl) ?_
          obtain ⟨fs_, a115, he_, hv_, hq⟩ := fs_gr_some hq
          refine fs_get hx hb hts hown hK c_CE hP he_ 4 (by decide) (hts _ (fs_tb_at 193 tw_193 rfl)) (fun _ h9 => h9) hv_ d_OV_worth_61 ?_
          refine lv_iload_n hx hb d_OV_worth_64 rfl (lv_at hl 0 rfl) ?_
          refine fs_cS B hl.1 hP hS (kw_OV_sum hE hq) (fs_tb_at 413 tw_413 rfl) (fs_tb_at 414 tw_414 rfl) (fs_tb_at 109 tw_109 rfl) (fs_tb_at 415 tw_415 rfl) (by decide) (show (parseMethodDescriptor y_OV_sum.desc).map (fun d => d.parameters.length) = some 2 by decide +kernel) rfl d_OV_worth_65 (fs_rm (k := 0) (by omega) (by omega) (by omega) (by omega) rfl) (fun v_ h116 H locs hq hP hS => ?_) (fun C_ a_ h_ H locs hq hP hS hX => fs_out (hout _) hlocks hw hP hS hX (Nat.le_of_ble_eq_true rfl) (Nat.le_of_ble_eq_true rfl) hq)
          refine fs_cs (k := 0) (n := 0) rfl rfl ?_
          replace hq := fs_kd_some hq
          obtain ⟨x117, rfl, hq⟩ := hq
          refine W.eq (g2 := F0 m 68 ls (.double x117 :: [])) rfl ?_
          refine lv_dstore_n (lv' := [(3, .double x117), (2, .int x108), (0, .ref a0), (1, .ref x1)]) hx hb d_OV_worth_68 rfl hl (by decide) rfl (fun ls hl => ?_)
          refine lv_aload_n hx hb d_OV_worth_69 rfl (lv_at hl 2 rfl) ?_
          obtain ⟨fs_, a118, he_, hv_, hq⟩ := fs_gr_some hq
          refine fs_get hx hb hts hown hK c_OV hP he_ 0 (by decide) (hts _ (fs_tb_at 797 tw_797 rfl)) (fun _ h9 => h9) hv_ d_OV_worth_70 ?_
          refine fs_gets hx hb (fs_zr hE (i := 0) rfl (List.mem_of_getElem? tw_425) (List.mem_of_getElem? tw_116)) hw hS hown (hts _ (fs_tb_at 424 tw_424 rfl)) d_OV_worth_73 ?_
          refine fs_acmp_ne (tgt := 83) hx hb d_OV_worth_76 (by decide) (fun c_119 => ?_) (fun c_119 => ?_)
          · have hq := fs_wifn c_119 hq
            refine lv_dload_n hx hb d_OV_worth_83 rfl (lv_at hl 0 rfl) ?_
            refine lv_bipush (v := 47) hx hb d_OV_worth_84 (by decide) ?_
            refine lv_iload_n hx hb d_OV_worth_86 rfl (lv_at hl 1 rfl) ?_
            refine lv_i2d hx hb d_OV_worth_87 ?_
            refine fs_cSN B hl.1 hP hS (kw_SH_workedOut hE hq) (fs_tb_at 416 tw_416 rfl) (fs_tb_at 417 tw_417 rfl) (fs_tb_at 88 tw_88 rfl) (fs_tb_at 418 tw_418 rfl) (by decide) (show (parseMethodDescriptor y_SH_workedOut.desc).map (fun d => d.parameters.length) = some 3 by decide +kernel) rfl d_OV_worth_88 (fs_rm (k := 0) (by omega) (by omega) (by omega) (by omega) rfl) (fun v_ h120 H locs hq hP hS => ?_) (fun C_ a_ h_ H locs hq hP hS hX => fs_out (hout _) hlocks hw hP hS hX (Nat.le_of_ble_eq_true rfl) (Nat.le_of_ble_eq_true rfl) hq)
            refine fs_cs (k := 0) (n := 0) rfl rfl ?_
            replace hq := fs_kd_some hq
            obtain ⟨x121, rfl, hq⟩ := hq
            refine W.eq (g2 := F0 m 91 ls (.double x121 :: [])) rfl ?_
            exact fs_dret hx hb hr hlocks hw hP hS (Nat.le_refl _) (Nat.le_refl _) hq d_OV_worth_91
          · have hq := fs_wifp c_119 hq
            refine lv_dload_n hx hb d_OV_worth_79 rfl (lv_at hl 0 rfl) ?_
            refine lv_goto (tgt := 91) hx hb d_OV_worth_80 (by decide) ?_
            exact fs_dret hx hb hr hlocks hw hP hS (Nat.le_refl _) (Nat.le_refl _) hq d_OV_worth_91
        · have hq := fs_wifp c_114 hq
          exact hJ50 a0 x1 x108 _ _ _ _ hq hP hS (show lv_has ls 5 [(0, .ref a0), (1, .ref x1), (2, .int x108)] from lv_sub hl [1, 2, 0] rfl)
    · have hq := fs_wifp c_110 hq
      refine lv_iload_n hx hb d_OV_worth_27 rfl (lv_at hl 0 rfl) ?_
      refine lv_i2d hx hb d_OV_worth_28 ?_
      exact fs_dret hx hb hr hlocks hw hP hS (Nat.le_refl _) (Nat.le_refl _) hq d_OV_worth_29
  · have hq := fs_wifn c_106 hq
    refine lv_ldc2d (v := 4836865999795912704) hx hb hown (hts _ (fs_tb_at 393 tw_393 rfl)) d_OV_worth_7 ?_
    exact fs_dret hx hb hr hlocks hw hP hS (Nat.le_refl _) (Nat.le_refl _) hq d_OV_worth_10
def w_V_worth (self : fs_E → fs_Hp → Nat → Nat → fs_Ps → Prop) (E : fs_E) (h : fs_Hp) (x0 : Nat) (x1 : Nat) (Post : fs_Ps) : Prop := (fs_isc h x0 4 ∧ w_NU_worth self E h x0 x1 Post) ∨ (fs_isc h x0 5 ∧ w_RE_worth self E h x0 x1 Post) ∨ (fs_isc h x0 6 ∧ w_SI_worth self E h x0 x1 Post) ∨ (fs_isc h x0 7 ∧ w_PA_worth self E h x0 x1 Post) ∨ (fs_isc h x0 8 ∧ w_CA_worth self E h x0 x1 Post) ∨ (fs_isc h x0 9 ∧ w_OV_worth self E h x0 x1 Post)
theorem kw_V_worth {l : Launch} {s00 : State} {E : fs_E} (hE : fs_SE l s00 E) {self : fs_E → fs_Hp → Nat → Nat → fs_Ps → Prop} {fn ln : Nat} (hself : ∀ {h9 : fs_Hp} {q0 : Nat} {q1 : Nat} {P9 : fs_Ps}, self E h9 q0 q1 P9 → fs_CtV l s00 E.1 y_PT_worth { frames := fn, cells := 0, slots := 0, locals := ln } q0 [.ref q1] h9 P9 7) {h : fs_Hp} {x0 : Nat} {x1 : Nat} {Post : fs_Ps} (hq : w_V_worth self E h x0 x1 Post) : fs_CtV l s00 E.1 y_PT_worth { frames := fn + 3, cells := 0, slots := 0, locals := ln + 45 } x0 [.ref x1] h Post 7 := by
  rcases hq with ⟨hi, hq⟩ | ⟨hi, hq⟩ | ⟨hi, hq⟩ | ⟨hi, hq⟩ | ⟨hi, hq⟩ | ⟨hi, hq⟩
  · obtain ⟨fs_, he_⟩ := fs_isc_some hi
    exact ⟨y_NU_worth, b_NU_worth, 2, (some .double), 4, fs_, _, _, _, he_, rfl, (fs_tb_at 456 tw_456 rfl), (fs_tb_at 383 tw_383 rfl), (fs_tb_at 104 tw_104 rfl), (fs_tb_at 384 tw_384 rfl), by decide, kw_NU_worth hE hself hq⟩
  · obtain ⟨fs_, he_⟩ := fs_isc_some hi
    exact ⟨y_RE_worth, b_RE_worth, 2, (some .double), 5, fs_, _, _, _, he_, rfl, (fs_tb_at 459 tw_459 rfl), (fs_tb_at 429 tw_429 rfl), (fs_tb_at 105 tw_105 rfl), (fs_tb_at 430 tw_430 rfl), by decide, kw_RE_worth hE hself hq⟩
  · obtain ⟨fs_, he_⟩ := fs_isc_some hi
    exact ⟨y_SI_worth, b_SI_worth, 4, (some .double), 6, fs_, _, _, _, he_, rfl, (fs_tb_at 460 tw_460 rfl), (fs_tb_at 432 tw_432 rfl), (fs_tb_at 111 tw_111 rfl), (fs_tb_at 433 tw_433 rfl), by decide, kw_SI_worth hE hself hq⟩
  · obtain ⟨fs_, he_⟩ := fs_isc_some hi
    exact ⟨y_PA_worth, b_PA_worth, 7, (some .double), 7, fs_, _, _, _, he_, rfl, (fs_tb_at 458 tw_458 rfl), (fs_tb_at 426 tw_426 rfl), (fs_tb_at 112 tw_112 rfl), (fs_tb_at 427 tw_427 rfl), by decide, kw_PA_worth hE hself hq⟩
  · obtain ⟨fs_, he_⟩ := fs_isc_some hi
    exact ⟨y_CA_worth, b_CA_worth, 4, (some .double), 8, fs_, _, _, _, he_, rfl, (fs_tb_at 379 tw_379 rfl), (fs_tb_at 380 tw_380 rfl), (fs_tb_at 110 tw_110 rfl), (fs_tb_at 381 tw_381 rfl), by decide, kw_CA_worth hE hself hq⟩
  · obtain ⟨fs_, he_⟩ := fs_isc_some hi
    exact ⟨y_OV_worth, b_OV_worth, 5, (some .double), 9, fs_, _, _, _, he_, rfl, (fs_tb_at 457 tw_457 rfl), (fs_tb_at 391 tw_391 rfl), (fs_tb_at 109 tw_109 rfl), (fs_tb_at 392 tw_392 rfl), by decide, kw_OV_worth hE hself hq⟩
def w_N_worth : Nat → fs_E → fs_Hp → Nat → Nat → fs_Ps → Prop
  | 0 => fun _ _ _ _ _ => False
  | n + 1 => w_V_worth (w_N_worth n)
theorem kN_worth {l : Launch} {s00 : State} {E : fs_E} (hE : fs_SE l s00 E) : ∀ {n : Nat} {h : fs_Hp} {x0 : Nat} {x1 : Nat} {Post : fs_Ps}, w_N_worth n E h x0 x1 Post → fs_CtV l s00 E.1 y_PT_worth { frames := 3 * n, cells := 0, slots := 0, locals := 45 * n } x0 [.ref x1] h Post 7 := by
  intro n
  induction n with
  | zero => intro h x0 x1 Post hq; exact False.elim hq
  | succ n ih => intro h x0 x1 Post hq; exact kw_V_worth hE ih hq
