/-! The line: its rules, as conditions. -/
abbrev b_LN_sameAs : ByteArray := prog_5_method_19_code
def y_LN_sameAs : MethodName := ⟨"FormulaSheet$Line", "sameAs", "(Ljava/lang/String;)I"⟩
theorem d_LN_sameAs_0 : decode b_LN_sameAs 0 = .ok (.iconst 0, 1) := by decide +kernel
theorem d_LN_sameAs_1 : decode b_LN_sameAs 1 = .ok (.istore_n 2, 1) := by decide +kernel
theorem d_LN_sameAs_2 : decode b_LN_sameAs 2 = .ok (.iload_n 2, 1) := by decide +kernel
theorem d_LN_sameAs_3 : decode b_LN_sameAs 3 = .ok (.aload_n 1, 1) := by decide +kernel
theorem d_LN_sameAs_4 : decode b_LN_sameAs 4 = .ok (.invokevirtual 117, 3) := by decide +kernel
theorem d_LN_sameAs_7 : decode b_LN_sameAs 7 = .ok (.if_icmp .ge 41, 3) := by decide +kernel
theorem d_LN_sameAs_10 : decode b_LN_sameAs 10 = .ok (.aload_n 0, 1) := by decide +kernel
theorem d_LN_sameAs_11 : decode b_LN_sameAs 11 = .ok (.getfield 19, 3) := by decide +kernel
theorem d_LN_sameAs_14 : decode b_LN_sameAs 14 = .ok (.iload_n 2, 1) := by decide +kernel
theorem d_LN_sameAs_15 : decode b_LN_sameAs 15 = .ok (.iadd, 1) := by decide +kernel
theorem d_LN_sameAs_16 : decode b_LN_sameAs 16 = .ok (.aload_n 0, 1) := by decide +kernel
theorem d_LN_sameAs_17 : decode b_LN_sameAs 17 = .ok (.getfield 15, 3) := by decide +kernel
theorem d_LN_sameAs_20 : decode b_LN_sameAs 20 = .ok (.if_icmp .ge 28, 3) := by decide +kernel
theorem d_LN_sameAs_23 : decode b_LN_sameAs 23 = .ok (.aload_n 0, 1) := by decide +kernel
theorem d_LN_sameAs_24 : decode b_LN_sameAs 24 = .ok (.getfield 9, 3) := by decide +kernel
theorem d_LN_sameAs_27 : decode b_LN_sameAs 27 = .ok (.aload_n 0, 1) := by decide +kernel
theorem d_LN_sameAs_28 : decode b_LN_sameAs 28 = .ok (.getfield 19, 3) := by decide +kernel
theorem d_LN_sameAs_31 : decode b_LN_sameAs 31 = .ok (.iload_n 2, 1) := by decide +kernel
theorem d_LN_sameAs_32 : decode b_LN_sameAs 32 = .ok (.iadd, 1) := by decide +kernel
theorem d_LN_sameAs_33 : decode b_LN_sameAs 33 = .ok (.caload, 1) := by decide +kernel
theorem d_LN_sameAs_34 : decode b_LN_sameAs 34 = .ok (.aload_n 1, 1) := by decide +kernel
theorem d_LN_sameAs_35 : decode b_LN_sameAs 35 = .ok (.iload_n 2, 1) := by decide +kernel
theorem d_LN_sameAs_36 : decode b_LN_sameAs 36 = .ok (.invokevirtual 127, 3) := by decide +kernel
theorem d_LN_sameAs_39 : decode b_LN_sameAs 39 = .ok (.if_icmp .ne 9, 3) := by decide +kernel
theorem d_LN_sameAs_42 : decode b_LN_sameAs 42 = .ok (.iinc 2 1, 3) := by decide +kernel
theorem d_LN_sameAs_45 : decode b_LN_sameAs 45 = .ok (.goto (-43), 3) := by decide +kernel
theorem d_LN_sameAs_48 : decode b_LN_sameAs 48 = .ok (.iload_n 2, 1) := by decide +kernel
theorem d_LN_sameAs_49 : decode b_LN_sameAs 49 = .ok (.ireturn, 1) := by decide +kernel
abbrev b_LN_name : ByteArray := prog_5_method_18_code
def y_LN_name : MethodName := ⟨"FormulaSheet$Line", "name", "()LFormulaSheet$Name;"⟩
theorem d_LN_name_0 : decode b_LN_name 0 = .ok (.aconst_null, 1) := by decide +kernel
theorem d_LN_name_1 : decode b_LN_name 1 = .ok (.astore_n 1, 1) := by decide +kernel
theorem d_LN_name_2 : decode b_LN_name 2 = .ok (.iconst 0, 1) := by decide +kernel
theorem d_LN_name_3 : decode b_LN_name 3 = .ok (.istore_n 2, 1) := by decide +kernel
theorem d_LN_name_4 : decode b_LN_name 4 = .ok (.iconst 0, 1) := by decide +kernel
theorem d_LN_name_5 : decode b_LN_name 5 = .ok (.istore_n 3, 1) := by decide +kernel
theorem d_LN_name_6 : decode b_LN_name 6 = .ok (.iload_n 3, 1) := by decide +kernel
theorem d_LN_name_7 : decode b_LN_name 7 = .ok (.getstatic 105, 3) := by decide +kernel
theorem d_LN_name_10 : decode b_LN_name 10 = .ok (.arraylength, 1) := by decide +kernel
theorem d_LN_name_11 : decode b_LN_name 11 = .ok (.if_icmp .ge 52, 3) := by decide +kernel
theorem d_LN_name_14 : decode b_LN_name 14 = .ok (.aload_n 0, 1) := by decide +kernel
theorem d_LN_name_15 : decode b_LN_name 15 = .ok (.getstatic 105, 3) := by decide +kernel
theorem d_LN_name_18 : decode b_LN_name 18 = .ok (.iload_n 3, 1) := by decide +kernel
theorem d_LN_name_19 : decode b_LN_name 19 = .ok (.aaload, 1) := by decide +kernel
theorem d_LN_name_20 : decode b_LN_name 20 = .ok (.getfield 109, 3) := by decide +kernel
theorem d_LN_name_23 : decode b_LN_name 23 = .ok (.invokevirtual 113, 3) := by decide +kernel
theorem d_LN_name_26 : decode b_LN_name 26 = .ok (.istore 4, 2) := by decide +kernel
theorem d_LN_name_28 : decode b_LN_name 28 = .ok (.iload 4, 2) := by decide +kernel
theorem d_LN_name_30 : decode b_LN_name 30 = .ok (.getstatic 105, 3) := by decide +kernel
theorem d_LN_name_33 : decode b_LN_name 33 = .ok (.iload_n 3, 1) := by decide +kernel
theorem d_LN_name_34 : decode b_LN_name 34 = .ok (.aaload, 1) := by decide +kernel
theorem d_LN_name_35 : decode b_LN_name 35 = .ok (.getfield 109, 3) := by decide +kernel
theorem d_LN_name_38 : decode b_LN_name 38 = .ok (.invokevirtual 117, 3) := by decide +kernel
theorem d_LN_name_41 : decode b_LN_name 41 = .ok (.if_icmp .ne 9, 3) := by decide +kernel
theorem d_LN_name_44 : decode b_LN_name 44 = .ok (.getstatic 105, 3) := by decide +kernel
theorem d_LN_name_47 : decode b_LN_name 47 = .ok (.iload_n 3, 1) := by decide +kernel
theorem d_LN_name_48 : decode b_LN_name 48 = .ok (.aaload, 1) := by decide +kernel
theorem d_LN_name_49 : decode b_LN_name 49 = .ok (.astore_n 1, 1) := by decide +kernel
theorem d_LN_name_50 : decode b_LN_name 50 = .ok (.iload_n 2, 1) := by decide +kernel
theorem d_LN_name_51 : decode b_LN_name 51 = .ok (.iload 4, 2) := by decide +kernel
theorem d_LN_name_53 : decode b_LN_name 53 = .ok (.invokestatic 121, 3) := by decide +kernel
theorem d_LN_name_56 : decode b_LN_name 56 = .ok (.istore_n 2, 1) := by decide +kernel
theorem d_LN_name_57 : decode b_LN_name 57 = .ok (.iinc 3 1, 3) := by decide +kernel
theorem d_LN_name_60 : decode b_LN_name 60 = .ok (.goto (-54), 3) := by decide +kernel
theorem d_LN_name_63 : decode b_LN_name 63 = .ok (.aload_n 0, 1) := by decide +kernel
theorem d_LN_name_64 : decode b_LN_name 64 = .ok (.dup, 1) := by decide +kernel
theorem d_LN_name_65 : decode b_LN_name 65 = .ok (.getfield 19, 3) := by decide +kernel
theorem d_LN_name_68 : decode b_LN_name 68 = .ok (.iload_n 2, 1) := by decide +kernel
theorem d_LN_name_69 : decode b_LN_name 69 = .ok (.iadd, 1) := by decide +kernel
theorem d_LN_name_70 : decode b_LN_name 70 = .ok (.putfield 19, 3) := by decide +kernel
theorem d_LN_name_73 : decode b_LN_name 73 = .ok (.aload_n 1, 1) := by decide +kernel
theorem d_LN_name_74 : decode b_LN_name 74 = .ok (.areturn, 1) := by decide +kernel
abbrev b_LN_logic : ByteArray := prog_5_method_10_code
def y_LN_logic : MethodName := ⟨"FormulaSheet$Line", "logic", "()LFormulaSheet$Part;"⟩
theorem d_LN_logic_0 : decode b_LN_logic 0 = .ok (.aload_n 0, 1) := by decide +kernel
theorem d_LN_logic_1 : decode b_LN_logic 1 = .ok (.invokevirtual 33, 3) := by decide +kernel
theorem d_LN_logic_4 : decode b_LN_logic 4 = .ok (.astore_n 1, 1) := by decide +kernel
theorem d_LN_logic_5 : decode b_LN_logic 5 = .ok (.iconst 0, 1) := by decide +kernel
theorem d_LN_logic_6 : decode b_LN_logic 6 = .ok (.istore_n 2, 1) := by decide +kernel
theorem d_LN_logic_7 : decode b_LN_logic 7 = .ok (.iload_n 2, 1) := by decide +kernel
theorem d_LN_logic_8 : decode b_LN_logic 8 = .ok (.bipush 40, 2) := by decide +kernel
theorem d_LN_logic_10 : decode b_LN_logic 10 = .ok (.if_icmp .ge 39, 3) := by decide +kernel
theorem d_LN_logic_13 : decode b_LN_logic 13 = .ok (.aload_n 1, 1) := by decide +kernel
theorem d_LN_logic_14 : decode b_LN_logic 14 = .ok (.ifnull 35, 3) := by decide +kernel
theorem d_LN_logic_17 : decode b_LN_logic 17 = .ok (.aload_n 0, 1) := by decide +kernel
theorem d_LN_logic_18 : decode b_LN_logic 18 = .ok (.bipush 38, 2) := by decide +kernel
theorem d_LN_logic_20 : decode b_LN_logic 20 = .ok (.bipush 124, 2) := by decide +kernel
theorem d_LN_logic_22 : decode b_LN_logic 22 = .ok (.invokevirtual 36, 3) := by decide +kernel
theorem d_LN_logic_25 : decode b_LN_logic 25 = .ok (.ifCond .eq 24, 3) := by decide +kernel
theorem d_LN_logic_28 : decode b_LN_logic 28 = .ok (.aload_n 0, 1) := by decide +kernel
theorem d_LN_logic_29 : decode b_LN_logic 29 = .ok (.invokevirtual 40, 3) := by decide +kernel
theorem d_LN_logic_32 : decode b_LN_logic 32 = .ok (.istore_n 3, 1) := by decide +kernel
theorem d_LN_logic_33 : decode b_LN_logic 33 = .ok (.iload_n 3, 1) := by decide +kernel
theorem d_LN_logic_34 : decode b_LN_logic 34 = .ok (.aload_n 1, 1) := by decide +kernel
theorem d_LN_logic_35 : decode b_LN_logic 35 = .ok (.aload_n 0, 1) := by decide +kernel
theorem d_LN_logic_36 : decode b_LN_logic 36 = .ok (.invokevirtual 33, 3) := by decide +kernel
theorem d_LN_logic_39 : decode b_LN_logic 39 = .ok (.invokestatic 44, 3) := by decide +kernel
theorem d_LN_logic_42 : decode b_LN_logic 42 = .ok (.astore_n 1, 1) := by decide +kernel
theorem d_LN_logic_43 : decode b_LN_logic 43 = .ok (.iinc 2 1, 3) := by decide +kernel
theorem d_LN_logic_46 : decode b_LN_logic 46 = .ok (.goto (-39), 3) := by decide +kernel
theorem d_LN_logic_49 : decode b_LN_logic 49 = .ok (.aload_n 1, 1) := by decide +kernel
theorem d_LN_logic_50 : decode b_LN_logic 50 = .ok (.areturn, 1) := by decide +kernel
abbrev b_LN_overLogics : ByteArray := prog_5_method_20_code
def y_LN_overLogics : MethodName := ⟨"FormulaSheet$Line", "overLogics", "(LFormulaSheet$Name;)LFormulaSheet$Part;"⟩
theorem d_LN_overLogics_0 : decode b_LN_overLogics 0 = .ok (.aload_n 1, 1) := by decide +kernel
theorem d_LN_overLogics_1 : decode b_LN_overLogics 1 = .ok (.getfield 93, 3) := by decide +kernel
theorem d_LN_overLogics_4 : decode b_LN_overLogics 4 = .ok (.anewarray 131, 3) := by decide +kernel
theorem d_LN_overLogics_7 : decode b_LN_overLogics 7 = .ok (.astore_n 2, 1) := by decide +kernel
theorem d_LN_overLogics_8 : decode b_LN_overLogics 8 = .ok (.iconst 0, 1) := by decide +kernel
theorem d_LN_overLogics_9 : decode b_LN_overLogics 9 = .ok (.istore_n 3, 1) := by decide +kernel
theorem d_LN_overLogics_10 : decode b_LN_overLogics 10 = .ok (.iload_n 3, 1) := by decide +kernel
theorem d_LN_overLogics_11 : decode b_LN_overLogics 11 = .ok (.aload_n 2, 1) := by decide +kernel
theorem d_LN_overLogics_12 : decode b_LN_overLogics 12 = .ok (.arraylength, 1) := by decide +kernel
theorem d_LN_overLogics_13 : decode b_LN_overLogics 13 = .ok (.if_icmp .ge 39, 3) := by decide +kernel
theorem d_LN_overLogics_16 : decode b_LN_overLogics 16 = .ok (.iload_n 3, 1) := by decide +kernel
theorem d_LN_overLogics_17 : decode b_LN_overLogics 17 = .ok (.ifCond .le 14, 3) := by decide +kernel
theorem d_LN_overLogics_20 : decode b_LN_overLogics 20 = .ok (.aload_n 0, 1) := by decide +kernel
theorem d_LN_overLogics_21 : decode b_LN_overLogics 21 = .ok (.bipush 44, 2) := by decide +kernel
theorem d_LN_overLogics_23 : decode b_LN_overLogics 23 = .ok (.invokevirtual 48, 3) := by decide +kernel
theorem d_LN_overLogics_26 : decode b_LN_overLogics 26 = .ok (.ifCond .ne 5, 3) := by decide +kernel
theorem d_LN_overLogics_29 : decode b_LN_overLogics 29 = .ok (.aconst_null, 1) := by decide +kernel
theorem d_LN_overLogics_30 : decode b_LN_overLogics 30 = .ok (.areturn, 1) := by decide +kernel
theorem d_LN_overLogics_31 : decode b_LN_overLogics 31 = .ok (.aload_n 2, 1) := by decide +kernel
theorem d_LN_overLogics_32 : decode b_LN_overLogics 32 = .ok (.iload_n 3, 1) := by decide +kernel
theorem d_LN_overLogics_33 : decode b_LN_overLogics 33 = .ok (.aload_n 0, 1) := by decide +kernel
theorem d_LN_overLogics_34 : decode b_LN_overLogics 34 = .ok (.invokevirtual 25, 3) := by decide +kernel
theorem d_LN_overLogics_37 : decode b_LN_overLogics 37 = .ok (.aastore, 1) := by decide +kernel
theorem d_LN_overLogics_38 : decode b_LN_overLogics 38 = .ok (.aload_n 2, 1) := by decide +kernel
theorem d_LN_overLogics_39 : decode b_LN_overLogics 39 = .ok (.iload_n 3, 1) := by decide +kernel
theorem d_LN_overLogics_40 : decode b_LN_overLogics 40 = .ok (.aaload, 1) := by decide +kernel
theorem d_LN_overLogics_41 : decode b_LN_overLogics 41 = .ok (.ifnonnull 5, 3) := by decide +kernel
theorem d_LN_overLogics_44 : decode b_LN_overLogics 44 = .ok (.aconst_null, 1) := by decide +kernel
theorem d_LN_overLogics_45 : decode b_LN_overLogics 45 = .ok (.areturn, 1) := by decide +kernel
theorem d_LN_overLogics_46 : decode b_LN_overLogics 46 = .ok (.iinc 3 1, 3) := by decide +kernel
theorem d_LN_overLogics_49 : decode b_LN_overLogics 49 = .ok (.goto (-39), 3) := by decide +kernel
theorem d_LN_overLogics_52 : decode b_LN_overLogics 52 = .ok (.new 133, 3) := by decide +kernel
theorem d_LN_overLogics_55 : decode b_LN_overLogics 55 = .ok (.dup, 1) := by decide +kernel
theorem d_LN_overLogics_56 : decode b_LN_overLogics 56 = .ok (.aload_n 1, 1) := by decide +kernel
theorem d_LN_overLogics_57 : decode b_LN_overLogics 57 = .ok (.aload_n 2, 1) := by decide +kernel
theorem d_LN_overLogics_58 : decode b_LN_overLogics 58 = .ok (.invokespecial 135, 3) := by decide +kernel
theorem d_LN_overLogics_61 : decode b_LN_overLogics 61 = .ok (.areturn, 1) := by decide +kernel
abbrev b_LN_call : ByteArray := prog_5_method_17_code
def y_LN_call : MethodName := ⟨"FormulaSheet$Line", "call", "()LFormulaSheet$Part;"⟩
theorem d_LN_call_0 : decode b_LN_call 0 = .ok (.aload_n 0, 1) := by decide +kernel
theorem d_LN_call_1 : decode b_LN_call 1 = .ok (.invokevirtual 89, 3) := by decide +kernel
theorem d_LN_call_4 : decode b_LN_call 4 = .ok (.astore_n 1, 1) := by decide +kernel
theorem d_LN_call_5 : decode b_LN_call 5 = .ok (.aload_n 1, 1) := by decide +kernel
theorem d_LN_call_6 : decode b_LN_call 6 = .ok (.ifnonnull 5, 3) := by decide +kernel
theorem d_LN_call_9 : decode b_LN_call 9 = .ok (.aconst_null, 1) := by decide +kernel
theorem d_LN_call_10 : decode b_LN_call 10 = .ok (.areturn, 1) := by decide +kernel
theorem d_LN_call_11 : decode b_LN_call 11 = .ok (.aload_n 0, 1) := by decide +kernel
theorem d_LN_call_12 : decode b_LN_call 12 = .ok (.dup, 1) := by decide +kernel
theorem d_LN_call_13 : decode b_LN_call 13 = .ok (.getfield 22, 3) := by decide +kernel
theorem d_LN_call_16 : decode b_LN_call 16 = .ok (.iconst 1, 1) := by decide +kernel
theorem d_LN_call_17 : decode b_LN_call 17 = .ok (.iadd, 1) := by decide +kernel
theorem d_LN_call_18 : decode b_LN_call 18 = .ok (.putfield 22, 3) := by decide +kernel
theorem d_LN_call_21 : decode b_LN_call 21 = .ok (.aload_n 0, 1) := by decide +kernel
theorem d_LN_call_22 : decode b_LN_call 22 = .ok (.aload_n 1, 1) := by decide +kernel
theorem d_LN_call_23 : decode b_LN_call 23 = .ok (.getfield 93, 3) := by decide +kernel
theorem d_LN_call_26 : decode b_LN_call 26 = .ok (.ifCond .ne 11, 3) := by decide +kernel
theorem d_LN_call_29 : decode b_LN_call 29 = .ok (.aload_n 0, 1) := by decide +kernel
theorem d_LN_call_30 : decode b_LN_call 30 = .ok (.aload_n 1, 1) := by decide +kernel
theorem d_LN_call_31 : decode b_LN_call 31 = .ok (.invokevirtual 98, 3) := by decide +kernel
theorem d_LN_call_34 : decode b_LN_call 34 = .ok (.goto 8, 3) := by decide +kernel
theorem d_LN_call_37 : decode b_LN_call 37 = .ok (.aload_n 0, 1) := by decide +kernel
theorem d_LN_call_38 : decode b_LN_call 38 = .ok (.aload_n 1, 1) := by decide +kernel
theorem d_LN_call_39 : decode b_LN_call 39 = .ok (.invokevirtual 102, 3) := by decide +kernel
theorem d_LN_call_42 : decode b_LN_call 42 = .ok (.invokevirtual 82, 3) := by decide +kernel
theorem d_LN_call_45 : decode b_LN_call 45 = .ok (.areturn, 1) := by decide +kernel
abbrev b_LN_part : ByteArray := prog_5_method_15_code
def y_LN_part : MethodName := ⟨"FormulaSheet$Line", "part", "()LFormulaSheet$Part;"⟩
theorem d_LN_part_0 : decode b_LN_part 0 = .ok (.aload_n 0, 1) := by decide +kernel
theorem d_LN_part_1 : decode b_LN_part 1 = .ok (.invokevirtual 68, 3) := by decide +kernel
theorem d_LN_part_4 : decode b_LN_part 4 = .ok (.ifCond .eq 8, 3) := by decide +kernel
theorem d_LN_part_7 : decode b_LN_part 7 = .ok (.aload_n 0, 1) := by decide +kernel
theorem d_LN_part_8 : decode b_LN_part 8 = .ok (.invokevirtual 72, 3) := by decide +kernel
theorem d_LN_part_11 : decode b_LN_part 11 = .ok (.areturn, 1) := by decide +kernel
theorem d_LN_part_12 : decode b_LN_part 12 = .ok (.aload_n 0, 1) := by decide +kernel
theorem d_LN_part_13 : decode b_LN_part 13 = .ok (.invokevirtual 29, 3) := by decide +kernel
theorem d_LN_part_16 : decode b_LN_part 16 = .ok (.bipush 36, 2) := by decide +kernel
theorem d_LN_part_18 : decode b_LN_part 18 = .ok (.if_icmp .eq 10, 3) := by decide +kernel
theorem d_LN_part_21 : decode b_LN_part 21 = .ok (.aload_n 0, 1) := by decide +kernel
theorem d_LN_part_22 : decode b_LN_part 22 = .ok (.invokevirtual 75, 3) := by decide +kernel
theorem d_LN_part_25 : decode b_LN_part 25 = .ok (.ifCond .eq 8, 3) := by decide +kernel
theorem d_LN_part_28 : decode b_LN_part 28 = .ok (.aload_n 0, 1) := by decide +kernel
theorem d_LN_part_29 : decode b_LN_part 29 = .ok (.invokevirtual 78, 3) := by decide +kernel
theorem d_LN_part_32 : decode b_LN_part 32 = .ok (.areturn, 1) := by decide +kernel
theorem d_LN_part_33 : decode b_LN_part 33 = .ok (.aload_n 0, 1) := by decide +kernel
theorem d_LN_part_34 : decode b_LN_part 34 = .ok (.getfield 22, 3) := by decide +kernel
theorem d_LN_part_37 : decode b_LN_part 37 = .ok (.bipush 6, 2) := by decide +kernel
theorem d_LN_part_39 : decode b_LN_part 39 = .ok (.if_icmp .lt 5, 3) := by decide +kernel
theorem d_LN_part_42 : decode b_LN_part 42 = .ok (.aconst_null, 1) := by decide +kernel
theorem d_LN_part_43 : decode b_LN_part 43 = .ok (.areturn, 1) := by decide +kernel
theorem d_LN_part_44 : decode b_LN_part 44 = .ok (.aload_n 0, 1) := by decide +kernel
theorem d_LN_part_45 : decode b_LN_part 45 = .ok (.bipush 40, 2) := by decide +kernel
theorem d_LN_part_47 : decode b_LN_part 47 = .ok (.invokevirtual 48, 3) := by decide +kernel
theorem d_LN_part_50 : decode b_LN_part 50 = .ok (.ifCond .eq 22, 3) := by decide +kernel
theorem d_LN_part_53 : decode b_LN_part 53 = .ok (.aload_n 0, 1) := by decide +kernel
theorem d_LN_part_54 : decode b_LN_part 54 = .ok (.dup, 1) := by decide +kernel
theorem d_LN_part_55 : decode b_LN_part 55 = .ok (.getfield 22, 3) := by decide +kernel
theorem d_LN_part_58 : decode b_LN_part 58 = .ok (.iconst 1, 1) := by decide +kernel
theorem d_LN_part_59 : decode b_LN_part 59 = .ok (.iadd, 1) := by decide +kernel
theorem d_LN_part_60 : decode b_LN_part 60 = .ok (.putfield 22, 3) := by decide +kernel
theorem d_LN_part_63 : decode b_LN_part 63 = .ok (.aload_n 0, 1) := by decide +kernel
theorem d_LN_part_64 : decode b_LN_part 64 = .ok (.aload_n 0, 1) := by decide +kernel
theorem d_LN_part_65 : decode b_LN_part 65 = .ok (.invokevirtual 25, 3) := by decide +kernel
theorem d_LN_part_68 : decode b_LN_part 68 = .ok (.invokevirtual 82, 3) := by decide +kernel
theorem d_LN_part_71 : decode b_LN_part 71 = .ok (.areturn, 1) := by decide +kernel
theorem d_LN_part_72 : decode b_LN_part 72 = .ok (.aload_n 0, 1) := by decide +kernel
theorem d_LN_part_73 : decode b_LN_part 73 = .ok (.bipush 64, 2) := by decide +kernel
theorem d_LN_part_75 : decode b_LN_part 75 = .ok (.invokevirtual 48, 3) := by decide +kernel
theorem d_LN_part_78 : decode b_LN_part 78 = .ok (.ifCond .eq 10, 3) := by decide +kernel
theorem d_LN_part_81 : decode b_LN_part 81 = .ok (.aload_n 0, 1) := by decide +kernel
theorem d_LN_part_82 : decode b_LN_part 82 = .ok (.invokevirtual 86, 3) := by decide +kernel
theorem d_LN_part_85 : decode b_LN_part 85 = .ok (.goto 4, 3) := by decide +kernel
theorem d_LN_part_88 : decode b_LN_part 88 = .ok (.aconst_null, 1) := by decide +kernel
theorem d_LN_part_89 : decode b_LN_part 89 = .ok (.areturn, 1) := by decide +kernel
abbrev b_LN_signed : ByteArray := prog_5_method_14_code
def y_LN_signed : MethodName := ⟨"FormulaSheet$Line", "signed", "()LFormulaSheet$Part;"⟩
theorem d_LN_signed_0 : decode b_LN_signed 0 = .ok (.aload_n 0, 1) := by decide +kernel
theorem d_LN_signed_1 : decode b_LN_signed 1 = .ok (.bipush 45, 2) := by decide +kernel
theorem d_LN_signed_3 : decode b_LN_signed 3 = .ok (.invokevirtual 48, 3) := by decide +kernel
theorem d_LN_signed_6 : decode b_LN_signed 6 = .ok (.ifCond .eq 15, 3) := by decide +kernel
theorem d_LN_signed_9 : decode b_LN_signed 9 = .ok (.bipush 45, 2) := by decide +kernel
theorem d_LN_signed_11 : decode b_LN_signed 11 = .ok (.aload_n 0, 1) := by decide +kernel
theorem d_LN_signed_12 : decode b_LN_signed 12 = .ok (.invokevirtual 65, 3) := by decide +kernel
theorem d_LN_signed_15 : decode b_LN_signed 15 = .ok (.invokestatic 55, 3) := by decide +kernel
theorem d_LN_signed_18 : decode b_LN_signed 18 = .ok (.goto 7, 3) := by decide +kernel
theorem d_LN_signed_21 : decode b_LN_signed 21 = .ok (.aload_n 0, 1) := by decide +kernel
theorem d_LN_signed_22 : decode b_LN_signed 22 = .ok (.invokevirtual 65, 3) := by decide +kernel
theorem d_LN_signed_25 : decode b_LN_signed 25 = .ok (.areturn, 1) := by decide +kernel
abbrev b_LN_product : ByteArray := prog_5_method_13_code
def y_LN_product : MethodName := ⟨"FormulaSheet$Line", "product", "()LFormulaSheet$Part;"⟩
theorem d_LN_product_0 : decode b_LN_product 0 = .ok (.aload_n 0, 1) := by decide +kernel
theorem d_LN_product_1 : decode b_LN_product 1 = .ok (.invokevirtual 62, 3) := by decide +kernel
theorem d_LN_product_4 : decode b_LN_product 4 = .ok (.astore_n 1, 1) := by decide +kernel
theorem d_LN_product_5 : decode b_LN_product 5 = .ok (.iconst 0, 1) := by decide +kernel
theorem d_LN_product_6 : decode b_LN_product 6 = .ok (.istore_n 2, 1) := by decide +kernel
theorem d_LN_product_7 : decode b_LN_product 7 = .ok (.iload_n 2, 1) := by decide +kernel
theorem d_LN_product_8 : decode b_LN_product 8 = .ok (.bipush 40, 2) := by decide +kernel
theorem d_LN_product_10 : decode b_LN_product 10 = .ok (.if_icmp .ge 39, 3) := by decide +kernel
theorem d_LN_product_13 : decode b_LN_product 13 = .ok (.aload_n 1, 1) := by decide +kernel
theorem d_LN_product_14 : decode b_LN_product 14 = .ok (.ifnull 35, 3) := by decide +kernel
theorem d_LN_product_17 : decode b_LN_product 17 = .ok (.aload_n 0, 1) := by decide +kernel
theorem d_LN_product_18 : decode b_LN_product 18 = .ok (.bipush 42, 2) := by decide +kernel
theorem d_LN_product_20 : decode b_LN_product 20 = .ok (.bipush 47, 2) := by decide +kernel
theorem d_LN_product_22 : decode b_LN_product 22 = .ok (.invokevirtual 36, 3) := by decide +kernel
theorem d_LN_product_25 : decode b_LN_product 25 = .ok (.ifCond .eq 24, 3) := by decide +kernel
theorem d_LN_product_28 : decode b_LN_product 28 = .ok (.aload_n 0, 1) := by decide +kernel
theorem d_LN_product_29 : decode b_LN_product 29 = .ok (.invokevirtual 40, 3) := by decide +kernel
theorem d_LN_product_32 : decode b_LN_product 32 = .ok (.istore_n 3, 1) := by decide +kernel
theorem d_LN_product_33 : decode b_LN_product 33 = .ok (.iload_n 3, 1) := by decide +kernel
theorem d_LN_product_34 : decode b_LN_product 34 = .ok (.aload_n 1, 1) := by decide +kernel
theorem d_LN_product_35 : decode b_LN_product 35 = .ok (.aload_n 0, 1) := by decide +kernel
theorem d_LN_product_36 : decode b_LN_product 36 = .ok (.invokevirtual 62, 3) := by decide +kernel
theorem d_LN_product_39 : decode b_LN_product 39 = .ok (.invokestatic 44, 3) := by decide +kernel
theorem d_LN_product_42 : decode b_LN_product 42 = .ok (.astore_n 1, 1) := by decide +kernel
theorem d_LN_product_43 : decode b_LN_product 43 = .ok (.iinc 2 1, 3) := by decide +kernel
theorem d_LN_product_46 : decode b_LN_product 46 = .ok (.goto (-39), 3) := by decide +kernel
theorem d_LN_product_49 : decode b_LN_product 49 = .ok (.aload_n 1, 1) := by decide +kernel
theorem d_LN_product_50 : decode b_LN_product 50 = .ok (.areturn, 1) := by decide +kernel
abbrev b_LN_terms : ByteArray := prog_5_method_12_code
def y_LN_terms : MethodName := ⟨"FormulaSheet$Line", "terms", "()LFormulaSheet$Part;"⟩
theorem d_LN_terms_0 : decode b_LN_terms 0 = .ok (.aload_n 0, 1) := by decide +kernel
theorem d_LN_terms_1 : decode b_LN_terms 1 = .ok (.invokevirtual 59, 3) := by decide +kernel
theorem d_LN_terms_4 : decode b_LN_terms 4 = .ok (.astore_n 1, 1) := by decide +kernel
theorem d_LN_terms_5 : decode b_LN_terms 5 = .ok (.iconst 0, 1) := by decide +kernel
theorem d_LN_terms_6 : decode b_LN_terms 6 = .ok (.istore_n 2, 1) := by decide +kernel
theorem d_LN_terms_7 : decode b_LN_terms 7 = .ok (.iload_n 2, 1) := by decide +kernel
theorem d_LN_terms_8 : decode b_LN_terms 8 = .ok (.bipush 40, 2) := by decide +kernel
theorem d_LN_terms_10 : decode b_LN_terms 10 = .ok (.if_icmp .ge 39, 3) := by decide +kernel
theorem d_LN_terms_13 : decode b_LN_terms 13 = .ok (.aload_n 1, 1) := by decide +kernel
theorem d_LN_terms_14 : decode b_LN_terms 14 = .ok (.ifnull 35, 3) := by decide +kernel
theorem d_LN_terms_17 : decode b_LN_terms 17 = .ok (.aload_n 0, 1) := by decide +kernel
theorem d_LN_terms_18 : decode b_LN_terms 18 = .ok (.bipush 43, 2) := by decide +kernel
theorem d_LN_terms_20 : decode b_LN_terms 20 = .ok (.bipush 45, 2) := by decide +kernel
theorem d_LN_terms_22 : decode b_LN_terms 22 = .ok (.invokevirtual 36, 3) := by decide +kernel
theorem d_LN_terms_25 : decode b_LN_terms 25 = .ok (.ifCond .eq 24, 3) := by decide +kernel
theorem d_LN_terms_28 : decode b_LN_terms 28 = .ok (.aload_n 0, 1) := by decide +kernel
theorem d_LN_terms_29 : decode b_LN_terms 29 = .ok (.invokevirtual 40, 3) := by decide +kernel
theorem d_LN_terms_32 : decode b_LN_terms 32 = .ok (.istore_n 3, 1) := by decide +kernel
theorem d_LN_terms_33 : decode b_LN_terms 33 = .ok (.iload_n 3, 1) := by decide +kernel
theorem d_LN_terms_34 : decode b_LN_terms 34 = .ok (.aload_n 1, 1) := by decide +kernel
theorem d_LN_terms_35 : decode b_LN_terms 35 = .ok (.aload_n 0, 1) := by decide +kernel
theorem d_LN_terms_36 : decode b_LN_terms 36 = .ok (.invokevirtual 59, 3) := by decide +kernel
theorem d_LN_terms_39 : decode b_LN_terms 39 = .ok (.invokestatic 44, 3) := by decide +kernel
theorem d_LN_terms_42 : decode b_LN_terms 42 = .ok (.astore_n 1, 1) := by decide +kernel
theorem d_LN_terms_43 : decode b_LN_terms 43 = .ok (.iinc 2 1, 3) := by decide +kernel
theorem d_LN_terms_46 : decode b_LN_terms 46 = .ok (.goto (-39), 3) := by decide +kernel
theorem d_LN_terms_49 : decode b_LN_terms 49 = .ok (.aload_n 1, 1) := by decide +kernel
theorem d_LN_terms_50 : decode b_LN_terms 50 = .ok (.areturn, 1) := by decide +kernel
abbrev b_LN_comparison : ByteArray := prog_5_method_11_code
def y_LN_comparison : MethodName := ⟨"FormulaSheet$Line", "comparison", "()LFormulaSheet$Part;"⟩
theorem d_LN_comparison_0 : decode b_LN_comparison 0 = .ok (.aload_n 0, 1) := by decide +kernel
theorem d_LN_comparison_1 : decode b_LN_comparison 1 = .ok (.bipush 33, 2) := by decide +kernel
theorem d_LN_comparison_3 : decode b_LN_comparison 3 = .ok (.invokevirtual 48, 3) := by decide +kernel
theorem d_LN_comparison_6 : decode b_LN_comparison 6 = .ok (.ifCond .eq 13, 3) := by decide +kernel
theorem d_LN_comparison_9 : decode b_LN_comparison 9 = .ok (.bipush 33, 2) := by decide +kernel
theorem d_LN_comparison_11 : decode b_LN_comparison 11 = .ok (.aload_n 0, 1) := by decide +kernel
theorem d_LN_comparison_12 : decode b_LN_comparison 12 = .ok (.invokevirtual 52, 3) := by decide +kernel
theorem d_LN_comparison_15 : decode b_LN_comparison 15 = .ok (.invokestatic 55, 3) := by decide +kernel
theorem d_LN_comparison_18 : decode b_LN_comparison 18 = .ok (.areturn, 1) := by decide +kernel
theorem d_LN_comparison_19 : decode b_LN_comparison 19 = .ok (.aload_n 0, 1) := by decide +kernel
theorem d_LN_comparison_20 : decode b_LN_comparison 20 = .ok (.invokevirtual 52, 3) := by decide +kernel
theorem d_LN_comparison_23 : decode b_LN_comparison 23 = .ok (.astore_n 1, 1) := by decide +kernel
theorem d_LN_comparison_24 : decode b_LN_comparison 24 = .ok (.aload_n 1, 1) := by decide +kernel
theorem d_LN_comparison_25 : decode b_LN_comparison 25 = .ok (.ifnull 25, 3) := by decide +kernel
theorem d_LN_comparison_28 : decode b_LN_comparison 28 = .ok (.aload_n 0, 1) := by decide +kernel
theorem d_LN_comparison_29 : decode b_LN_comparison 29 = .ok (.bipush 61, 2) := by decide +kernel
theorem d_LN_comparison_31 : decode b_LN_comparison 31 = .ok (.bipush 35, 2) := by decide +kernel
theorem d_LN_comparison_33 : decode b_LN_comparison 33 = .ok (.invokevirtual 36, 3) := by decide +kernel
theorem d_LN_comparison_36 : decode b_LN_comparison 36 = .ok (.ifCond .ne 16, 3) := by decide +kernel
theorem d_LN_comparison_39 : decode b_LN_comparison 39 = .ok (.aload_n 0, 1) := by decide +kernel
theorem d_LN_comparison_40 : decode b_LN_comparison 40 = .ok (.bipush 60, 2) := by decide +kernel
theorem d_LN_comparison_42 : decode b_LN_comparison 42 = .ok (.bipush 62, 2) := by decide +kernel
theorem d_LN_comparison_44 : decode b_LN_comparison 44 = .ok (.invokevirtual 36, 3) := by decide +kernel
theorem d_LN_comparison_47 : decode b_LN_comparison 47 = .ok (.ifCond .ne 5, 3) := by decide +kernel
theorem d_LN_comparison_50 : decode b_LN_comparison 50 = .ok (.aload_n 1, 1) := by decide +kernel
theorem d_LN_comparison_51 : decode b_LN_comparison 51 = .ok (.areturn, 1) := by decide +kernel
theorem d_LN_comparison_52 : decode b_LN_comparison 52 = .ok (.aload_n 0, 1) := by decide +kernel
theorem d_LN_comparison_53 : decode b_LN_comparison 53 = .ok (.invokevirtual 40, 3) := by decide +kernel
theorem d_LN_comparison_56 : decode b_LN_comparison 56 = .ok (.istore_n 2, 1) := by decide +kernel
theorem d_LN_comparison_57 : decode b_LN_comparison 57 = .ok (.iload_n 2, 1) := by decide +kernel
theorem d_LN_comparison_58 : decode b_LN_comparison 58 = .ok (.aload_n 1, 1) := by decide +kernel
theorem d_LN_comparison_59 : decode b_LN_comparison 59 = .ok (.aload_n 0, 1) := by decide +kernel
theorem d_LN_comparison_60 : decode b_LN_comparison 60 = .ok (.invokevirtual 52, 3) := by decide +kernel
theorem d_LN_comparison_63 : decode b_LN_comparison 63 = .ok (.invokestatic 44, 3) := by decide +kernel
theorem d_LN_comparison_66 : decode b_LN_comparison 66 = .ok (.areturn, 1) := by decide +kernel
abbrev b_LN_read : ByteArray := prog_5_method_3_code
def y_LN_read : MethodName := ⟨"FormulaSheet$Line", "read", "()LFormulaSheet$Part;"⟩
theorem d_LN_read_0 : decode b_LN_read 0 = .ok (.aload_n 0, 1) := by decide +kernel
theorem d_LN_read_1 : decode b_LN_read 1 = .ok (.iconst 0, 1) := by decide +kernel
theorem d_LN_read_2 : decode b_LN_read 2 = .ok (.putfield 19, 3) := by decide +kernel
theorem d_LN_read_5 : decode b_LN_read 5 = .ok (.aload_n 0, 1) := by decide +kernel
theorem d_LN_read_6 : decode b_LN_read 6 = .ok (.iconst 0, 1) := by decide +kernel
theorem d_LN_read_7 : decode b_LN_read 7 = .ok (.putfield 22, 3) := by decide +kernel
theorem d_LN_read_10 : decode b_LN_read 10 = .ok (.aload_n 0, 1) := by decide +kernel
theorem d_LN_read_11 : decode b_LN_read 11 = .ok (.invokevirtual 25, 3) := by decide +kernel
theorem d_LN_read_14 : decode b_LN_read 14 = .ok (.astore_n 1, 1) := by decide +kernel
theorem d_LN_read_15 : decode b_LN_read 15 = .ok (.aload_n 0, 1) := by decide +kernel
theorem d_LN_read_16 : decode b_LN_read 16 = .ok (.getfield 19, 3) := by decide +kernel
theorem d_LN_read_19 : decode b_LN_read 19 = .ok (.aload_n 0, 1) := by decide +kernel
theorem d_LN_read_20 : decode b_LN_read 20 = .ok (.getfield 15, 3) := by decide +kernel
theorem d_LN_read_23 : decode b_LN_read 23 = .ok (.if_icmp .ne 7, 3) := by decide +kernel
theorem d_LN_read_26 : decode b_LN_read 26 = .ok (.aload_n 1, 1) := by decide +kernel
theorem d_LN_read_27 : decode b_LN_read 27 = .ok (.goto 4, 3) := by decide +kernel
theorem d_LN_read_30 : decode b_LN_read 30 = .ok (.aconst_null, 1) := by decide +kernel
theorem d_LN_read_31 : decode b_LN_read 31 = .ok (.areturn, 1) := by decide +kernel
theorem tw_15 : lw_tbl[15]? = some (Cond.selects "FormulaSheet$Line" ⟨"FormulaSheet$Line", "logic", "()LFormulaSheet$Part;"⟩ ⟨"FormulaSheet$Line", "logic", "()LFormulaSheet$Part;"⟩) := by decide +kernel
theorem tw_16 : lw_tbl[16]? = some (Cond.selects "FormulaSheet$Line" ⟨"FormulaSheet$Line", "comparison", "()LFormulaSheet$Part;"⟩ ⟨"FormulaSheet$Line", "comparison", "()LFormulaSheet$Part;"⟩) := by decide +kernel
theorem tw_19 : lw_tbl[19]? = some (Cond.selects "FormulaSheet$Line" ⟨"FormulaSheet$Line", "terms", "()LFormulaSheet$Part;"⟩ ⟨"FormulaSheet$Line", "terms", "()LFormulaSheet$Part;"⟩) := by decide +kernel
theorem tw_20 : lw_tbl[20]? = some (Cond.selects "FormulaSheet$Line" ⟨"FormulaSheet$Line", "product", "()LFormulaSheet$Part;"⟩ ⟨"FormulaSheet$Line", "product", "()LFormulaSheet$Part;"⟩) := by decide +kernel
theorem tw_21 : lw_tbl[21]? = some (Cond.selects "FormulaSheet$Line" ⟨"FormulaSheet$Line", "signed", "()LFormulaSheet$Part;"⟩ ⟨"FormulaSheet$Line", "signed", "()LFormulaSheet$Part;"⟩) := by decide +kernel
theorem tw_22 : lw_tbl[22]? = some (Cond.selects "FormulaSheet$Line" ⟨"FormulaSheet$Line", "part", "()LFormulaSheet$Part;"⟩ ⟨"FormulaSheet$Line", "part", "()LFormulaSheet$Part;"⟩) := by decide +kernel
theorem tw_24 : lw_tbl[24]? = some (Cond.selects "FormulaSheet$Line" ⟨"FormulaSheet$Line", "numeral", "()LFormulaSheet$Part;"⟩ ⟨"FormulaSheet$Line", "numeral", "()LFormulaSheet$Part;"⟩) := by decide +kernel
theorem tw_29 : lw_tbl[29]? = some (Cond.selects "FormulaSheet$Line" ⟨"FormulaSheet$Line", "closed", "(LFormulaSheet$Part;)LFormulaSheet$Part;"⟩ ⟨"FormulaSheet$Line", "closed", "(LFormulaSheet$Part;)LFormulaSheet$Part;"⟩) := by decide +kernel
theorem tw_30 : lw_tbl[30]? = some (Cond.selects "FormulaSheet$Line" ⟨"FormulaSheet$Line", "call", "()LFormulaSheet$Part;"⟩ ⟨"FormulaSheet$Line", "call", "()LFormulaSheet$Part;"⟩) := by decide +kernel
theorem tw_31 : lw_tbl[31]? = some (Cond.selects "FormulaSheet$Line" ⟨"FormulaSheet$Line", "name", "()LFormulaSheet$Name;"⟩ ⟨"FormulaSheet$Line", "name", "()LFormulaSheet$Name;"⟩) := by decide +kernel
theorem tw_32 : lw_tbl[32]? = some (Cond.selects "FormulaSheet$Line" ⟨"FormulaSheet$Line", "sameAs", "(Ljava/lang/String;)I"⟩ ⟨"FormulaSheet$Line", "sameAs", "(Ljava/lang/String;)I"⟩) := by decide +kernel
theorem tw_33 : lw_tbl[33]? = some (Cond.selects "FormulaSheet$Line" ⟨"FormulaSheet$Line", "overRange", "(LFormulaSheet$Name;)LFormulaSheet$Part;"⟩ ⟨"FormulaSheet$Line", "overRange", "(LFormulaSheet$Name;)LFormulaSheet$Part;"⟩) := by decide +kernel
theorem tw_34 : lw_tbl[34]? = some (Cond.selects "FormulaSheet$Line" ⟨"FormulaSheet$Line", "overLogics", "(LFormulaSheet$Name;)LFormulaSheet$Part;"⟩ ⟨"FormulaSheet$Line", "overLogics", "(LFormulaSheet$Name;)LFormulaSheet$Part;"⟩) := by decide +kernel
theorem tw_35 : lw_tbl[35]? = some (Cond.selects "FormulaSheet$Line" ⟨"FormulaSheet$Line", "nextIs", "(CC)Z"⟩ ⟨"FormulaSheet$Line", "nextIs", "(CC)Z"⟩) := by decide +kernel
theorem tw_613 : lw_tbl[613]? = some (Jvm.Cond.methodLink "FormulaSheet$Line" (25 : Nat) ({ cls := "FormulaSheet$Line", name := "logic", desc := "()LFormulaSheet$Part;" } : Jvm.MethodName)) := by decide +kernel
theorem tw_615 : lw_tbl[615]? = some (Jvm.Cond.instanceMethod ({ cls := "FormulaSheet$Line", name := "logic", desc := "()LFormulaSheet$Part;" } : Jvm.MethodName)) := by decide +kernel
theorem tw_616 : lw_tbl[616]? = some (Jvm.Cond.code ({ cls := "FormulaSheet$Line", name := "logic", desc := "()LFormulaSheet$Part;" } : Jvm.MethodName) prog_5_method_10_code (4 : Nat) (Option.some (Jvm.ClassFile.FieldType.object "FormulaSheet$Part"))) := by decide +kernel
theorem tw_617 : lw_tbl[617]? = some (Jvm.Cond.methodLink "FormulaSheet$Line" (33 : Nat) ({ cls := "FormulaSheet$Line", name := "comparison", desc := "()LFormulaSheet$Part;" } : Jvm.MethodName)) := by decide +kernel
theorem tw_619 : lw_tbl[619]? = some (Jvm.Cond.instanceMethod ({ cls := "FormulaSheet$Line", name := "comparison", desc := "()LFormulaSheet$Part;" } : Jvm.MethodName)) := by decide +kernel
theorem tw_620 : lw_tbl[620]? = some (Jvm.Cond.code ({ cls := "FormulaSheet$Line", name := "comparison", desc := "()LFormulaSheet$Part;" } : Jvm.MethodName) prog_5_method_11_code (3 : Nat) (Option.some (Jvm.ClassFile.FieldType.object "FormulaSheet$Part"))) := by decide +kernel
theorem tw_629 : lw_tbl[629]? = some (Jvm.Cond.methodLink "FormulaSheet$Line" (52 : Nat) ({ cls := "FormulaSheet$Line", name := "terms", desc := "()LFormulaSheet$Part;" } : Jvm.MethodName)) := by decide +kernel
theorem tw_631 : lw_tbl[631]? = some (Jvm.Cond.instanceMethod ({ cls := "FormulaSheet$Line", name := "terms", desc := "()LFormulaSheet$Part;" } : Jvm.MethodName)) := by decide +kernel
theorem tw_632 : lw_tbl[632]? = some (Jvm.Cond.code ({ cls := "FormulaSheet$Line", name := "terms", desc := "()LFormulaSheet$Part;" } : Jvm.MethodName) prog_5_method_12_code (4 : Nat) (Option.some (Jvm.ClassFile.FieldType.object "FormulaSheet$Part"))) := by decide +kernel
theorem tw_633 : lw_tbl[633]? = some (Jvm.Cond.methodLink "FormulaSheet$Line" (59 : Nat) ({ cls := "FormulaSheet$Line", name := "product", desc := "()LFormulaSheet$Part;" } : Jvm.MethodName)) := by decide +kernel
theorem tw_635 : lw_tbl[635]? = some (Jvm.Cond.instanceMethod ({ cls := "FormulaSheet$Line", name := "product", desc := "()LFormulaSheet$Part;" } : Jvm.MethodName)) := by decide +kernel
theorem tw_636 : lw_tbl[636]? = some (Jvm.Cond.code ({ cls := "FormulaSheet$Line", name := "product", desc := "()LFormulaSheet$Part;" } : Jvm.MethodName) prog_5_method_13_code (4 : Nat) (Option.some (Jvm.ClassFile.FieldType.object "FormulaSheet$Part"))) := by decide +kernel
theorem tw_637 : lw_tbl[637]? = some (Jvm.Cond.methodLink "FormulaSheet$Line" (62 : Nat) ({ cls := "FormulaSheet$Line", name := "signed", desc := "()LFormulaSheet$Part;" } : Jvm.MethodName)) := by decide +kernel
theorem tw_639 : lw_tbl[639]? = some (Jvm.Cond.instanceMethod ({ cls := "FormulaSheet$Line", name := "signed", desc := "()LFormulaSheet$Part;" } : Jvm.MethodName)) := by decide +kernel
theorem tw_640 : lw_tbl[640]? = some (Jvm.Cond.code ({ cls := "FormulaSheet$Line", name := "signed", desc := "()LFormulaSheet$Part;" } : Jvm.MethodName) prog_5_method_14_code (1 : Nat) (Option.some (Jvm.ClassFile.FieldType.object "FormulaSheet$Part"))) := by decide +kernel
theorem tw_641 : lw_tbl[641]? = some (Jvm.Cond.methodLink "FormulaSheet$Line" (65 : Nat) ({ cls := "FormulaSheet$Line", name := "part", desc := "()LFormulaSheet$Part;" } : Jvm.MethodName)) := by decide +kernel
theorem tw_643 : lw_tbl[643]? = some (Jvm.Cond.instanceMethod ({ cls := "FormulaSheet$Line", name := "part", desc := "()LFormulaSheet$Part;" } : Jvm.MethodName)) := by decide +kernel
theorem tw_644 : lw_tbl[644]? = some (Jvm.Cond.code ({ cls := "FormulaSheet$Line", name := "part", desc := "()LFormulaSheet$Part;" } : Jvm.MethodName) prog_5_method_15_code (1 : Nat) (Option.some (Jvm.ClassFile.FieldType.object "FormulaSheet$Part"))) := by decide +kernel
theorem tw_649 : lw_tbl[649]? = some (Jvm.Cond.methodLink "FormulaSheet$Line" (72 : Nat) ({ cls := "FormulaSheet$Line", name := "numeral", desc := "()LFormulaSheet$Part;" } : Jvm.MethodName)) := by decide +kernel
theorem tw_651 : lw_tbl[651]? = some (Jvm.Cond.instanceMethod ({ cls := "FormulaSheet$Line", name := "numeral", desc := "()LFormulaSheet$Part;" } : Jvm.MethodName)) := by decide +kernel
theorem tw_652 : lw_tbl[652]? = some (Jvm.Cond.code ({ cls := "FormulaSheet$Line", name := "numeral", desc := "()LFormulaSheet$Part;" } : Jvm.MethodName) prog_5_method_23_code (4 : Nat) (Option.some (Jvm.ClassFile.FieldType.object "FormulaSheet$Part"))) := by decide +kernel
theorem tw_721 : lw_tbl[721]? = some (Jvm.Cond.methodLink "FormulaSheet$Line" (82 : Nat) ({ cls := "FormulaSheet$Line", name := "closed", desc := "(LFormulaSheet$Part;)LFormulaSheet$Part;" } : Jvm.MethodName)) := by decide +kernel
theorem tw_723 : lw_tbl[723]? = some (Jvm.Cond.instanceMethod ({ cls := "FormulaSheet$Line", name := "closed", desc := "(LFormulaSheet$Part;)LFormulaSheet$Part;" } : Jvm.MethodName)) := by decide +kernel
theorem tw_724 : lw_tbl[724]? = some (Jvm.Cond.code ({ cls := "FormulaSheet$Line", name := "closed", desc := "(LFormulaSheet$Part;)LFormulaSheet$Part;" } : Jvm.MethodName) prog_5_method_16_code (2 : Nat) (Option.some (Jvm.ClassFile.FieldType.object "FormulaSheet$Part"))) := by decide +kernel
theorem tw_725 : lw_tbl[725]? = some (Jvm.Cond.methodLink "FormulaSheet$Line" (86 : Nat) ({ cls := "FormulaSheet$Line", name := "call", desc := "()LFormulaSheet$Part;" } : Jvm.MethodName)) := by decide +kernel
theorem tw_727 : lw_tbl[727]? = some (Jvm.Cond.instanceMethod ({ cls := "FormulaSheet$Line", name := "call", desc := "()LFormulaSheet$Part;" } : Jvm.MethodName)) := by decide +kernel
theorem tw_728 : lw_tbl[728]? = some (Jvm.Cond.code ({ cls := "FormulaSheet$Line", name := "call", desc := "()LFormulaSheet$Part;" } : Jvm.MethodName) prog_5_method_17_code (2 : Nat) (Option.some (Jvm.ClassFile.FieldType.object "FormulaSheet$Part"))) := by decide +kernel
theorem tw_729 : lw_tbl[729]? = some (Jvm.Cond.methodLink "FormulaSheet$Line" (89 : Nat) ({ cls := "FormulaSheet$Line", name := "name", desc := "()LFormulaSheet$Name;" } : Jvm.MethodName)) := by decide +kernel
theorem tw_731 : lw_tbl[731]? = some (Jvm.Cond.instanceMethod ({ cls := "FormulaSheet$Line", name := "name", desc := "()LFormulaSheet$Name;" } : Jvm.MethodName)) := by decide +kernel
theorem tw_732 : lw_tbl[732]? = some (Jvm.Cond.code ({ cls := "FormulaSheet$Line", name := "name", desc := "()LFormulaSheet$Name;" } : Jvm.MethodName) prog_5_method_18_code (5 : Nat) (Option.some (Jvm.ClassFile.FieldType.object "FormulaSheet$Name"))) := by decide +kernel
theorem tw_733 : lw_tbl[733]? = some (Jvm.Cond.fieldLinkNest "FormulaSheet$Line" (105 : Nat) "FormulaSheet" "NAMES" "[LFormulaSheet$Name;" "FormulaSheet") := by decide +kernel
theorem tw_734 : lw_tbl[734]? = some (Jvm.Cond.laysStatic "FormulaSheet" "NAMES" "[LFormulaSheet$Name;") := by decide +kernel
theorem tw_735 : lw_tbl[735]? = some (Jvm.Cond.methodLink "FormulaSheet$Line" (113 : Nat) ({ cls := "FormulaSheet$Line", name := "sameAs", desc := "(Ljava/lang/String;)I" } : Jvm.MethodName)) := by decide +kernel
theorem tw_737 : lw_tbl[737]? = some (Jvm.Cond.instanceMethod ({ cls := "FormulaSheet$Line", name := "sameAs", desc := "(Ljava/lang/String;)I" } : Jvm.MethodName)) := by decide +kernel
theorem tw_738 : lw_tbl[738]? = some (Jvm.Cond.code ({ cls := "FormulaSheet$Line", name := "sameAs", desc := "(Ljava/lang/String;)I" } : Jvm.MethodName) prog_5_method_19_code (3 : Nat) (Option.some Jvm.ClassFile.FieldType.int)) := by decide +kernel
theorem tw_739 : lw_tbl[739]? = some (Jvm.Cond.methodLink "FormulaSheet$Line" (117 : Nat) ({ cls := "java/lang/String", name := "length", desc := "()I" } : Jvm.MethodName)) := by decide +kernel
theorem tw_748 : lw_tbl[748]? = some (Jvm.Cond.methodLink "FormulaSheet$Line" (127 : Nat) ({ cls := "java/lang/String", name := "charAt", desc := "(I)C" } : Jvm.MethodName)) := by decide +kernel
theorem tw_749 : lw_tbl[749]? = some (Jvm.Cond.instanceMethod ({ cls := "java/lang/String", name := "charAt", desc := "(I)C" } : Jvm.MethodName)) := by decide +kernel
theorem tw_750 : lw_tbl[750]? = some (Jvm.Cond.selects "java/lang/String" ({ cls := "java/lang/String", name := "charAt", desc := "(I)C" } : Jvm.MethodName) ({ cls := "java/lang/String", name := "charAt", desc := "(I)C" } : Jvm.MethodName)) := by decide +kernel
theorem tw_751 : lw_tbl[751]? = some (Jvm.Cond.code ({ cls := "java/lang/String", name := "charAt", desc := "(I)C" } : Jvm.MethodName) prog_28_method_56_code (2 : Nat) (Option.some Jvm.ClassFile.FieldType.char)) := by decide +kernel
theorem tw_786 : lw_tbl[786]? = some (Jvm.Cond.methodLink "FormulaSheet$Line" (121 : Nat) ({ cls := "java/lang/Math", name := "max", desc := "(II)I" } : Jvm.MethodName)) := by decide +kernel
theorem tw_787 : lw_tbl[787]? = some (Jvm.Cond.methodLink "FormulaSheet$Line" (98 : Nat) ({ cls := "FormulaSheet$Line", name := "overRange", desc := "(LFormulaSheet$Name;)LFormulaSheet$Part;" } : Jvm.MethodName)) := by decide +kernel
theorem tw_789 : lw_tbl[789]? = some (Jvm.Cond.instanceMethod ({ cls := "FormulaSheet$Line", name := "overRange", desc := "(LFormulaSheet$Name;)LFormulaSheet$Part;" } : Jvm.MethodName)) := by decide +kernel
theorem tw_790 : lw_tbl[790]? = some (Jvm.Cond.code ({ cls := "FormulaSheet$Line", name := "overRange", desc := "(LFormulaSheet$Name;)LFormulaSheet$Part;" } : Jvm.MethodName) prog_5_method_21_code (4 : Nat) (Option.some (Jvm.ClassFile.FieldType.object "FormulaSheet$Part"))) := by decide +kernel
theorem tw_808 : lw_tbl[808]? = some (Jvm.Cond.methodLink "FormulaSheet$Line" (102 : Nat) ({ cls := "FormulaSheet$Line", name := "overLogics", desc := "(LFormulaSheet$Name;)LFormulaSheet$Part;" } : Jvm.MethodName)) := by decide +kernel
theorem tw_810 : lw_tbl[810]? = some (Jvm.Cond.instanceMethod ({ cls := "FormulaSheet$Line", name := "overLogics", desc := "(LFormulaSheet$Name;)LFormulaSheet$Part;" } : Jvm.MethodName)) := by decide +kernel
theorem tw_811 : lw_tbl[811]? = some (Jvm.Cond.code ({ cls := "FormulaSheet$Line", name := "overLogics", desc := "(LFormulaSheet$Name;)LFormulaSheet$Part;" } : Jvm.MethodName) prog_5_method_20_code (4 : Nat) (Option.some (Jvm.ClassFile.FieldType.object "FormulaSheet$Part"))) := by decide +kernel
theorem tw_812 : lw_tbl[812]? = some (Jvm.Cond.classLink "FormulaSheet$Line" (131 : Nat) "FormulaSheet$Part") := by decide +kernel
theorem tw_813 : lw_tbl[813]? = some (Jvm.Cond.classLink "FormulaSheet$Line" (133 : Nat) "FormulaSheet$Call") := by decide +kernel
theorem tw_815 : lw_tbl[815]? = some (Jvm.Cond.methodLink "FormulaSheet$Line" (135 : Nat) ({ cls := "FormulaSheet$Call", name := "<init>", desc := "(LFormulaSheet$Name;[LFormulaSheet$Part;)V" } : Jvm.MethodName)) := by decide +kernel
theorem tw_824 : lw_tbl[824]? = some (Jvm.Cond.methodLink "FormulaSheet$Line" (55 : Nat) ({ cls := "FormulaSheet$Line", name := "single", desc := "(CLFormulaSheet$Part;)LFormulaSheet$Part;" } : Jvm.MethodName)) := by decide +kernel
theorem tw_825 : lw_tbl[825]? = some (Jvm.Cond.static ({ cls := "FormulaSheet$Line", name := "single", desc := "(CLFormulaSheet$Part;)LFormulaSheet$Part;" } : Jvm.MethodName)) := by decide +kernel
theorem tw_826 : lw_tbl[826]? = some (Jvm.Cond.code ({ cls := "FormulaSheet$Line", name := "single", desc := "(CLFormulaSheet$Part;)LFormulaSheet$Part;" } : Jvm.MethodName) prog_5_method_25_code (2 : Nat) (Option.some (Jvm.ClassFile.FieldType.object "FormulaSheet$Part"))) := by decide +kernel
theorem tw_839 : lw_tbl[839]? = some (Jvm.Cond.methodLink "FormulaSheet$Line" (36 : Nat) ({ cls := "FormulaSheet$Line", name := "nextIs", desc := "(CC)Z" } : Jvm.MethodName)) := by decide +kernel
theorem tw_841 : lw_tbl[841]? = some (Jvm.Cond.instanceMethod ({ cls := "FormulaSheet$Line", name := "nextIs", desc := "(CC)Z" } : Jvm.MethodName)) := by decide +kernel
theorem tw_842 : lw_tbl[842]? = some (Jvm.Cond.code ({ cls := "FormulaSheet$Line", name := "nextIs", desc := "(CC)Z" } : Jvm.MethodName) prog_5_method_5_code (3 : Nat) (Option.some Jvm.ClassFile.FieldType.boolean)) := by decide +kernel
theorem tw_843 : lw_tbl[843]? = some (Jvm.Cond.methodLink "FormulaSheet$Line" (44 : Nat) ({ cls := "FormulaSheet$Line", name := "pair", desc := "(CLFormulaSheet$Part;LFormulaSheet$Part;)LFormulaSheet$Part;" } : Jvm.MethodName)) := by decide +kernel
theorem tw_844 : lw_tbl[844]? = some (Jvm.Cond.static ({ cls := "FormulaSheet$Line", name := "pair", desc := "(CLFormulaSheet$Part;LFormulaSheet$Part;)LFormulaSheet$Part;" } : Jvm.MethodName)) := by decide +kernel
theorem tw_845 : lw_tbl[845]? = some (Jvm.Cond.code ({ cls := "FormulaSheet$Line", name := "pair", desc := "(CLFormulaSheet$Part;LFormulaSheet$Part;)LFormulaSheet$Part;" } : Jvm.MethodName) prog_5_method_26_code (3 : Nat) (Option.some (Jvm.ClassFile.FieldType.object "FormulaSheet$Part"))) := by decide +kernel
theorem tw_1882 : lw_tbl[1882]? = some (Jvm.Cond.fieldLink "FormulaSheet$Line" (109 : Nat) "FormulaSheet$Name" "opening" "Ljava/lang/String;") := by decide +kernel
theorem tw_1883 : lw_tbl[1883]? = some (Jvm.Cond.fieldLink "FormulaSheet$Line" (93 : Nat) "FormulaSheet$Name" "logics" "I") := by decide +kernel
def w_LN_sameAs_L2 (E : fs_E) (K : Int32 → fs_Hp → Prop) (Post : fs_Ps) : Nat → Nat → Nat → Int32 → fs_Hp → Prop
  | 0 => fun _ _ _ _ => False
  | n + 1 => fun z0 z1 z2 h1 => (z1 < 8 ∧ w_ST_length E h1 z1 (fs_ki (fun x102 h101 => (if x102 ≤ z2 then K z2 h101 else fs_gi h101 z0 1 2 (fun x104 => fs_gi h101 z0 1 1 (fun x105 => (if x105 ≤ (x104 + z2) then K z2 h101 else fs_gr h101 z0 1 0 (fun a107 => fs_gi h101 z0 1 2 (fun x108 => fs_ai h101 a107 (E.1.2 4) (x108 + z2) (fun x109 => (z1 < 8 ∧ w_ST_charAt E h101 z1 z2 (fs_ki (fun x111 h110 => (if x109 = x111 then (w_LN_sameAs_L2 E K Post n) z0 z1 (z2 + 1) h110 else K z2 h110)) (fun C_ h_ => Post (.inr C_) h_))))))))))) (fun C_ h_ => Post (.inr C_) h_)))
def w_LN_sameAs (E : fs_E) (h : fs_Hp) (a0 : Nat) (x1 : Nat) (Post : fs_Ps) : Prop := (∃ n115 : Nat, w_LN_sameAs_L2 E (fun y113 h114 => Post (.inl (some (.int y113))) h114) Post n115 a0 x1 0 h)
set_option maxHeartbeats 4000000 in
set_option maxRecDepth 100000 in
theorem lw_w_LN_sameAs_2 {p : Program} {l : Launch} {e : Env} {R : Room} {s : State} {m : MethodId} {args : Array Value} {below : List Frame} {meth : Method} {c : Code} {s00 : State} {E : fs_E} {Post : fs_Ps} (hE : fs_SE l s00 E) (B : fs_B p l e s m args meth c s00 E.1 y_LN_sameAs b_LN_sameAs 3 (some .int)) (hout : ∀ pc, ∀ x ∈ c.exceptionTable.toList, covers x pc = false) (hRf : 4 ≤ R.frames) (hRl : 54 ≤ R.locals) (K : Int32 → fs_Hp → Prop) : ∀ (n : Nat) (z0 : Nat) (z1 : Nat) (z2 : Int32) (h1 : fs_Hp) (H : Heap) (locs : List Loc) (ls : Array Slot), w_LN_sameAs_L2 E K Post n z0 z1 z2 h1 → fs_P E.1.1 fs_cl (fs_A s00) h1 H → va_S (fs_A s00) s00.heap H locs → lv_has ls 3 [(0, .ref z0), (1, .ref (E.2 (16 + z1))), (2, .int z2)] → (∀ (y2 : Int32) (h' : fs_Hp) (H : Heap) (locs : List Loc) (ls : Array Slot), K y2 h' → fs_P E.1.1 fs_cl (fs_A s00) h' H → va_S (fs_A s00) s00.heap H locs → lv_has ls 3 [(0, .ref z0), (1, .ref (E.2 (16 + z1))), (2, .int y2)] → W p l e R s m args below meth c H locs 0 0 (fx_MQ below (fs_Qc s00 E.1 Post) args s 0 0 (fs_A s00)) (F0 m 48 ls [])) → W p l e R s m args below meth c H locs 0 0 (fx_MQ below (fs_Qc s00 E.1 Post) args s 0 0 (fs_A s00)) (F0 m 2 ls []) := by
  obtain ⟨hx, hb, hr, hml, hown, hts, hlocks, hname, hK, hw, htr⟩ := id B
  have hown : s.vm.findClass "FormulaSheet$Line" = some m.cls := hown
  intro n
  induction n with
  | zero => intro z0 z1 z2 h1 H locs ls hq; exact False.elim hq
  | succ n ih =>
    intro z0 z1 z2 h1 H locs ls hq hP hS hl kk
    rw [w_LN_sameAs_L2] at hq
    refine lv_iload_n hx hb d_LN_sameAs_2 rfl (lv_at hl 2 rfl) ?_
    refine lv_aload_n hx hb d_LN_sameAs_3 rfl (lv_at hl 1 rfl) ?_
    obtain ⟨hj_, hq⟩ := hq
    refine fs_cVS B hl.1 hP hS (kw_ST_length hE hq) (fs_tb_at 739 tw_739 rfl) (fs_text hE z1 hj_).1 (fs_tb_at 740 tw_740 rfl) (fs_tb_at 741 tw_741 rfl) (fs_tb_at 94 tw_94 rfl) (fs_tb_at 742 tw_742 rfl) (by decide) (show (parseMethodDescriptor y_ST_length.desc).map (fun d => d.parameters.length) = some 0 by decide +kernel) rfl d_LN_sameAs_4 (fs_rm (k := 1) (by omega) (by omega) (by omega) (by omega) rfl) (fun v_ h101 H locs hq hP hS => ?_) (fun C_ a_ h_ H locs hq hP hS hX => fs_out (hout _) hlocks hw hP hS hX (Nat.le_of_ble_eq_true rfl) (Nat.le_of_ble_eq_true rfl) hq)
    refine fs_cs (k := 0) (n := 0) rfl rfl ?_
    replace hq := fs_ki_some hq
    obtain ⟨x102, rfl, hq⟩ := hq
    refine W.eq (g2 := F0 m 7 ls (.int x102 :: .int z2 :: [])) rfl ?_
    refine lv_icmp_ge (tgt := 48) hx hb d_LN_sameAs_7 (by decide) (fun c_103 => ?_) (fun c_103 => ?_)
    · have hq := fs_wifp c_103 hq
      exact kk z2 _ _ _ _ hq hP hS (show lv_has ls 3 [(0, .ref z0), (1, .ref (E.2 (16 + z1))), (2, .int z2)] from lv_sub hl [0, 1, 2] rfl)
    · have hq := fs_wifn c_103 hq
      refine lv_aload_n hx hb d_LN_sameAs_10 rfl (lv_at hl 0 rfl) ?_
      obtain ⟨fs_, x104, he_, hv_, hq⟩ := fs_gi_some hq
      refine fs_get hx hb hts hown hK c_LN hP he_ 2 (by decide) (hts _ (fs_tb_at 142 tw_142 rfl)) (fun _ h9 => h9) hv_ d_LN_sameAs_11 ?_
      refine lv_iload_n hx hb d_LN_sameAs_14 rfl (lv_at hl 2 rfl) ?_
      refine lv_iadd hx hb d_LN_sameAs_15 ?_
      refine lv_aload_n hx hb d_LN_sameAs_16 rfl (lv_at hl 0 rfl) ?_
      obtain ⟨fs_, x105, he_, hv_, hq⟩ := fs_gi_some hq
      refine fs_get hx hb hts hown hK c_LN hP he_ 1 (by decide) (hts _ (fs_tb_at 140 tw_140 rfl)) (fun _ h9 => h9) hv_ d_LN_sameAs_17 ?_
      refine lv_icmp_ge (tgt := 48) hx hb d_LN_sameAs_20 (by decide) (fun c_106 => ?_) (fun c_106 => ?_)
      · have hq := fs_wifp c_106 hq
        exact kk z2 _ _ _ _ hq hP hS (show lv_has ls 3 [(0, .ref z0), (1, .ref (E.2 (16 + z1))), (2, .int z2)] from lv_sub hl [0, 1, 2] rfl)
      · have hq := fs_wifn c_106 hq
        refine lv_aload_n hx hb d_LN_sameAs_23 rfl (lv_at hl 0 rfl) ?_
        obtain ⟨fs_, a107, he_, hv_, hq⟩ := fs_gr_some hq
        refine fs_get hx hb hts hown hK c_LN hP he_ 0 (by decide) (hts _ (fs_tb_at 139 tw_139 rfl)) (fun _ h9 => h9) hv_ d_LN_sameAs_24 ?_
        refine lv_aload_n hx hb d_LN_sameAs_27 rfl (lv_at hl 0 rfl) ?_
        obtain ⟨fs_, x108, he_, hv_, hq⟩ := fs_gi_some hq
        refine fs_get hx hb hts hown hK c_LN hP he_ 2 (by decide) (hts _ (fs_tb_at 142 tw_142 rfl)) (fun _ h9 => h9) hv_ d_LN_sameAs_28 ?_
        refine lv_iload_n hx hb d_LN_sameAs_31 rfl (lv_at hl 2 rfl) ?_
        refine lv_iadd hx hb d_LN_sameAs_32 ?_
        obtain ⟨n_, f_, x109, e_, hi_, ex_, hq⟩ := fs_ai_some hq
        refine fs_cald hx hb hK hP 4 e_ rfl hi_ d_LN_sameAs_33 ?_
        rw [← ex_]
        refine lv_aload_n hx hb d_LN_sameAs_34 rfl (lv_at hl 1 rfl) ?_
        refine lv_iload_n hx hb d_LN_sameAs_35 rfl (lv_at hl 2 rfl) ?_
        obtain ⟨hj_, hq⟩ := hq
        refine fs_cVS B hl.1 hP hS (kw_ST_charAt hE hq) (fs_tb_at 748 tw_748 rfl) (fs_text hE z1 hj_).1 (fs_tb_at 749 tw_749 rfl) (fs_tb_at 750 tw_750 rfl) (fs_tb_at 94 tw_94 rfl) (fs_tb_at 751 tw_751 rfl) (by decide) (show (parseMethodDescriptor y_ST_charAt.desc).map (fun d => d.parameters.length) = some 1 by decide +kernel) rfl d_LN_sameAs_36 (fs_rm (k := 1) (by omega) (by omega) (by omega) (by omega) rfl) (fun v_ h110 H locs hq hP hS => ?_) (fun C_ a_ h_ H locs hq hP hS hX => fs_out (hout _) hlocks hw hP hS hX (Nat.le_of_ble_eq_true rfl) (Nat.le_of_ble_eq_true rfl) hq)
        refine fs_cs (k := 0) (n := 0) rfl rfl ?_
        replace hq := fs_ki_some hq
        obtain ⟨x111, rfl, hq⟩ := hq
        refine W.eq (g2 := F0 m 39 ls (.int x111 :: .int x109 :: [])) rfl ?_
        refine lv_icmp_ne (tgt := 48) hx hb d_LN_sameAs_39 (by decide) (fun c_112 => ?_) (fun c_112 => ?_)
        · have hq := fs_wifn c_112 hq
          exact kk z2 _ _ _ _ hq hP hS (show lv_has ls 3 [(0, .ref z0), (1, .ref (E.2 (16 + z1))), (2, .int z2)] from lv_sub hl [0, 1, 2] rfl)
        · have hq := fs_wifp c_112 hq
          refine lv_iinc (v := z2 + 1) (lv' := [(2, .int (z2 + 1)), (0, .ref z0), (1, .ref (E.2 (16 + z1)))]) hx hb d_LN_sameAs_42 hl (k := 2) rfl rfl (by decide) rfl (fun ls hl => ?_)
          refine lv_goto (tgt := 2) hx hb d_LN_sameAs_45 (by decide) ?_
          exact ih z0 z1 (z2 + 1) _ _ _ _ hq hP hS (show lv_has ls 3 [(0, .ref z0), (1, .ref (E.2 (16 + z1))), (2, .int (z2 + 1))] from lv_sub hl [1, 2, 0] rfl) kk
set_option maxHeartbeats 4000000 in
set_option maxRecDepth 100000 in
theorem kw_LN_sameAs {l : Launch} {s00 : State} {E : fs_E} (hE : fs_SE l s00 E) {h : fs_Hp} {a0 : Nat} {x1 : Nat} {Post : fs_Ps} (hq : w_LN_sameAs E h a0 x1 Post) : fs_Ct l s00 E.1 y_LN_sameAs (.code y_LN_sameAs b_LN_sameAs 3 (some .int)) { frames := 4, cells := 0, slots := 0, locals := 54 } [.ref a0, .ref (E.2 (16 + x1))] h Post := by
  refine fs_Ct.ofR hE.1 (by decide) ?_
  intro p e R s m below meth c hRf hRl hRc hRs B hout hP
  skip
  obtain ⟨hx, hb, hr, hml, hown, hts, hlocks, hname, hK, hw, htr⟩ := id B
  have hown : s.vm.findClass "FormulaSheet$Line" = some m.cls := hown
  have hS := hw.S
  have hl := lv_entry ([.ref a0, .ref (E.2 (16 + x1))]) (n := 3) (Nat.le_of_ble_eq_true rfl)
  rw [lg_entry_eq]
  generalize (lg_sl ([.ref a0, .ref (E.2 (16 + x1))]) ++ List.replicate (3 - (lg_sl ([.ref a0, .ref (E.2 (16 + x1))])).length) Slot.unset).toArray = ls at hl ⊢
  have hl : lv_has ls 3 [(0, .ref a0), (1, .ref (E.2 (16 + x1)))] := hl
  unfold w_LN_sameAs at hq
  refine lv_iconst (v := 0) hx hb d_LN_sameAs_0 (by decide) ?_
  refine lv_istore_n (lv' := [(2, .int 0), (0, .ref a0), (1, .ref (E.2 (16 + x1)))]) hx hb d_LN_sameAs_1 rfl hl (by decide) rfl (fun ls hl => ?_)
  obtain ⟨n115, hq⟩ := hq
  refine lw_w_LN_sameAs_2 hE B hout (by omega) (by omega) _ n115 a0 x1 0 _ _ _ _ hq hP hS (show lv_has ls 3 [(0, .ref a0), (1, .ref (E.2 (16 + x1))), (2, .int 0)] from lv_sub hl [1, 2, 0] rfl) (fun y113 h114 H locs ls hq hP hS hl => ?_)
  refine lv_iload_n hx hb d_LN_sameAs_48 rfl (lv_at hl 2 rfl) ?_
  exact fs_iret hx hb hr hlocks hw hP hS (vp_nar_int _) (Nat.le_refl _) (Nat.le_refl _) hq d_LN_sameAs_49
def w_LN_name_L6_J50 (self1 : Nat → Option Nat → Int32 → Int32 → fs_Hp → Prop) (E : fs_E) (K : Option Nat → Int32 → fs_Hp → Prop) (Post : fs_Ps) (z0 : Nat) (z1 : Option Nat) (z2 : Int32) (z3 : Int32) (z4 : Int32) (h1 : fs_Hp) : Prop := (match z1 with | none => self1 z0 none (if z2 < z4 then z4 else z2) (z3 + 1) h1 | some a102 => self1 z0 (some a102) (if z2 < z4 then z4 else z2) (z3 + 1) h1)
def w_LN_name_L6 (E : fs_E) (K : Option Nat → Int32 → fs_Hp → Prop) (Post : fs_Ps) : Nat → Nat → Option Nat → Int32 → Int32 → fs_Hp → Prop
  | 0 => fun _ _ _ _ _ => False
  | n + 1 => fun z0 z1 z2 z3 h1 => (match z1 with | none => (if (Int32.ofNat 8) ≤ z3 then K none z2 h1 else (vp_in z3 8 ∧ (∃ j105 : Nat, j105 < 8 ∧ (E.2 (Int32.toNatClampNeg z3)) = E.2 j105 ∧ fs_isc h1 z0 1 ∧ (w_LN_sameAs E h1 z0 j105 (fs_ki (fun x107 h106 => (vp_in z3 8 ∧ (∃ j108 : Nat, j108 < 8 ∧ (E.2 (Int32.toNatClampNeg z3)) = E.2 j108 ∧ (j108 < 8 ∧ w_ST_length E h106 j108 (fs_ki (fun x110 h109 => (if x107 = x110 then (vp_in z3 8 ∧ w_LN_name_L6_J50 (w_LN_name_L6 E K Post n) E K Post z0 (some (E.2 (Int32.toNatClampNeg z3))) z2 z3 x107 h109) else w_LN_name_L6_J50 (w_LN_name_L6 E K Post n) E K Post z0 none z2 z3 x107 h109)) (fun C_ h_ => Post (.inr C_) h_)))))) (fun C_ h_ => Post (.inr C_) h_)))))) | some a112 => (if (Int32.ofNat 8) ≤ z3 then K (some a112) z2 h1 else (vp_in z3 8 ∧ (∃ j114 : Nat, j114 < 8 ∧ (E.2 (Int32.toNatClampNeg z3)) = E.2 j114 ∧ fs_isc h1 z0 1 ∧ (w_LN_sameAs E h1 z0 j114 (fs_ki (fun x116 h115 => (vp_in z3 8 ∧ (∃ j117 : Nat, j117 < 8 ∧ (E.2 (Int32.toNatClampNeg z3)) = E.2 j117 ∧ (j117 < 8 ∧ w_ST_length E h115 j117 (fs_ki (fun x119 h118 => (if x116 = x119 then (vp_in z3 8 ∧ w_LN_name_L6_J50 (w_LN_name_L6 E K Post n) E K Post z0 (some (E.2 (Int32.toNatClampNeg z3))) z2 z3 x116 h118) else w_LN_name_L6_J50 (w_LN_name_L6 E K Post n) E K Post z0 (some a112) z2 z3 x116 h118)) (fun C_ h_ => Post (.inr C_) h_)))))) (fun C_ h_ => Post (.inr C_) h_)))))))
def w_LN_name (E : fs_E) (h : fs_Hp) (a0 : Nat) (Post : fs_Ps) : Prop := (∃ n124 : Nat, w_LN_name_L6 E (fun y121 y122 h123 => (match y121 with | none => fs_gi h123 a0 1 2 (fun x126 => fs_pw h123 a0 1 2 (.int (x126 + y122)) (fun h127 => Post (.inl (some (.null))) h127)) | some a128 => fs_gi h123 a0 1 2 (fun x129 => fs_pw h123 a0 1 2 (.int (x129 + y122)) (fun h130 => Post (.inl (some (.ref a128))) h130)))) Post n124 a0 none 0 0 h)
set_option maxHeartbeats 4000000 in
set_option maxRecDepth 100000 in
theorem lw_w_LN_name_6 {p : Program} {l : Launch} {e : Env} {R : Room} {s : State} {m : MethodId} {args : Array Value} {below : List Frame} {meth : Method} {c : Code} {s00 : State} {E : fs_E} {Post : fs_Ps} (hE : fs_SE l s00 E) (B : fs_B p l e s m args meth c s00 E.1 y_LN_name b_LN_name 5 (some ((.object "FormulaSheet$Name")))) (hout : ∀ pc, ∀ x ∈ c.exceptionTable.toList, covers x pc = false) (hRf : 5 ≤ R.frames) (hRl : 68 ≤ R.locals) (K : Option Nat → Int32 → fs_Hp → Prop) : ∀ (n : Nat) (z0 : Nat) (z1 : Option Nat) (z2 : Int32) (z3 : Int32) (h1 : fs_Hp) (H : Heap) (locs : List Loc) (ls : Array Slot), w_LN_name_L6 E K Post n z0 z1 z2 z3 h1 → fs_P E.1.1 fs_cl (fs_A s00) h1 H → va_S (fs_A s00) s00.heap H locs → lv_has ls 5 [(0, .ref z0), (1, va_rf z1), (2, .int z2), (3, .int z3)] → (∀ (y1 : Option Nat) (y2 : Int32) (h' : fs_Hp) (H : Heap) (locs : List Loc) (ls : Array Slot), K y1 y2 h' → fs_P E.1.1 fs_cl (fs_A s00) h' H → va_S (fs_A s00) s00.heap H locs → lv_has ls 5 [(0, .ref z0), (1, va_rf y1), (2, .int y2)] → W p l e R s m args below meth c H locs 0 0 (fx_MQ below (fs_Qc s00 E.1 Post) args s 0 0 (fs_A s00)) (F0 m 63 ls [])) → W p l e R s m args below meth c H locs 0 0 (fx_MQ below (fs_Qc s00 E.1 Post) args s 0 0 (fs_A s00)) (F0 m 6 ls []) := by
  obtain ⟨hx, hb, hr, hml, hown, hts, hlocks, hname, hK, hw, htr⟩ := id B
  have hown : s.vm.findClass "FormulaSheet$Line" = some m.cls := hown
  intro n
  induction n with
  | zero => intro z0 z1 z2 z3 h1 H locs ls hq; exact False.elim hq
  | succ n ih =>
    intro z0 z1 z2 z3 h1 H locs ls hq hP hS hl kk
    rw [w_LN_name_L6] at hq
    have hJ50 : ∀ (z1 : Option Nat) (z2 : Int32) (z3 : Int32) (z4 : Int32) (h1 : fs_Hp) (H : Heap) (locs : List Loc) (ls : Array Slot), w_LN_name_L6_J50 (w_LN_name_L6 E K Post n) E K Post z0 z1 z2 z3 z4 h1 → fs_P E.1.1 fs_cl (fs_A s00) h1 H → va_S (fs_A s00) s00.heap H locs → lv_has ls 5 [(0, .ref z0), (1, va_rf z1), (2, .int z2), (3, .int z3), (4, .int z4)] → W p l e R s m args below meth c H locs 0 0 (fx_MQ below (fs_Qc s00 E.1 Post) args s 0 0 (fs_A s00)) (F0 m 50 ls ([])) := by
      intro z1 z2 z3 z4 h1 H locs ls hq hP hS hl
      unfold w_LN_name_L6_J50 at hq
      cases z1 with
      | none =>
        have hl : lv_has ls 5 [(0, .ref z0), (1, .null), (2, .int z2), (3, .int z3), (4, .int z4)] := hl
        refine lv_iload_n hx hb d_LN_name_50 rfl (lv_at hl 2 rfl) ?_
        refine lv_iload hx hb d_LN_name_51 (lv_at hl 4 rfl) ?_
        refine va_mmax hx hb (by rw [hml]; exact hl.1.symm) hown (hts _ (fs_tb_at 786 tw_786 rfl)) (hts _ (fs_tb_at 314 tw_314 rfl)) (hts _ (fs_tb_at 108 tw_108 rfl)) (hts _ (fs_tb_at 315 tw_315 rfl)) (by omega) (fs_lc (k := 0) rfl (by omega)) (Nat.zero_le _) (Nat.zero_le _) d_LN_name_53 ?_
        refine lv_istore_n (lv' := [(2, .int (if z2 < z4 then z4 else z2)), (0, .ref z0), (1, .null), (3, .int z3), (4, .int z4)]) hx hb d_LN_name_56 rfl hl (by decide) rfl (fun ls hl => ?_)
        refine lv_iinc (v := z3 + 1) (lv' := [(3, .int (z3 + 1)), (2, .int (if z2 < z4 then z4 else z2)), (0, .ref z0), (1, .null), (4, .int z4)]) hx hb d_LN_name_57 hl (k := 3) rfl rfl (by decide) rfl (fun ls hl => ?_)
        refine lv_goto (tgt := 6) hx hb d_LN_name_60 (by decide) ?_
        exact ih z0 none (if z2 < z4 then z4 else z2) (z3 + 1) _ _ _ _ hq hP hS (show lv_has ls 5 [(0, .ref z0), (1, va_rf none), (2, .int (if z2 < z4 then z4 else z2)), (3, .int (z3 + 1))] from lv_sub hl [2, 3, 1, 0] rfl) kk
      | some a102 =>
        have hl : lv_has ls 5 [(0, .ref z0), (1, .ref a102), (2, .int z2), (3, .int z3), (4, .int z4)] := hl
        refine lv_iload_n hx hb d_LN_name_50 rfl (lv_at hl 2 rfl) ?_
        refine lv_iload hx hb d_LN_name_51 (lv_at hl 4 rfl) ?_
        refine va_mmax hx hb (by rw [hml]; exact hl.1.symm) hown (hts _ (fs_tb_at 786 tw_786 rfl)) (hts _ (fs_tb_at 314 tw_314 rfl)) (hts _ (fs_tb_at 108 tw_108 rfl)) (hts _ (fs_tb_at 315 tw_315 rfl)) (by omega) (fs_lc (k := 0) rfl (by omega)) (Nat.zero_le _) (Nat.zero_le _) d_LN_name_53 ?_
        refine lv_istore_n (lv' := [(2, .int (if z2 < z4 then z4 else z2)), (0, .ref z0), (1, .ref a102), (3, .int z3), (4, .int z4)]) hx hb d_LN_name_56 rfl hl (by decide) rfl (fun ls hl => ?_)
        refine lv_iinc (v := z3 + 1) (lv' := [(3, .int (z3 + 1)), (2, .int (if z2 < z4 then z4 else z2)), (0, .ref z0), (1, .ref a102), (4, .int z4)]) hx hb d_LN_name_57 hl (k := 3) rfl rfl (by decide) rfl (fun ls hl => ?_)
        refine lv_goto (tgt := 6) hx hb d_LN_name_60 (by decide) ?_
        exact ih z0 (some a102) (if z2 < z4 then z4 else z2) (z3 + 1) _ _ _ _ hq hP hS (show lv_has ls 5 [(0, .ref z0), (1, va_rf (some a102)), (2, .int (if z2 < z4 then z4 else z2)), (3, .int (z3 + 1))] from lv_sub hl [2, 3, 1, 0] rfl) kk
    cases z1 with
    | none =>
      have hl : lv_has ls 5 [(0, .ref z0), (1, .null), (2, .int z2), (3, .int z3)] := hl
      refine lv_iload_n hx hb d_LN_name_6 rfl (lv_at hl 3 rfl) ?_
      refine fs_getsN hx hb (fs_zr hE (i := 8) rfl (List.mem_of_getElem? tw_734) (List.mem_of_getElem? tw_88)) hw hS hown (hts _ (fs_tb_at 733 tw_733 rfl)) d_LN_name_7 ?_
      refine fs_xln hx hb (fs_all hE) hw hS d_LN_name_10 ?_
      refine lv_icmp_ge (tgt := 63) hx hb d_LN_name_11 (by decide) (fun c_104 => ?_) (fun c_104 => ?_)
      · have hq := fs_wifp c_104 hq
        exact kk none z2 _ _ _ _ hq hP hS (show lv_has ls 5 [(0, .ref z0), (1, va_rf none), (2, .int z2)] from lv_sub hl [0, 1, 2] rfl)
      · have hq := fs_wifn c_104 hq
        refine lv_aload_n hx hb d_LN_name_14 rfl (lv_at hl 0 rfl) ?_
        refine fs_getsN hx hb (fs_zr hE (i := 8) rfl (List.mem_of_getElem? tw_734) (List.mem_of_getElem? tw_88)) hw hS hown (hts _ (fs_tb_at 733 tw_733 rfl)) d_LN_name_15 ?_
        refine lv_iload_n hx hb d_LN_name_18 rfl (lv_at hl 3 rfl) ?_
        obtain ⟨hi_, hq⟩ := hq
        refine fs_xqa (f := fun k => E.2 k) hx hb (fs_all hE) hw hS hi_ d_LN_name_19 ?_
        obtain ⟨j105, hj_, ej_, hq⟩ := hq
        refine fs_xgetE ej_ hx hb (fs_open hE j105 hj_).1 hw hS hown (hts _ (fs_tb_at 1882 tw_1882 rfl)) d_LN_name_20 ?_
        obtain ⟨hi_, hq⟩ := hq
        obtain ⟨fs_, he_⟩ := fs_isc_some hi_
        refine fs_cV B hl.1 hP hS (kw_LN_sameAs hE hq) (fs_tb_at 735 tw_735 rfl) he_ rfl (fs_tb_at 737 tw_737 rfl) (fs_tb_at 32 tw_32 rfl) (fs_tb_at 89 tw_89 rfl) (fs_tb_at 738 tw_738 rfl) (by decide) (show (parseMethodDescriptor y_LN_sameAs.desc).map (fun d => d.parameters.length) = some 1 by decide +kernel) rfl d_LN_name_23 (fs_rm (k := 0) (by omega) (by omega) (by omega) (by omega) rfl) (fun v_ h106 H locs hq hP hS => ?_) (fun C_ a_ h_ H locs hq hP hS hX => fs_out (hout _) hlocks hw hP hS hX (Nat.le_of_ble_eq_true rfl) (Nat.le_of_ble_eq_true rfl) hq)
        refine fs_cs (k := 0) (n := 0) rfl rfl ?_
        replace hq := fs_ki_some hq
        obtain ⟨x107, rfl, hq⟩ := hq
        refine W.eq (g2 := F0 m 26 ls (.int x107 :: [])) rfl ?_
        refine lv_istore (lv' := [(4, .int x107), (0, .ref z0), (1, .null), (2, .int z2), (3, .int z3)]) hx hb d_LN_name_26 hl (by decide) rfl (fun ls hl => ?_)
        refine lv_iload hx hb d_LN_name_28 (lv_at hl 0 rfl) ?_
        refine fs_getsN hx hb (fs_zr hE (i := 8) rfl (List.mem_of_getElem? tw_734) (List.mem_of_getElem? tw_88)) hw hS hown (hts _ (fs_tb_at 733 tw_733 rfl)) d_LN_name_30 ?_
        refine lv_iload_n hx hb d_LN_name_33 rfl (lv_at hl 4 rfl) ?_
        obtain ⟨hi_, hq⟩ := hq
        refine fs_xqa (f := fun k => E.2 k) hx hb (fs_all hE) hw hS hi_ d_LN_name_34 ?_
        obtain ⟨j108, hj_, ej_, hq⟩ := hq
        refine fs_xgetE ej_ hx hb (fs_open hE j108 hj_).1 hw hS hown (hts _ (fs_tb_at 1882 tw_1882 rfl)) d_LN_name_35 ?_
        obtain ⟨hj_, hq⟩ := hq
        refine fs_cVS B hl.1 hP hS (kw_ST_length hE hq) (fs_tb_at 739 tw_739 rfl) (fs_text hE j108 hj_).1 (fs_tb_at 740 tw_740 rfl) (fs_tb_at 741 tw_741 rfl) (fs_tb_at 94 tw_94 rfl) (fs_tb_at 742 tw_742 rfl) (by decide) (show (parseMethodDescriptor y_ST_length.desc).map (fun d => d.parameters.length) = some 0 by decide +kernel) rfl d_LN_name_38 (fs_rm (k := 1) (by omega) (by omega) (by omega) (by omega) rfl) (fun v_ h109 H locs hq hP hS => ?_) (fun C_ a_ h_ H locs hq hP hS hX => fs_out (hout _) hlocks hw hP hS hX (Nat.le_of_ble_eq_true rfl) (Nat.le_of_ble_eq_true rfl) hq)
        refine fs_cs (k := 0) (n := 0) rfl rfl ?_
        replace hq := fs_ki_some hq
        obtain ⟨x110, rfl, hq⟩ := hq
        refine W.eq (g2 := F0 m 41 ls (.int x110 :: .int x107 :: [])) rfl ?_
        refine lv_icmp_ne (tgt := 50) hx hb d_LN_name_41 (by decide) (fun c_111 => ?_) (fun c_111 => ?_)
        · have hq := fs_wifn c_111 hq
          exact hJ50 none z2 z3 x107 _ _ _ _ hq hP hS (show lv_has ls 5 [(0, .ref z0), (1, va_rf none), (2, .int z2), (3, .int z3), (4, .int x107)] from lv_sub hl [1, 2, 3, 4, 0] rfl)
        · have hq := fs_wifp c_111 hq
          refine fs_getsN hx hb (fs_zr hE (i := 8) rfl (List.mem_of_getElem? tw_734) (List.mem_of_getElem? tw_88)) hw hS hown (hts _ (fs_tb_at 733 tw_733 rfl)) d_LN_name_44 ?_
          refine lv_iload_n hx hb d_LN_name_47 rfl (lv_at hl 4 rfl) ?_
          obtain ⟨hi_, hq⟩ := hq
          refine fs_xqa (f := fun k => E.2 k) hx hb (fs_all hE) hw hS hi_ d_LN_name_48 ?_
          refine lv_astore_n (lv' := [(1, .ref (E.2 (Int32.toNatClampNeg z3))), (4, .int x107), (0, .ref z0), (2, .int z2), (3, .int z3)]) hx hb d_LN_name_49 rfl hl (by decide) rfl (fun ls hl => ?_)
          exact hJ50 (some (E.2 (Int32.toNatClampNeg z3))) z2 z3 x107 _ _ _ _ hq hP hS (show lv_has ls 5 [(0, .ref z0), (1, va_rf (some (E.2 (Int32.toNatClampNeg z3)))), (2, .int z2), (3, .int z3), (4, .int x107)] from lv_sub hl [2, 0, 3, 4, 1] rfl)
    | some a112 =>
      have hl : lv_has ls 5 [(0, .ref z0), (1, .ref a112), (2, .int z2), (3, .int z3)] := hl
      refine lv_iload_n hx hb d_LN_name_6 rfl (lv_at hl 3 rfl) ?_
      refine fs_getsN hx hb (fs_zr hE (i := 8) rfl (List.mem_of_getElem? tw_734) (List.mem_of_getElem? tw_88)) hw hS hown (hts _ (fs_tb_at 733 tw_733 rfl)) d_LN_name_7 ?_
      refine fs_xln hx hb (fs_all hE) hw hS d_LN_name_10 ?_
      refine lv_icmp_ge (tgt := 63) hx hb d_LN_name_11 (by decide) (fun c_113 => ?_) (fun c_113 => ?_)
      · have hq := fs_wifp c_113 hq
        exact kk (some a112) z2 _ _ _ _ hq hP hS (show lv_has ls 5 [(0, .ref z0), (1, va_rf (some a112)), (2, .int z2)] from lv_sub hl [0, 1, 2] rfl)
      · have hq := fs_wifn c_113 hq
        refine lv_aload_n hx hb d_LN_name_14 rfl (lv_at hl 0 rfl) ?_
        refine fs_getsN hx hb (fs_zr hE (i := 8) rfl (List.mem_of_getElem? tw_734) (List.mem_of_getElem? tw_88)) hw hS hown (hts _ (fs_tb_at 733 tw_733 rfl)) d_LN_name_15 ?_
        refine lv_iload_n hx hb d_LN_name_18 rfl (lv_at hl 3 rfl) ?_
        obtain ⟨hi_, hq⟩ := hq
        refine fs_xqa (f := fun k => E.2 k) hx hb (fs_all hE) hw hS hi_ d_LN_name_19 ?_
        obtain ⟨j114, hj_, ej_, hq⟩ := hq
        refine fs_xgetE ej_ hx hb (fs_open hE j114 hj_).1 hw hS hown (hts _ (fs_tb_at 1882 tw_1882 rfl)) d_LN_name_20 ?_
        obtain ⟨hi_, hq⟩ := hq
        obtain ⟨fs_, he_⟩ := fs_isc_some hi_
        refine fs_cV B hl.1 hP hS (kw_LN_sameAs hE hq) (fs_tb_at 735 tw_735 rfl) he_ rfl (fs_tb_at 737 tw_737 rfl) (fs_tb_at 32 tw_32 rfl) (fs_tb_at 89 tw_89 rfl) (fs_tb_at 738 tw_738 rfl) (by decide) (show (parseMethodDescriptor y_LN_sameAs.desc).map (fun d => d.parameters.length) = some 1 by decide +kernel) rfl d_LN_name_23 (fs_rm (k := 0) (by omega) (by omega) (by omega) (by omega) rfl) (fun v_ h115 H locs hq hP hS => ?_) (fun C_ a_ h_ H locs hq hP hS hX => fs_out (hout _) hlocks hw hP hS hX (Nat.le_of_ble_eq_true rfl) (Nat.le_of_ble_eq_true rfl) hq)
        refine fs_cs (k := 0) (n := 0) rfl rfl ?_
        replace hq := fs_ki_some hq
        obtain ⟨x116, rfl, hq⟩ := hq
        refine W.eq (g2 := F0 m 26 ls (.int x116 :: [])) rfl ?_
        refine lv_istore (lv' := [(4, .int x116), (0, .ref z0), (1, .ref a112), (2, .int z2), (3, .int z3)]) hx hb d_LN_name_26 hl (by decide) rfl (fun ls hl => ?_)
        refine lv_iload hx hb d_LN_name_28 (lv_at hl 0 rfl) ?_
        refine fs_getsN hx hb (fs_zr hE (i := 8) rfl (List.mem_of_getElem? tw_734) (List.mem_of_getElem? tw_88)) hw hS hown (hts _ (fs_tb_at 733 tw_733 rfl)) d_LN_name_30 ?_
        refine lv_iload_n hx hb d_LN_name_33 rfl (lv_at hl 4 rfl) ?_
        obtain ⟨hi_, hq⟩ := hq
        refine fs_xqa (f := fun k => E.2 k) hx hb (fs_all hE) hw hS hi_ d_LN_name_34 ?_
        obtain ⟨j117, hj_, ej_, hq⟩ := hq
        refine fs_xgetE ej_ hx hb (fs_open hE j117 hj_).1 hw hS hown (hts _ (fs_tb_at 1882 tw_1882 rfl)) d_LN_name_35 ?_
        obtain ⟨hj_, hq⟩ := hq
        refine fs_cVS B hl.1 hP hS (kw_ST_length hE hq) (fs_tb_at 739 tw_739 rfl) (fs_text hE j117 hj_).1 (fs_tb_at 740 tw_740 rfl) (fs_tb_at 741 tw_741 rfl) (fs_tb_at 94 tw_94 rfl) (fs_tb_at 742 tw_742 rfl) (by decide) (show (parseMethodDescriptor y_ST_length.desc).map (fun d => d.parameters.length) = some 0 by decide +kernel) rfl d_LN_name_38 (fs_rm (k := 1) (by omega) (by omega) (by omega) (by omega) rfl) (fun v_ h118 H locs hq hP hS => ?_) (fun C_ a_ h_ H locs hq hP hS hX => fs_out (hout _) hlocks hw hP hS hX (Nat.le_of_ble_eq_true rfl) (Nat.le_of_ble_eq_true rfl) hq)
        refine fs_cs (k := 0) (n := 0) rfl rfl ?_
        replace hq := fs_ki_some hq
        obtain ⟨x119, rfl, hq⟩ := hq
        refine W.eq (g2 := F0 m 41 ls (.int x119 :: .int x116 :: [])) rfl ?_
        refine lv_icmp_ne (tgt := 50) hx hb d_LN_name_41 (by decide) (fun c_120 => ?_) (fun c_120 => ?_)
        · have hq := fs_wifn c_120 hq
          exact hJ50 (some a112) z2 z3 x116 _ _ _ _ hq hP hS (show lv_has ls 5 [(0, .ref z0), (1, va_rf (some a112)), (2, .int z2), (3, .int z3), (4, .int x116)] from lv_sub hl [1, 2, 3, 4, 0] rfl)
        · have hq := fs_wifp c_120 hq
          refine fs_getsN hx hb (fs_zr hE (i := 8) rfl (List.mem_of_getElem? tw_734) (List.mem_of_getElem? tw_88)) hw hS hown (hts _ (fs_tb_at 733 tw_733 rfl)) d_LN_name_44 ?_
          refine lv_iload_n hx hb d_LN_name_47 rfl (lv_at hl 4 rfl) ?_
          obtain ⟨hi_, hq⟩ := hq
          refine fs_xqa (f := fun k => E.2 k) hx hb (fs_all hE) hw hS hi_ d_LN_name_48 ?_
          refine lv_astore_n (lv' := [(1, .ref (E.2 (Int32.toNatClampNeg z3))), (4, .int x116), (0, .ref z0), (2, .int z2), (3, .int z3)]) hx hb d_LN_name_49 rfl hl (by decide) rfl (fun ls hl => ?_)
          exact hJ50 (some (E.2 (Int32.toNatClampNeg z3))) z2 z3 x116 _ _ _ _ hq hP hS (show lv_has ls 5 [(0, .ref z0), (1, va_rf (some (E.2 (Int32.toNatClampNeg z3)))), (2, .int z2), (3, .int z3), (4, .int x116)] from lv_sub hl [2, 0, 3, 4, 1] rfl)
set_option maxHeartbeats 4000000 in
set_option maxRecDepth 100000 in
theorem kw_LN_name {l : Launch} {s00 : State} {E : fs_E} (hE : fs_SE l s00 E) {h : fs_Hp} {a0 : Nat} {Post : fs_Ps} (hq : w_LN_name E h a0 Post) : fs_Ct l s00 E.1 y_LN_name (.code y_LN_name b_LN_name 5 (some ((.object "FormulaSheet$Name")))) { frames := 5, cells := 0, slots := 0, locals := 68 } [.ref a0] h Post := by
  refine fs_Ct.ofR hE.1 (by decide) ?_
  intro p e R s m below meth c hRf hRl hRc hRs B hout hP
  skip
  obtain ⟨hx, hb, hr, hml, hown, hts, hlocks, hname, hK, hw, htr⟩ := id B
  have hown : s.vm.findClass "FormulaSheet$Line" = some m.cls := hown
  have hS := hw.S
  have hl := lv_entry ([.ref a0]) (n := 5) (Nat.le_of_ble_eq_true rfl)
  rw [lg_entry_eq]
  generalize (lg_sl ([.ref a0]) ++ List.replicate (5 - (lg_sl ([.ref a0])).length) Slot.unset).toArray = ls at hl ⊢
  have hl : lv_has ls 5 [(0, .ref a0)] := hl
  unfold w_LN_name at hq
  refine lv_null hx hb d_LN_name_0 ?_
  refine lv_astore_nN (lv' := [(1, .null), (0, .ref a0)]) hx hb d_LN_name_1 rfl hl (by decide) rfl (fun ls hl => ?_)
  refine lv_iconst (v := 0) hx hb d_LN_name_2 (by decide) ?_
  refine lv_istore_n (lv' := [(2, .int 0), (1, .null), (0, .ref a0)]) hx hb d_LN_name_3 rfl hl (by decide) rfl (fun ls hl => ?_)
  refine lv_iconst (v := 0) hx hb d_LN_name_4 (by decide) ?_
  refine lv_istore_n (lv' := [(3, .int 0), (2, .int 0), (1, .null), (0, .ref a0)]) hx hb d_LN_name_5 rfl hl (by decide) rfl (fun ls hl => ?_)
  obtain ⟨n124, hq⟩ := hq
  refine lw_w_LN_name_6 hE B hout (by omega) (by omega) _ n124 a0 none 0 0 _ _ _ _ hq hP hS (show lv_has ls 5 [(0, .ref a0), (1, va_rf none), (2, .int 0), (3, .int 0)] from lv_sub hl [3, 2, 1, 0] rfl) (fun y121 y122 h123 H locs ls hq hP hS hl => ?_)
  cases y121 with
  | none =>
    have hl : lv_has ls 5 [(0, .ref a0), (1, .null), (2, .int y122)] := hl
    refine lv_aload_n hx hb d_LN_name_63 rfl (lv_at hl 0 rfl) ?_
    refine lv_dup hx hb d_LN_name_64 rfl ?_
    obtain ⟨fs_, x126, he_, hv_, hq⟩ := fs_gi_some hq
    refine fs_get hx hb hts hown hK c_LN hP he_ 2 (by decide) (hts _ (fs_tb_at 142 tw_142 rfl)) (fun _ h9 => h9) hv_ d_LN_name_65 ?_
    refine lv_iload_n hx hb d_LN_name_68 rfl (lv_at hl 2 rfl) ?_
    refine lv_iadd hx hb d_LN_name_69 ?_
    obtain ⟨fs_, h127, e_, hl_, eh_, hq⟩ := fs_pw_some hq
    refine fs_put hx hb hts hown hK c_LN hP hS e_ 2 (by decide) (hts _ (fs_tb_at 142 tw_142 rfl)) (fun _ h9 => h9) rfl rfl rfl hl_ d_LN_name_70 (fun H locs hP hS => ?_)
    rw [← eh_] at hP
    refine lv_aload_nN hx hb d_LN_name_73 rfl (lv_at hl 1 rfl) ?_
    exact fs_aret hx hb hr (Or.inl ⟨_, rfl⟩) (Or.inl rfl) hlocks hw hP hS (Nat.le_refl _) (Nat.le_refl _) hq d_LN_name_74
  | some a128 =>
    have hl : lv_has ls 5 [(0, .ref a0), (1, .ref a128), (2, .int y122)] := hl
    refine lv_aload_n hx hb d_LN_name_63 rfl (lv_at hl 0 rfl) ?_
    refine lv_dup hx hb d_LN_name_64 rfl ?_
    obtain ⟨fs_, x129, he_, hv_, hq⟩ := fs_gi_some hq
    refine fs_get hx hb hts hown hK c_LN hP he_ 2 (by decide) (hts _ (fs_tb_at 142 tw_142 rfl)) (fun _ h9 => h9) hv_ d_LN_name_65 ?_
    refine lv_iload_n hx hb d_LN_name_68 rfl (lv_at hl 2 rfl) ?_
    refine lv_iadd hx hb d_LN_name_69 ?_
    obtain ⟨fs_, h130, e_, hl_, eh_, hq⟩ := fs_pw_some hq
    refine fs_put hx hb hts hown hK c_LN hP hS e_ 2 (by decide) (hts _ (fs_tb_at 142 tw_142 rfl)) (fun _ h9 => h9) rfl rfl rfl hl_ d_LN_name_70 (fun H locs hP hS => ?_)
    rw [← eh_] at hP
    refine lv_aload_n hx hb d_LN_name_73 rfl (lv_at hl 1 rfl) ?_
    exact fs_aret hx hb hr (Or.inl ⟨_, rfl⟩) (Or.inr ⟨_, rfl⟩) hlocks hw hP hS (Nat.le_refl _) (Nat.le_refl _) hq d_LN_name_74
def w_LN_overLogics_L10_J31 (self : Nat → Nat → fs_E → fs_Hp → Nat → fs_Ps → Prop) (self1 : Nat → Nat → Nat → Int32 → Nat → Nat → fs_Hp → Prop) (E : fs_E) (K : Nat → Nat → fs_Hp → Prop) (Post : fs_Ps) (z0 : Nat) (z1 : Nat) (z2 : Nat) (z3 : Int32) (bc bs : Nat) (h1 : fs_Hp) : Prop := ∃ c104 s105 : Nat, c104 ≤ bc ∧ s105 ≤ bs ∧ (fs_isc h1 z0 1 ∧ (self c104 s105 E h1 z0 (fs_ko (fun h106 => fs_sq h106 z2 (E.1.2 6) z3 none (fun h108 => fs_aq h108 z2 (E.1.2 6) z3 (fun o9 => match o9 with | none => Post (.inl (some (.null))) h108 | some a111 => self1 z0 z1 z2 (z3 + 1) (bc - c104) (bs - s105) h108))) (fun a107 h106 => fs_isP h106 a107 ∧ (fs_sq h106 z2 (E.1.2 6) z3 (some a107) (fun h112 => fs_aq h112 z2 (E.1.2 6) z3 (fun o9 => match o9 with | none => Post (.inl (some (.null))) h112 | some a115 => self1 z0 z1 z2 (z3 + 1) (bc - c104) (bs - s105) h112)))) (fun C_ h_ => Post (.inr C_) h_))))
def w_LN_overLogics_L10 (self : Nat → Nat → fs_E → fs_Hp → Nat → fs_Ps → Prop) (E : fs_E) (K : Nat → Nat → fs_Hp → Prop) (Post : fs_Ps) : Nat → Nat → Nat → Nat → Int32 → Nat → Nat → fs_Hp → Prop
  | 0 => fun _ _ _ _ _ _ _ => False
  | n + 1 => fun z0 z1 z2 z3 bc bs h1 => fs_an h1 z2 (E.1.2 6) (fun n116 => (if (Int32.ofNat n116) ≤ z3 then K bc bs h1 else (if z3 ≤ 0 then w_LN_overLogics_L10_J31 self (w_LN_overLogics_L10 self E K Post n) E K Post z0 z1 z2 z3 bc bs h1 else fs_isc h1 z0 1 ∧ (w_LN_take E h1 z0 44 (fs_ki (fun x120 h119 => (if x120 = 0 then Post (.inl (some (.null))) h119 else w_LN_overLogics_L10_J31 self (w_LN_overLogics_L10 self E K Post n) E K Post z0 z1 z2 z3 bc bs h119)) (fun C_ h_ => Post (.inr C_) h_))))))
def w_LN_overLogics (self : Nat → Nat → fs_E → fs_Hp → Nat → fs_Ps → Prop) (mc ms : Nat) (E : fs_E) (h : fs_Hp) (a0 : Nat) (x1 : Nat) (Post : fs_Ps) : Prop := (∃ j101 : Nat, j101 < 8 ∧ x1 = E.2 j101 ∧ ¬ (fs_lg j101 : Int32) < 0 ∧ (Int32.toNatClampNeg (fs_lg j101)) * 4 ≤ 536870912 ∧ 1 ≤ mc ∧ (Int32.toNatClampNeg (fs_lg j101)) ≤ ms ∧ ∀ a102 : Nat, h a102 = none → (fun h103 : fs_Hp => (∃ n127 : Nat, w_LN_overLogics_L10 self E (fun bc123 bs124 h122 => 1 ≤ bc123 ∧ 2 ≤ bs124 ∧ ∀ a128 : Nat, h122 a128 = none → (fun h129 : fs_Hp => w_CA_init E h129 a128 x1 a102 (fs_kv (fun h130 => Post (.inl (some (.ref a128))) h130) (fun C_ h_ => Post (.inr C_) h_))) (fs_up h122 a128 (.inr (8, [.null, .null])))) Post n127 a0 x1 a102 0 (mc - 1) (ms - (Int32.toNatClampNeg (fs_lg j101))) h103)) (fs_up h a102 (.inl (E.1.2 6, (Int32.toNatClampNeg (fs_lg j101)), .inr (.inr (.inr (.inr (fun _ => none))))))))
set_option maxHeartbeats 4000000 in
set_option maxRecDepth 100000 in
theorem lw_w_LN_overLogics_10 {p : Program} {l : Launch} {e : Env} {R : Room} {s : State} {m : MethodId} {args : Array Value} {below : List Frame} {meth : Method} {c : Code} {s00 : State} {E : fs_E} {Post : fs_Ps} {mc ms : Nat} (hE : fs_SE l s00 E) {self : Nat → Nat → fs_E → fs_Hp → Nat → fs_Ps → Prop} {fn ln : Nat} (hself : ∀ {c9 s9 : Nat} {h9 : fs_Hp} {q0 : Nat} {P9 : fs_Ps}, self c9 s9 E h9 q0 P9 → fs_Ct l s00 E.1 y_LN_logic (.code y_LN_logic b_LN_logic 4 (some ((.object "FormulaSheet$Part")))) { frames := fn, cells := c9, slots := s9, locals := ln } [.ref q0] h9 P9) (B : fs_B p l e s m args meth c s00 E.1 y_LN_overLogics b_LN_overLogics 4 (some ((.object "FormulaSheet$Part")))) (hout : ∀ pc, ∀ x ∈ c.exceptionTable.toList, covers x pc = false) (hRf : fn + 3 ≤ R.frames) (hRl : ln + 48 ≤ R.locals) (hRc : mc ≤ R.cells) (hRs : ms ≤ R.slots) (K : Nat → Nat → fs_Hp → Prop) : ∀ (n : Nat) (z0 : Nat) (z1 : Nat) (z2 : Nat) (z3 : Int32) (bc bs uc us : Nat) (h1 : fs_Hp) (H : Heap) (locs : List Loc) (ls : Array Slot), w_LN_overLogics_L10 self E K Post n z0 z1 z2 z3 bc bs h1 → fs_P E.1.1 fs_cl (fs_A s00) h1 H → va_S (fs_A s00) s00.heap H locs → uc + bc ≤ mc → us + bs ≤ ms → lv_has ls 4 [(0, .ref z0), (1, .ref z1), (2, .ref z2), (3, .int z3)] → (∀  (bc bs uc us : Nat) (h' : fs_Hp) (H : Heap) (locs : List Loc) (ls : Array Slot), K  bc bs h' → fs_P E.1.1 fs_cl (fs_A s00) h' H → va_S (fs_A s00) s00.heap H locs → uc + bc ≤ mc → us + bs ≤ ms → lv_has ls 4 [(0, .ref z0), (1, .ref z1), (2, .ref z2)] → W p l e R s m args below meth c H locs uc us (fx_MQ below (fs_Qc s00 E.1 Post) args s mc ms (fs_A s00)) (F0 m 52 ls [])) → W p l e R s m args below meth c H locs uc us (fx_MQ below (fs_Qc s00 E.1 Post) args s mc ms (fs_A s00)) (F0 m 10 ls []) := by
  obtain ⟨hx, hb, hr, hml, hown, hts, hlocks, hname, hK, hw, htr⟩ := id B
  have hown : s.vm.findClass "FormulaSheet$Line" = some m.cls := hown
  intro n
  induction n with
  | zero => intro z0 z1 z2 z3 bc bs uc us h1 H locs ls hq; exact False.elim hq
  | succ n ih =>
    intro z0 z1 z2 z3 bc bs uc us h1 H locs ls hq hP hS hu1 hu2 hl kk
    rw [w_LN_overLogics_L10] at hq
    have hJ31 : ∀ (z3 : Int32) (bc bs uc us : Nat) (h1 : fs_Hp) (H : Heap) (locs : List Loc) (ls : Array Slot), w_LN_overLogics_L10_J31 self (w_LN_overLogics_L10 self E K Post n) E K Post z0 z1 z2 z3 bc bs h1 → fs_P E.1.1 fs_cl (fs_A s00) h1 H → va_S (fs_A s00) s00.heap H locs → uc + bc ≤ mc → us + bs ≤ ms → lv_has ls 4 [(0, .ref z0), (1, .ref z1), (2, .ref z2), (3, .int z3)] → W p l e R s m args below meth c H locs uc us (fx_MQ below (fs_Qc s00 E.1 Post) args s mc ms (fs_A s00)) (F0 m 31 ls ([])) := by
      intro z3 bc bs uc us h1 H locs ls hq hP hS hu1 hu2 hl
      unfold w_LN_overLogics_L10_J31 at hq
      refine lv_aload_n hx hb d_LN_overLogics_31 rfl (lv_at hl 2 rfl) ?_
      refine lv_iload_n hx hb d_LN_overLogics_32 rfl (lv_at hl 3 rfl) ?_
      refine lv_aload_n hx hb d_LN_overLogics_33 rfl (lv_at hl 0 rfl) ?_
      obtain ⟨c104, s105, hc_, hs_, hq⟩ := hq
      obtain ⟨hi_, hq⟩ := hq
      obtain ⟨fs_, he_⟩ := fs_isc_some hi_
      refine fs_cV B hl.1 hP hS (hself hq) (fs_tb_at 613 tw_613 rfl) he_ rfl (fs_tb_at 615 tw_615 rfl) (fs_tb_at 15 tw_15 rfl) (fs_tb_at 89 tw_89 rfl) (fs_tb_at 616 tw_616 rfl) (by decide) (show (parseMethodDescriptor y_LN_logic.desc).map (fun d => d.parameters.length) = some 0 by decide +kernel) rfl d_LN_overLogics_34 (fs_rm (k := 2) (by omega) (by omega) (by omega) (by omega) rfl) (fun v_ h106 H locs hq hP hS => ?_) (fun C_ a_ h_ H locs hq hP hS hX => fs_out (hout _) hlocks hw hP hS hX (show (uc + c104) ≤ mc by omega) (show (us + s105) ≤ ms by omega) hq)
      refine fs_cs (k := (uc + c104)) (n := (us + s105)) rfl rfl ?_
      replace hq := fs_ko_some hq
      rcases hq with ⟨rfl, hq⟩ | ⟨a107, rfl, hq⟩
      · refine W.eq (g2 := F0 m 37 ls (.null :: .int z3 :: .ref z2 :: [])) rfl ?_
        obtain ⟨n_, f_, h108, e_, hi_, eh_, hq⟩ := fs_sq_some hq
        refine fs_aastN hx hb hK hP hS 6 e_ rfl hi_ d_LN_overLogics_37 (fun H locs hP hS => ?_)
        rw [← eh_] at hP
        refine lv_aload_n hx hb d_LN_overLogics_38 rfl (lv_at hl 2 rfl) ?_
        refine lv_iload_n hx hb d_LN_overLogics_39 rfl (lv_at hl 3 rfl) ?_
        obtain ⟨n_, f_, o109, e_, hi_, ex_, hq⟩ := fs_aq_some hq
        refine fs_aald hx hb hK hP 6 e_ rfl hi_ d_LN_overLogics_40 ?_
        rw [← ex_]
        cases o109 with
        | none =>
          refine W.eq (g2 := F0 m 41 ls (.null :: [])) rfl ?_
          refine lv_ifnonnullN hx hb d_LN_overLogics_41 ?_
          refine lv_null hx hb d_LN_overLogics_44 ?_
          exact fs_aret hx hb hr (Or.inl ⟨_, rfl⟩) (Or.inl rfl) hlocks hw hP hS (by omega) (by omega) hq d_LN_overLogics_45
        | some a111 =>
          refine W.eq (g2 := F0 m 41 ls (.ref a111 :: [])) rfl ?_
          refine lv_ifnonnull (tgt := 46) hx hb d_LN_overLogics_41 (by decide) ?_
          refine lv_iinc (v := z3 + 1) (lv' := [(3, .int (z3 + 1)), (0, .ref z0), (1, .ref z1), (2, .ref z2)]) hx hb d_LN_overLogics_46 hl (k := 3) rfl rfl (by decide) rfl (fun ls hl => ?_)
          refine lv_goto (tgt := 10) hx hb d_LN_overLogics_49 (by decide) ?_
          exact ih z0 z1 z2 (z3 + 1) (bc - c104) (bs - s105) (uc + c104) (us + s105) _ _ _ _ hq hP hS (by omega) (by omega) (show lv_has ls 4 [(0, .ref z0), (1, .ref z1), (2, .ref z2), (3, .int (z3 + 1))] from lv_sub hl [1, 2, 3, 0] rfl) kk
      · refine W.eq (g2 := F0 m 37 ls (.ref a107 :: .int z3 :: .ref z2 :: [])) rfl ?_
        obtain ⟨hc_, hq⟩ := hq
        obtain ⟨n_, f_, h112, e_, hi_, eh_, hq⟩ := fs_sq_some hq
        refine fs_aastP hx hb hts hK hP hS e_ hc_ hi_ d_LN_overLogics_37 (fun H locs hP hS => ?_)
        rw [← eh_] at hP
        refine lv_aload_n hx hb d_LN_overLogics_38 rfl (lv_at hl 2 rfl) ?_
        refine lv_iload_n hx hb d_LN_overLogics_39 rfl (lv_at hl 3 rfl) ?_
        obtain ⟨n_, f_, o113, e_, hi_, ex_, hq⟩ := fs_aq_some hq
        refine fs_aald hx hb hK hP 6 e_ rfl hi_ d_LN_overLogics_40 ?_
        rw [← ex_]
        cases o113 with
        | none =>
          refine W.eq (g2 := F0 m 41 ls (.null :: [])) rfl ?_
          refine lv_ifnonnullN hx hb d_LN_overLogics_41 ?_
          refine lv_null hx hb d_LN_overLogics_44 ?_
          exact fs_aret hx hb hr (Or.inl ⟨_, rfl⟩) (Or.inl rfl) hlocks hw hP hS (by omega) (by omega) hq d_LN_overLogics_45
        | some a115 =>
          refine W.eq (g2 := F0 m 41 ls (.ref a115 :: [])) rfl ?_
          refine lv_ifnonnull (tgt := 46) hx hb d_LN_overLogics_41 (by decide) ?_
          refine lv_iinc (v := z3 + 1) (lv' := [(3, .int (z3 + 1)), (0, .ref z0), (1, .ref z1), (2, .ref z2)]) hx hb d_LN_overLogics_46 hl (k := 3) rfl rfl (by decide) rfl (fun ls hl => ?_)
          refine lv_goto (tgt := 10) hx hb d_LN_overLogics_49 (by decide) ?_
          exact ih z0 z1 z2 (z3 + 1) (bc - c104) (bs - s105) (uc + c104) (us + s105) _ _ _ _ hq hP hS (by omega) (by omega) (show lv_has ls 4 [(0, .ref z0), (1, .ref z1), (2, .ref z2), (3, .int (z3 + 1))] from lv_sub hl [1, 2, 3, 0] rfl) kk
    refine lv_iload_n hx hb d_LN_overLogics_10 rfl (lv_at hl 3 rfl) ?_
    refine lv_aload_n hx hb d_LN_overLogics_11 rfl (lv_at hl 2 rfl) ?_
    obtain ⟨x_, n116, en_, e_, hq⟩ := fs_an_some hq
    refine fs_alen hx hb hK hP 6 e_ rfl rfl d_LN_overLogics_12 ?_
    rw [← en_]
    refine lv_icmp_ge (tgt := 52) hx hb d_LN_overLogics_13 (by decide) (fun c_117 => ?_) (fun c_117 => ?_)
    · have hq := fs_wifp c_117 hq
      exact kk  bc bs uc us _ _ _ _ hq hP hS (by omega) (by omega) (show lv_has ls 4 [(0, .ref z0), (1, .ref z1), (2, .ref z2)] from lv_sub hl [0, 1, 2] rfl)
    · have hq := fs_wifn c_117 hq
      refine lv_iload_n hx hb d_LN_overLogics_16 rfl (lv_at hl 3 rfl) ?_
      refine lv_if_le (tgt := 31) hx hb d_LN_overLogics_17 (by decide) (fun c_118 => ?_) (fun c_118 => ?_)
      · have hq := fs_wifp c_118 hq
        exact hJ31 z3 bc bs uc us _ _ _ _ hq hP hS (by omega) (by omega) (show lv_has ls 4 [(0, .ref z0), (1, .ref z1), (2, .ref z2), (3, .int z3)] from lv_sub hl [0, 1, 2, 3] rfl)
      · have hq := fs_wifn c_118 hq
        refine lv_aload_n hx hb d_LN_overLogics_20 rfl (lv_at hl 0 rfl) ?_
        refine lv_bipush (v := 44) hx hb d_LN_overLogics_21 (by decide) ?_
        obtain ⟨hi_, hq⟩ := hq
        obtain ⟨fs_, he_⟩ := fs_isc_some hi_
        refine fs_cV B hl.1 hP hS (kw_LN_take hE hq) (fs_tb_at 621 tw_621 rfl) he_ rfl (fs_tb_at 623 tw_623 rfl) (fs_tb_at 17 tw_17 rfl) (fs_tb_at 89 tw_89 rfl) (fs_tb_at 624 tw_624 rfl) (by decide) (show (parseMethodDescriptor y_LN_take.desc).map (fun d => d.parameters.length) = some 1 by decide +kernel) rfl d_LN_overLogics_23 (fs_rm (k := 0) (by omega) (by omega) (by omega) (by omega) rfl) (fun v_ h119 H locs hq hP hS => ?_) (fun C_ a_ h_ H locs hq hP hS hX => fs_out (hout _) hlocks hw hP hS hX (show uc ≤ mc by omega) (show us ≤ ms by omega) hq)
        refine fs_cs (k := uc) (n := us) rfl rfl ?_
        replace hq := fs_ki_some hq
        obtain ⟨x120, rfl, hq⟩ := hq
        refine W.eq (g2 := F0 m 26 ls (.int x120 :: [])) rfl ?_
        refine lv_if_ne (tgt := 31) hx hb d_LN_overLogics_26 (by decide) (fun c_121 => ?_) (fun c_121 => ?_)
        · have hq := fs_wifn c_121 hq
          exact hJ31 z3 bc bs uc us _ _ _ _ hq hP hS (by omega) (by omega) (show lv_has ls 4 [(0, .ref z0), (1, .ref z1), (2, .ref z2), (3, .int z3)] from lv_sub hl [0, 1, 2, 3] rfl)
        · have hq := fs_wifp c_121 hq
          refine lv_null hx hb d_LN_overLogics_29 ?_
          exact fs_aret hx hb hr (Or.inl ⟨_, rfl⟩) (Or.inl rfl) hlocks hw hP hS (by omega) (by omega) hq d_LN_overLogics_30
set_option maxHeartbeats 4000000 in
set_option maxRecDepth 100000 in
theorem kw_LN_overLogics {l : Launch} {s00 : State} {E : fs_E} (hE : fs_SE l s00 E) {self : Nat → Nat → fs_E → fs_Hp → Nat → fs_Ps → Prop} {fn ln : Nat} (hself : ∀ {c9 s9 : Nat} {h9 : fs_Hp} {q0 : Nat} {P9 : fs_Ps}, self c9 s9 E h9 q0 P9 → fs_Ct l s00 E.1 y_LN_logic (.code y_LN_logic b_LN_logic 4 (some ((.object "FormulaSheet$Part")))) { frames := fn, cells := c9, slots := s9, locals := ln } [.ref q0] h9 P9) {mc ms : Nat} {h : fs_Hp} {a0 : Nat} {x1 : Nat} {Post : fs_Ps} (hq : w_LN_overLogics self mc ms E h a0 x1 Post) : fs_Ct l s00 E.1 y_LN_overLogics (.code y_LN_overLogics b_LN_overLogics 4 (some ((.object "FormulaSheet$Part")))) { frames := fn + 3, cells := mc, slots := ms, locals := ln + 48 } [.ref a0, .ref x1] h Post := by
  refine fs_Ct.ofR hE.1 (by decide) ?_
  intro p e R s m below meth c hRf hRl hRc hRs B hout hP
  skip
  obtain ⟨hx, hb, hr, hml, hown, hts, hlocks, hname, hK, hw, htr⟩ := id B
  have hown : s.vm.findClass "FormulaSheet$Line" = some m.cls := hown
  have hS := hw.S
  have hl := lv_entry ([.ref a0, .ref x1]) (n := 4) (Nat.le_of_ble_eq_true rfl)
  rw [lg_entry_eq]
  generalize (lg_sl ([.ref a0, .ref x1]) ++ List.replicate (4 - (lg_sl ([.ref a0, .ref x1])).length) Slot.unset).toArray = ls at hl ⊢
  have hl : lv_has ls 4 [(0, .ref a0), (1, .ref x1)] := hl
  unfold w_LN_overLogics at hq
  refine lv_aload_n hx hb d_LN_overLogics_0 rfl (lv_at hl 1 rfl) ?_
  obtain ⟨j101, hj_, ej_, hq⟩ := hq
  refine fs_xgetE ej_ hx hb (fs_open hE j101 hj_).2 hw hS hown (hts _ (fs_tb_at 1883 tw_1883 rfl)) d_LN_overLogics_1 ?_
  obtain ⟨hn_, hb_, hc_, hs_, hq⟩ := hq
  refine fs_newq hx hb hown (hts _ (fs_tb_at 812 tw_812 rfl)) (fs_ao hE.1 hw (List.mem_of_getElem? tw_162) rfl) hK 6 rfl hP hS (fun _ h9 => h9) hn_ rfl hb_ (by omega) (by omega) d_LN_overLogics_4 (fun a102 H hn_ hP hS => ?_)
  have hq := hq a102 hn_
  generalize eh_ : fs_up h a102 (.inl (E.1.2 6, (Int32.toNatClampNeg (fs_lg j101)), .inr (.inr (.inr (.inr (fun _ => none)))))) = h103 at hP hq
  refine lv_astore_n (lv' := [(2, .ref a102), (0, .ref a0), (1, .ref x1)]) hx hb d_LN_overLogics_7 rfl hl (by decide) rfl (fun ls hl => ?_)
  refine lv_iconst (v := 0) hx hb d_LN_overLogics_8 (by decide) ?_
  refine lv_istore_n (lv' := [(3, .int 0), (2, .ref a102), (0, .ref a0), (1, .ref x1)]) hx hb d_LN_overLogics_9 rfl hl (by decide) rfl (fun ls hl => ?_)
  obtain ⟨n127, hq⟩ := hq
  refine lw_w_LN_overLogics_10 hE hself B hout (by omega) (by omega) hRc hRs _ n127 a0 x1 a102 0 (mc - 1) (ms - (Int32.toNatClampNeg (fs_lg j101))) (0 + 1) (0 + (Int32.toNatClampNeg (fs_lg j101))) _ _ _ _ hq hP hS (by omega) (by omega) (show lv_has ls 4 [(0, .ref a0), (1, .ref x1), (2, .ref a102), (3, .int 0)] from lv_sub hl [2, 3, 1, 0] rfl) (fun  bc123 bs124 uc125 us126 h122 H locs ls hq hP hS hu1 hu2 hl => ?_)
  obtain ⟨hc_, hs_, hq⟩ := hq
  refine fs_new (fs := [.null, .null]) hx hb hts hown hK c_CA hP hS (fun _ h9 => h9) (hts _ (fs_tb_at 813 tw_813 rfl)) (hts _ (fs_tb_at 814 tw_814 rfl)) (hts _ (fs_tb_at 110 tw_110 rfl)) (by decide) (by omega) (by omega) d_LN_overLogics_52 (fun a128 H hn_ hP hS => ?_)
  have hq := hq a128 hn_
  generalize eh_ : fs_up h122 a128 (.inr (8, [.null, .null])) = h129 at hP hq
  refine lv_dup hx hb d_LN_overLogics_55 rfl ?_
  refine lv_aload_n hx hb d_LN_overLogics_56 rfl (lv_at hl 1 rfl) ?_
  refine lv_aload_n hx hb d_LN_overLogics_57 rfl (lv_at hl 2 rfl) ?_
  refine fs_cI B hl.1 hP hS (kw_CA_init hE hq) (fs_tb_at 815 tw_815 rfl) (fs_tb_at 816 tw_816 rfl) rfl (fs_tb_at 110 tw_110 rfl) (fs_tb_at 817 tw_817 rfl) (by decide) (show (parseMethodDescriptor y_CA_init.desc).map (fun d => d.parameters.length) = some 2 by decide +kernel) rfl d_LN_overLogics_58 (fs_rm (k := 1) (by omega) (by omega) (by omega) (by omega) rfl) (fun v_ h130 H locs hq hP hS => ?_) (fun C_ a_ h_ H locs hq hP hS hX => fs_out (hout _) hlocks hw hP hS hX (show (uc125 + 1) ≤ mc by omega) (show (us126 + 2) ≤ ms by omega) hq)
  refine fs_cs (k := (uc125 + 1)) (n := (us126 + 2)) rfl rfl ?_
  replace hq := fs_kv_some hq
  obtain ⟨rfl, hq⟩ := hq
  refine W.eq (g2 := F0 m 61 ls (.ref a128 :: [])) rfl ?_
  exact fs_aret hx hb hr (Or.inl ⟨_, rfl⟩) (Or.inr ⟨_, rfl⟩) hlocks hw hP hS (by omega) (by omega) hq d_LN_overLogics_61
def w_LN_call (self : Nat → Nat → fs_E → fs_Hp → Nat → fs_Ps → Prop) (mc ms : Nat) (E : fs_E) (h : fs_Hp) (a0 : Nat) (Post : fs_Ps) : Prop := fs_isc h a0 1 ∧ (w_LN_name E h a0 (fs_ko (fun h101 => Post (.inl (some (.null))) h101) (fun a102 h101 => fs_gi h101 a0 1 3 (fun x103 => fs_pw h101 a0 1 3 (.int (x103 + 1)) (fun h104 => (∃ j105 : Nat, j105 < 8 ∧ a102 = E.2 j105 ∧ (if (fs_lg j105) = 0 then ∃ c115 s116 : Nat, c115 ≤ mc ∧ s116 ≤ ms ∧ (fs_isc h104 a0 1 ∧ (w_LN_overRange c115 s116 E h104 a0 a102 (fs_ko (fun h117 => fs_isc h117 a0 1 ∧ (w_LN_closed E h117 a0 none (fs_ko (fun h119 => Post (.inl (some (.null))) h119) (fun a120 h119 => Post (.inl (some (.ref a120))) h119) (fun C_ h_ => Post (.inr C_) h_)))) (fun a118 h117 => fs_isc h117 a0 1 ∧ (w_LN_closed E h117 a0 (some a118) (fs_ko (fun h121 => Post (.inl (some (.null))) h121) (fun a122 h121 => Post (.inl (some (.ref a122))) h121) (fun C_ h_ => Post (.inr C_) h_)))) (fun C_ h_ => Post (.inr C_) h_)))) else ∃ c107 s108 : Nat, c107 ≤ mc ∧ s108 ≤ ms ∧ (fs_isc h104 a0 1 ∧ (w_LN_overLogics self c107 s108 E h104 a0 a102 (fs_ko (fun h109 => fs_isc h109 a0 1 ∧ (w_LN_closed E h109 a0 none (fs_ko (fun h111 => Post (.inl (some (.null))) h111) (fun a112 h111 => Post (.inl (some (.ref a112))) h111) (fun C_ h_ => Post (.inr C_) h_)))) (fun a110 h109 => fs_isc h109 a0 1 ∧ (w_LN_closed E h109 a0 (some a110) (fs_ko (fun h113 => Post (.inl (some (.null))) h113) (fun a114 h113 => Post (.inl (some (.ref a114))) h113) (fun C_ h_ => Post (.inr C_) h_)))) (fun C_ h_ => Post (.inr C_) h_))))))))) (fun C_ h_ => Post (.inr C_) h_)))
set_option maxHeartbeats 4000000 in
set_option maxRecDepth 100000 in
theorem kw_LN_call {l : Launch} {s00 : State} {E : fs_E} (hE : fs_SE l s00 E) {self : Nat → Nat → fs_E → fs_Hp → Nat → fs_Ps → Prop} {fn ln : Nat} (hself : ∀ {c9 s9 : Nat} {h9 : fs_Hp} {q0 : Nat} {P9 : fs_Ps}, self c9 s9 E h9 q0 P9 → fs_Ct l s00 E.1 y_LN_logic (.code y_LN_logic b_LN_logic 4 (some ((.object "FormulaSheet$Part")))) { frames := fn, cells := c9, slots := s9, locals := ln } [.ref q0] h9 P9) {mc ms : Nat} {h : fs_Hp} {a0 : Nat} {Post : fs_Ps} (hq : w_LN_call self mc ms E h a0 Post) : fs_Ct l s00 E.1 y_LN_call (.code y_LN_call b_LN_call 2 (some ((.object "FormulaSheet$Part")))) { frames := fn + 6, cells := mc, slots := ms, locals := ln + 84 } [.ref a0] h Post := by
  refine fs_Ct.ofR hE.1 (by decide) ?_
  intro p e R s m below meth c hRf hRl hRc hRs B hout hP
  skip
  obtain ⟨hx, hb, hr, hml, hown, hts, hlocks, hname, hK, hw, htr⟩ := id B
  have hown : s.vm.findClass "FormulaSheet$Line" = some m.cls := hown
  have hS := hw.S
  have hl := lv_entry ([.ref a0]) (n := 2) (Nat.le_of_ble_eq_true rfl)
  rw [lg_entry_eq]
  generalize (lg_sl ([.ref a0]) ++ List.replicate (2 - (lg_sl ([.ref a0])).length) Slot.unset).toArray = ls at hl ⊢
  have hl : lv_has ls 2 [(0, .ref a0)] := hl
  unfold w_LN_call at hq
  refine lv_aload_n hx hb d_LN_call_0 rfl (lv_at hl 0 rfl) ?_
  obtain ⟨hi_, hq⟩ := hq
  obtain ⟨fs_, he_⟩ := fs_isc_some hi_
  refine fs_cV B hl.1 hP hS (kw_LN_name hE hq) (fs_tb_at 729 tw_729 rfl) he_ rfl (fs_tb_at 731 tw_731 rfl) (fs_tb_at 31 tw_31 rfl) (fs_tb_at 89 tw_89 rfl) (fs_tb_at 732 tw_732 rfl) (by decide) (show (parseMethodDescriptor y_LN_name.desc).map (fun d => d.parameters.length) = some 0 by decide +kernel) rfl d_LN_call_1 (fs_rm (k := 0) (by omega) (by omega) (by omega) (by omega) rfl) (fun v_ h101 H locs hq hP hS => ?_) (fun C_ a_ h_ H locs hq hP hS hX => fs_out (hout _) hlocks hw hP hS hX (show 0 ≤ mc by omega) (show 0 ≤ ms by omega) hq)
  refine fs_cs (k := 0) (n := 0) rfl rfl ?_
  replace hq := fs_ko_some hq
  rcases hq with ⟨rfl, hq⟩ | ⟨a102, rfl, hq⟩
  · refine W.eq (g2 := F0 m 4 ls (.null :: [])) rfl ?_
    refine lv_astore_nN (lv' := [(1, .null), (0, .ref a0)]) hx hb d_LN_call_4 rfl hl (by decide) rfl (fun ls hl => ?_)
    refine lv_aload_nN hx hb d_LN_call_5 rfl (lv_at hl 0 rfl) ?_
    refine lv_ifnonnullN hx hb d_LN_call_6 ?_
    refine lv_null hx hb d_LN_call_9 ?_
    exact fs_aret hx hb hr (Or.inl ⟨_, rfl⟩) (Or.inl rfl) hlocks hw hP hS (by omega) (by omega) hq d_LN_call_10
  · refine W.eq (g2 := F0 m 4 ls (.ref a102 :: [])) rfl ?_
    refine lv_astore_n (lv' := [(1, .ref a102), (0, .ref a0)]) hx hb d_LN_call_4 rfl hl (by decide) rfl (fun ls hl => ?_)
    refine lv_aload_n hx hb d_LN_call_5 rfl (lv_at hl 0 rfl) ?_
    refine lv_ifnonnull (tgt := 11) hx hb d_LN_call_6 (by decide) ?_
    refine lv_aload_n hx hb d_LN_call_11 rfl (lv_at hl 1 rfl) ?_
    refine lv_dup hx hb d_LN_call_12 rfl ?_
    obtain ⟨fs_, x103, he_, hv_, hq⟩ := fs_gi_some hq
    refine fs_get hx hb hts hown hK c_LN hP he_ 3 (by decide) (hts _ (fs_tb_at 144 tw_144 rfl)) (fun _ h9 => h9) hv_ d_LN_call_13 ?_
    refine lv_iconst (v := 1) hx hb d_LN_call_16 (by decide) ?_
    refine lv_iadd hx hb d_LN_call_17 ?_
    obtain ⟨fs_, h104, e_, hl_, eh_, hq⟩ := fs_pw_some hq
    refine fs_put hx hb hts hown hK c_LN hP hS e_ 3 (by decide) (hts _ (fs_tb_at 144 tw_144 rfl)) (fun _ h9 => h9) rfl rfl rfl hl_ d_LN_call_18 (fun H locs hP hS => ?_)
    rw [← eh_] at hP
    refine lv_aload_n hx hb d_LN_call_21 rfl (lv_at hl 1 rfl) ?_
    refine lv_aload_n hx hb d_LN_call_22 rfl (lv_at hl 0 rfl) ?_
    obtain ⟨j105, hj_, ej_, hq⟩ := hq
    refine fs_xgetE ej_ hx hb (fs_open hE j105 hj_).2 hw hS hown (hts _ (fs_tb_at 1883 tw_1883 rfl)) d_LN_call_23 ?_
    refine lv_if_ne (tgt := 37) hx hb d_LN_call_26 (by decide) (fun c_106 => ?_) (fun c_106 => ?_)
    · have hq := fs_wifn c_106 hq
      refine lv_aload_n hx hb d_LN_call_37 rfl (lv_at hl 1 rfl) ?_
      refine lv_aload_n hx hb d_LN_call_38 rfl (lv_at hl 0 rfl) ?_
      obtain ⟨c107, s108, hc_, hs_, hq⟩ := hq
      obtain ⟨hi_, hq⟩ := hq
      obtain ⟨fs_, he_⟩ := fs_isc_some hi_
      refine fs_cV B hl.1 hP hS (kw_LN_overLogics hE hself hq) (fs_tb_at 808 tw_808 rfl) he_ rfl (fs_tb_at 810 tw_810 rfl) (fs_tb_at 34 tw_34 rfl) (fs_tb_at 89 tw_89 rfl) (fs_tb_at 811 tw_811 rfl) (by decide) (show (parseMethodDescriptor y_LN_overLogics.desc).map (fun d => d.parameters.length) = some 1 by decide +kernel) rfl d_LN_call_39 (fs_rm (k := 1) (by omega) (by omega) (by omega) (by omega) rfl) (fun v_ h109 H locs hq hP hS => ?_) (fun C_ a_ h_ H locs hq hP hS hX => fs_out (hout _) hlocks hw hP hS hX (show (0 + c107) ≤ mc by omega) (show (0 + s108) ≤ ms by omega) hq)
      refine fs_cs (k := (0 + c107)) (n := (0 + s108)) rfl rfl ?_
      replace hq := fs_ko_some hq
      rcases hq with ⟨rfl, hq⟩ | ⟨a110, rfl, hq⟩
      · refine W.eq (g2 := F0 m 42 ls (.null :: .ref a0 :: [])) rfl ?_
        obtain ⟨hi_, hq⟩ := hq
        obtain ⟨fs_, he_⟩ := fs_isc_some hi_
        refine fs_cV B hl.1 hP hS (kw_LN_closed hE hq) (fs_tb_at 721 tw_721 rfl) he_ rfl (fs_tb_at 723 tw_723 rfl) (fs_tb_at 29 tw_29 rfl) (fs_tb_at 89 tw_89 rfl) (fs_tb_at 724 tw_724 rfl) (by decide) (show (parseMethodDescriptor y_LN_closed.desc).map (fun d => d.parameters.length) = some 1 by decide +kernel) rfl d_LN_call_42 (fs_rm (k := 0) (by omega) (by omega) (by omega) (by omega) rfl) (fun v_ h111 H locs hq hP hS => ?_) (fun C_ a_ h_ H locs hq hP hS hX => fs_out (hout _) hlocks hw hP hS hX (show (0 + c107) ≤ mc by omega) (show (0 + s108) ≤ ms by omega) hq)
        refine fs_cs (k := (0 + c107)) (n := (0 + s108)) rfl rfl ?_
        replace hq := fs_ko_some hq
        rcases hq with ⟨rfl, hq⟩ | ⟨a112, rfl, hq⟩
        · refine W.eq (g2 := F0 m 45 ls (.null :: [])) rfl ?_
          exact fs_aret hx hb hr (Or.inl ⟨_, rfl⟩) (Or.inl rfl) hlocks hw hP hS (by omega) (by omega) hq d_LN_call_45
        · refine W.eq (g2 := F0 m 45 ls (.ref a112 :: [])) rfl ?_
          exact fs_aret hx hb hr (Or.inl ⟨_, rfl⟩) (Or.inr ⟨_, rfl⟩) hlocks hw hP hS (by omega) (by omega) hq d_LN_call_45
      · refine W.eq (g2 := F0 m 42 ls (.ref a110 :: .ref a0 :: [])) rfl ?_
        obtain ⟨hi_, hq⟩ := hq
        obtain ⟨fs_, he_⟩ := fs_isc_some hi_
        refine fs_cV B hl.1 hP hS (kw_LN_closed hE hq) (fs_tb_at 721 tw_721 rfl) he_ rfl (fs_tb_at 723 tw_723 rfl) (fs_tb_at 29 tw_29 rfl) (fs_tb_at 89 tw_89 rfl) (fs_tb_at 724 tw_724 rfl) (by decide) (show (parseMethodDescriptor y_LN_closed.desc).map (fun d => d.parameters.length) = some 1 by decide +kernel) rfl d_LN_call_42 (fs_rm (k := 0) (by omega) (by omega) (by omega) (by omega) rfl) (fun v_ h113 H locs hq hP hS => ?_) (fun C_ a_ h_ H locs hq hP hS hX => fs_out (hout _) hlocks hw hP hS hX (show (0 + c107) ≤ mc by omega) (show (0 + s108) ≤ ms by omega) hq)
        refine fs_cs (k := (0 + c107)) (n := (0 + s108)) rfl rfl ?_
        replace hq := fs_ko_some hq
        rcases hq with ⟨rfl, hq⟩ | ⟨a114, rfl, hq⟩
        · refine W.eq (g2 := F0 m 45 ls (.null :: [])) rfl ?_
          exact fs_aret hx hb hr (Or.inl ⟨_, rfl⟩) (Or.inl rfl) hlocks hw hP hS (by omega) (by omega) hq d_LN_call_45
        · refine W.eq (g2 := F0 m 45 ls (.ref a114 :: [])) rfl ?_
          exact fs_aret hx hb hr (Or.inl ⟨_, rfl⟩) (Or.inr ⟨_, rfl⟩) hlocks hw hP hS (by omega) (by omega) hq d_LN_call_45
    · have hq := fs_wifp c_106 hq
      refine lv_aload_n hx hb d_LN_call_29 rfl (lv_at hl 1 rfl) ?_
      refine lv_aload_n hx hb d_LN_call_30 rfl (lv_at hl 0 rfl) ?_
      obtain ⟨c115, s116, hc_, hs_, hq⟩ := hq
      obtain ⟨hi_, hq⟩ := hq
      obtain ⟨fs_, he_⟩ := fs_isc_some hi_
      refine fs_cV B hl.1 hP hS (kw_LN_overRange hE hq) (fs_tb_at 787 tw_787 rfl) he_ rfl (fs_tb_at 789 tw_789 rfl) (fs_tb_at 33 tw_33 rfl) (fs_tb_at 89 tw_89 rfl) (fs_tb_at 790 tw_790 rfl) (by decide) (show (parseMethodDescriptor y_LN_overRange.desc).map (fun d => d.parameters.length) = some 1 by decide +kernel) rfl d_LN_call_31 (fs_rm (k := 1) (by omega) (by omega) (by omega) (by omega) rfl) (fun v_ h117 H locs hq hP hS => ?_) (fun C_ a_ h_ H locs hq hP hS hX => fs_out (hout _) hlocks hw hP hS hX (show (0 + c115) ≤ mc by omega) (show (0 + s116) ≤ ms by omega) hq)
      refine fs_cs (k := (0 + c115)) (n := (0 + s116)) rfl rfl ?_
      replace hq := fs_ko_some hq
      rcases hq with ⟨rfl, hq⟩ | ⟨a118, rfl, hq⟩
      · refine W.eq (g2 := F0 m 34 ls (.null :: .ref a0 :: [])) rfl ?_
        refine lv_goto (tgt := 42) hx hb d_LN_call_34 (by decide) ?_
        obtain ⟨hi_, hq⟩ := hq
        obtain ⟨fs_, he_⟩ := fs_isc_some hi_
        refine fs_cV B hl.1 hP hS (kw_LN_closed hE hq) (fs_tb_at 721 tw_721 rfl) he_ rfl (fs_tb_at 723 tw_723 rfl) (fs_tb_at 29 tw_29 rfl) (fs_tb_at 89 tw_89 rfl) (fs_tb_at 724 tw_724 rfl) (by decide) (show (parseMethodDescriptor y_LN_closed.desc).map (fun d => d.parameters.length) = some 1 by decide +kernel) rfl d_LN_call_42 (fs_rm (k := 0) (by omega) (by omega) (by omega) (by omega) rfl) (fun v_ h119 H locs hq hP hS => ?_) (fun C_ a_ h_ H locs hq hP hS hX => fs_out (hout _) hlocks hw hP hS hX (show (0 + c115) ≤ mc by omega) (show (0 + s116) ≤ ms by omega) hq)
        refine fs_cs (k := (0 + c115)) (n := (0 + s116)) rfl rfl ?_
        replace hq := fs_ko_some hq
        rcases hq with ⟨rfl, hq⟩ | ⟨a120, rfl, hq⟩
        · refine W.eq (g2 := F0 m 45 ls (.null :: [])) rfl ?_
          exact fs_aret hx hb hr (Or.inl ⟨_, rfl⟩) (Or.inl rfl) hlocks hw hP hS (by omega) (by omega) hq d_LN_call_45
        · refine W.eq (g2 := F0 m 45 ls (.ref a120 :: [])) rfl ?_
          exact fs_aret hx hb hr (Or.inl ⟨_, rfl⟩) (Or.inr ⟨_, rfl⟩) hlocks hw hP hS (by omega) (by omega) hq d_LN_call_45
      · refine W.eq (g2 := F0 m 34 ls (.ref a118 :: .ref a0 :: [])) rfl ?_
        refine lv_goto (tgt := 42) hx hb d_LN_call_34 (by decide) ?_
        obtain ⟨hi_, hq⟩ := hq
        obtain ⟨fs_, he_⟩ := fs_isc_some hi_
        refine fs_cV B hl.1 hP hS (kw_LN_closed hE hq) (fs_tb_at 721 tw_721 rfl) he_ rfl (fs_tb_at 723 tw_723 rfl) (fs_tb_at 29 tw_29 rfl) (fs_tb_at 89 tw_89 rfl) (fs_tb_at 724 tw_724 rfl) (by decide) (show (parseMethodDescriptor y_LN_closed.desc).map (fun d => d.parameters.length) = some 1 by decide +kernel) rfl d_LN_call_42 (fs_rm (k := 0) (by omega) (by omega) (by omega) (by omega) rfl) (fun v_ h121 H locs hq hP hS => ?_) (fun C_ a_ h_ H locs hq hP hS hX => fs_out (hout _) hlocks hw hP hS hX (show (0 + c115) ≤ mc by omega) (show (0 + s116) ≤ ms by omega) hq)
        refine fs_cs (k := (0 + c115)) (n := (0 + s116)) rfl rfl ?_
        replace hq := fs_ko_some hq
        rcases hq with ⟨rfl, hq⟩ | ⟨a122, rfl, hq⟩
        · refine W.eq (g2 := F0 m 45 ls (.null :: [])) rfl ?_
          exact fs_aret hx hb hr (Or.inl ⟨_, rfl⟩) (Or.inl rfl) hlocks hw hP hS (by omega) (by omega) hq d_LN_call_45
        · refine W.eq (g2 := F0 m 45 ls (.ref a122 :: [])) rfl ?_
          exact fs_aret hx hb hr (Or.inl ⟨_, rfl⟩) (Or.inr ⟨_, rfl⟩) hlocks hw hP hS (by omega) (by omega) hq d_LN_call_45
def w_LN_part (self : Nat → Nat → fs_E → fs_Hp → Nat → fs_Ps → Prop) (mc ms : Nat) (E : fs_E) (h : fs_Hp) (a0 : Nat) (Post : fs_Ps) : Prop := fs_isc h a0 1 ∧ (w_LN_nextIsDigit E h a0 (fs_ki (fun x102 h101 => (if x102 = 0 then fs_isc h101 a0 1 ∧ (w_LN_next E h101 a0 (fs_ki (fun x105 h104 => (if x105 = 36 then ∃ c107 s108 : Nat, c107 ≤ mc ∧ s108 ≤ ms ∧ (fs_isc h104 a0 1 ∧ (w_LN_reference c107 s108 E h104 a0 (fs_ko (fun h109 => Post (.inl (some (.null))) h109) (fun a110 h109 => Post (.inl (some (.ref a110))) h109) (fun C_ h_ => Post (.inr C_) h_)))) else fs_isc h104 a0 1 ∧ (w_LN_nextIsColumn E h104 a0 (fs_ki (fun x112 h111 => (if x112 = 0 then fs_gi h111 a0 1 3 (fun x114 => (if x114 < 6 then fs_isc h111 a0 1 ∧ (w_LN_take E h111 a0 40 (fs_ki (fun x117 h116 => (if x117 = 0 then fs_isc h116 a0 1 ∧ (w_LN_take E h116 a0 64 (fs_ki (fun x120 h119 => (if x120 = 0 then Post (.inl (some (.null))) h119 else ∃ c122 s123 : Nat, c122 ≤ mc ∧ s123 ≤ ms ∧ (fs_isc h119 a0 1 ∧ (w_LN_call self c122 s123 E h119 a0 (fs_ko (fun h124 => Post (.inl (some (.null))) h124) (fun a125 h124 => Post (.inl (some (.ref a125))) h124) (fun C_ h_ => Post (.inr C_) h_)))))) (fun C_ h_ => Post (.inr C_) h_))) else fs_gi h116 a0 1 3 (fun x126 => fs_pw h116 a0 1 3 (.int (x126 + 1)) (fun h127 => ∃ c128 s129 : Nat, c128 ≤ mc ∧ s129 ≤ ms ∧ (fs_isc h127 a0 1 ∧ (self c128 s129 E h127 a0 (fs_ko (fun h130 => fs_isc h130 a0 1 ∧ (w_LN_closed E h130 a0 none (fs_ko (fun h132 => Post (.inl (some (.null))) h132) (fun a133 h132 => Post (.inl (some (.ref a133))) h132) (fun C_ h_ => Post (.inr C_) h_)))) (fun a131 h130 => fs_isc h130 a0 1 ∧ (w_LN_closed E h130 a0 (some a131) (fs_ko (fun h134 => Post (.inl (some (.null))) h134) (fun a135 h134 => Post (.inl (some (.ref a135))) h134) (fun C_ h_ => Post (.inr C_) h_)))) (fun C_ h_ => Post (.inr C_) h_)))))))) (fun C_ h_ => Post (.inr C_) h_))) else Post (.inl (some (.null))) h111)) else ∃ c136 s137 : Nat, c136 ≤ mc ∧ s137 ≤ ms ∧ (fs_isc h111 a0 1 ∧ (w_LN_reference c136 s137 E h111 a0 (fs_ko (fun h138 => Post (.inl (some (.null))) h138) (fun a139 h138 => Post (.inl (some (.ref a139))) h138) (fun C_ h_ => Post (.inr C_) h_)))))) (fun C_ h_ => Post (.inr C_) h_))))) (fun C_ h_ => Post (.inr C_) h_))) else ∃ c140 s141 : Nat, c140 ≤ mc ∧ s141 ≤ ms ∧ (fs_isc h101 a0 1 ∧ (w_LN_numeral c140 s141 E h101 a0 (fs_ko (fun h142 => Post (.inl (some (.null))) h142) (fun a143 h142 => Post (.inl (some (.ref a143))) h142) (fun C_ h_ => Post (.inr C_) h_)))))) (fun C_ h_ => Post (.inr C_) h_)))
set_option maxHeartbeats 4000000 in
set_option maxRecDepth 100000 in
theorem kw_LN_part {l : Launch} {s00 : State} {E : fs_E} (hE : fs_SE l s00 E) {self : Nat → Nat → fs_E → fs_Hp → Nat → fs_Ps → Prop} {fn ln : Nat} (hself : ∀ {c9 s9 : Nat} {h9 : fs_Hp} {q0 : Nat} {P9 : fs_Ps}, self c9 s9 E h9 q0 P9 → fs_Ct l s00 E.1 y_LN_logic (.code y_LN_logic b_LN_logic 4 (some ((.object "FormulaSheet$Part")))) { frames := fn, cells := c9, slots := s9, locals := ln } [.ref q0] h9 P9) {mc ms : Nat} {h : fs_Hp} {a0 : Nat} {Post : fs_Ps} (hq : w_LN_part self mc ms E h a0 Post) : fs_Ct l s00 E.1 y_LN_part (.code y_LN_part b_LN_part 1 (some ((.object "FormulaSheet$Part")))) { frames := fn + 7, cells := mc, slots := ms, locals := ln + 97 } [.ref a0] h Post := by
  refine fs_Ct.ofR hE.1 (by decide) ?_
  intro p e R s m below meth c hRf hRl hRc hRs B hout hP
  skip
  obtain ⟨hx, hb, hr, hml, hown, hts, hlocks, hname, hK, hw, htr⟩ := id B
  have hown : s.vm.findClass "FormulaSheet$Line" = some m.cls := hown
  have hS := hw.S
  have hl := lv_entry ([.ref a0]) (n := 1) (Nat.le_of_ble_eq_true rfl)
  rw [lg_entry_eq]
  generalize (lg_sl ([.ref a0]) ++ List.replicate (1 - (lg_sl ([.ref a0])).length) Slot.unset).toArray = ls at hl ⊢
  have hl : lv_has ls 1 [(0, .ref a0)] := hl
  unfold w_LN_part at hq
  refine lv_aload_n hx hb d_LN_part_0 rfl (lv_at hl 0 rfl) ?_
  obtain ⟨hi_, hq⟩ := hq
  obtain ⟨fs_, he_⟩ := fs_isc_some hi_
  refine fs_cV B hl.1 hP hS (kw_LN_nextIsDigit hE hq) (fs_tb_at 645 tw_645 rfl) he_ rfl (fs_tb_at 647 tw_647 rfl) (fs_tb_at 23 tw_23 rfl) (fs_tb_at 89 tw_89 rfl) (fs_tb_at 648 tw_648 rfl) (by decide) (show (parseMethodDescriptor y_LN_nextIsDigit.desc).map (fun d => d.parameters.length) = some 0 by decide +kernel) rfl d_LN_part_1 (fs_rm (k := 0) (by omega) (by omega) (by omega) (by omega) rfl) (fun v_ h101 H locs hq hP hS => ?_) (fun C_ a_ h_ H locs hq hP hS hX => fs_out (hout _) hlocks hw hP hS hX (show 0 ≤ mc by omega) (show 0 ≤ ms by omega) hq)
  refine fs_cs (k := 0) (n := 0) rfl rfl ?_
  replace hq := fs_ki_some hq
  obtain ⟨x102, rfl, hq⟩ := hq
  refine W.eq (g2 := F0 m 4 ls (.int x102 :: [])) rfl ?_
  refine lv_if_eq (tgt := 12) hx hb d_LN_part_4 (by decide) (fun c_103 => ?_) (fun c_103 => ?_)
  · have hq := fs_wifp c_103 hq
    refine lv_aload_n hx hb d_LN_part_12 rfl (lv_at hl 0 rfl) ?_
    obtain ⟨hi_, hq⟩ := hq
    obtain ⟨fs_, he_⟩ := fs_isc_some hi_
    refine fs_cV B hl.1 hP hS (kw_LN_next hE hq) (fs_tb_at 625 tw_625 rfl) he_ rfl (fs_tb_at 627 tw_627 rfl) (fs_tb_at 18 tw_18 rfl) (fs_tb_at 89 tw_89 rfl) (fs_tb_at 628 tw_628 rfl) (by decide) (show (parseMethodDescriptor y_LN_next.desc).map (fun d => d.parameters.length) = some 0 by decide +kernel) rfl d_LN_part_13 (fs_rm (k := 0) (by omega) (by omega) (by omega) (by omega) rfl) (fun v_ h104 H locs hq hP hS => ?_) (fun C_ a_ h_ H locs hq hP hS hX => fs_out (hout _) hlocks hw hP hS hX (show 0 ≤ mc by omega) (show 0 ≤ ms by omega) hq)
    refine fs_cs (k := 0) (n := 0) rfl rfl ?_
    replace hq := fs_ki_some hq
    obtain ⟨x105, rfl, hq⟩ := hq
    refine W.eq (g2 := F0 m 16 ls (.int x105 :: [])) rfl ?_
    refine lv_bipush (v := 36) hx hb d_LN_part_16 (by decide) ?_
    refine lv_icmp_eq (tgt := 28) hx hb d_LN_part_18 (by decide) (fun c_106 => ?_) (fun c_106 => ?_)
    · have hq := fs_wifp c_106 hq
      refine lv_aload_n hx hb d_LN_part_28 rfl (lv_at hl 0 rfl) ?_
      obtain ⟨c107, s108, hc_, hs_, hq⟩ := hq
      obtain ⟨hi_, hq⟩ := hq
      obtain ⟨fs_, he_⟩ := fs_isc_some hi_
      refine fs_cV B hl.1 hP hS (kw_LN_reference hE hq) (fs_tb_at 691 tw_691 rfl) he_ rfl (fs_tb_at 693 tw_693 rfl) (fs_tb_at 28 tw_28 rfl) (fs_tb_at 89 tw_89 rfl) (fs_tb_at 694 tw_694 rfl) (by decide) (show (parseMethodDescriptor y_LN_reference.desc).map (fun d => d.parameters.length) = some 0 by decide +kernel) rfl d_LN_part_29 (fs_rm (k := 0) (by omega) (by omega) (by omega) (by omega) rfl) (fun v_ h109 H locs hq hP hS => ?_) (fun C_ a_ h_ H locs hq hP hS hX => fs_out (hout _) hlocks hw hP hS hX (show (0 + c107) ≤ mc by omega) (show (0 + s108) ≤ ms by omega) hq)
      refine fs_cs (k := (0 + c107)) (n := (0 + s108)) rfl rfl ?_
      replace hq := fs_ko_some hq
      rcases hq with ⟨rfl, hq⟩ | ⟨a110, rfl, hq⟩
      · refine W.eq (g2 := F0 m 32 ls (.null :: [])) rfl ?_
        exact fs_aret hx hb hr (Or.inl ⟨_, rfl⟩) (Or.inl rfl) hlocks hw hP hS (by omega) (by omega) hq d_LN_part_32
      · refine W.eq (g2 := F0 m 32 ls (.ref a110 :: [])) rfl ?_
        exact fs_aret hx hb hr (Or.inl ⟨_, rfl⟩) (Or.inr ⟨_, rfl⟩) hlocks hw hP hS (by omega) (by omega) hq d_LN_part_32
    · have hq := fs_wifn c_106 hq
      refine lv_aload_n hx hb d_LN_part_21 rfl (lv_at hl 0 rfl) ?_
      obtain ⟨hi_, hq⟩ := hq
      obtain ⟨fs_, he_⟩ := fs_isc_some hi_
      refine fs_cV B hl.1 hP hS (kw_LN_nextIsColumn hE hq) (fs_tb_at 687 tw_687 rfl) he_ rfl (fs_tb_at 689 tw_689 rfl) (fs_tb_at 27 tw_27 rfl) (fs_tb_at 89 tw_89 rfl) (fs_tb_at 690 tw_690 rfl) (by decide) (show (parseMethodDescriptor y_LN_nextIsColumn.desc).map (fun d => d.parameters.length) = some 0 by decide +kernel) rfl d_LN_part_22 (fs_rm (k := 0) (by omega) (by omega) (by omega) (by omega) rfl) (fun v_ h111 H locs hq hP hS => ?_) (fun C_ a_ h_ H locs hq hP hS hX => fs_out (hout _) hlocks hw hP hS hX (show 0 ≤ mc by omega) (show 0 ≤ ms by omega) hq)
      refine fs_cs (k := 0) (n := 0) rfl rfl ?_
      replace hq := fs_ki_some hq
      obtain ⟨x112, rfl, hq⟩ := hq
      refine W.eq (g2 := F0 m 25 ls (.int x112 :: [])) rfl ?_
      refine lv_if_eq (tgt := 33) hx hb d_LN_part_25 (by decide) (fun c_113 => ?_) (fun c_113 => ?_)
      · have hq := fs_wifp c_113 hq
        refine lv_aload_n hx hb d_LN_part_33 rfl (lv_at hl 0 rfl) ?_
        obtain ⟨fs_, x114, he_, hv_, hq⟩ := fs_gi_some hq
        refine fs_get hx hb hts hown hK c_LN hP he_ 3 (by decide) (hts _ (fs_tb_at 144 tw_144 rfl)) (fun _ h9 => h9) hv_ d_LN_part_34 ?_
        refine lv_bipush (v := 6) hx hb d_LN_part_37 (by decide) ?_
        refine lv_icmp_lt (tgt := 44) hx hb d_LN_part_39 (by decide) (fun c_115 => ?_) (fun c_115 => ?_)
        · have hq := fs_wifp c_115 hq
          refine lv_aload_n hx hb d_LN_part_44 rfl (lv_at hl 0 rfl) ?_
          refine lv_bipush (v := 40) hx hb d_LN_part_45 (by decide) ?_
          obtain ⟨hi_, hq⟩ := hq
          obtain ⟨fs_, he_⟩ := fs_isc_some hi_
          refine fs_cV B hl.1 hP hS (kw_LN_take hE hq) (fs_tb_at 621 tw_621 rfl) he_ rfl (fs_tb_at 623 tw_623 rfl) (fs_tb_at 17 tw_17 rfl) (fs_tb_at 89 tw_89 rfl) (fs_tb_at 624 tw_624 rfl) (by decide) (show (parseMethodDescriptor y_LN_take.desc).map (fun d => d.parameters.length) = some 1 by decide +kernel) rfl d_LN_part_47 (fs_rm (k := 0) (by omega) (by omega) (by omega) (by omega) rfl) (fun v_ h116 H locs hq hP hS => ?_) (fun C_ a_ h_ H locs hq hP hS hX => fs_out (hout _) hlocks hw hP hS hX (show 0 ≤ mc by omega) (show 0 ≤ ms by omega) hq)
          refine fs_cs (k := 0) (n := 0) rfl rfl ?_
          replace hq := fs_ki_some hq
          obtain ⟨x117, rfl, hq⟩ := hq
          refine W.eq (g2 := F0 m 50 ls (.int x117 :: [])) rfl ?_
          refine lv_if_eq (tgt := 72) hx hb d_LN_part_50 (by decide) (fun c_118 => ?_) (fun c_118 => ?_)
          · have hq := fs_wifp c_118 hq
            refine lv_aload_n hx hb d_LN_part_72 rfl (lv_at hl 0 rfl) ?_
            refine lv_bipush (v := 64) hx hb d_LN_part_73 (by decide) ?_
            obtain ⟨hi_, hq⟩ := hq
            obtain ⟨fs_, he_⟩ := fs_isc_some hi_
            refine fs_cV B hl.1 hP hS (kw_LN_take hE hq) (fs_tb_at 621 tw_621 rfl) he_ rfl (fs_tb_at 623 tw_623 rfl) (fs_tb_at 17 tw_17 rfl) (fs_tb_at 89 tw_89 rfl) (fs_tb_at 624 tw_624 rfl) (by decide) (show (parseMethodDescriptor y_LN_take.desc).map (fun d => d.parameters.length) = some 1 by decide +kernel) rfl d_LN_part_75 (fs_rm (k := 0) (by omega) (by omega) (by omega) (by omega) rfl) (fun v_ h119 H locs hq hP hS => ?_) (fun C_ a_ h_ H locs hq hP hS hX => fs_out (hout _) hlocks hw hP hS hX (show 0 ≤ mc by omega) (show 0 ≤ ms by omega) hq)
            refine fs_cs (k := 0) (n := 0) rfl rfl ?_
            replace hq := fs_ki_some hq
            obtain ⟨x120, rfl, hq⟩ := hq
            refine W.eq (g2 := F0 m 78 ls (.int x120 :: [])) rfl ?_
            refine lv_if_eq (tgt := 88) hx hb d_LN_part_78 (by decide) (fun c_121 => ?_) (fun c_121 => ?_)
            · have hq := fs_wifp c_121 hq
              refine lv_null hx hb d_LN_part_88 ?_
              exact fs_aret hx hb hr (Or.inl ⟨_, rfl⟩) (Or.inl rfl) hlocks hw hP hS (by omega) (by omega) hq d_LN_part_89
            · have hq := fs_wifn c_121 hq
              refine lv_aload_n hx hb d_LN_part_81 rfl (lv_at hl 0 rfl) ?_
              obtain ⟨c122, s123, hc_, hs_, hq⟩ := hq
              obtain ⟨hi_, hq⟩ := hq
              obtain ⟨fs_, he_⟩ := fs_isc_some hi_
              refine fs_cV B hl.1 hP hS (kw_LN_call hE hself hq) (fs_tb_at 725 tw_725 rfl) he_ rfl (fs_tb_at 727 tw_727 rfl) (fs_tb_at 30 tw_30 rfl) (fs_tb_at 89 tw_89 rfl) (fs_tb_at 728 tw_728 rfl) (by decide) (show (parseMethodDescriptor y_LN_call.desc).map (fun d => d.parameters.length) = some 0 by decide +kernel) rfl d_LN_part_82 (fs_rm (k := 0) (by omega) (by omega) (by omega) (by omega) rfl) (fun v_ h124 H locs hq hP hS => ?_) (fun C_ a_ h_ H locs hq hP hS hX => fs_out (hout _) hlocks hw hP hS hX (show (0 + c122) ≤ mc by omega) (show (0 + s123) ≤ ms by omega) hq)
              refine fs_cs (k := (0 + c122)) (n := (0 + s123)) rfl rfl ?_
              replace hq := fs_ko_some hq
              rcases hq with ⟨rfl, hq⟩ | ⟨a125, rfl, hq⟩
              · refine W.eq (g2 := F0 m 85 ls (.null :: [])) rfl ?_
                refine lv_goto (tgt := 89) hx hb d_LN_part_85 (by decide) ?_
                exact fs_aret hx hb hr (Or.inl ⟨_, rfl⟩) (Or.inl rfl) hlocks hw hP hS (by omega) (by omega) hq d_LN_part_89
              · refine W.eq (g2 := F0 m 85 ls (.ref a125 :: [])) rfl ?_
                refine lv_goto (tgt := 89) hx hb d_LN_part_85 (by decide) ?_
                exact fs_aret hx hb hr (Or.inl ⟨_, rfl⟩) (Or.inr ⟨_, rfl⟩) hlocks hw hP hS (by omega) (by omega) hq d_LN_part_89
          · have hq := fs_wifn c_118 hq
            refine lv_aload_n hx hb d_LN_part_53 rfl (lv_at hl 0 rfl) ?_
            refine lv_dup hx hb d_LN_part_54 rfl ?_
            obtain ⟨fs_, x126, he_, hv_, hq⟩ := fs_gi_some hq
            refine fs_get hx hb hts hown hK c_LN hP he_ 3 (by decide) (hts _ (fs_tb_at 144 tw_144 rfl)) (fun _ h9 => h9) hv_ d_LN_part_55 ?_
            refine lv_iconst (v := 1) hx hb d_LN_part_58 (by decide) ?_
            refine lv_iadd hx hb d_LN_part_59 ?_
            obtain ⟨fs_, h127, e_, hl_, eh_, hq⟩ := fs_pw_some hq
            refine fs_put hx hb hts hown hK c_LN hP hS e_ 3 (by decide) (hts _ (fs_tb_at 144 tw_144 rfl)) (fun _ h9 => h9) rfl rfl rfl hl_ d_LN_part_60 (fun H locs hP hS => ?_)
            rw [← eh_] at hP
            refine lv_aload_n hx hb d_LN_part_63 rfl (lv_at hl 0 rfl) ?_
            refine lv_aload_n hx hb d_LN_part_64 rfl (lv_at hl 0 rfl) ?_
            obtain ⟨c128, s129, hc_, hs_, hq⟩ := hq
            obtain ⟨hi_, hq⟩ := hq
            obtain ⟨fs_, he_⟩ := fs_isc_some hi_
            refine fs_cV B hl.1 hP hS (hself hq) (fs_tb_at 613 tw_613 rfl) he_ rfl (fs_tb_at 615 tw_615 rfl) (fs_tb_at 15 tw_15 rfl) (fs_tb_at 89 tw_89 rfl) (fs_tb_at 616 tw_616 rfl) (by decide) (show (parseMethodDescriptor y_LN_logic.desc).map (fun d => d.parameters.length) = some 0 by decide +kernel) rfl d_LN_part_65 (fs_rm (k := 1) (by omega) (by omega) (by omega) (by omega) rfl) (fun v_ h130 H locs hq hP hS => ?_) (fun C_ a_ h_ H locs hq hP hS hX => fs_out (hout _) hlocks hw hP hS hX (show (0 + c128) ≤ mc by omega) (show (0 + s129) ≤ ms by omega) hq)
            refine fs_cs (k := (0 + c128)) (n := (0 + s129)) rfl rfl ?_
            replace hq := fs_ko_some hq
            rcases hq with ⟨rfl, hq⟩ | ⟨a131, rfl, hq⟩
            · refine W.eq (g2 := F0 m 68 ls (.null :: .ref a0 :: [])) rfl ?_
              obtain ⟨hi_, hq⟩ := hq
              obtain ⟨fs_, he_⟩ := fs_isc_some hi_
              refine fs_cV B hl.1 hP hS (kw_LN_closed hE hq) (fs_tb_at 721 tw_721 rfl) he_ rfl (fs_tb_at 723 tw_723 rfl) (fs_tb_at 29 tw_29 rfl) (fs_tb_at 89 tw_89 rfl) (fs_tb_at 724 tw_724 rfl) (by decide) (show (parseMethodDescriptor y_LN_closed.desc).map (fun d => d.parameters.length) = some 1 by decide +kernel) rfl d_LN_part_68 (fs_rm (k := 0) (by omega) (by omega) (by omega) (by omega) rfl) (fun v_ h132 H locs hq hP hS => ?_) (fun C_ a_ h_ H locs hq hP hS hX => fs_out (hout _) hlocks hw hP hS hX (show (0 + c128) ≤ mc by omega) (show (0 + s129) ≤ ms by omega) hq)
              refine fs_cs (k := (0 + c128)) (n := (0 + s129)) rfl rfl ?_
              replace hq := fs_ko_some hq
              rcases hq with ⟨rfl, hq⟩ | ⟨a133, rfl, hq⟩
              · refine W.eq (g2 := F0 m 71 ls (.null :: [])) rfl ?_
                exact fs_aret hx hb hr (Or.inl ⟨_, rfl⟩) (Or.inl rfl) hlocks hw hP hS (by omega) (by omega) hq d_LN_part_71
              · refine W.eq (g2 := F0 m 71 ls (.ref a133 :: [])) rfl ?_
                exact fs_aret hx hb hr (Or.inl ⟨_, rfl⟩) (Or.inr ⟨_, rfl⟩) hlocks hw hP hS (by omega) (by omega) hq d_LN_part_71
            · refine W.eq (g2 := F0 m 68 ls (.ref a131 :: .ref a0 :: [])) rfl ?_
              obtain ⟨hi_, hq⟩ := hq
              obtain ⟨fs_, he_⟩ := fs_isc_some hi_
              refine fs_cV B hl.1 hP hS (kw_LN_closed hE hq) (fs_tb_at 721 tw_721 rfl) he_ rfl (fs_tb_at 723 tw_723 rfl) (fs_tb_at 29 tw_29 rfl) (fs_tb_at 89 tw_89 rfl) (fs_tb_at 724 tw_724 rfl) (by decide) (show (parseMethodDescriptor y_LN_closed.desc).map (fun d => d.parameters.length) = some 1 by decide +kernel) rfl d_LN_part_68 (fs_rm (k := 0) (by omega) (by omega) (by omega) (by omega) rfl) (fun v_ h134 H locs hq hP hS => ?_) (fun C_ a_ h_ H locs hq hP hS hX => fs_out (hout _) hlocks hw hP hS hX (show (0 + c128) ≤ mc by omega) (show (0 + s129) ≤ ms by omega) hq)
              refine fs_cs (k := (0 + c128)) (n := (0 + s129)) rfl rfl ?_
              replace hq := fs_ko_some hq
              rcases hq with ⟨rfl, hq⟩ | ⟨a135, rfl, hq⟩
              · refine W.eq (g2 := F0 m 71 ls (.null :: [])) rfl ?_
                exact fs_aret hx hb hr (Or.inl ⟨_, rfl⟩) (Or.inl rfl) hlocks hw hP hS (by omega) (by omega) hq d_LN_part_71
              · refine W.eq (g2 := F0 m 71 ls (.ref a135 :: [])) rfl ?_
                exact fs_aret hx hb hr (Or.inl ⟨_, rfl⟩) (Or.inr ⟨_, rfl⟩) hlocks hw hP hS (by omega) (by omega) hq d_LN_part_71
        · have hq := fs_wifn c_115 hq
          refine lv_null hx hb d_LN_part_42 ?_
          exact fs_aret hx hb hr (Or.inl ⟨_, rfl⟩) (Or.inl rfl) hlocks hw hP hS (by omega) (by omega) hq d_LN_part_43
      · have hq := fs_wifn c_113 hq
        refine lv_aload_n hx hb d_LN_part_28 rfl (lv_at hl 0 rfl) ?_
        obtain ⟨c136, s137, hc_, hs_, hq⟩ := hq
        obtain ⟨hi_, hq⟩ := hq
        obtain ⟨fs_, he_⟩ := fs_isc_some hi_
        refine fs_cV B hl.1 hP hS (kw_LN_reference hE hq) (fs_tb_at 691 tw_691 rfl) he_ rfl (fs_tb_at 693 tw_693 rfl) (fs_tb_at 28 tw_28 rfl) (fs_tb_at 89 tw_89 rfl) (fs_tb_at 694 tw_694 rfl) (by decide) (show (parseMethodDescriptor y_LN_reference.desc).map (fun d => d.parameters.length) = some 0 by decide +kernel) rfl d_LN_part_29 (fs_rm (k := 0) (by omega) (by omega) (by omega) (by omega) rfl) (fun v_ h138 H locs hq hP hS => ?_) (fun C_ a_ h_ H locs hq hP hS hX => fs_out (hout _) hlocks hw hP hS hX (show (0 + c136) ≤ mc by omega) (show (0 + s137) ≤ ms by omega) hq)
        refine fs_cs (k := (0 + c136)) (n := (0 + s137)) rfl rfl ?_
        replace hq := fs_ko_some hq
        rcases hq with ⟨rfl, hq⟩ | ⟨a139, rfl, hq⟩
        · refine W.eq (g2 := F0 m 32 ls (.null :: [])) rfl ?_
          exact fs_aret hx hb hr (Or.inl ⟨_, rfl⟩) (Or.inl rfl) hlocks hw hP hS (by omega) (by omega) hq d_LN_part_32
        · refine W.eq (g2 := F0 m 32 ls (.ref a139 :: [])) rfl ?_
          exact fs_aret hx hb hr (Or.inl ⟨_, rfl⟩) (Or.inr ⟨_, rfl⟩) hlocks hw hP hS (by omega) (by omega) hq d_LN_part_32
  · have hq := fs_wifn c_103 hq
    refine lv_aload_n hx hb d_LN_part_7 rfl (lv_at hl 0 rfl) ?_
    obtain ⟨c140, s141, hc_, hs_, hq⟩ := hq
    obtain ⟨hi_, hq⟩ := hq
    obtain ⟨fs_, he_⟩ := fs_isc_some hi_
    refine fs_cV B hl.1 hP hS (kw_LN_numeral hE hq) (fs_tb_at 649 tw_649 rfl) he_ rfl (fs_tb_at 651 tw_651 rfl) (fs_tb_at 24 tw_24 rfl) (fs_tb_at 89 tw_89 rfl) (fs_tb_at 652 tw_652 rfl) (by decide) (show (parseMethodDescriptor y_LN_numeral.desc).map (fun d => d.parameters.length) = some 0 by decide +kernel) rfl d_LN_part_8 (fs_rm (k := 0) (by omega) (by omega) (by omega) (by omega) rfl) (fun v_ h142 H locs hq hP hS => ?_) (fun C_ a_ h_ H locs hq hP hS hX => fs_out (hout _) hlocks hw hP hS hX (show (0 + c140) ≤ mc by omega) (show (0 + s141) ≤ ms by omega) hq)
    refine fs_cs (k := (0 + c140)) (n := (0 + s141)) rfl rfl ?_
    replace hq := fs_ko_some hq
    rcases hq with ⟨rfl, hq⟩ | ⟨a143, rfl, hq⟩
    · refine W.eq (g2 := F0 m 11 ls (.null :: [])) rfl ?_
      exact fs_aret hx hb hr (Or.inl ⟨_, rfl⟩) (Or.inl rfl) hlocks hw hP hS (by omega) (by omega) hq d_LN_part_11
    · refine W.eq (g2 := F0 m 11 ls (.ref a143 :: [])) rfl ?_
      exact fs_aret hx hb hr (Or.inl ⟨_, rfl⟩) (Or.inr ⟨_, rfl⟩) hlocks hw hP hS (by omega) (by omega) hq d_LN_part_11
def w_LN_signed (self : Nat → Nat → fs_E → fs_Hp → Nat → fs_Ps → Prop) (mc ms : Nat) (E : fs_E) (h : fs_Hp) (a0 : Nat) (Post : fs_Ps) : Prop := fs_isc h a0 1 ∧ (w_LN_take E h a0 45 (fs_ki (fun x102 h101 => (if x102 = 0 then ∃ c104 s105 : Nat, c104 ≤ mc ∧ s105 ≤ ms ∧ (fs_isc h101 a0 1 ∧ (w_LN_part self c104 s105 E h101 a0 (fs_ko (fun h106 => Post (.inl (some (.null))) h106) (fun a107 h106 => Post (.inl (some (.ref a107))) h106) (fun C_ h_ => Post (.inr C_) h_)))) else ∃ c108 s109 : Nat, c108 ≤ mc ∧ s109 ≤ ms ∧ (fs_isc h101 a0 1 ∧ (w_LN_part self c108 s109 E h101 a0 (fs_ko (fun h110 => ∃ c112 s113 : Nat, c112 ≤ (mc - c108) ∧ s113 ≤ (ms - s109) ∧ (w_LN_single c112 s113 E h110 45 none (fs_ko (fun h114 => Post (.inl (some (.null))) h114) (fun a115 h114 => Post (.inl (some (.ref a115))) h114) (fun C_ h_ => Post (.inr C_) h_)))) (fun a111 h110 => ∃ c116 s117 : Nat, c116 ≤ (mc - c108) ∧ s117 ≤ (ms - s109) ∧ (w_LN_single c116 s117 E h110 45 (some a111) (fs_ko (fun h118 => Post (.inl (some (.null))) h118) (fun a119 h118 => Post (.inl (some (.ref a119))) h118) (fun C_ h_ => Post (.inr C_) h_)))) (fun C_ h_ => Post (.inr C_) h_)))))) (fun C_ h_ => Post (.inr C_) h_)))
set_option maxHeartbeats 4000000 in
set_option maxRecDepth 100000 in
theorem kw_LN_signed {l : Launch} {s00 : State} {E : fs_E} (hE : fs_SE l s00 E) {self : Nat → Nat → fs_E → fs_Hp → Nat → fs_Ps → Prop} {fn ln : Nat} (hself : ∀ {c9 s9 : Nat} {h9 : fs_Hp} {q0 : Nat} {P9 : fs_Ps}, self c9 s9 E h9 q0 P9 → fs_Ct l s00 E.1 y_LN_logic (.code y_LN_logic b_LN_logic 4 (some ((.object "FormulaSheet$Part")))) { frames := fn, cells := c9, slots := s9, locals := ln } [.ref q0] h9 P9) {mc ms : Nat} {h : fs_Hp} {a0 : Nat} {Post : fs_Ps} (hq : w_LN_signed self mc ms E h a0 Post) : fs_Ct l s00 E.1 y_LN_signed (.code y_LN_signed b_LN_signed 1 (some ((.object "FormulaSheet$Part")))) { frames := fn + 8, cells := mc, slots := ms, locals := ln + 110 } [.ref a0] h Post := by
  refine fs_Ct.ofR hE.1 (by decide) ?_
  intro p e R s m below meth c hRf hRl hRc hRs B hout hP
  skip
  obtain ⟨hx, hb, hr, hml, hown, hts, hlocks, hname, hK, hw, htr⟩ := id B
  have hown : s.vm.findClass "FormulaSheet$Line" = some m.cls := hown
  have hS := hw.S
  have hl := lv_entry ([.ref a0]) (n := 1) (Nat.le_of_ble_eq_true rfl)
  rw [lg_entry_eq]
  generalize (lg_sl ([.ref a0]) ++ List.replicate (1 - (lg_sl ([.ref a0])).length) Slot.unset).toArray = ls at hl ⊢
  have hl : lv_has ls 1 [(0, .ref a0)] := hl
  unfold w_LN_signed at hq
  refine lv_aload_n hx hb d_LN_signed_0 rfl (lv_at hl 0 rfl) ?_
  refine lv_bipush (v := 45) hx hb d_LN_signed_1 (by decide) ?_
  obtain ⟨hi_, hq⟩ := hq
  obtain ⟨fs_, he_⟩ := fs_isc_some hi_
  refine fs_cV B hl.1 hP hS (kw_LN_take hE hq) (fs_tb_at 621 tw_621 rfl) he_ rfl (fs_tb_at 623 tw_623 rfl) (fs_tb_at 17 tw_17 rfl) (fs_tb_at 89 tw_89 rfl) (fs_tb_at 624 tw_624 rfl) (by decide) (show (parseMethodDescriptor y_LN_take.desc).map (fun d => d.parameters.length) = some 1 by decide +kernel) rfl d_LN_signed_3 (fs_rm (k := 0) (by omega) (by omega) (by omega) (by omega) rfl) (fun v_ h101 H locs hq hP hS => ?_) (fun C_ a_ h_ H locs hq hP hS hX => fs_out (hout _) hlocks hw hP hS hX (show 0 ≤ mc by omega) (show 0 ≤ ms by omega) hq)
  refine fs_cs (k := 0) (n := 0) rfl rfl ?_
  replace hq := fs_ki_some hq
  obtain ⟨x102, rfl, hq⟩ := hq
  refine W.eq (g2 := F0 m 6 ls (.int x102 :: [])) rfl ?_
  refine lv_if_eq (tgt := 21) hx hb d_LN_signed_6 (by decide) (fun c_103 => ?_) (fun c_103 => ?_)
  · have hq := fs_wifp c_103 hq
    refine lv_aload_n hx hb d_LN_signed_21 rfl (lv_at hl 0 rfl) ?_
    obtain ⟨c104, s105, hc_, hs_, hq⟩ := hq
    obtain ⟨hi_, hq⟩ := hq
    obtain ⟨fs_, he_⟩ := fs_isc_some hi_
    refine fs_cV B hl.1 hP hS (kw_LN_part hE hself hq) (fs_tb_at 641 tw_641 rfl) he_ rfl (fs_tb_at 643 tw_643 rfl) (fs_tb_at 22 tw_22 rfl) (fs_tb_at 89 tw_89 rfl) (fs_tb_at 644 tw_644 rfl) (by decide) (show (parseMethodDescriptor y_LN_part.desc).map (fun d => d.parameters.length) = some 0 by decide +kernel) rfl d_LN_signed_22 (fs_rm (k := 0) (by omega) (by omega) (by omega) (by omega) rfl) (fun v_ h106 H locs hq hP hS => ?_) (fun C_ a_ h_ H locs hq hP hS hX => fs_out (hout _) hlocks hw hP hS hX (show (0 + c104) ≤ mc by omega) (show (0 + s105) ≤ ms by omega) hq)
    refine fs_cs (k := (0 + c104)) (n := (0 + s105)) rfl rfl ?_
    replace hq := fs_ko_some hq
    rcases hq with ⟨rfl, hq⟩ | ⟨a107, rfl, hq⟩
    · refine W.eq (g2 := F0 m 25 ls (.null :: [])) rfl ?_
      exact fs_aret hx hb hr (Or.inl ⟨_, rfl⟩) (Or.inl rfl) hlocks hw hP hS (by omega) (by omega) hq d_LN_signed_25
    · refine W.eq (g2 := F0 m 25 ls (.ref a107 :: [])) rfl ?_
      exact fs_aret hx hb hr (Or.inl ⟨_, rfl⟩) (Or.inr ⟨_, rfl⟩) hlocks hw hP hS (by omega) (by omega) hq d_LN_signed_25
  · have hq := fs_wifn c_103 hq
    refine lv_bipush (v := 45) hx hb d_LN_signed_9 (by decide) ?_
    refine lv_aload_n hx hb d_LN_signed_11 rfl (lv_at hl 0 rfl) ?_
    obtain ⟨c108, s109, hc_, hs_, hq⟩ := hq
    obtain ⟨hi_, hq⟩ := hq
    obtain ⟨fs_, he_⟩ := fs_isc_some hi_
    refine fs_cV B hl.1 hP hS (kw_LN_part hE hself hq) (fs_tb_at 641 tw_641 rfl) he_ rfl (fs_tb_at 643 tw_643 rfl) (fs_tb_at 22 tw_22 rfl) (fs_tb_at 89 tw_89 rfl) (fs_tb_at 644 tw_644 rfl) (by decide) (show (parseMethodDescriptor y_LN_part.desc).map (fun d => d.parameters.length) = some 0 by decide +kernel) rfl d_LN_signed_12 (fs_rm (k := 1) (by omega) (by omega) (by omega) (by omega) rfl) (fun v_ h110 H locs hq hP hS => ?_) (fun C_ a_ h_ H locs hq hP hS hX => fs_out (hout _) hlocks hw hP hS hX (show (0 + c108) ≤ mc by omega) (show (0 + s109) ≤ ms by omega) hq)
    refine fs_cs (k := (0 + c108)) (n := (0 + s109)) rfl rfl ?_
    replace hq := fs_ko_some hq
    rcases hq with ⟨rfl, hq⟩ | ⟨a111, rfl, hq⟩
    · refine W.eq (g2 := F0 m 15 ls (.null :: .int 45 :: [])) rfl ?_
      obtain ⟨c112, s113, hc_, hs_, hq⟩ := hq
      refine fs_cS B hl.1 hP hS (kw_LN_single hE hq) (fs_tb_at 824 tw_824 rfl) (fs_tb_at 825 tw_825 rfl) (fs_tb_at 89 tw_89 rfl) (fs_tb_at 826 tw_826 rfl) (by decide) (show (parseMethodDescriptor y_LN_single.desc).map (fun d => d.parameters.length) = some 2 by decide +kernel) rfl d_LN_signed_15 (fs_rm (k := 0) (by omega) (by omega) (by omega) (by omega) rfl) (fun v_ h114 H locs hq hP hS => ?_) (fun C_ a_ h_ H locs hq hP hS hX => fs_out (hout _) hlocks hw hP hS hX (show ((0 + c108) + c112) ≤ mc by omega) (show ((0 + s109) + s113) ≤ ms by omega) hq)
      refine fs_cs (k := ((0 + c108) + c112)) (n := ((0 + s109) + s113)) rfl rfl ?_
      replace hq := fs_ko_some hq
      rcases hq with ⟨rfl, hq⟩ | ⟨a115, rfl, hq⟩
      · refine W.eq (g2 := F0 m 18 ls (.null :: [])) rfl ?_
        refine lv_goto (tgt := 25) hx hb d_LN_signed_18 (by decide) ?_
        exact fs_aret hx hb hr (Or.inl ⟨_, rfl⟩) (Or.inl rfl) hlocks hw hP hS (by omega) (by omega) hq d_LN_signed_25
      · refine W.eq (g2 := F0 m 18 ls (.ref a115 :: [])) rfl ?_
        refine lv_goto (tgt := 25) hx hb d_LN_signed_18 (by decide) ?_
        exact fs_aret hx hb hr (Or.inl ⟨_, rfl⟩) (Or.inr ⟨_, rfl⟩) hlocks hw hP hS (by omega) (by omega) hq d_LN_signed_25
    · refine W.eq (g2 := F0 m 15 ls (.ref a111 :: .int 45 :: [])) rfl ?_
      obtain ⟨c116, s117, hc_, hs_, hq⟩ := hq
      refine fs_cS B hl.1 hP hS (kw_LN_single hE hq) (fs_tb_at 824 tw_824 rfl) (fs_tb_at 825 tw_825 rfl) (fs_tb_at 89 tw_89 rfl) (fs_tb_at 826 tw_826 rfl) (by decide) (show (parseMethodDescriptor y_LN_single.desc).map (fun d => d.parameters.length) = some 2 by decide +kernel) rfl d_LN_signed_15 (fs_rm (k := 0) (by omega) (by omega) (by omega) (by omega) rfl) (fun v_ h118 H locs hq hP hS => ?_) (fun C_ a_ h_ H locs hq hP hS hX => fs_out (hout _) hlocks hw hP hS hX (show ((0 + c108) + c116) ≤ mc by omega) (show ((0 + s109) + s117) ≤ ms by omega) hq)
      refine fs_cs (k := ((0 + c108) + c116)) (n := ((0 + s109) + s117)) rfl rfl ?_
      replace hq := fs_ko_some hq
      rcases hq with ⟨rfl, hq⟩ | ⟨a119, rfl, hq⟩
      · refine W.eq (g2 := F0 m 18 ls (.null :: [])) rfl ?_
        refine lv_goto (tgt := 25) hx hb d_LN_signed_18 (by decide) ?_
        exact fs_aret hx hb hr (Or.inl ⟨_, rfl⟩) (Or.inl rfl) hlocks hw hP hS (by omega) (by omega) hq d_LN_signed_25
      · refine W.eq (g2 := F0 m 18 ls (.ref a119 :: [])) rfl ?_
        refine lv_goto (tgt := 25) hx hb d_LN_signed_18 (by decide) ?_
        exact fs_aret hx hb hr (Or.inl ⟨_, rfl⟩) (Or.inr ⟨_, rfl⟩) hlocks hw hP hS (by omega) (by omega) hq d_LN_signed_25
def w_LN_product_L7 (self : Nat → Nat → fs_E → fs_Hp → Nat → fs_Ps → Prop) (E : fs_E) (K : Option Nat → Nat → Nat → fs_Hp → Prop) (Post : fs_Ps) : Nat → Nat → Option Nat → Int32 → Nat → Nat → fs_Hp → Prop
  | 0 => fun _ _ _ _ _ _ => False
  | n + 1 => fun z0 z1 z2 bc bs h1 => (match z1 with | none => (if 40 ≤ z2 then K none bc bs h1 else K none bc bs h1) | some a107 => (if 40 ≤ z2 then K (some a107) bc bs h1 else fs_isc h1 z0 1 ∧ (w_LN_nextIs E h1 z0 42 47 (fs_ki (fun x110 h109 => (if x110 = 0 then K (some a107) bc bs h109 else fs_isc h109 z0 1 ∧ (w_LN_takeNext E h109 z0 (fs_ki (fun x113 h112 => ∃ c114 s115 : Nat, c114 ≤ bc ∧ s115 ≤ bs ∧ (fs_isc h112 z0 1 ∧ (w_LN_signed self c114 s115 E h112 z0 (fs_ko (fun h116 => ∃ c118 s119 : Nat, c118 ≤ (bc - c114) ∧ s119 ≤ (bs - s115) ∧ (w_LN_pair c118 s119 E h116 x113 (some a107) none (fs_ko (fun h120 => (w_LN_product_L7 self E K Post n) z0 none (z2 + 1) ((bc - c114) - c118) ((bs - s115) - s119) h120) (fun a121 h120 => (w_LN_product_L7 self E K Post n) z0 (some a121) (z2 + 1) ((bc - c114) - c118) ((bs - s115) - s119) h120) (fun C_ h_ => Post (.inr C_) h_)))) (fun a117 h116 => ∃ c122 s123 : Nat, c122 ≤ (bc - c114) ∧ s123 ≤ (bs - s115) ∧ (w_LN_pair c122 s123 E h116 x113 (some a107) (some a117) (fs_ko (fun h124 => (w_LN_product_L7 self E K Post n) z0 none (z2 + 1) ((bc - c114) - c122) ((bs - s115) - s123) h124) (fun a125 h124 => (w_LN_product_L7 self E K Post n) z0 (some a125) (z2 + 1) ((bc - c114) - c122) ((bs - s115) - s123) h124) (fun C_ h_ => Post (.inr C_) h_)))) (fun C_ h_ => Post (.inr C_) h_))))) (fun C_ h_ => Post (.inr C_) h_))))) (fun C_ h_ => Post (.inr C_) h_)))))
def w_LN_product (self : Nat → Nat → fs_E → fs_Hp → Nat → fs_Ps → Prop) (mc ms : Nat) (E : fs_E) (h : fs_Hp) (a0 : Nat) (Post : fs_Ps) : Prop := ∃ c101 s102 : Nat, c101 ≤ mc ∧ s102 ≤ ms ∧ (fs_isc h a0 1 ∧ (w_LN_signed self c101 s102 E h a0 (fs_ko (fun h103 => (∃ n132 : Nat, w_LN_product_L7 self E (fun y126 bc128 bs129 h127 => (match y126 with | none => Post (.inl (some (.null))) h127 | some a134 => Post (.inl (some (.ref a134))) h127)) Post n132 a0 none 0 (mc - c101) (ms - s102) h103)) (fun a104 h103 => (∃ n141 : Nat, w_LN_product_L7 self E (fun y135 bc137 bs138 h136 => (match y135 with | none => Post (.inl (some (.null))) h136 | some a143 => Post (.inl (some (.ref a143))) h136)) Post n141 a0 (some a104) 0 (mc - c101) (ms - s102) h103)) (fun C_ h_ => Post (.inr C_) h_))))
set_option maxHeartbeats 4000000 in
set_option maxRecDepth 100000 in
theorem lw_w_LN_product_7 {p : Program} {l : Launch} {e : Env} {R : Room} {s : State} {m : MethodId} {args : Array Value} {below : List Frame} {meth : Method} {c : Code} {s00 : State} {E : fs_E} {Post : fs_Ps} {mc ms : Nat} (hE : fs_SE l s00 E) {self : Nat → Nat → fs_E → fs_Hp → Nat → fs_Ps → Prop} {fn ln : Nat} (hself : ∀ {c9 s9 : Nat} {h9 : fs_Hp} {q0 : Nat} {P9 : fs_Ps}, self c9 s9 E h9 q0 P9 → fs_Ct l s00 E.1 y_LN_logic (.code y_LN_logic b_LN_logic 4 (some ((.object "FormulaSheet$Part")))) { frames := fn, cells := c9, slots := s9, locals := ln } [.ref q0] h9 P9) (B : fs_B p l e s m args meth c s00 E.1 y_LN_product b_LN_product 4 (some ((.object "FormulaSheet$Part")))) (hout : ∀ pc, ∀ x ∈ c.exceptionTable.toList, covers x pc = false) (hRf : fn + 9 ≤ R.frames) (hRl : ln + 124 ≤ R.locals) (hRc : mc ≤ R.cells) (hRs : ms ≤ R.slots) (K : Option Nat → Nat → Nat → fs_Hp → Prop) : ∀ (n : Nat) (z0 : Nat) (z1 : Option Nat) (z2 : Int32) (bc bs uc us : Nat) (h1 : fs_Hp) (H : Heap) (locs : List Loc) (ls : Array Slot), w_LN_product_L7 self E K Post n z0 z1 z2 bc bs h1 → fs_P E.1.1 fs_cl (fs_A s00) h1 H → va_S (fs_A s00) s00.heap H locs → uc + bc ≤ mc → us + bs ≤ ms → lv_has ls 4 [(0, .ref z0), (1, va_rf z1), (2, .int z2)] → (∀ (y1 : Option Nat) (bc bs uc us : Nat) (h' : fs_Hp) (H : Heap) (locs : List Loc) (ls : Array Slot), K y1 bc bs h' → fs_P E.1.1 fs_cl (fs_A s00) h' H → va_S (fs_A s00) s00.heap H locs → uc + bc ≤ mc → us + bs ≤ ms → lv_has ls 4 [(0, .ref z0), (1, va_rf y1)] → W p l e R s m args below meth c H locs uc us (fx_MQ below (fs_Qc s00 E.1 Post) args s mc ms (fs_A s00)) (F0 m 49 ls [])) → W p l e R s m args below meth c H locs uc us (fx_MQ below (fs_Qc s00 E.1 Post) args s mc ms (fs_A s00)) (F0 m 7 ls []) := by
  obtain ⟨hx, hb, hr, hml, hown, hts, hlocks, hname, hK, hw, htr⟩ := id B
  have hown : s.vm.findClass "FormulaSheet$Line" = some m.cls := hown
  intro n
  induction n with
  | zero => intro z0 z1 z2 bc bs uc us h1 H locs ls hq; exact False.elim hq
  | succ n ih =>
    intro z0 z1 z2 bc bs uc us h1 H locs ls hq hP hS hu1 hu2 hl kk
    rw [w_LN_product_L7] at hq
    cases z1 with
    | none =>
      have hl : lv_has ls 4 [(0, .ref z0), (1, .null), (2, .int z2)] := hl
      refine lv_iload_n hx hb d_LN_product_7 rfl (lv_at hl 2 rfl) ?_
      refine lv_bipush (v := 40) hx hb d_LN_product_8 (by decide) ?_
      refine lv_icmp_ge (tgt := 49) hx hb d_LN_product_10 (by decide) (fun c_106 => ?_) (fun c_106 => ?_)
      · have hq := fs_wifp c_106 hq
        exact kk none bc bs uc us _ _ _ _ hq hP hS (by omega) (by omega) (show lv_has ls 4 [(0, .ref z0), (1, va_rf none)] from lv_sub hl [0, 1] rfl)
      · have hq := fs_wifn c_106 hq
        refine lv_aload_nN hx hb d_LN_product_13 rfl (lv_at hl 1 rfl) ?_
        refine lv_ifnullN (tgt := 49) hx hb d_LN_product_14 (by decide) ?_
        exact kk none bc bs uc us _ _ _ _ hq hP hS (by omega) (by omega) (show lv_has ls 4 [(0, .ref z0), (1, va_rf none)] from lv_sub hl [0, 1] rfl)
    | some a107 =>
      have hl : lv_has ls 4 [(0, .ref z0), (1, .ref a107), (2, .int z2)] := hl
      refine lv_iload_n hx hb d_LN_product_7 rfl (lv_at hl 2 rfl) ?_
      refine lv_bipush (v := 40) hx hb d_LN_product_8 (by decide) ?_
      refine lv_icmp_ge (tgt := 49) hx hb d_LN_product_10 (by decide) (fun c_108 => ?_) (fun c_108 => ?_)
      · have hq := fs_wifp c_108 hq
        exact kk (some a107) bc bs uc us _ _ _ _ hq hP hS (by omega) (by omega) (show lv_has ls 4 [(0, .ref z0), (1, va_rf (some a107))] from lv_sub hl [0, 1] rfl)
      · have hq := fs_wifn c_108 hq
        refine lv_aload_n hx hb d_LN_product_13 rfl (lv_at hl 1 rfl) ?_
        refine lv_ifnull hx hb d_LN_product_14 ?_
        refine lv_aload_n hx hb d_LN_product_17 rfl (lv_at hl 0 rfl) ?_
        refine lv_bipush (v := 42) hx hb d_LN_product_18 (by decide) ?_
        refine lv_bipush (v := 47) hx hb d_LN_product_20 (by decide) ?_
        obtain ⟨hi_, hq⟩ := hq
        obtain ⟨fs_, he_⟩ := fs_isc_some hi_
        refine fs_cV B hl.1 hP hS (kw_LN_nextIs hE hq) (fs_tb_at 839 tw_839 rfl) he_ rfl (fs_tb_at 841 tw_841 rfl) (fs_tb_at 35 tw_35 rfl) (fs_tb_at 89 tw_89 rfl) (fs_tb_at 842 tw_842 rfl) (by decide) (show (parseMethodDescriptor y_LN_nextIs.desc).map (fun d => d.parameters.length) = some 2 by decide +kernel) rfl d_LN_product_22 (fs_rm (k := 0) (by omega) (by omega) (by omega) (by omega) rfl) (fun v_ h109 H locs hq hP hS => ?_) (fun C_ a_ h_ H locs hq hP hS hX => fs_out (hout _) hlocks hw hP hS hX (show uc ≤ mc by omega) (show us ≤ ms by omega) hq)
        refine fs_cs (k := uc) (n := us) rfl rfl ?_
        replace hq := fs_ki_some hq
        obtain ⟨x110, rfl, hq⟩ := hq
        refine W.eq (g2 := F0 m 25 ls (.int x110 :: [])) rfl ?_
        refine lv_if_eq (tgt := 49) hx hb d_LN_product_25 (by decide) (fun c_111 => ?_) (fun c_111 => ?_)
        · have hq := fs_wifp c_111 hq
          exact kk (some a107) bc bs uc us _ _ _ _ hq hP hS (by omega) (by omega) (show lv_has ls 4 [(0, .ref z0), (1, va_rf (some a107))] from lv_sub hl [0, 1] rfl)
        · have hq := fs_wifn c_111 hq
          refine lv_aload_n hx hb d_LN_product_28 rfl (lv_at hl 0 rfl) ?_
          obtain ⟨hi_, hq⟩ := hq
          obtain ⟨fs_, he_⟩ := fs_isc_some hi_
          refine fs_cV B hl.1 hP hS (kw_LN_takeNext hE hq) (fs_tb_at 658 tw_658 rfl) he_ rfl (fs_tb_at 660 tw_660 rfl) (fs_tb_at 26 tw_26 rfl) (fs_tb_at 89 tw_89 rfl) (fs_tb_at 661 tw_661 rfl) (by decide) (show (parseMethodDescriptor y_LN_takeNext.desc).map (fun d => d.parameters.length) = some 0 by decide +kernel) rfl d_LN_product_29 (fs_rm (k := 0) (by omega) (by omega) (by omega) (by omega) rfl) (fun v_ h112 H locs hq hP hS => ?_) (fun C_ a_ h_ H locs hq hP hS hX => fs_out (hout _) hlocks hw hP hS hX (show uc ≤ mc by omega) (show us ≤ ms by omega) hq)
          refine fs_cs (k := uc) (n := us) rfl rfl ?_
          replace hq := fs_ki_some hq
          obtain ⟨x113, rfl, hq⟩ := hq
          refine W.eq (g2 := F0 m 32 ls (.int x113 :: [])) rfl ?_
          refine lv_istore_n (lv' := [(3, .int x113), (0, .ref z0), (1, .ref a107), (2, .int z2)]) hx hb d_LN_product_32 rfl hl (by decide) rfl (fun ls hl => ?_)
          refine lv_iload_n hx hb d_LN_product_33 rfl (lv_at hl 0 rfl) ?_
          refine lv_aload_n hx hb d_LN_product_34 rfl (lv_at hl 2 rfl) ?_
          refine lv_aload_n hx hb d_LN_product_35 rfl (lv_at hl 1 rfl) ?_
          obtain ⟨c114, s115, hc_, hs_, hq⟩ := hq
          obtain ⟨hi_, hq⟩ := hq
          obtain ⟨fs_, he_⟩ := fs_isc_some hi_
          refine fs_cV B hl.1 hP hS (kw_LN_signed hE hself hq) (fs_tb_at 637 tw_637 rfl) he_ rfl (fs_tb_at 639 tw_639 rfl) (fs_tb_at 21 tw_21 rfl) (fs_tb_at 89 tw_89 rfl) (fs_tb_at 640 tw_640 rfl) (by decide) (show (parseMethodDescriptor y_LN_signed.desc).map (fun d => d.parameters.length) = some 0 by decide +kernel) rfl d_LN_product_36 (fs_rm (k := 2) (by omega) (by omega) (by omega) (by omega) rfl) (fun v_ h116 H locs hq hP hS => ?_) (fun C_ a_ h_ H locs hq hP hS hX => fs_out (hout _) hlocks hw hP hS hX (show (uc + c114) ≤ mc by omega) (show (us + s115) ≤ ms by omega) hq)
          refine fs_cs (k := (uc + c114)) (n := (us + s115)) rfl rfl ?_
          replace hq := fs_ko_some hq
          rcases hq with ⟨rfl, hq⟩ | ⟨a117, rfl, hq⟩
          · refine W.eq (g2 := F0 m 39 ls (.null :: .ref a107 :: .int x113 :: [])) rfl ?_
            obtain ⟨c118, s119, hc_, hs_, hq⟩ := hq
            refine fs_cS B hl.1 hP hS (kw_LN_pair hE hq) (fs_tb_at 843 tw_843 rfl) (fs_tb_at 844 tw_844 rfl) (fs_tb_at 89 tw_89 rfl) (fs_tb_at 845 tw_845 rfl) (by decide) (show (parseMethodDescriptor y_LN_pair.desc).map (fun d => d.parameters.length) = some 3 by decide +kernel) rfl d_LN_product_39 (fs_rm (k := 0) (by omega) (by omega) (by omega) (by omega) rfl) (fun v_ h120 H locs hq hP hS => ?_) (fun C_ a_ h_ H locs hq hP hS hX => fs_out (hout _) hlocks hw hP hS hX (show ((uc + c114) + c118) ≤ mc by omega) (show ((us + s115) + s119) ≤ ms by omega) hq)
            refine fs_cs (k := ((uc + c114) + c118)) (n := ((us + s115) + s119)) rfl rfl ?_
            replace hq := fs_ko_some hq
            rcases hq with ⟨rfl, hq⟩ | ⟨a121, rfl, hq⟩
            · refine W.eq (g2 := F0 m 42 ls (.null :: [])) rfl ?_
              refine lv_astore_nN (lv' := [(1, .null), (3, .int x113), (0, .ref z0), (2, .int z2)]) hx hb d_LN_product_42 rfl hl (by decide) rfl (fun ls hl => ?_)
              refine lv_iinc (v := z2 + 1) (lv' := [(2, .int (z2 + 1)), (1, .null), (3, .int x113), (0, .ref z0)]) hx hb d_LN_product_43 hl (k := 3) rfl rfl (by decide) rfl (fun ls hl => ?_)
              refine lv_goto (tgt := 7) hx hb d_LN_product_46 (by decide) ?_
              exact ih z0 none (z2 + 1) ((bc - c114) - c118) ((bs - s115) - s119) ((uc + c114) + c118) ((us + s115) + s119) _ _ _ _ hq hP hS (by omega) (by omega) (show lv_has ls 4 [(0, .ref z0), (1, va_rf none), (2, .int (z2 + 1))] from lv_sub hl [3, 1, 0] rfl) kk
            · refine W.eq (g2 := F0 m 42 ls (.ref a121 :: [])) rfl ?_
              refine lv_astore_n (lv' := [(1, .ref a121), (3, .int x113), (0, .ref z0), (2, .int z2)]) hx hb d_LN_product_42 rfl hl (by decide) rfl (fun ls hl => ?_)
              refine lv_iinc (v := z2 + 1) (lv' := [(2, .int (z2 + 1)), (1, .ref a121), (3, .int x113), (0, .ref z0)]) hx hb d_LN_product_43 hl (k := 3) rfl rfl (by decide) rfl (fun ls hl => ?_)
              refine lv_goto (tgt := 7) hx hb d_LN_product_46 (by decide) ?_
              exact ih z0 (some a121) (z2 + 1) ((bc - c114) - c118) ((bs - s115) - s119) ((uc + c114) + c118) ((us + s115) + s119) _ _ _ _ hq hP hS (by omega) (by omega) (show lv_has ls 4 [(0, .ref z0), (1, va_rf (some a121)), (2, .int (z2 + 1))] from lv_sub hl [3, 1, 0] rfl) kk
          · refine W.eq (g2 := F0 m 39 ls (.ref a117 :: .ref a107 :: .int x113 :: [])) rfl ?_
            obtain ⟨c122, s123, hc_, hs_, hq⟩ := hq
            refine fs_cS B hl.1 hP hS (kw_LN_pair hE hq) (fs_tb_at 843 tw_843 rfl) (fs_tb_at 844 tw_844 rfl) (fs_tb_at 89 tw_89 rfl) (fs_tb_at 845 tw_845 rfl) (by decide) (show (parseMethodDescriptor y_LN_pair.desc).map (fun d => d.parameters.length) = some 3 by decide +kernel) rfl d_LN_product_39 (fs_rm (k := 0) (by omega) (by omega) (by omega) (by omega) rfl) (fun v_ h124 H locs hq hP hS => ?_) (fun C_ a_ h_ H locs hq hP hS hX => fs_out (hout _) hlocks hw hP hS hX (show ((uc + c114) + c122) ≤ mc by omega) (show ((us + s115) + s123) ≤ ms by omega) hq)
            refine fs_cs (k := ((uc + c114) + c122)) (n := ((us + s115) + s123)) rfl rfl ?_
            replace hq := fs_ko_some hq
            rcases hq with ⟨rfl, hq⟩ | ⟨a125, rfl, hq⟩
            · refine W.eq (g2 := F0 m 42 ls (.null :: [])) rfl ?_
              refine lv_astore_nN (lv' := [(1, .null), (3, .int x113), (0, .ref z0), (2, .int z2)]) hx hb d_LN_product_42 rfl hl (by decide) rfl (fun ls hl => ?_)
              refine lv_iinc (v := z2 + 1) (lv' := [(2, .int (z2 + 1)), (1, .null), (3, .int x113), (0, .ref z0)]) hx hb d_LN_product_43 hl (k := 3) rfl rfl (by decide) rfl (fun ls hl => ?_)
              refine lv_goto (tgt := 7) hx hb d_LN_product_46 (by decide) ?_
              exact ih z0 none (z2 + 1) ((bc - c114) - c122) ((bs - s115) - s123) ((uc + c114) + c122) ((us + s115) + s123) _ _ _ _ hq hP hS (by omega) (by omega) (show lv_has ls 4 [(0, .ref z0), (1, va_rf none), (2, .int (z2 + 1))] from lv_sub hl [3, 1, 0] rfl) kk
            · refine W.eq (g2 := F0 m 42 ls (.ref a125 :: [])) rfl ?_
              refine lv_astore_n (lv' := [(1, .ref a125), (3, .int x113), (0, .ref z0), (2, .int z2)]) hx hb d_LN_product_42 rfl hl (by decide) rfl (fun ls hl => ?_)
              refine lv_iinc (v := z2 + 1) (lv' := [(2, .int (z2 + 1)), (1, .ref a125), (3, .int x113), (0, .ref z0)]) hx hb d_LN_product_43 hl (k := 3) rfl rfl (by decide) rfl (fun ls hl => ?_)
              refine lv_goto (tgt := 7) hx hb d_LN_product_46 (by decide) ?_
              exact ih z0 (some a125) (z2 + 1) ((bc - c114) - c122) ((bs - s115) - s123) ((uc + c114) + c122) ((us + s115) + s123) _ _ _ _ hq hP hS (by omega) (by omega) (show lv_has ls 4 [(0, .ref z0), (1, va_rf (some a125)), (2, .int (z2 + 1))] from lv_sub hl [3, 1, 0] rfl) kk
set_option maxHeartbeats 4000000 in
set_option maxRecDepth 100000 in
theorem kw_LN_product {l : Launch} {s00 : State} {E : fs_E} (hE : fs_SE l s00 E) {self : Nat → Nat → fs_E → fs_Hp → Nat → fs_Ps → Prop} {fn ln : Nat} (hself : ∀ {c9 s9 : Nat} {h9 : fs_Hp} {q0 : Nat} {P9 : fs_Ps}, self c9 s9 E h9 q0 P9 → fs_Ct l s00 E.1 y_LN_logic (.code y_LN_logic b_LN_logic 4 (some ((.object "FormulaSheet$Part")))) { frames := fn, cells := c9, slots := s9, locals := ln } [.ref q0] h9 P9) {mc ms : Nat} {h : fs_Hp} {a0 : Nat} {Post : fs_Ps} (hq : w_LN_product self mc ms E h a0 Post) : fs_Ct l s00 E.1 y_LN_product (.code y_LN_product b_LN_product 4 (some ((.object "FormulaSheet$Part")))) { frames := fn + 9, cells := mc, slots := ms, locals := ln + 124 } [.ref a0] h Post := by
  refine fs_Ct.ofR hE.1 (by decide) ?_
  intro p e R s m below meth c hRf hRl hRc hRs B hout hP
  skip
  obtain ⟨hx, hb, hr, hml, hown, hts, hlocks, hname, hK, hw, htr⟩ := id B
  have hown : s.vm.findClass "FormulaSheet$Line" = some m.cls := hown
  have hS := hw.S
  have hl := lv_entry ([.ref a0]) (n := 4) (Nat.le_of_ble_eq_true rfl)
  rw [lg_entry_eq]
  generalize (lg_sl ([.ref a0]) ++ List.replicate (4 - (lg_sl ([.ref a0])).length) Slot.unset).toArray = ls at hl ⊢
  have hl : lv_has ls 4 [(0, .ref a0)] := hl
  unfold w_LN_product at hq
  refine lv_aload_n hx hb d_LN_product_0 rfl (lv_at hl 0 rfl) ?_
  obtain ⟨c101, s102, hc_, hs_, hq⟩ := hq
  obtain ⟨hi_, hq⟩ := hq
  obtain ⟨fs_, he_⟩ := fs_isc_some hi_
  refine fs_cV B hl.1 hP hS (kw_LN_signed hE hself hq) (fs_tb_at 637 tw_637 rfl) he_ rfl (fs_tb_at 639 tw_639 rfl) (fs_tb_at 21 tw_21 rfl) (fs_tb_at 89 tw_89 rfl) (fs_tb_at 640 tw_640 rfl) (by decide) (show (parseMethodDescriptor y_LN_signed.desc).map (fun d => d.parameters.length) = some 0 by decide +kernel) rfl d_LN_product_1 (fs_rm (k := 0) (by omega) (by omega) (by omega) (by omega) rfl) (fun v_ h103 H locs hq hP hS => ?_) (fun C_ a_ h_ H locs hq hP hS hX => fs_out (hout _) hlocks hw hP hS hX (show (0 + c101) ≤ mc by omega) (show (0 + s102) ≤ ms by omega) hq)
  refine fs_cs (k := (0 + c101)) (n := (0 + s102)) rfl rfl ?_
  replace hq := fs_ko_some hq
  rcases hq with ⟨rfl, hq⟩ | ⟨a104, rfl, hq⟩
  · refine W.eq (g2 := F0 m 4 ls (.null :: [])) rfl ?_
    refine lv_astore_nN (lv' := [(1, .null), (0, .ref a0)]) hx hb d_LN_product_4 rfl hl (by decide) rfl (fun ls hl => ?_)
    refine lv_iconst (v := 0) hx hb d_LN_product_5 (by decide) ?_
    refine lv_istore_n (lv' := [(2, .int 0), (1, .null), (0, .ref a0)]) hx hb d_LN_product_6 rfl hl (by decide) rfl (fun ls hl => ?_)
    obtain ⟨n132, hq⟩ := hq
    refine lw_w_LN_product_7 hE hself B hout (by omega) (by omega) hRc hRs _ n132 a0 none 0 (mc - c101) (ms - s102) (0 + c101) (0 + s102) _ _ _ _ hq hP hS (by omega) (by omega) (show lv_has ls 4 [(0, .ref a0), (1, va_rf none), (2, .int 0)] from lv_sub hl [2, 1, 0] rfl) (fun y126 bc128 bs129 uc130 us131 h127 H locs ls hq hP hS hu1 hu2 hl => ?_)
    cases y126 with
    | none =>
      have hl : lv_has ls 4 [(0, .ref a0), (1, .null)] := hl
      refine lv_aload_nN hx hb d_LN_product_49 rfl (lv_at hl 1 rfl) ?_
      exact fs_aret hx hb hr (Or.inl ⟨_, rfl⟩) (Or.inl rfl) hlocks hw hP hS (by omega) (by omega) hq d_LN_product_50
    | some a134 =>
      have hl : lv_has ls 4 [(0, .ref a0), (1, .ref a134)] := hl
      refine lv_aload_n hx hb d_LN_product_49 rfl (lv_at hl 1 rfl) ?_
      exact fs_aret hx hb hr (Or.inl ⟨_, rfl⟩) (Or.inr ⟨_, rfl⟩) hlocks hw hP hS (by omega) (by omega) hq d_LN_product_50
  · refine W.eq (g2 := F0 m 4 ls (.ref a104 :: [])) rfl ?_
    refine lv_astore_n (lv' := [(1, .ref a104), (0, .ref a0)]) hx hb d_LN_product_4 rfl hl (by decide) rfl (fun ls hl => ?_)
    refine lv_iconst (v := 0) hx hb d_LN_product_5 (by decide) ?_
    refine lv_istore_n (lv' := [(2, .int 0), (1, .ref a104), (0, .ref a0)]) hx hb d_LN_product_6 rfl hl (by decide) rfl (fun ls hl => ?_)
    obtain ⟨n141, hq⟩ := hq
    refine lw_w_LN_product_7 hE hself B hout (by omega) (by omega) hRc hRs _ n141 a0 (some a104) 0 (mc - c101) (ms - s102) (0 + c101) (0 + s102) _ _ _ _ hq hP hS (by omega) (by omega) (show lv_has ls 4 [(0, .ref a0), (1, va_rf (some a104)), (2, .int 0)] from lv_sub hl [2, 1, 0] rfl) (fun y135 bc137 bs138 uc139 us140 h136 H locs ls hq hP hS hu1 hu2 hl => ?_)
    cases y135 with
    | none =>
      have hl : lv_has ls 4 [(0, .ref a0), (1, .null)] := hl
      refine lv_aload_nN hx hb d_LN_product_49 rfl (lv_at hl 1 rfl) ?_
      exact fs_aret hx hb hr (Or.inl ⟨_, rfl⟩) (Or.inl rfl) hlocks hw hP hS (by omega) (by omega) hq d_LN_product_50
    | some a143 =>
      have hl : lv_has ls 4 [(0, .ref a0), (1, .ref a143)] := hl
      refine lv_aload_n hx hb d_LN_product_49 rfl (lv_at hl 1 rfl) ?_
      exact fs_aret hx hb hr (Or.inl ⟨_, rfl⟩) (Or.inr ⟨_, rfl⟩) hlocks hw hP hS (by omega) (by omega) hq d_LN_product_50
def w_LN_terms_L7 (self : Nat → Nat → fs_E → fs_Hp → Nat → fs_Ps → Prop) (E : fs_E) (K : Option Nat → Nat → Nat → fs_Hp → Prop) (Post : fs_Ps) : Nat → Nat → Option Nat → Int32 → Nat → Nat → fs_Hp → Prop
  | 0 => fun _ _ _ _ _ _ => False
  | n + 1 => fun z0 z1 z2 bc bs h1 => (match z1 with | none => (if 40 ≤ z2 then K none bc bs h1 else K none bc bs h1) | some a107 => (if 40 ≤ z2 then K (some a107) bc bs h1 else fs_isc h1 z0 1 ∧ (w_LN_nextIs E h1 z0 43 45 (fs_ki (fun x110 h109 => (if x110 = 0 then K (some a107) bc bs h109 else fs_isc h109 z0 1 ∧ (w_LN_takeNext E h109 z0 (fs_ki (fun x113 h112 => ∃ c114 s115 : Nat, c114 ≤ bc ∧ s115 ≤ bs ∧ (fs_isc h112 z0 1 ∧ (w_LN_product self c114 s115 E h112 z0 (fs_ko (fun h116 => ∃ c118 s119 : Nat, c118 ≤ (bc - c114) ∧ s119 ≤ (bs - s115) ∧ (w_LN_pair c118 s119 E h116 x113 (some a107) none (fs_ko (fun h120 => (w_LN_terms_L7 self E K Post n) z0 none (z2 + 1) ((bc - c114) - c118) ((bs - s115) - s119) h120) (fun a121 h120 => (w_LN_terms_L7 self E K Post n) z0 (some a121) (z2 + 1) ((bc - c114) - c118) ((bs - s115) - s119) h120) (fun C_ h_ => Post (.inr C_) h_)))) (fun a117 h116 => ∃ c122 s123 : Nat, c122 ≤ (bc - c114) ∧ s123 ≤ (bs - s115) ∧ (w_LN_pair c122 s123 E h116 x113 (some a107) (some a117) (fs_ko (fun h124 => (w_LN_terms_L7 self E K Post n) z0 none (z2 + 1) ((bc - c114) - c122) ((bs - s115) - s123) h124) (fun a125 h124 => (w_LN_terms_L7 self E K Post n) z0 (some a125) (z2 + 1) ((bc - c114) - c122) ((bs - s115) - s123) h124) (fun C_ h_ => Post (.inr C_) h_)))) (fun C_ h_ => Post (.inr C_) h_))))) (fun C_ h_ => Post (.inr C_) h_))))) (fun C_ h_ => Post (.inr C_) h_)))))
def w_LN_terms (self : Nat → Nat → fs_E → fs_Hp → Nat → fs_Ps → Prop) (mc ms : Nat) (E : fs_E) (h : fs_Hp) (a0 : Nat) (Post : fs_Ps) : Prop := ∃ c101 s102 : Nat, c101 ≤ mc ∧ s102 ≤ ms ∧ (fs_isc h a0 1 ∧ (w_LN_product self c101 s102 E h a0 (fs_ko (fun h103 => (∃ n132 : Nat, w_LN_terms_L7 self E (fun y126 bc128 bs129 h127 => (match y126 with | none => Post (.inl (some (.null))) h127 | some a134 => Post (.inl (some (.ref a134))) h127)) Post n132 a0 none 0 (mc - c101) (ms - s102) h103)) (fun a104 h103 => (∃ n141 : Nat, w_LN_terms_L7 self E (fun y135 bc137 bs138 h136 => (match y135 with | none => Post (.inl (some (.null))) h136 | some a143 => Post (.inl (some (.ref a143))) h136)) Post n141 a0 (some a104) 0 (mc - c101) (ms - s102) h103)) (fun C_ h_ => Post (.inr C_) h_))))
set_option maxHeartbeats 4000000 in
set_option maxRecDepth 100000 in
theorem lw_w_LN_terms_7 {p : Program} {l : Launch} {e : Env} {R : Room} {s : State} {m : MethodId} {args : Array Value} {below : List Frame} {meth : Method} {c : Code} {s00 : State} {E : fs_E} {Post : fs_Ps} {mc ms : Nat} (hE : fs_SE l s00 E) {self : Nat → Nat → fs_E → fs_Hp → Nat → fs_Ps → Prop} {fn ln : Nat} (hself : ∀ {c9 s9 : Nat} {h9 : fs_Hp} {q0 : Nat} {P9 : fs_Ps}, self c9 s9 E h9 q0 P9 → fs_Ct l s00 E.1 y_LN_logic (.code y_LN_logic b_LN_logic 4 (some ((.object "FormulaSheet$Part")))) { frames := fn, cells := c9, slots := s9, locals := ln } [.ref q0] h9 P9) (B : fs_B p l e s m args meth c s00 E.1 y_LN_terms b_LN_terms 4 (some ((.object "FormulaSheet$Part")))) (hout : ∀ pc, ∀ x ∈ c.exceptionTable.toList, covers x pc = false) (hRf : fn + 10 ≤ R.frames) (hRl : ln + 141 ≤ R.locals) (hRc : mc ≤ R.cells) (hRs : ms ≤ R.slots) (K : Option Nat → Nat → Nat → fs_Hp → Prop) : ∀ (n : Nat) (z0 : Nat) (z1 : Option Nat) (z2 : Int32) (bc bs uc us : Nat) (h1 : fs_Hp) (H : Heap) (locs : List Loc) (ls : Array Slot), w_LN_terms_L7 self E K Post n z0 z1 z2 bc bs h1 → fs_P E.1.1 fs_cl (fs_A s00) h1 H → va_S (fs_A s00) s00.heap H locs → uc + bc ≤ mc → us + bs ≤ ms → lv_has ls 4 [(0, .ref z0), (1, va_rf z1), (2, .int z2)] → (∀ (y1 : Option Nat) (bc bs uc us : Nat) (h' : fs_Hp) (H : Heap) (locs : List Loc) (ls : Array Slot), K y1 bc bs h' → fs_P E.1.1 fs_cl (fs_A s00) h' H → va_S (fs_A s00) s00.heap H locs → uc + bc ≤ mc → us + bs ≤ ms → lv_has ls 4 [(0, .ref z0), (1, va_rf y1)] → W p l e R s m args below meth c H locs uc us (fx_MQ below (fs_Qc s00 E.1 Post) args s mc ms (fs_A s00)) (F0 m 49 ls [])) → W p l e R s m args below meth c H locs uc us (fx_MQ below (fs_Qc s00 E.1 Post) args s mc ms (fs_A s00)) (F0 m 7 ls []) := by
  obtain ⟨hx, hb, hr, hml, hown, hts, hlocks, hname, hK, hw, htr⟩ := id B
  have hown : s.vm.findClass "FormulaSheet$Line" = some m.cls := hown
  intro n
  induction n with
  | zero => intro z0 z1 z2 bc bs uc us h1 H locs ls hq; exact False.elim hq
  | succ n ih =>
    intro z0 z1 z2 bc bs uc us h1 H locs ls hq hP hS hu1 hu2 hl kk
    rw [w_LN_terms_L7] at hq
    cases z1 with
    | none =>
      have hl : lv_has ls 4 [(0, .ref z0), (1, .null), (2, .int z2)] := hl
      refine lv_iload_n hx hb d_LN_terms_7 rfl (lv_at hl 2 rfl) ?_
      refine lv_bipush (v := 40) hx hb d_LN_terms_8 (by decide) ?_
      refine lv_icmp_ge (tgt := 49) hx hb d_LN_terms_10 (by decide) (fun c_106 => ?_) (fun c_106 => ?_)
      · have hq := fs_wifp c_106 hq
        exact kk none bc bs uc us _ _ _ _ hq hP hS (by omega) (by omega) (show lv_has ls 4 [(0, .ref z0), (1, va_rf none)] from lv_sub hl [0, 1] rfl)
      · have hq := fs_wifn c_106 hq
        refine lv_aload_nN hx hb d_LN_terms_13 rfl (lv_at hl 1 rfl) ?_
        refine lv_ifnullN (tgt := 49) hx hb d_LN_terms_14 (by decide) ?_
        exact kk none bc bs uc us _ _ _ _ hq hP hS (by omega) (by omega) (show lv_has ls 4 [(0, .ref z0), (1, va_rf none)] from lv_sub hl [0, 1] rfl)
    | some a107 =>
      have hl : lv_has ls 4 [(0, .ref z0), (1, .ref a107), (2, .int z2)] := hl
      refine lv_iload_n hx hb d_LN_terms_7 rfl (lv_at hl 2 rfl) ?_
      refine lv_bipush (v := 40) hx hb d_LN_terms_8 (by decide) ?_
      refine lv_icmp_ge (tgt := 49) hx hb d_LN_terms_10 (by decide) (fun c_108 => ?_) (fun c_108 => ?_)
      · have hq := fs_wifp c_108 hq
        exact kk (some a107) bc bs uc us _ _ _ _ hq hP hS (by omega) (by omega) (show lv_has ls 4 [(0, .ref z0), (1, va_rf (some a107))] from lv_sub hl [0, 1] rfl)
      · have hq := fs_wifn c_108 hq
        refine lv_aload_n hx hb d_LN_terms_13 rfl (lv_at hl 1 rfl) ?_
        refine lv_ifnull hx hb d_LN_terms_14 ?_
        refine lv_aload_n hx hb d_LN_terms_17 rfl (lv_at hl 0 rfl) ?_
        refine lv_bipush (v := 43) hx hb d_LN_terms_18 (by decide) ?_
        refine lv_bipush (v := 45) hx hb d_LN_terms_20 (by decide) ?_
        obtain ⟨hi_, hq⟩ := hq
        obtain ⟨fs_, he_⟩ := fs_isc_some hi_
        refine fs_cV B hl.1 hP hS (kw_LN_nextIs hE hq) (fs_tb_at 839 tw_839 rfl) he_ rfl (fs_tb_at 841 tw_841 rfl) (fs_tb_at 35 tw_35 rfl) (fs_tb_at 89 tw_89 rfl) (fs_tb_at 842 tw_842 rfl) (by decide) (show (parseMethodDescriptor y_LN_nextIs.desc).map (fun d => d.parameters.length) = some 2 by decide +kernel) rfl d_LN_terms_22 (fs_rm (k := 0) (by omega) (by omega) (by omega) (by omega) rfl) (fun v_ h109 H locs hq hP hS => ?_) (fun C_ a_ h_ H locs hq hP hS hX => fs_out (hout _) hlocks hw hP hS hX (show uc ≤ mc by omega) (show us ≤ ms by omega) hq)
        refine fs_cs (k := uc) (n := us) rfl rfl ?_
        replace hq := fs_ki_some hq
        obtain ⟨x110, rfl, hq⟩ := hq
        refine W.eq (g2 := F0 m 25 ls (.int x110 :: [])) rfl ?_
        refine lv_if_eq (tgt := 49) hx hb d_LN_terms_25 (by decide) (fun c_111 => ?_) (fun c_111 => ?_)
        · have hq := fs_wifp c_111 hq
          exact kk (some a107) bc bs uc us _ _ _ _ hq hP hS (by omega) (by omega) (show lv_has ls 4 [(0, .ref z0), (1, va_rf (some a107))] from lv_sub hl [0, 1] rfl)
        · have hq := fs_wifn c_111 hq
          refine lv_aload_n hx hb d_LN_terms_28 rfl (lv_at hl 0 rfl) ?_
          obtain ⟨hi_, hq⟩ := hq
          obtain ⟨fs_, he_⟩ := fs_isc_some hi_
          refine fs_cV B hl.1 hP hS (kw_LN_takeNext hE hq) (fs_tb_at 658 tw_658 rfl) he_ rfl (fs_tb_at 660 tw_660 rfl) (fs_tb_at 26 tw_26 rfl) (fs_tb_at 89 tw_89 rfl) (fs_tb_at 661 tw_661 rfl) (by decide) (show (parseMethodDescriptor y_LN_takeNext.desc).map (fun d => d.parameters.length) = some 0 by decide +kernel) rfl d_LN_terms_29 (fs_rm (k := 0) (by omega) (by omega) (by omega) (by omega) rfl) (fun v_ h112 H locs hq hP hS => ?_) (fun C_ a_ h_ H locs hq hP hS hX => fs_out (hout _) hlocks hw hP hS hX (show uc ≤ mc by omega) (show us ≤ ms by omega) hq)
          refine fs_cs (k := uc) (n := us) rfl rfl ?_
          replace hq := fs_ki_some hq
          obtain ⟨x113, rfl, hq⟩ := hq
          refine W.eq (g2 := F0 m 32 ls (.int x113 :: [])) rfl ?_
          refine lv_istore_n (lv' := [(3, .int x113), (0, .ref z0), (1, .ref a107), (2, .int z2)]) hx hb d_LN_terms_32 rfl hl (by decide) rfl (fun ls hl => ?_)
          refine lv_iload_n hx hb d_LN_terms_33 rfl (lv_at hl 0 rfl) ?_
          refine lv_aload_n hx hb d_LN_terms_34 rfl (lv_at hl 2 rfl) ?_
          refine lv_aload_n hx hb d_LN_terms_35 rfl (lv_at hl 1 rfl) ?_
          obtain ⟨c114, s115, hc_, hs_, hq⟩ := hq
          obtain ⟨hi_, hq⟩ := hq
          obtain ⟨fs_, he_⟩ := fs_isc_some hi_
          refine fs_cV B hl.1 hP hS (kw_LN_product hE hself hq) (fs_tb_at 633 tw_633 rfl) he_ rfl (fs_tb_at 635 tw_635 rfl) (fs_tb_at 20 tw_20 rfl) (fs_tb_at 89 tw_89 rfl) (fs_tb_at 636 tw_636 rfl) (by decide) (show (parseMethodDescriptor y_LN_product.desc).map (fun d => d.parameters.length) = some 0 by decide +kernel) rfl d_LN_terms_36 (fs_rm (k := 2) (by omega) (by omega) (by omega) (by omega) rfl) (fun v_ h116 H locs hq hP hS => ?_) (fun C_ a_ h_ H locs hq hP hS hX => fs_out (hout _) hlocks hw hP hS hX (show (uc + c114) ≤ mc by omega) (show (us + s115) ≤ ms by omega) hq)
          refine fs_cs (k := (uc + c114)) (n := (us + s115)) rfl rfl ?_
          replace hq := fs_ko_some hq
          rcases hq with ⟨rfl, hq⟩ | ⟨a117, rfl, hq⟩
          · refine W.eq (g2 := F0 m 39 ls (.null :: .ref a107 :: .int x113 :: [])) rfl ?_
            obtain ⟨c118, s119, hc_, hs_, hq⟩ := hq
            refine fs_cS B hl.1 hP hS (kw_LN_pair hE hq) (fs_tb_at 843 tw_843 rfl) (fs_tb_at 844 tw_844 rfl) (fs_tb_at 89 tw_89 rfl) (fs_tb_at 845 tw_845 rfl) (by decide) (show (parseMethodDescriptor y_LN_pair.desc).map (fun d => d.parameters.length) = some 3 by decide +kernel) rfl d_LN_terms_39 (fs_rm (k := 0) (by omega) (by omega) (by omega) (by omega) rfl) (fun v_ h120 H locs hq hP hS => ?_) (fun C_ a_ h_ H locs hq hP hS hX => fs_out (hout _) hlocks hw hP hS hX (show ((uc + c114) + c118) ≤ mc by omega) (show ((us + s115) + s119) ≤ ms by omega) hq)
            refine fs_cs (k := ((uc + c114) + c118)) (n := ((us + s115) + s119)) rfl rfl ?_
            replace hq := fs_ko_some hq
            rcases hq with ⟨rfl, hq⟩ | ⟨a121, rfl, hq⟩
            · refine W.eq (g2 := F0 m 42 ls (.null :: [])) rfl ?_
              refine lv_astore_nN (lv' := [(1, .null), (3, .int x113), (0, .ref z0), (2, .int z2)]) hx hb d_LN_terms_42 rfl hl (by decide) rfl (fun ls hl => ?_)
              refine lv_iinc (v := z2 + 1) (lv' := [(2, .int (z2 + 1)), (1, .null), (3, .int x113), (0, .ref z0)]) hx hb d_LN_terms_43 hl (k := 3) rfl rfl (by decide) rfl (fun ls hl => ?_)
              refine lv_goto (tgt := 7) hx hb d_LN_terms_46 (by decide) ?_
              exact ih z0 none (z2 + 1) ((bc - c114) - c118) ((bs - s115) - s119) ((uc + c114) + c118) ((us + s115) + s119) _ _ _ _ hq hP hS (by omega) (by omega) (show lv_has ls 4 [(0, .ref z0), (1, va_rf none), (2, .int (z2 + 1))] from lv_sub hl [3, 1, 0] rfl) kk
            · refine W.eq (g2 := F0 m 42 ls (.ref a121 :: [])) rfl ?_
              refine lv_astore_n (lv' := [(1, .ref a121), (3, .int x113), (0, .ref z0), (2, .int z2)]) hx hb d_LN_terms_42 rfl hl (by decide) rfl (fun ls hl => ?_)
              refine lv_iinc (v := z2 + 1) (lv' := [(2, .int (z2 + 1)), (1, .ref a121), (3, .int x113), (0, .ref z0)]) hx hb d_LN_terms_43 hl (k := 3) rfl rfl (by decide) rfl (fun ls hl => ?_)
              refine lv_goto (tgt := 7) hx hb d_LN_terms_46 (by decide) ?_
              exact ih z0 (some a121) (z2 + 1) ((bc - c114) - c118) ((bs - s115) - s119) ((uc + c114) + c118) ((us + s115) + s119) _ _ _ _ hq hP hS (by omega) (by omega) (show lv_has ls 4 [(0, .ref z0), (1, va_rf (some a121)), (2, .int (z2 + 1))] from lv_sub hl [3, 1, 0] rfl) kk
          · refine W.eq (g2 := F0 m 39 ls (.ref a117 :: .ref a107 :: .int x113 :: [])) rfl ?_
            obtain ⟨c122, s123, hc_, hs_, hq⟩ := hq
            refine fs_cS B hl.1 hP hS (kw_LN_pair hE hq) (fs_tb_at 843 tw_843 rfl) (fs_tb_at 844 tw_844 rfl) (fs_tb_at 89 tw_89 rfl) (fs_tb_at 845 tw_845 rfl) (by decide) (show (parseMethodDescriptor y_LN_pair.desc).map (fun d => d.parameters.length) = some 3 by decide +kernel) rfl d_LN_terms_39 (fs_rm (k := 0) (by omega) (by omega) (by omega) (by omega) rfl) (fun v_ h124 H locs hq hP hS => ?_) (fun C_ a_ h_ H locs hq hP hS hX => fs_out (hout _) hlocks hw hP hS hX (show ((uc + c114) + c122) ≤ mc by omega) (show ((us + s115) + s123) ≤ ms by omega) hq)
            refine fs_cs (k := ((uc + c114) + c122)) (n := ((us + s115) + s123)) rfl rfl ?_
            replace hq := fs_ko_some hq
            rcases hq with ⟨rfl, hq⟩ | ⟨a125, rfl, hq⟩
            · refine W.eq (g2 := F0 m 42 ls (.null :: [])) rfl ?_
              refine lv_astore_nN (lv' := [(1, .null), (3, .int x113), (0, .ref z0), (2, .int z2)]) hx hb d_LN_terms_42 rfl hl (by decide) rfl (fun ls hl => ?_)
              refine lv_iinc (v := z2 + 1) (lv' := [(2, .int (z2 + 1)), (1, .null), (3, .int x113), (0, .ref z0)]) hx hb d_LN_terms_43 hl (k := 3) rfl rfl (by decide) rfl (fun ls hl => ?_)
              refine lv_goto (tgt := 7) hx hb d_LN_terms_46 (by decide) ?_
              exact ih z0 none (z2 + 1) ((bc - c114) - c122) ((bs - s115) - s123) ((uc + c114) + c122) ((us + s115) + s123) _ _ _ _ hq hP hS (by omega) (by omega) (show lv_has ls 4 [(0, .ref z0), (1, va_rf none), (2, .int (z2 + 1))] from lv_sub hl [3, 1, 0] rfl) kk
            · refine W.eq (g2 := F0 m 42 ls (.ref a125 :: [])) rfl ?_
              refine lv_astore_n (lv' := [(1, .ref a125), (3, .int x113), (0, .ref z0), (2, .int z2)]) hx hb d_LN_terms_42 rfl hl (by decide) rfl (fun ls hl => ?_)
              refine lv_iinc (v := z2 + 1) (lv' := [(2, .int (z2 + 1)), (1, .ref a125), (3, .int x113), (0, .ref z0)]) hx hb d_LN_terms_43 hl (k := 3) rfl rfl (by decide) rfl (fun ls hl => ?_)
              refine lv_goto (tgt := 7) hx hb d_LN_terms_46 (by decide) ?_
              exact ih z0 (some a125) (z2 + 1) ((bc - c114) - c122) ((bs - s115) - s123) ((uc + c114) + c122) ((us + s115) + s123) _ _ _ _ hq hP hS (by omega) (by omega) (show lv_has ls 4 [(0, .ref z0), (1, va_rf (some a125)), (2, .int (z2 + 1))] from lv_sub hl [3, 1, 0] rfl) kk
set_option maxHeartbeats 4000000 in
set_option maxRecDepth 100000 in
theorem kw_LN_terms {l : Launch} {s00 : State} {E : fs_E} (hE : fs_SE l s00 E) {self : Nat → Nat → fs_E → fs_Hp → Nat → fs_Ps → Prop} {fn ln : Nat} (hself : ∀ {c9 s9 : Nat} {h9 : fs_Hp} {q0 : Nat} {P9 : fs_Ps}, self c9 s9 E h9 q0 P9 → fs_Ct l s00 E.1 y_LN_logic (.code y_LN_logic b_LN_logic 4 (some ((.object "FormulaSheet$Part")))) { frames := fn, cells := c9, slots := s9, locals := ln } [.ref q0] h9 P9) {mc ms : Nat} {h : fs_Hp} {a0 : Nat} {Post : fs_Ps} (hq : w_LN_terms self mc ms E h a0 Post) : fs_Ct l s00 E.1 y_LN_terms (.code y_LN_terms b_LN_terms 4 (some ((.object "FormulaSheet$Part")))) { frames := fn + 10, cells := mc, slots := ms, locals := ln + 141 } [.ref a0] h Post := by
  refine fs_Ct.ofR hE.1 (by decide) ?_
  intro p e R s m below meth c hRf hRl hRc hRs B hout hP
  skip
  obtain ⟨hx, hb, hr, hml, hown, hts, hlocks, hname, hK, hw, htr⟩ := id B
  have hown : s.vm.findClass "FormulaSheet$Line" = some m.cls := hown
  have hS := hw.S
  have hl := lv_entry ([.ref a0]) (n := 4) (Nat.le_of_ble_eq_true rfl)
  rw [lg_entry_eq]
  generalize (lg_sl ([.ref a0]) ++ List.replicate (4 - (lg_sl ([.ref a0])).length) Slot.unset).toArray = ls at hl ⊢
  have hl : lv_has ls 4 [(0, .ref a0)] := hl
  unfold w_LN_terms at hq
  refine lv_aload_n hx hb d_LN_terms_0 rfl (lv_at hl 0 rfl) ?_
  obtain ⟨c101, s102, hc_, hs_, hq⟩ := hq
  obtain ⟨hi_, hq⟩ := hq
  obtain ⟨fs_, he_⟩ := fs_isc_some hi_
  refine fs_cV B hl.1 hP hS (kw_LN_product hE hself hq) (fs_tb_at 633 tw_633 rfl) he_ rfl (fs_tb_at 635 tw_635 rfl) (fs_tb_at 20 tw_20 rfl) (fs_tb_at 89 tw_89 rfl) (fs_tb_at 636 tw_636 rfl) (by decide) (show (parseMethodDescriptor y_LN_product.desc).map (fun d => d.parameters.length) = some 0 by decide +kernel) rfl d_LN_terms_1 (fs_rm (k := 0) (by omega) (by omega) (by omega) (by omega) rfl) (fun v_ h103 H locs hq hP hS => ?_) (fun C_ a_ h_ H locs hq hP hS hX => fs_out (hout _) hlocks hw hP hS hX (show (0 + c101) ≤ mc by omega) (show (0 + s102) ≤ ms by omega) hq)
  refine fs_cs (k := (0 + c101)) (n := (0 + s102)) rfl rfl ?_
  replace hq := fs_ko_some hq
  rcases hq with ⟨rfl, hq⟩ | ⟨a104, rfl, hq⟩
  · refine W.eq (g2 := F0 m 4 ls (.null :: [])) rfl ?_
    refine lv_astore_nN (lv' := [(1, .null), (0, .ref a0)]) hx hb d_LN_terms_4 rfl hl (by decide) rfl (fun ls hl => ?_)
    refine lv_iconst (v := 0) hx hb d_LN_terms_5 (by decide) ?_
    refine lv_istore_n (lv' := [(2, .int 0), (1, .null), (0, .ref a0)]) hx hb d_LN_terms_6 rfl hl (by decide) rfl (fun ls hl => ?_)
    obtain ⟨n132, hq⟩ := hq
    refine lw_w_LN_terms_7 hE hself B hout (by omega) (by omega) hRc hRs _ n132 a0 none 0 (mc - c101) (ms - s102) (0 + c101) (0 + s102) _ _ _ _ hq hP hS (by omega) (by omega) (show lv_has ls 4 [(0, .ref a0), (1, va_rf none), (2, .int 0)] from lv_sub hl [2, 1, 0] rfl) (fun y126 bc128 bs129 uc130 us131 h127 H locs ls hq hP hS hu1 hu2 hl => ?_)
    cases y126 with
    | none =>
      have hl : lv_has ls 4 [(0, .ref a0), (1, .null)] := hl
      refine lv_aload_nN hx hb d_LN_terms_49 rfl (lv_at hl 1 rfl) ?_
      exact fs_aret hx hb hr (Or.inl ⟨_, rfl⟩) (Or.inl rfl) hlocks hw hP hS (by omega) (by omega) hq d_LN_terms_50
    | some a134 =>
      have hl : lv_has ls 4 [(0, .ref a0), (1, .ref a134)] := hl
      refine lv_aload_n hx hb d_LN_terms_49 rfl (lv_at hl 1 rfl) ?_
      exact fs_aret hx hb hr (Or.inl ⟨_, rfl⟩) (Or.inr ⟨_, rfl⟩) hlocks hw hP hS (by omega) (by omega) hq d_LN_terms_50
  · refine W.eq (g2 := F0 m 4 ls (.ref a104 :: [])) rfl ?_
    refine lv_astore_n (lv' := [(1, .ref a104), (0, .ref a0)]) hx hb d_LN_terms_4 rfl hl (by decide) rfl (fun ls hl => ?_)
    refine lv_iconst (v := 0) hx hb d_LN_terms_5 (by decide) ?_
    refine lv_istore_n (lv' := [(2, .int 0), (1, .ref a104), (0, .ref a0)]) hx hb d_LN_terms_6 rfl hl (by decide) rfl (fun ls hl => ?_)
    obtain ⟨n141, hq⟩ := hq
    refine lw_w_LN_terms_7 hE hself B hout (by omega) (by omega) hRc hRs _ n141 a0 (some a104) 0 (mc - c101) (ms - s102) (0 + c101) (0 + s102) _ _ _ _ hq hP hS (by omega) (by omega) (show lv_has ls 4 [(0, .ref a0), (1, va_rf (some a104)), (2, .int 0)] from lv_sub hl [2, 1, 0] rfl) (fun y135 bc137 bs138 uc139 us140 h136 H locs ls hq hP hS hu1 hu2 hl => ?_)
    cases y135 with
    | none =>
      have hl : lv_has ls 4 [(0, .ref a0), (1, .null)] := hl
      refine lv_aload_nN hx hb d_LN_terms_49 rfl (lv_at hl 1 rfl) ?_
      exact fs_aret hx hb hr (Or.inl ⟨_, rfl⟩) (Or.inl rfl) hlocks hw hP hS (by omega) (by omega) hq d_LN_terms_50
    | some a143 =>
      have hl : lv_has ls 4 [(0, .ref a0), (1, .ref a143)] := hl
      refine lv_aload_n hx hb d_LN_terms_49 rfl (lv_at hl 1 rfl) ?_
      exact fs_aret hx hb hr (Or.inl ⟨_, rfl⟩) (Or.inr ⟨_, rfl⟩) hlocks hw hP hS (by omega) (by omega) hq d_LN_terms_50
def w_LN_comparison_J52 (self : Nat → Nat → fs_E → fs_Hp → Nat → fs_Ps → Prop) (E : fs_E) (Post : fs_Ps) (z0 : Nat) (z1 : Nat) (bc bs : Nat) (h1 : fs_Hp) : Prop := fs_isc h1 z0 1 ∧ (w_LN_takeNext E h1 z0 (fs_ki (fun x102 h101 => ∃ c103 s104 : Nat, c103 ≤ bc ∧ s104 ≤ bs ∧ (fs_isc h101 z0 1 ∧ (w_LN_terms self c103 s104 E h101 z0 (fs_ko (fun h105 => ∃ c107 s108 : Nat, c107 ≤ (bc - c103) ∧ s108 ≤ (bs - s104) ∧ (w_LN_pair c107 s108 E h105 x102 (some z1) none (fs_ko (fun h109 => Post (.inl (some (.null))) h109) (fun a110 h109 => Post (.inl (some (.ref a110))) h109) (fun C_ h_ => Post (.inr C_) h_)))) (fun a106 h105 => ∃ c111 s112 : Nat, c111 ≤ (bc - c103) ∧ s112 ≤ (bs - s104) ∧ (w_LN_pair c111 s112 E h105 x102 (some z1) (some a106) (fs_ko (fun h113 => Post (.inl (some (.null))) h113) (fun a114 h113 => Post (.inl (some (.ref a114))) h113) (fun C_ h_ => Post (.inr C_) h_)))) (fun C_ h_ => Post (.inr C_) h_))))) (fun C_ h_ => Post (.inr C_) h_)))
def w_LN_comparison (self : Nat → Nat → fs_E → fs_Hp → Nat → fs_Ps → Prop) (mc ms : Nat) (E : fs_E) (h : fs_Hp) (a0 : Nat) (Post : fs_Ps) : Prop := fs_isc h a0 1 ∧ (w_LN_take E h a0 33 (fs_ki (fun x116 h115 => (if x116 = 0 then ∃ c118 s119 : Nat, c118 ≤ mc ∧ s119 ≤ ms ∧ (fs_isc h115 a0 1 ∧ (w_LN_terms self c118 s119 E h115 a0 (fs_ko (fun h120 => Post (.inl (some (.null))) h120) (fun a121 h120 => fs_isc h120 a0 1 ∧ (w_LN_nextIs E h120 a0 61 35 (fs_ki (fun x123 h122 => (if x123 = 0 then fs_isc h122 a0 1 ∧ (w_LN_nextIs E h122 a0 60 62 (fs_ki (fun x126 h125 => (if x126 = 0 then Post (.inl (some (.ref a121))) h125 else w_LN_comparison_J52 self E Post a0 a121 (mc - c118) (ms - s119) h125)) (fun C_ h_ => Post (.inr C_) h_))) else w_LN_comparison_J52 self E Post a0 a121 (mc - c118) (ms - s119) h122)) (fun C_ h_ => Post (.inr C_) h_)))) (fun C_ h_ => Post (.inr C_) h_)))) else ∃ c128 s129 : Nat, c128 ≤ mc ∧ s129 ≤ ms ∧ (fs_isc h115 a0 1 ∧ (w_LN_terms self c128 s129 E h115 a0 (fs_ko (fun h130 => ∃ c132 s133 : Nat, c132 ≤ (mc - c128) ∧ s133 ≤ (ms - s129) ∧ (w_LN_single c132 s133 E h130 33 none (fs_ko (fun h134 => Post (.inl (some (.null))) h134) (fun a135 h134 => Post (.inl (some (.ref a135))) h134) (fun C_ h_ => Post (.inr C_) h_)))) (fun a131 h130 => ∃ c136 s137 : Nat, c136 ≤ (mc - c128) ∧ s137 ≤ (ms - s129) ∧ (w_LN_single c136 s137 E h130 33 (some a131) (fs_ko (fun h138 => Post (.inl (some (.null))) h138) (fun a139 h138 => Post (.inl (some (.ref a139))) h138) (fun C_ h_ => Post (.inr C_) h_)))) (fun C_ h_ => Post (.inr C_) h_)))))) (fun C_ h_ => Post (.inr C_) h_)))
set_option maxHeartbeats 4000000 in
set_option maxRecDepth 100000 in
theorem kw_LN_comparison {l : Launch} {s00 : State} {E : fs_E} (hE : fs_SE l s00 E) {self : Nat → Nat → fs_E → fs_Hp → Nat → fs_Ps → Prop} {fn ln : Nat} (hself : ∀ {c9 s9 : Nat} {h9 : fs_Hp} {q0 : Nat} {P9 : fs_Ps}, self c9 s9 E h9 q0 P9 → fs_Ct l s00 E.1 y_LN_logic (.code y_LN_logic b_LN_logic 4 (some ((.object "FormulaSheet$Part")))) { frames := fn, cells := c9, slots := s9, locals := ln } [.ref q0] h9 P9) {mc ms : Nat} {h : fs_Hp} {a0 : Nat} {Post : fs_Ps} (hq : w_LN_comparison self mc ms E h a0 Post) : fs_Ct l s00 E.1 y_LN_comparison (.code y_LN_comparison b_LN_comparison 3 (some ((.object "FormulaSheet$Part")))) { frames := fn + 11, cells := mc, slots := ms, locals := ln + 158 } [.ref a0] h Post := by
  refine fs_Ct.ofR hE.1 (by decide) ?_
  intro p e R s m below meth c hRf hRl hRc hRs B hout hP
  skip
  obtain ⟨hx, hb, hr, hml, hown, hts, hlocks, hname, hK, hw, htr⟩ := id B
  have hown : s.vm.findClass "FormulaSheet$Line" = some m.cls := hown
  have hS := hw.S
  have hJ52 : ∀ (z0 : Nat) (z1 : Nat) (bc bs uc us : Nat) (h1 : fs_Hp) (H : Heap) (locs : List Loc) (ls : Array Slot), w_LN_comparison_J52 self E Post z0 z1 bc bs h1 → fs_P E.1.1 fs_cl (fs_A s00) h1 H → va_S (fs_A s00) s00.heap H locs → uc + bc ≤ mc → us + bs ≤ ms → lv_has ls 3 [(0, .ref z0), (1, .ref z1)] → W p l e R s m ([.ref a0] : List Value).toArray below meth c H locs uc us (fx_MQ below (fs_Qc s00 E.1 Post) ([.ref a0] : List Value).toArray s mc ms (fs_A s00)) (F0 m 52 ls ([])) := by
    intro z0 z1 bc bs uc us h1 H locs ls hq hP hS hu1 hu2 hl
    unfold w_LN_comparison_J52 at hq
    refine lv_aload_n hx hb d_LN_comparison_52 rfl (lv_at hl 0 rfl) ?_
    obtain ⟨hi_, hq⟩ := hq
    obtain ⟨fs_, he_⟩ := fs_isc_some hi_
    refine fs_cV B hl.1 hP hS (kw_LN_takeNext hE hq) (fs_tb_at 658 tw_658 rfl) he_ rfl (fs_tb_at 660 tw_660 rfl) (fs_tb_at 26 tw_26 rfl) (fs_tb_at 89 tw_89 rfl) (fs_tb_at 661 tw_661 rfl) (by decide) (show (parseMethodDescriptor y_LN_takeNext.desc).map (fun d => d.parameters.length) = some 0 by decide +kernel) rfl d_LN_comparison_53 (fs_rm (k := 0) (by omega) (by omega) (by omega) (by omega) rfl) (fun v_ h101 H locs hq hP hS => ?_) (fun C_ a_ h_ H locs hq hP hS hX => fs_out (hout _) hlocks hw hP hS hX (show uc ≤ mc by omega) (show us ≤ ms by omega) hq)
    refine fs_cs (k := uc) (n := us) rfl rfl ?_
    replace hq := fs_ki_some hq
    obtain ⟨x102, rfl, hq⟩ := hq
    refine W.eq (g2 := F0 m 56 ls (.int x102 :: [])) rfl ?_
    refine lv_istore_n (lv' := [(2, .int x102), (0, .ref z0), (1, .ref z1)]) hx hb d_LN_comparison_56 rfl hl (by decide) rfl (fun ls hl => ?_)
    refine lv_iload_n hx hb d_LN_comparison_57 rfl (lv_at hl 0 rfl) ?_
    refine lv_aload_n hx hb d_LN_comparison_58 rfl (lv_at hl 2 rfl) ?_
    refine lv_aload_n hx hb d_LN_comparison_59 rfl (lv_at hl 1 rfl) ?_
    obtain ⟨c103, s104, hc_, hs_, hq⟩ := hq
    obtain ⟨hi_, hq⟩ := hq
    obtain ⟨fs_, he_⟩ := fs_isc_some hi_
    refine fs_cV B hl.1 hP hS (kw_LN_terms hE hself hq) (fs_tb_at 629 tw_629 rfl) he_ rfl (fs_tb_at 631 tw_631 rfl) (fs_tb_at 19 tw_19 rfl) (fs_tb_at 89 tw_89 rfl) (fs_tb_at 632 tw_632 rfl) (by decide) (show (parseMethodDescriptor y_LN_terms.desc).map (fun d => d.parameters.length) = some 0 by decide +kernel) rfl d_LN_comparison_60 (fs_rm (k := 2) (by omega) (by omega) (by omega) (by omega) rfl) (fun v_ h105 H locs hq hP hS => ?_) (fun C_ a_ h_ H locs hq hP hS hX => fs_out (hout _) hlocks hw hP hS hX (show (uc + c103) ≤ mc by omega) (show (us + s104) ≤ ms by omega) hq)
    refine fs_cs (k := (uc + c103)) (n := (us + s104)) rfl rfl ?_
    replace hq := fs_ko_some hq
    rcases hq with ⟨rfl, hq⟩ | ⟨a106, rfl, hq⟩
    · refine W.eq (g2 := F0 m 63 ls (.null :: .ref z1 :: .int x102 :: [])) rfl ?_
      obtain ⟨c107, s108, hc_, hs_, hq⟩ := hq
      refine fs_cS B hl.1 hP hS (kw_LN_pair hE hq) (fs_tb_at 843 tw_843 rfl) (fs_tb_at 844 tw_844 rfl) (fs_tb_at 89 tw_89 rfl) (fs_tb_at 845 tw_845 rfl) (by decide) (show (parseMethodDescriptor y_LN_pair.desc).map (fun d => d.parameters.length) = some 3 by decide +kernel) rfl d_LN_comparison_63 (fs_rm (k := 0) (by omega) (by omega) (by omega) (by omega) rfl) (fun v_ h109 H locs hq hP hS => ?_) (fun C_ a_ h_ H locs hq hP hS hX => fs_out (hout _) hlocks hw hP hS hX (show ((uc + c103) + c107) ≤ mc by omega) (show ((us + s104) + s108) ≤ ms by omega) hq)
      refine fs_cs (k := ((uc + c103) + c107)) (n := ((us + s104) + s108)) rfl rfl ?_
      replace hq := fs_ko_some hq
      rcases hq with ⟨rfl, hq⟩ | ⟨a110, rfl, hq⟩
      · refine W.eq (g2 := F0 m 66 ls (.null :: [])) rfl ?_
        exact fs_aret hx hb hr (Or.inl ⟨_, rfl⟩) (Or.inl rfl) hlocks hw hP hS (by omega) (by omega) hq d_LN_comparison_66
      · refine W.eq (g2 := F0 m 66 ls (.ref a110 :: [])) rfl ?_
        exact fs_aret hx hb hr (Or.inl ⟨_, rfl⟩) (Or.inr ⟨_, rfl⟩) hlocks hw hP hS (by omega) (by omega) hq d_LN_comparison_66
    · refine W.eq (g2 := F0 m 63 ls (.ref a106 :: .ref z1 :: .int x102 :: [])) rfl ?_
      obtain ⟨c111, s112, hc_, hs_, hq⟩ := hq
      refine fs_cS B hl.1 hP hS (kw_LN_pair hE hq) (fs_tb_at 843 tw_843 rfl) (fs_tb_at 844 tw_844 rfl) (fs_tb_at 89 tw_89 rfl) (fs_tb_at 845 tw_845 rfl) (by decide) (show (parseMethodDescriptor y_LN_pair.desc).map (fun d => d.parameters.length) = some 3 by decide +kernel) rfl d_LN_comparison_63 (fs_rm (k := 0) (by omega) (by omega) (by omega) (by omega) rfl) (fun v_ h113 H locs hq hP hS => ?_) (fun C_ a_ h_ H locs hq hP hS hX => fs_out (hout _) hlocks hw hP hS hX (show ((uc + c103) + c111) ≤ mc by omega) (show ((us + s104) + s112) ≤ ms by omega) hq)
      refine fs_cs (k := ((uc + c103) + c111)) (n := ((us + s104) + s112)) rfl rfl ?_
      replace hq := fs_ko_some hq
      rcases hq with ⟨rfl, hq⟩ | ⟨a114, rfl, hq⟩
      · refine W.eq (g2 := F0 m 66 ls (.null :: [])) rfl ?_
        exact fs_aret hx hb hr (Or.inl ⟨_, rfl⟩) (Or.inl rfl) hlocks hw hP hS (by omega) (by omega) hq d_LN_comparison_66
      · refine W.eq (g2 := F0 m 66 ls (.ref a114 :: [])) rfl ?_
        exact fs_aret hx hb hr (Or.inl ⟨_, rfl⟩) (Or.inr ⟨_, rfl⟩) hlocks hw hP hS (by omega) (by omega) hq d_LN_comparison_66
  have hl := lv_entry ([.ref a0]) (n := 3) (Nat.le_of_ble_eq_true rfl)
  rw [lg_entry_eq]
  generalize (lg_sl ([.ref a0]) ++ List.replicate (3 - (lg_sl ([.ref a0])).length) Slot.unset).toArray = ls at hl ⊢
  have hl : lv_has ls 3 [(0, .ref a0)] := hl
  unfold w_LN_comparison at hq
  refine lv_aload_n hx hb d_LN_comparison_0 rfl (lv_at hl 0 rfl) ?_
  refine lv_bipush (v := 33) hx hb d_LN_comparison_1 (by decide) ?_
  obtain ⟨hi_, hq⟩ := hq
  obtain ⟨fs_, he_⟩ := fs_isc_some hi_
  refine fs_cV B hl.1 hP hS (kw_LN_take hE hq) (fs_tb_at 621 tw_621 rfl) he_ rfl (fs_tb_at 623 tw_623 rfl) (fs_tb_at 17 tw_17 rfl) (fs_tb_at 89 tw_89 rfl) (fs_tb_at 624 tw_624 rfl) (by decide) (show (parseMethodDescriptor y_LN_take.desc).map (fun d => d.parameters.length) = some 1 by decide +kernel) rfl d_LN_comparison_3 (fs_rm (k := 0) (by omega) (by omega) (by omega) (by omega) rfl) (fun v_ h115 H locs hq hP hS => ?_) (fun C_ a_ h_ H locs hq hP hS hX => fs_out (hout _) hlocks hw hP hS hX (show 0 ≤ mc by omega) (show 0 ≤ ms by omega) hq)
  refine fs_cs (k := 0) (n := 0) rfl rfl ?_
  replace hq := fs_ki_some hq
  obtain ⟨x116, rfl, hq⟩ := hq
  refine W.eq (g2 := F0 m 6 ls (.int x116 :: [])) rfl ?_
  refine lv_if_eq (tgt := 19) hx hb d_LN_comparison_6 (by decide) (fun c_117 => ?_) (fun c_117 => ?_)
  · have hq := fs_wifp c_117 hq
    refine lv_aload_n hx hb d_LN_comparison_19 rfl (lv_at hl 0 rfl) ?_
    obtain ⟨c118, s119, hc_, hs_, hq⟩ := hq
    obtain ⟨hi_, hq⟩ := hq
    obtain ⟨fs_, he_⟩ := fs_isc_some hi_
    refine fs_cV B hl.1 hP hS (kw_LN_terms hE hself hq) (fs_tb_at 629 tw_629 rfl) he_ rfl (fs_tb_at 631 tw_631 rfl) (fs_tb_at 19 tw_19 rfl) (fs_tb_at 89 tw_89 rfl) (fs_tb_at 632 tw_632 rfl) (by decide) (show (parseMethodDescriptor y_LN_terms.desc).map (fun d => d.parameters.length) = some 0 by decide +kernel) rfl d_LN_comparison_20 (fs_rm (k := 0) (by omega) (by omega) (by omega) (by omega) rfl) (fun v_ h120 H locs hq hP hS => ?_) (fun C_ a_ h_ H locs hq hP hS hX => fs_out (hout _) hlocks hw hP hS hX (show (0 + c118) ≤ mc by omega) (show (0 + s119) ≤ ms by omega) hq)
    refine fs_cs (k := (0 + c118)) (n := (0 + s119)) rfl rfl ?_
    replace hq := fs_ko_some hq
    rcases hq with ⟨rfl, hq⟩ | ⟨a121, rfl, hq⟩
    · refine W.eq (g2 := F0 m 23 ls (.null :: [])) rfl ?_
      refine lv_astore_nN (lv' := [(1, .null), (0, .ref a0)]) hx hb d_LN_comparison_23 rfl hl (by decide) rfl (fun ls hl => ?_)
      refine lv_aload_nN hx hb d_LN_comparison_24 rfl (lv_at hl 0 rfl) ?_
      refine lv_ifnullN (tgt := 50) hx hb d_LN_comparison_25 (by decide) ?_
      refine lv_aload_nN hx hb d_LN_comparison_50 rfl (lv_at hl 0 rfl) ?_
      exact fs_aret hx hb hr (Or.inl ⟨_, rfl⟩) (Or.inl rfl) hlocks hw hP hS (by omega) (by omega) hq d_LN_comparison_51
    · refine W.eq (g2 := F0 m 23 ls (.ref a121 :: [])) rfl ?_
      refine lv_astore_n (lv' := [(1, .ref a121), (0, .ref a0)]) hx hb d_LN_comparison_23 rfl hl (by decide) rfl (fun ls hl => ?_)
      refine lv_aload_n hx hb d_LN_comparison_24 rfl (lv_at hl 0 rfl) ?_
      refine lv_ifnull hx hb d_LN_comparison_25 ?_
      refine lv_aload_n hx hb d_LN_comparison_28 rfl (lv_at hl 1 rfl) ?_
      refine lv_bipush (v := 61) hx hb d_LN_comparison_29 (by decide) ?_
      refine lv_bipush (v := 35) hx hb d_LN_comparison_31 (by decide) ?_
      obtain ⟨hi_, hq⟩ := hq
      obtain ⟨fs_, he_⟩ := fs_isc_some hi_
      refine fs_cV B hl.1 hP hS (kw_LN_nextIs hE hq) (fs_tb_at 839 tw_839 rfl) he_ rfl (fs_tb_at 841 tw_841 rfl) (fs_tb_at 35 tw_35 rfl) (fs_tb_at 89 tw_89 rfl) (fs_tb_at 842 tw_842 rfl) (by decide) (show (parseMethodDescriptor y_LN_nextIs.desc).map (fun d => d.parameters.length) = some 2 by decide +kernel) rfl d_LN_comparison_33 (fs_rm (k := 0) (by omega) (by omega) (by omega) (by omega) rfl) (fun v_ h122 H locs hq hP hS => ?_) (fun C_ a_ h_ H locs hq hP hS hX => fs_out (hout _) hlocks hw hP hS hX (show (0 + c118) ≤ mc by omega) (show (0 + s119) ≤ ms by omega) hq)
      refine fs_cs (k := (0 + c118)) (n := (0 + s119)) rfl rfl ?_
      replace hq := fs_ki_some hq
      obtain ⟨x123, rfl, hq⟩ := hq
      refine W.eq (g2 := F0 m 36 ls (.int x123 :: [])) rfl ?_
      refine lv_if_ne (tgt := 52) hx hb d_LN_comparison_36 (by decide) (fun c_124 => ?_) (fun c_124 => ?_)
      · have hq := fs_wifn c_124 hq
        exact hJ52 a0 a121 (mc - c118) (ms - s119) (0 + c118) (0 + s119) _ _ _ _ hq hP hS (by omega) (by omega) (show lv_has ls 3 [(0, .ref a0), (1, .ref a121)] from lv_sub hl [1, 0] rfl)
      · have hq := fs_wifp c_124 hq
        refine lv_aload_n hx hb d_LN_comparison_39 rfl (lv_at hl 1 rfl) ?_
        refine lv_bipush (v := 60) hx hb d_LN_comparison_40 (by decide) ?_
        refine lv_bipush (v := 62) hx hb d_LN_comparison_42 (by decide) ?_
        obtain ⟨hi_, hq⟩ := hq
        obtain ⟨fs_, he_⟩ := fs_isc_some hi_
        refine fs_cV B hl.1 hP hS (kw_LN_nextIs hE hq) (fs_tb_at 839 tw_839 rfl) he_ rfl (fs_tb_at 841 tw_841 rfl) (fs_tb_at 35 tw_35 rfl) (fs_tb_at 89 tw_89 rfl) (fs_tb_at 842 tw_842 rfl) (by decide) (show (parseMethodDescriptor y_LN_nextIs.desc).map (fun d => d.parameters.length) = some 2 by decide +kernel) rfl d_LN_comparison_44 (fs_rm (k := 0) (by omega) (by omega) (by omega) (by omega) rfl) (fun v_ h125 H locs hq hP hS => ?_) (fun C_ a_ h_ H locs hq hP hS hX => fs_out (hout _) hlocks hw hP hS hX (show (0 + c118) ≤ mc by omega) (show (0 + s119) ≤ ms by omega) hq)
        refine fs_cs (k := (0 + c118)) (n := (0 + s119)) rfl rfl ?_
        replace hq := fs_ki_some hq
        obtain ⟨x126, rfl, hq⟩ := hq
        refine W.eq (g2 := F0 m 47 ls (.int x126 :: [])) rfl ?_
        refine lv_if_ne (tgt := 52) hx hb d_LN_comparison_47 (by decide) (fun c_127 => ?_) (fun c_127 => ?_)
        · have hq := fs_wifn c_127 hq
          exact hJ52 a0 a121 (mc - c118) (ms - s119) (0 + c118) (0 + s119) _ _ _ _ hq hP hS (by omega) (by omega) (show lv_has ls 3 [(0, .ref a0), (1, .ref a121)] from lv_sub hl [1, 0] rfl)
        · have hq := fs_wifp c_127 hq
          refine lv_aload_n hx hb d_LN_comparison_50 rfl (lv_at hl 0 rfl) ?_
          exact fs_aret hx hb hr (Or.inl ⟨_, rfl⟩) (Or.inr ⟨_, rfl⟩) hlocks hw hP hS (by omega) (by omega) hq d_LN_comparison_51
  · have hq := fs_wifn c_117 hq
    refine lv_bipush (v := 33) hx hb d_LN_comparison_9 (by decide) ?_
    refine lv_aload_n hx hb d_LN_comparison_11 rfl (lv_at hl 0 rfl) ?_
    obtain ⟨c128, s129, hc_, hs_, hq⟩ := hq
    obtain ⟨hi_, hq⟩ := hq
    obtain ⟨fs_, he_⟩ := fs_isc_some hi_
    refine fs_cV B hl.1 hP hS (kw_LN_terms hE hself hq) (fs_tb_at 629 tw_629 rfl) he_ rfl (fs_tb_at 631 tw_631 rfl) (fs_tb_at 19 tw_19 rfl) (fs_tb_at 89 tw_89 rfl) (fs_tb_at 632 tw_632 rfl) (by decide) (show (parseMethodDescriptor y_LN_terms.desc).map (fun d => d.parameters.length) = some 0 by decide +kernel) rfl d_LN_comparison_12 (fs_rm (k := 1) (by omega) (by omega) (by omega) (by omega) rfl) (fun v_ h130 H locs hq hP hS => ?_) (fun C_ a_ h_ H locs hq hP hS hX => fs_out (hout _) hlocks hw hP hS hX (show (0 + c128) ≤ mc by omega) (show (0 + s129) ≤ ms by omega) hq)
    refine fs_cs (k := (0 + c128)) (n := (0 + s129)) rfl rfl ?_
    replace hq := fs_ko_some hq
    rcases hq with ⟨rfl, hq⟩ | ⟨a131, rfl, hq⟩
    · refine W.eq (g2 := F0 m 15 ls (.null :: .int 33 :: [])) rfl ?_
      obtain ⟨c132, s133, hc_, hs_, hq⟩ := hq
      refine fs_cS B hl.1 hP hS (kw_LN_single hE hq) (fs_tb_at 824 tw_824 rfl) (fs_tb_at 825 tw_825 rfl) (fs_tb_at 89 tw_89 rfl) (fs_tb_at 826 tw_826 rfl) (by decide) (show (parseMethodDescriptor y_LN_single.desc).map (fun d => d.parameters.length) = some 2 by decide +kernel) rfl d_LN_comparison_15 (fs_rm (k := 0) (by omega) (by omega) (by omega) (by omega) rfl) (fun v_ h134 H locs hq hP hS => ?_) (fun C_ a_ h_ H locs hq hP hS hX => fs_out (hout _) hlocks hw hP hS hX (show ((0 + c128) + c132) ≤ mc by omega) (show ((0 + s129) + s133) ≤ ms by omega) hq)
      refine fs_cs (k := ((0 + c128) + c132)) (n := ((0 + s129) + s133)) rfl rfl ?_
      replace hq := fs_ko_some hq
      rcases hq with ⟨rfl, hq⟩ | ⟨a135, rfl, hq⟩
      · refine W.eq (g2 := F0 m 18 ls (.null :: [])) rfl ?_
        exact fs_aret hx hb hr (Or.inl ⟨_, rfl⟩) (Or.inl rfl) hlocks hw hP hS (by omega) (by omega) hq d_LN_comparison_18
      · refine W.eq (g2 := F0 m 18 ls (.ref a135 :: [])) rfl ?_
        exact fs_aret hx hb hr (Or.inl ⟨_, rfl⟩) (Or.inr ⟨_, rfl⟩) hlocks hw hP hS (by omega) (by omega) hq d_LN_comparison_18
    · refine W.eq (g2 := F0 m 15 ls (.ref a131 :: .int 33 :: [])) rfl ?_
      obtain ⟨c136, s137, hc_, hs_, hq⟩ := hq
      refine fs_cS B hl.1 hP hS (kw_LN_single hE hq) (fs_tb_at 824 tw_824 rfl) (fs_tb_at 825 tw_825 rfl) (fs_tb_at 89 tw_89 rfl) (fs_tb_at 826 tw_826 rfl) (by decide) (show (parseMethodDescriptor y_LN_single.desc).map (fun d => d.parameters.length) = some 2 by decide +kernel) rfl d_LN_comparison_15 (fs_rm (k := 0) (by omega) (by omega) (by omega) (by omega) rfl) (fun v_ h138 H locs hq hP hS => ?_) (fun C_ a_ h_ H locs hq hP hS hX => fs_out (hout _) hlocks hw hP hS hX (show ((0 + c128) + c136) ≤ mc by omega) (show ((0 + s129) + s137) ≤ ms by omega) hq)
      refine fs_cs (k := ((0 + c128) + c136)) (n := ((0 + s129) + s137)) rfl rfl ?_
      replace hq := fs_ko_some hq
      rcases hq with ⟨rfl, hq⟩ | ⟨a139, rfl, hq⟩
      · refine W.eq (g2 := F0 m 18 ls (.null :: [])) rfl ?_
        exact fs_aret hx hb hr (Or.inl ⟨_, rfl⟩) (Or.inl rfl) hlocks hw hP hS (by omega) (by omega) hq d_LN_comparison_18
      · refine W.eq (g2 := F0 m 18 ls (.ref a139 :: [])) rfl ?_
        exact fs_aret hx hb hr (Or.inl ⟨_, rfl⟩) (Or.inr ⟨_, rfl⟩) hlocks hw hP hS (by omega) (by omega) hq d_LN_comparison_18
def w_LN_logic_L7 (self : Nat → Nat → fs_E → fs_Hp → Nat → fs_Ps → Prop) (E : fs_E) (K : Option Nat → Nat → Nat → fs_Hp → Prop) (Post : fs_Ps) : Nat → Nat → Option Nat → Int32 → Nat → Nat → fs_Hp → Prop
  | 0 => fun _ _ _ _ _ _ => False
  | n + 1 => fun z0 z1 z2 bc bs h1 => (match z1 with | none => (if 40 ≤ z2 then K none bc bs h1 else K none bc bs h1) | some a107 => (if 40 ≤ z2 then K (some a107) bc bs h1 else fs_isc h1 z0 1 ∧ (w_LN_nextIs E h1 z0 38 124 (fs_ki (fun x110 h109 => (if x110 = 0 then K (some a107) bc bs h109 else fs_isc h109 z0 1 ∧ (w_LN_takeNext E h109 z0 (fs_ki (fun x113 h112 => ∃ c114 s115 : Nat, c114 ≤ bc ∧ s115 ≤ bs ∧ (fs_isc h112 z0 1 ∧ (w_LN_comparison self c114 s115 E h112 z0 (fs_ko (fun h116 => ∃ c118 s119 : Nat, c118 ≤ (bc - c114) ∧ s119 ≤ (bs - s115) ∧ (w_LN_pair c118 s119 E h116 x113 (some a107) none (fs_ko (fun h120 => (w_LN_logic_L7 self E K Post n) z0 none (z2 + 1) ((bc - c114) - c118) ((bs - s115) - s119) h120) (fun a121 h120 => (w_LN_logic_L7 self E K Post n) z0 (some a121) (z2 + 1) ((bc - c114) - c118) ((bs - s115) - s119) h120) (fun C_ h_ => Post (.inr C_) h_)))) (fun a117 h116 => ∃ c122 s123 : Nat, c122 ≤ (bc - c114) ∧ s123 ≤ (bs - s115) ∧ (w_LN_pair c122 s123 E h116 x113 (some a107) (some a117) (fs_ko (fun h124 => (w_LN_logic_L7 self E K Post n) z0 none (z2 + 1) ((bc - c114) - c122) ((bs - s115) - s123) h124) (fun a125 h124 => (w_LN_logic_L7 self E K Post n) z0 (some a125) (z2 + 1) ((bc - c114) - c122) ((bs - s115) - s123) h124) (fun C_ h_ => Post (.inr C_) h_)))) (fun C_ h_ => Post (.inr C_) h_))))) (fun C_ h_ => Post (.inr C_) h_))))) (fun C_ h_ => Post (.inr C_) h_)))))
def w_LN_logic (self : Nat → Nat → fs_E → fs_Hp → Nat → fs_Ps → Prop) (mc ms : Nat) (E : fs_E) (h : fs_Hp) (a0 : Nat) (Post : fs_Ps) : Prop := ∃ c101 s102 : Nat, c101 ≤ mc ∧ s102 ≤ ms ∧ (fs_isc h a0 1 ∧ (w_LN_comparison self c101 s102 E h a0 (fs_ko (fun h103 => (∃ n132 : Nat, w_LN_logic_L7 self E (fun y126 bc128 bs129 h127 => (match y126 with | none => Post (.inl (some (.null))) h127 | some a134 => Post (.inl (some (.ref a134))) h127)) Post n132 a0 none 0 (mc - c101) (ms - s102) h103)) (fun a104 h103 => (∃ n141 : Nat, w_LN_logic_L7 self E (fun y135 bc137 bs138 h136 => (match y135 with | none => Post (.inl (some (.null))) h136 | some a143 => Post (.inl (some (.ref a143))) h136)) Post n141 a0 (some a104) 0 (mc - c101) (ms - s102) h103)) (fun C_ h_ => Post (.inr C_) h_))))
set_option maxHeartbeats 4000000 in
set_option maxRecDepth 100000 in
theorem lw_w_LN_logic_7 {p : Program} {l : Launch} {e : Env} {R : Room} {s : State} {m : MethodId} {args : Array Value} {below : List Frame} {meth : Method} {c : Code} {s00 : State} {E : fs_E} {Post : fs_Ps} {mc ms : Nat} (hE : fs_SE l s00 E) {self : Nat → Nat → fs_E → fs_Hp → Nat → fs_Ps → Prop} {fn ln : Nat} (hself : ∀ {c9 s9 : Nat} {h9 : fs_Hp} {q0 : Nat} {P9 : fs_Ps}, self c9 s9 E h9 q0 P9 → fs_Ct l s00 E.1 y_LN_logic (.code y_LN_logic b_LN_logic 4 (some ((.object "FormulaSheet$Part")))) { frames := fn, cells := c9, slots := s9, locals := ln } [.ref q0] h9 P9) (B : fs_B p l e s m args meth c s00 E.1 y_LN_logic b_LN_logic 4 (some ((.object "FormulaSheet$Part")))) (hout : ∀ pc, ∀ x ∈ c.exceptionTable.toList, covers x pc = false) (hRf : fn + 12 ≤ R.frames) (hRl : ln + 174 ≤ R.locals) (hRc : mc ≤ R.cells) (hRs : ms ≤ R.slots) (K : Option Nat → Nat → Nat → fs_Hp → Prop) : ∀ (n : Nat) (z0 : Nat) (z1 : Option Nat) (z2 : Int32) (bc bs uc us : Nat) (h1 : fs_Hp) (H : Heap) (locs : List Loc) (ls : Array Slot), w_LN_logic_L7 self E K Post n z0 z1 z2 bc bs h1 → fs_P E.1.1 fs_cl (fs_A s00) h1 H → va_S (fs_A s00) s00.heap H locs → uc + bc ≤ mc → us + bs ≤ ms → lv_has ls 4 [(0, .ref z0), (1, va_rf z1), (2, .int z2)] → (∀ (y1 : Option Nat) (bc bs uc us : Nat) (h' : fs_Hp) (H : Heap) (locs : List Loc) (ls : Array Slot), K y1 bc bs h' → fs_P E.1.1 fs_cl (fs_A s00) h' H → va_S (fs_A s00) s00.heap H locs → uc + bc ≤ mc → us + bs ≤ ms → lv_has ls 4 [(0, .ref z0), (1, va_rf y1)] → W p l e R s m args below meth c H locs uc us (fx_MQ below (fs_Qc s00 E.1 Post) args s mc ms (fs_A s00)) (F0 m 49 ls [])) → W p l e R s m args below meth c H locs uc us (fx_MQ below (fs_Qc s00 E.1 Post) args s mc ms (fs_A s00)) (F0 m 7 ls []) := by
  obtain ⟨hx, hb, hr, hml, hown, hts, hlocks, hname, hK, hw, htr⟩ := id B
  have hown : s.vm.findClass "FormulaSheet$Line" = some m.cls := hown
  intro n
  induction n with
  | zero => intro z0 z1 z2 bc bs uc us h1 H locs ls hq; exact False.elim hq
  | succ n ih =>
    intro z0 z1 z2 bc bs uc us h1 H locs ls hq hP hS hu1 hu2 hl kk
    rw [w_LN_logic_L7] at hq
    cases z1 with
    | none =>
      have hl : lv_has ls 4 [(0, .ref z0), (1, .null), (2, .int z2)] := hl
      refine lv_iload_n hx hb d_LN_logic_7 rfl (lv_at hl 2 rfl) ?_
      refine lv_bipush (v := 40) hx hb d_LN_logic_8 (by decide) ?_
      refine lv_icmp_ge (tgt := 49) hx hb d_LN_logic_10 (by decide) (fun c_106 => ?_) (fun c_106 => ?_)
      · have hq := fs_wifp c_106 hq
        exact kk none bc bs uc us _ _ _ _ hq hP hS (by omega) (by omega) (show lv_has ls 4 [(0, .ref z0), (1, va_rf none)] from lv_sub hl [0, 1] rfl)
      · have hq := fs_wifn c_106 hq
        refine lv_aload_nN hx hb d_LN_logic_13 rfl (lv_at hl 1 rfl) ?_
        refine lv_ifnullN (tgt := 49) hx hb d_LN_logic_14 (by decide) ?_
        exact kk none bc bs uc us _ _ _ _ hq hP hS (by omega) (by omega) (show lv_has ls 4 [(0, .ref z0), (1, va_rf none)] from lv_sub hl [0, 1] rfl)
    | some a107 =>
      have hl : lv_has ls 4 [(0, .ref z0), (1, .ref a107), (2, .int z2)] := hl
      refine lv_iload_n hx hb d_LN_logic_7 rfl (lv_at hl 2 rfl) ?_
      refine lv_bipush (v := 40) hx hb d_LN_logic_8 (by decide) ?_
      refine lv_icmp_ge (tgt := 49) hx hb d_LN_logic_10 (by decide) (fun c_108 => ?_) (fun c_108 => ?_)
      · have hq := fs_wifp c_108 hq
        exact kk (some a107) bc bs uc us _ _ _ _ hq hP hS (by omega) (by omega) (show lv_has ls 4 [(0, .ref z0), (1, va_rf (some a107))] from lv_sub hl [0, 1] rfl)
      · have hq := fs_wifn c_108 hq
        refine lv_aload_n hx hb d_LN_logic_13 rfl (lv_at hl 1 rfl) ?_
        refine lv_ifnull hx hb d_LN_logic_14 ?_
        refine lv_aload_n hx hb d_LN_logic_17 rfl (lv_at hl 0 rfl) ?_
        refine lv_bipush (v := 38) hx hb d_LN_logic_18 (by decide) ?_
        refine lv_bipush (v := 124) hx hb d_LN_logic_20 (by decide) ?_
        obtain ⟨hi_, hq⟩ := hq
        obtain ⟨fs_, he_⟩ := fs_isc_some hi_
        refine fs_cV B hl.1 hP hS (kw_LN_nextIs hE hq) (fs_tb_at 839 tw_839 rfl) he_ rfl (fs_tb_at 841 tw_841 rfl) (fs_tb_at 35 tw_35 rfl) (fs_tb_at 89 tw_89 rfl) (fs_tb_at 842 tw_842 rfl) (by decide) (show (parseMethodDescriptor y_LN_nextIs.desc).map (fun d => d.parameters.length) = some 2 by decide +kernel) rfl d_LN_logic_22 (fs_rm (k := 0) (by omega) (by omega) (by omega) (by omega) rfl) (fun v_ h109 H locs hq hP hS => ?_) (fun C_ a_ h_ H locs hq hP hS hX => fs_out (hout _) hlocks hw hP hS hX (show uc ≤ mc by omega) (show us ≤ ms by omega) hq)
        refine fs_cs (k := uc) (n := us) rfl rfl ?_
        replace hq := fs_ki_some hq
        obtain ⟨x110, rfl, hq⟩ := hq
        refine W.eq (g2 := F0 m 25 ls (.int x110 :: [])) rfl ?_
        refine lv_if_eq (tgt := 49) hx hb d_LN_logic_25 (by decide) (fun c_111 => ?_) (fun c_111 => ?_)
        · have hq := fs_wifp c_111 hq
          exact kk (some a107) bc bs uc us _ _ _ _ hq hP hS (by omega) (by omega) (show lv_has ls 4 [(0, .ref z0), (1, va_rf (some a107))] from lv_sub hl [0, 1] rfl)
        · have hq := fs_wifn c_111 hq
          refine lv_aload_n hx hb d_LN_logic_28 rfl (lv_at hl 0 rfl) ?_
          obtain ⟨hi_, hq⟩ := hq
          obtain ⟨fs_, he_⟩ := fs_isc_some hi_
          refine fs_cV B hl.1 hP hS (kw_LN_takeNext hE hq) (fs_tb_at 658 tw_658 rfl) he_ rfl (fs_tb_at 660 tw_660 rfl) (fs_tb_at 26 tw_26 rfl) (fs_tb_at 89 tw_89 rfl) (fs_tb_at 661 tw_661 rfl) (by decide) (show (parseMethodDescriptor y_LN_takeNext.desc).map (fun d => d.parameters.length) = some 0 by decide +kernel) rfl d_LN_logic_29 (fs_rm (k := 0) (by omega) (by omega) (by omega) (by omega) rfl) (fun v_ h112 H locs hq hP hS => ?_) (fun C_ a_ h_ H locs hq hP hS hX => fs_out (hout _) hlocks hw hP hS hX (show uc ≤ mc by omega) (show us ≤ ms by omega) hq)
          refine fs_cs (k := uc) (n := us) rfl rfl ?_
          replace hq := fs_ki_some hq
          obtain ⟨x113, rfl, hq⟩ := hq
          refine W.eq (g2 := F0 m 32 ls (.int x113 :: [])) rfl ?_
          refine lv_istore_n (lv' := [(3, .int x113), (0, .ref z0), (1, .ref a107), (2, .int z2)]) hx hb d_LN_logic_32 rfl hl (by decide) rfl (fun ls hl => ?_)
          refine lv_iload_n hx hb d_LN_logic_33 rfl (lv_at hl 0 rfl) ?_
          refine lv_aload_n hx hb d_LN_logic_34 rfl (lv_at hl 2 rfl) ?_
          refine lv_aload_n hx hb d_LN_logic_35 rfl (lv_at hl 1 rfl) ?_
          obtain ⟨c114, s115, hc_, hs_, hq⟩ := hq
          obtain ⟨hi_, hq⟩ := hq
          obtain ⟨fs_, he_⟩ := fs_isc_some hi_
          refine fs_cV B hl.1 hP hS (kw_LN_comparison hE hself hq) (fs_tb_at 617 tw_617 rfl) he_ rfl (fs_tb_at 619 tw_619 rfl) (fs_tb_at 16 tw_16 rfl) (fs_tb_at 89 tw_89 rfl) (fs_tb_at 620 tw_620 rfl) (by decide) (show (parseMethodDescriptor y_LN_comparison.desc).map (fun d => d.parameters.length) = some 0 by decide +kernel) rfl d_LN_logic_36 (fs_rm (k := 2) (by omega) (by omega) (by omega) (by omega) rfl) (fun v_ h116 H locs hq hP hS => ?_) (fun C_ a_ h_ H locs hq hP hS hX => fs_out (hout _) hlocks hw hP hS hX (show (uc + c114) ≤ mc by omega) (show (us + s115) ≤ ms by omega) hq)
          refine fs_cs (k := (uc + c114)) (n := (us + s115)) rfl rfl ?_
          replace hq := fs_ko_some hq
          rcases hq with ⟨rfl, hq⟩ | ⟨a117, rfl, hq⟩
          · refine W.eq (g2 := F0 m 39 ls (.null :: .ref a107 :: .int x113 :: [])) rfl ?_
            obtain ⟨c118, s119, hc_, hs_, hq⟩ := hq
            refine fs_cS B hl.1 hP hS (kw_LN_pair hE hq) (fs_tb_at 843 tw_843 rfl) (fs_tb_at 844 tw_844 rfl) (fs_tb_at 89 tw_89 rfl) (fs_tb_at 845 tw_845 rfl) (by decide) (show (parseMethodDescriptor y_LN_pair.desc).map (fun d => d.parameters.length) = some 3 by decide +kernel) rfl d_LN_logic_39 (fs_rm (k := 0) (by omega) (by omega) (by omega) (by omega) rfl) (fun v_ h120 H locs hq hP hS => ?_) (fun C_ a_ h_ H locs hq hP hS hX => fs_out (hout _) hlocks hw hP hS hX (show ((uc + c114) + c118) ≤ mc by omega) (show ((us + s115) + s119) ≤ ms by omega) hq)
            refine fs_cs (k := ((uc + c114) + c118)) (n := ((us + s115) + s119)) rfl rfl ?_
            replace hq := fs_ko_some hq
            rcases hq with ⟨rfl, hq⟩ | ⟨a121, rfl, hq⟩
            · refine W.eq (g2 := F0 m 42 ls (.null :: [])) rfl ?_
              refine lv_astore_nN (lv' := [(1, .null), (3, .int x113), (0, .ref z0), (2, .int z2)]) hx hb d_LN_logic_42 rfl hl (by decide) rfl (fun ls hl => ?_)
              refine lv_iinc (v := z2 + 1) (lv' := [(2, .int (z2 + 1)), (1, .null), (3, .int x113), (0, .ref z0)]) hx hb d_LN_logic_43 hl (k := 3) rfl rfl (by decide) rfl (fun ls hl => ?_)
              refine lv_goto (tgt := 7) hx hb d_LN_logic_46 (by decide) ?_
              exact ih z0 none (z2 + 1) ((bc - c114) - c118) ((bs - s115) - s119) ((uc + c114) + c118) ((us + s115) + s119) _ _ _ _ hq hP hS (by omega) (by omega) (show lv_has ls 4 [(0, .ref z0), (1, va_rf none), (2, .int (z2 + 1))] from lv_sub hl [3, 1, 0] rfl) kk
            · refine W.eq (g2 := F0 m 42 ls (.ref a121 :: [])) rfl ?_
              refine lv_astore_n (lv' := [(1, .ref a121), (3, .int x113), (0, .ref z0), (2, .int z2)]) hx hb d_LN_logic_42 rfl hl (by decide) rfl (fun ls hl => ?_)
              refine lv_iinc (v := z2 + 1) (lv' := [(2, .int (z2 + 1)), (1, .ref a121), (3, .int x113), (0, .ref z0)]) hx hb d_LN_logic_43 hl (k := 3) rfl rfl (by decide) rfl (fun ls hl => ?_)
              refine lv_goto (tgt := 7) hx hb d_LN_logic_46 (by decide) ?_
              exact ih z0 (some a121) (z2 + 1) ((bc - c114) - c118) ((bs - s115) - s119) ((uc + c114) + c118) ((us + s115) + s119) _ _ _ _ hq hP hS (by omega) (by omega) (show lv_has ls 4 [(0, .ref z0), (1, va_rf (some a121)), (2, .int (z2 + 1))] from lv_sub hl [3, 1, 0] rfl) kk
          · refine W.eq (g2 := F0 m 39 ls (.ref a117 :: .ref a107 :: .int x113 :: [])) rfl ?_
            obtain ⟨c122, s123, hc_, hs_, hq⟩ := hq
            refine fs_cS B hl.1 hP hS (kw_LN_pair hE hq) (fs_tb_at 843 tw_843 rfl) (fs_tb_at 844 tw_844 rfl) (fs_tb_at 89 tw_89 rfl) (fs_tb_at 845 tw_845 rfl) (by decide) (show (parseMethodDescriptor y_LN_pair.desc).map (fun d => d.parameters.length) = some 3 by decide +kernel) rfl d_LN_logic_39 (fs_rm (k := 0) (by omega) (by omega) (by omega) (by omega) rfl) (fun v_ h124 H locs hq hP hS => ?_) (fun C_ a_ h_ H locs hq hP hS hX => fs_out (hout _) hlocks hw hP hS hX (show ((uc + c114) + c122) ≤ mc by omega) (show ((us + s115) + s123) ≤ ms by omega) hq)
            refine fs_cs (k := ((uc + c114) + c122)) (n := ((us + s115) + s123)) rfl rfl ?_
            replace hq := fs_ko_some hq
            rcases hq with ⟨rfl, hq⟩ | ⟨a125, rfl, hq⟩
            · refine W.eq (g2 := F0 m 42 ls (.null :: [])) rfl ?_
              refine lv_astore_nN (lv' := [(1, .null), (3, .int x113), (0, .ref z0), (2, .int z2)]) hx hb d_LN_logic_42 rfl hl (by decide) rfl (fun ls hl => ?_)
              refine lv_iinc (v := z2 + 1) (lv' := [(2, .int (z2 + 1)), (1, .null), (3, .int x113), (0, .ref z0)]) hx hb d_LN_logic_43 hl (k := 3) rfl rfl (by decide) rfl (fun ls hl => ?_)
              refine lv_goto (tgt := 7) hx hb d_LN_logic_46 (by decide) ?_
              exact ih z0 none (z2 + 1) ((bc - c114) - c122) ((bs - s115) - s123) ((uc + c114) + c122) ((us + s115) + s123) _ _ _ _ hq hP hS (by omega) (by omega) (show lv_has ls 4 [(0, .ref z0), (1, va_rf none), (2, .int (z2 + 1))] from lv_sub hl [3, 1, 0] rfl) kk
            · refine W.eq (g2 := F0 m 42 ls (.ref a125 :: [])) rfl ?_
              refine lv_astore_n (lv' := [(1, .ref a125), (3, .int x113), (0, .ref z0), (2, .int z2)]) hx hb d_LN_logic_42 rfl hl (by decide) rfl (fun ls hl => ?_)
              refine lv_iinc (v := z2 + 1) (lv' := [(2, .int (z2 + 1)), (1, .ref a125), (3, .int x113), (0, .ref z0)]) hx hb d_LN_logic_43 hl (k := 3) rfl rfl (by decide) rfl (fun ls hl => ?_)
              refine lv_goto (tgt := 7) hx hb d_LN_logic_46 (by decide) ?_
              exact ih z0 (some a125) (z2 + 1) ((bc - c114) - c122) ((bs - s115) - s123) ((uc + c114) + c122) ((us + s115) + s123) _ _ _ _ hq hP hS (by omega) (by omega) (show lv_has ls 4 [(0, .ref z0), (1, va_rf (some a125)), (2, .int (z2 + 1))] from lv_sub hl [3, 1, 0] rfl) kk
set_option maxHeartbeats 4000000 in
set_option maxRecDepth 100000 in
theorem kw_LN_logic {l : Launch} {s00 : State} {E : fs_E} (hE : fs_SE l s00 E) {self : Nat → Nat → fs_E → fs_Hp → Nat → fs_Ps → Prop} {fn ln : Nat} (hself : ∀ {c9 s9 : Nat} {h9 : fs_Hp} {q0 : Nat} {P9 : fs_Ps}, self c9 s9 E h9 q0 P9 → fs_Ct l s00 E.1 y_LN_logic (.code y_LN_logic b_LN_logic 4 (some ((.object "FormulaSheet$Part")))) { frames := fn, cells := c9, slots := s9, locals := ln } [.ref q0] h9 P9) {mc ms : Nat} {h : fs_Hp} {a0 : Nat} {Post : fs_Ps} (hq : w_LN_logic self mc ms E h a0 Post) : fs_Ct l s00 E.1 y_LN_logic (.code y_LN_logic b_LN_logic 4 (some ((.object "FormulaSheet$Part")))) { frames := fn + 12, cells := mc, slots := ms, locals := ln + 174 } [.ref a0] h Post := by
  refine fs_Ct.ofR hE.1 (by decide) ?_
  intro p e R s m below meth c hRf hRl hRc hRs B hout hP
  skip
  obtain ⟨hx, hb, hr, hml, hown, hts, hlocks, hname, hK, hw, htr⟩ := id B
  have hown : s.vm.findClass "FormulaSheet$Line" = some m.cls := hown
  have hS := hw.S
  have hl := lv_entry ([.ref a0]) (n := 4) (Nat.le_of_ble_eq_true rfl)
  rw [lg_entry_eq]
  generalize (lg_sl ([.ref a0]) ++ List.replicate (4 - (lg_sl ([.ref a0])).length) Slot.unset).toArray = ls at hl ⊢
  have hl : lv_has ls 4 [(0, .ref a0)] := hl
  unfold w_LN_logic at hq
  refine lv_aload_n hx hb d_LN_logic_0 rfl (lv_at hl 0 rfl) ?_
  obtain ⟨c101, s102, hc_, hs_, hq⟩ := hq
  obtain ⟨hi_, hq⟩ := hq
  obtain ⟨fs_, he_⟩ := fs_isc_some hi_
  refine fs_cV B hl.1 hP hS (kw_LN_comparison hE hself hq) (fs_tb_at 617 tw_617 rfl) he_ rfl (fs_tb_at 619 tw_619 rfl) (fs_tb_at 16 tw_16 rfl) (fs_tb_at 89 tw_89 rfl) (fs_tb_at 620 tw_620 rfl) (by decide) (show (parseMethodDescriptor y_LN_comparison.desc).map (fun d => d.parameters.length) = some 0 by decide +kernel) rfl d_LN_logic_1 (fs_rm (k := 0) (by omega) (by omega) (by omega) (by omega) rfl) (fun v_ h103 H locs hq hP hS => ?_) (fun C_ a_ h_ H locs hq hP hS hX => fs_out (hout _) hlocks hw hP hS hX (show (0 + c101) ≤ mc by omega) (show (0 + s102) ≤ ms by omega) hq)
  refine fs_cs (k := (0 + c101)) (n := (0 + s102)) rfl rfl ?_
  replace hq := fs_ko_some hq
  rcases hq with ⟨rfl, hq⟩ | ⟨a104, rfl, hq⟩
  · refine W.eq (g2 := F0 m 4 ls (.null :: [])) rfl ?_
    refine lv_astore_nN (lv' := [(1, .null), (0, .ref a0)]) hx hb d_LN_logic_4 rfl hl (by decide) rfl (fun ls hl => ?_)
    refine lv_iconst (v := 0) hx hb d_LN_logic_5 (by decide) ?_
    refine lv_istore_n (lv' := [(2, .int 0), (1, .null), (0, .ref a0)]) hx hb d_LN_logic_6 rfl hl (by decide) rfl (fun ls hl => ?_)
    obtain ⟨n132, hq⟩ := hq
    refine lw_w_LN_logic_7 hE hself B hout (by omega) (by omega) hRc hRs _ n132 a0 none 0 (mc - c101) (ms - s102) (0 + c101) (0 + s102) _ _ _ _ hq hP hS (by omega) (by omega) (show lv_has ls 4 [(0, .ref a0), (1, va_rf none), (2, .int 0)] from lv_sub hl [2, 1, 0] rfl) (fun y126 bc128 bs129 uc130 us131 h127 H locs ls hq hP hS hu1 hu2 hl => ?_)
    cases y126 with
    | none =>
      have hl : lv_has ls 4 [(0, .ref a0), (1, .null)] := hl
      refine lv_aload_nN hx hb d_LN_logic_49 rfl (lv_at hl 1 rfl) ?_
      exact fs_aret hx hb hr (Or.inl ⟨_, rfl⟩) (Or.inl rfl) hlocks hw hP hS (by omega) (by omega) hq d_LN_logic_50
    | some a134 =>
      have hl : lv_has ls 4 [(0, .ref a0), (1, .ref a134)] := hl
      refine lv_aload_n hx hb d_LN_logic_49 rfl (lv_at hl 1 rfl) ?_
      exact fs_aret hx hb hr (Or.inl ⟨_, rfl⟩) (Or.inr ⟨_, rfl⟩) hlocks hw hP hS (by omega) (by omega) hq d_LN_logic_50
  · refine W.eq (g2 := F0 m 4 ls (.ref a104 :: [])) rfl ?_
    refine lv_astore_n (lv' := [(1, .ref a104), (0, .ref a0)]) hx hb d_LN_logic_4 rfl hl (by decide) rfl (fun ls hl => ?_)
    refine lv_iconst (v := 0) hx hb d_LN_logic_5 (by decide) ?_
    refine lv_istore_n (lv' := [(2, .int 0), (1, .ref a104), (0, .ref a0)]) hx hb d_LN_logic_6 rfl hl (by decide) rfl (fun ls hl => ?_)
    obtain ⟨n141, hq⟩ := hq
    refine lw_w_LN_logic_7 hE hself B hout (by omega) (by omega) hRc hRs _ n141 a0 (some a104) 0 (mc - c101) (ms - s102) (0 + c101) (0 + s102) _ _ _ _ hq hP hS (by omega) (by omega) (show lv_has ls 4 [(0, .ref a0), (1, va_rf (some a104)), (2, .int 0)] from lv_sub hl [2, 1, 0] rfl) (fun y135 bc137 bs138 uc139 us140 h136 H locs ls hq hP hS hu1 hu2 hl => ?_)
    cases y135 with
    | none =>
      have hl : lv_has ls 4 [(0, .ref a0), (1, .null)] := hl
      refine lv_aload_nN hx hb d_LN_logic_49 rfl (lv_at hl 1 rfl) ?_
      exact fs_aret hx hb hr (Or.inl ⟨_, rfl⟩) (Or.inl rfl) hlocks hw hP hS (by omega) (by omega) hq d_LN_logic_50
    | some a143 =>
      have hl : lv_has ls 4 [(0, .ref a0), (1, .ref a143)] := hl
      refine lv_aload_n hx hb d_LN_logic_49 rfl (lv_at hl 1 rfl) ?_
      exact fs_aret hx hb hr (Or.inl ⟨_, rfl⟩) (Or.inr ⟨_, rfl⟩) hlocks hw hP hS (by omega) (by omega) hq d_LN_logic_50
def w_N_logic : Nat → Nat → Nat → fs_E → fs_Hp → Nat → fs_Ps → Prop
  | 0 => fun _ _ _ _ _ _ => False
  | n + 1 => w_LN_logic (w_N_logic n)
theorem kN_logic {l : Launch} {s00 : State} {E : fs_E} (hE : fs_SE l s00 E) : ∀ {n : Nat} {mc ms : Nat} {h : fs_Hp} {x0 : Nat} {Post : fs_Ps}, w_N_logic n mc ms E h x0 Post → fs_Ct l s00 E.1 y_LN_logic (.code y_LN_logic b_LN_logic 4 (some ((.object "FormulaSheet$Part")))) { frames := 12 * n, cells := mc, slots := ms, locals := 174 * n } [.ref x0] h Post := by
  intro n
  induction n with
  | zero => intro mc ms h x0 Post hq; exact False.elim hq
  | succ n ih => intro mc ms h x0 Post hq; exact kw_LN_logic hE ih hq
def w_LN_read (mc ms : Nat) (E : fs_E) (h : fs_Hp) (a0 : Nat) (Post : fs_Ps) : Prop := fs_pw h a0 1 2 (.int 0) (fun h101 => fs_pw h101 a0 1 3 (.int 0) (fun h102 => ∃ c103 s104 : Nat, c103 ≤ mc ∧ s104 ≤ ms ∧ (fs_isc h102 a0 1 ∧ (w_N_logic 8 c103 s104 E h102 a0 (fs_ko (fun h105 => fs_gi h105 a0 1 2 (fun x107 => fs_gi h105 a0 1 1 (fun x108 => (if x107 = x108 then Post (.inl (some (.null))) h105 else Post (.inl (some (.null))) h105)))) (fun a106 h105 => fs_gi h105 a0 1 2 (fun x110 => fs_gi h105 a0 1 1 (fun x111 => (if x110 = x111 then Post (.inl (some (.ref a106))) h105 else Post (.inl (some (.null))) h105)))) (fun C_ h_ => Post (.inr C_) h_))))))
set_option maxHeartbeats 4000000 in
set_option maxRecDepth 100000 in
theorem kw_LN_read {l : Launch} {s00 : State} {E : fs_E} (hE : fs_SE l s00 E) {mc ms : Nat} {h : fs_Hp} {a0 : Nat} {Post : fs_Ps} (hq : w_LN_read mc ms E h a0 Post) : fs_Ct l s00 E.1 y_LN_read (.code y_LN_read b_LN_read 2 (some ((.object "FormulaSheet$Part")))) { frames := 97, cells := mc, slots := ms, locals := 1407 } [.ref a0] h Post := by
  refine fs_Ct.ofR hE.1 (by decide) ?_
  intro p e R s m below meth c hRf hRl hRc hRs B hout hP
  skip
  obtain ⟨hx, hb, hr, hml, hown, hts, hlocks, hname, hK, hw, htr⟩ := id B
  have hown : s.vm.findClass "FormulaSheet$Line" = some m.cls := hown
  have hS := hw.S
  have hl := lv_entry ([.ref a0]) (n := 2) (Nat.le_of_ble_eq_true rfl)
  rw [lg_entry_eq]
  generalize (lg_sl ([.ref a0]) ++ List.replicate (2 - (lg_sl ([.ref a0])).length) Slot.unset).toArray = ls at hl ⊢
  have hl : lv_has ls 2 [(0, .ref a0)] := hl
  unfold w_LN_read at hq
  refine lv_aload_n hx hb d_LN_read_0 rfl (lv_at hl 0 rfl) ?_
  refine lv_iconst (v := 0) hx hb d_LN_read_1 (by decide) ?_
  obtain ⟨fs_, h101, e_, hl_, eh_, hq⟩ := fs_pw_some hq
  refine fs_put hx hb hts hown hK c_LN hP hS e_ 2 (by decide) (hts _ (fs_tb_at 142 tw_142 rfl)) (fun _ h9 => h9) rfl rfl rfl hl_ d_LN_read_2 (fun H locs hP hS => ?_)
  rw [← eh_] at hP
  refine lv_aload_n hx hb d_LN_read_5 rfl (lv_at hl 0 rfl) ?_
  refine lv_iconst (v := 0) hx hb d_LN_read_6 (by decide) ?_
  obtain ⟨fs_, h102, e_, hl_, eh_, hq⟩ := fs_pw_some hq
  refine fs_put hx hb hts hown hK c_LN hP hS e_ 3 (by decide) (hts _ (fs_tb_at 144 tw_144 rfl)) (fun _ h9 => h9) rfl rfl rfl hl_ d_LN_read_7 (fun H locs hP hS => ?_)
  rw [← eh_] at hP
  refine lv_aload_n hx hb d_LN_read_10 rfl (lv_at hl 0 rfl) ?_
  obtain ⟨c103, s104, hc_, hs_, hq⟩ := hq
  obtain ⟨hi_, hq⟩ := hq
  obtain ⟨fs_, he_⟩ := fs_isc_some hi_
  refine fs_cV B hl.1 hP hS (kN_logic hE hq) (fs_tb_at 613 tw_613 rfl) he_ rfl (fs_tb_at 615 tw_615 rfl) (fs_tb_at 15 tw_15 rfl) (fs_tb_at 89 tw_89 rfl) (fs_tb_at 616 tw_616 rfl) (by decide) (show (parseMethodDescriptor y_LN_logic.desc).map (fun d => d.parameters.length) = some 0 by decide +kernel) rfl d_LN_read_11 (fs_rm (k := 0) (by omega) (by omega) (by omega) (by omega) rfl) (fun v_ h105 H locs hq hP hS => ?_) (fun C_ a_ h_ H locs hq hP hS hX => fs_out (hout _) hlocks hw hP hS hX (show (0 + c103) ≤ mc by omega) (show (0 + s104) ≤ ms by omega) hq)
  refine fs_cs (k := (0 + c103)) (n := (0 + s104)) rfl rfl ?_
  replace hq := fs_ko_some hq
  rcases hq with ⟨rfl, hq⟩ | ⟨a106, rfl, hq⟩
  · refine W.eq (g2 := F0 m 14 ls (.null :: [])) rfl ?_
    refine lv_astore_nN (lv' := [(1, .null), (0, .ref a0)]) hx hb d_LN_read_14 rfl hl (by decide) rfl (fun ls hl => ?_)
    refine lv_aload_n hx hb d_LN_read_15 rfl (lv_at hl 1 rfl) ?_
    obtain ⟨fs_, x107, he_, hv_, hq⟩ := fs_gi_some hq
    refine fs_get hx hb hts hown hK c_LN hP he_ 2 (by decide) (hts _ (fs_tb_at 142 tw_142 rfl)) (fun _ h9 => h9) hv_ d_LN_read_16 ?_
    refine lv_aload_n hx hb d_LN_read_19 rfl (lv_at hl 1 rfl) ?_
    obtain ⟨fs_, x108, he_, hv_, hq⟩ := fs_gi_some hq
    refine fs_get hx hb hts hown hK c_LN hP he_ 1 (by decide) (hts _ (fs_tb_at 140 tw_140 rfl)) (fun _ h9 => h9) hv_ d_LN_read_20 ?_
    refine lv_icmp_ne (tgt := 30) hx hb d_LN_read_23 (by decide) (fun c_109 => ?_) (fun c_109 => ?_)
    · have hq := fs_wifn c_109 hq
      refine lv_null hx hb d_LN_read_30 ?_
      exact fs_aret hx hb hr (Or.inl ⟨_, rfl⟩) (Or.inl rfl) hlocks hw hP hS (by omega) (by omega) hq d_LN_read_31
    · have hq := fs_wifp c_109 hq
      refine lv_aload_nN hx hb d_LN_read_26 rfl (lv_at hl 0 rfl) ?_
      refine lv_goto (tgt := 31) hx hb d_LN_read_27 (by decide) ?_
      exact fs_aret hx hb hr (Or.inl ⟨_, rfl⟩) (Or.inl rfl) hlocks hw hP hS (by omega) (by omega) hq d_LN_read_31
  · refine W.eq (g2 := F0 m 14 ls (.ref a106 :: [])) rfl ?_
    refine lv_astore_n (lv' := [(1, .ref a106), (0, .ref a0)]) hx hb d_LN_read_14 rfl hl (by decide) rfl (fun ls hl => ?_)
    refine lv_aload_n hx hb d_LN_read_15 rfl (lv_at hl 1 rfl) ?_
    obtain ⟨fs_, x110, he_, hv_, hq⟩ := fs_gi_some hq
    refine fs_get hx hb hts hown hK c_LN hP he_ 2 (by decide) (hts _ (fs_tb_at 142 tw_142 rfl)) (fun _ h9 => h9) hv_ d_LN_read_16 ?_
    refine lv_aload_n hx hb d_LN_read_19 rfl (lv_at hl 1 rfl) ?_
    obtain ⟨fs_, x111, he_, hv_, hq⟩ := fs_gi_some hq
    refine fs_get hx hb hts hown hK c_LN hP he_ 1 (by decide) (hts _ (fs_tb_at 140 tw_140 rfl)) (fun _ h9 => h9) hv_ d_LN_read_20 ?_
    refine lv_icmp_ne (tgt := 30) hx hb d_LN_read_23 (by decide) (fun c_112 => ?_) (fun c_112 => ?_)
    · have hq := fs_wifn c_112 hq
      refine lv_null hx hb d_LN_read_30 ?_
      exact fs_aret hx hb hr (Or.inl ⟨_, rfl⟩) (Or.inl rfl) hlocks hw hP hS (by omega) (by omega) hq d_LN_read_31
    · have hq := fs_wifp c_112 hq
      refine lv_aload_n hx hb d_LN_read_26 rfl (lv_at hl 0 rfl) ?_
      refine lv_goto (tgt := 31) hx hb d_LN_read_27 (by decide) ?_
      exact fs_aret hx hb hr (Or.inl ⟨_, rfl⟩) (Or.inr ⟨_, rfl⟩) hlocks hw hP hS (by omega) (by omega) hq d_LN_read_31
