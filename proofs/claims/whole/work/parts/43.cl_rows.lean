/-! Parts: rules, copies, rows that come and go. -/
abbrev b_RE_shifted : ByteArray := prog_11_method_4_code
def y_RE_shifted : MethodName := ⟨"FormulaSheet$Reference", "shifted", "(II)LFormulaSheet$Reference;"⟩
theorem d_RE_shifted_0 : decode b_RE_shifted 0 = .ok (.aload_n 0, 1) := by decide +kernel
theorem d_RE_shifted_1 : decode b_RE_shifted 1 = .ok (.getfield 9, 3) := by decide +kernel
theorem d_RE_shifted_4 : decode b_RE_shifted 4 = .ok (.ifCond .eq 10, 3) := by decide +kernel
theorem d_RE_shifted_7 : decode b_RE_shifted 7 = .ok (.aload_n 0, 1) := by decide +kernel
theorem d_RE_shifted_8 : decode b_RE_shifted 8 = .ok (.getfield 15, 3) := by decide +kernel
theorem d_RE_shifted_11 : decode b_RE_shifted 11 = .ok (.goto 9, 3) := by decide +kernel
theorem d_RE_shifted_14 : decode b_RE_shifted 14 = .ok (.aload_n 0, 1) := by decide +kernel
theorem d_RE_shifted_15 : decode b_RE_shifted 15 = .ok (.getfield 15, 3) := by decide +kernel
theorem d_RE_shifted_18 : decode b_RE_shifted 18 = .ok (.iload_n 1, 1) := by decide +kernel
theorem d_RE_shifted_19 : decode b_RE_shifted 19 = .ok (.iadd, 1) := by decide +kernel
theorem d_RE_shifted_20 : decode b_RE_shifted 20 = .ok (.istore_n 3, 1) := by decide +kernel
theorem d_RE_shifted_21 : decode b_RE_shifted 21 = .ok (.aload_n 0, 1) := by decide +kernel
theorem d_RE_shifted_22 : decode b_RE_shifted 22 = .ok (.getfield 19, 3) := by decide +kernel
theorem d_RE_shifted_25 : decode b_RE_shifted 25 = .ok (.ifCond .eq 10, 3) := by decide +kernel
theorem d_RE_shifted_28 : decode b_RE_shifted 28 = .ok (.aload_n 0, 1) := by decide +kernel
theorem d_RE_shifted_29 : decode b_RE_shifted 29 = .ok (.getfield 22, 3) := by decide +kernel
theorem d_RE_shifted_32 : decode b_RE_shifted 32 = .ok (.goto 9, 3) := by decide +kernel
theorem d_RE_shifted_35 : decode b_RE_shifted 35 = .ok (.aload_n 0, 1) := by decide +kernel
theorem d_RE_shifted_36 : decode b_RE_shifted 36 = .ok (.getfield 22, 3) := by decide +kernel
theorem d_RE_shifted_39 : decode b_RE_shifted 39 = .ok (.iload_n 2, 1) := by decide +kernel
theorem d_RE_shifted_40 : decode b_RE_shifted 40 = .ok (.iadd, 1) := by decide +kernel
theorem d_RE_shifted_41 : decode b_RE_shifted 41 = .ok (.istore 4, 2) := by decide +kernel
theorem d_RE_shifted_43 : decode b_RE_shifted 43 = .ok (.new 10, 3) := by decide +kernel
theorem d_RE_shifted_46 : decode b_RE_shifted 46 = .ok (.dup, 1) := by decide +kernel
theorem d_RE_shifted_47 : decode b_RE_shifted 47 = .ok (.aload_n 0, 1) := by decide +kernel
theorem d_RE_shifted_48 : decode b_RE_shifted 48 = .ok (.getfield 9, 3) := by decide +kernel
theorem d_RE_shifted_51 : decode b_RE_shifted 51 = .ok (.iload_n 3, 1) := by decide +kernel
theorem d_RE_shifted_52 : decode b_RE_shifted 52 = .ok (.aload_n 0, 1) := by decide +kernel
theorem d_RE_shifted_53 : decode b_RE_shifted 53 = .ok (.getfield 19, 3) := by decide +kernel
theorem d_RE_shifted_56 : decode b_RE_shifted 56 = .ok (.iload 4, 2) := by decide +kernel
theorem d_RE_shifted_58 : decode b_RE_shifted 58 = .ok (.invokespecial 29, 3) := by decide +kernel
theorem d_RE_shifted_61 : decode b_RE_shifted 61 = .ok (.astore 5, 2) := by decide +kernel
theorem d_RE_shifted_63 : decode b_RE_shifted 63 = .ok (.aload 5, 2) := by decide +kernel
theorem d_RE_shifted_65 : decode b_RE_shifted 65 = .ok (.aload_n 0, 1) := by decide +kernel
theorem d_RE_shifted_66 : decode b_RE_shifted 66 = .ok (.getfield 32, 3) := by decide +kernel
theorem d_RE_shifted_69 : decode b_RE_shifted 69 = .ok (.ifCond .ne 12, 3) := by decide +kernel
theorem d_RE_shifted_72 : decode b_RE_shifted 72 = .ok (.iload_n 3, 1) := by decide +kernel
theorem d_RE_shifted_73 : decode b_RE_shifted 73 = .ok (.iload 4, 2) := by decide +kernel
theorem d_RE_shifted_75 : decode b_RE_shifted 75 = .ok (.invokestatic 35, 3) := by decide +kernel
theorem d_RE_shifted_78 : decode b_RE_shifted 78 = .ok (.ifCond .ne 7, 3) := by decide +kernel
theorem d_RE_shifted_81 : decode b_RE_shifted 81 = .ok (.iconst 1, 1) := by decide +kernel
theorem d_RE_shifted_82 : decode b_RE_shifted 82 = .ok (.goto 4, 3) := by decide +kernel
theorem d_RE_shifted_85 : decode b_RE_shifted 85 = .ok (.iconst 0, 1) := by decide +kernel
theorem d_RE_shifted_86 : decode b_RE_shifted 86 = .ok (.putfield 32, 3) := by decide +kernel
theorem d_RE_shifted_89 : decode b_RE_shifted 89 = .ok (.aload 5, 2) := by decide +kernel
theorem d_RE_shifted_91 : decode b_RE_shifted 91 = .ok (.areturn, 1) := by decide +kernel
abbrev b_OV_keepAtLastRow : ByteArray := prog_8_method_11_code
def y_OV_keepAtLastRow : MethodName := ⟨"FormulaSheet$OverRange", "keepAtLastRow", "(LFormulaSheet$Reference;)V"⟩
theorem d_OV_keepAtLastRow_0 : decode b_OV_keepAtLastRow 0 = .ok (.aload_n 0, 1) := by decide +kernel
theorem d_OV_keepAtLastRow_1 : decode b_OV_keepAtLastRow 1 = .ok (.getfield 31, 3) := by decide +kernel
theorem d_OV_keepAtLastRow_4 : decode b_OV_keepAtLastRow 4 = .ok (.ifCond .eq 14, 3) := by decide +kernel
theorem d_OV_keepAtLastRow_7 : decode b_OV_keepAtLastRow 7 = .ok (.aload_n 0, 1) := by decide +kernel
theorem d_OV_keepAtLastRow_8 : decode b_OV_keepAtLastRow 8 = .ok (.iconst 0, 1) := by decide +kernel
theorem d_OV_keepAtLastRow_9 : decode b_OV_keepAtLastRow 9 = .ok (.putfield 31, 3) := by decide +kernel
theorem d_OV_keepAtLastRow_12 : decode b_OV_keepAtLastRow 12 = .ok (.aload_n 0, 1) := by decide +kernel
theorem d_OV_keepAtLastRow_13 : decode b_OV_keepAtLastRow 13 = .ok (.bipush 9, 2) := by decide +kernel
theorem d_OV_keepAtLastRow_15 : decode b_OV_keepAtLastRow 15 = .ok (.putfield 48, 3) := by decide +kernel
theorem d_OV_keepAtLastRow_18 : decode b_OV_keepAtLastRow 18 = .ok (.return_, 1) := by decide +kernel
abbrev b_NU_rule : ByteArray := prog_7_method_2_code
def y_NU_rule : MethodName := ⟨"FormulaSheet$Numeral", "rule", "()I"⟩
theorem d_NU_rule_0 : decode b_NU_rule 0 = .ok (.iconst 5, 1) := by decide +kernel
theorem d_NU_rule_1 : decode b_NU_rule 1 = .ok (.ireturn, 1) := by decide +kernel
abbrev b_RE_rule : ByteArray := prog_11_method_2_code
def y_RE_rule : MethodName := ⟨"FormulaSheet$Reference", "rule", "()I"⟩
theorem d_RE_rule_0 : decode b_RE_rule 0 = .ok (.iconst 5, 1) := by decide +kernel
theorem d_RE_rule_1 : decode b_RE_rule 1 = .ok (.ireturn, 1) := by decide +kernel
abbrev b_SI_rule : ByteArray := prog_12_method_2_code
def y_SI_rule : MethodName := ⟨"FormulaSheet$Single", "rule", "()I"⟩
theorem d_SI_rule_0 : decode b_SI_rule 0 = .ok (.aload_n 0, 1) := by decide +kernel
theorem d_SI_rule_1 : decode b_SI_rule 1 = .ok (.getfield 9, 3) := by decide +kernel
theorem d_SI_rule_4 : decode b_SI_rule 4 = .ok (.bipush 45, 2) := by decide +kernel
theorem d_SI_rule_6 : decode b_SI_rule 6 = .ok (.if_icmp .ne 7, 3) := by decide +kernel
theorem d_SI_rule_9 : decode b_SI_rule 9 = .ok (.iconst 4, 1) := by decide +kernel
theorem d_SI_rule_10 : decode b_SI_rule 10 = .ok (.goto 4, 3) := by decide +kernel
theorem d_SI_rule_13 : decode b_SI_rule 13 = .ok (.iconst 1, 1) := by decide +kernel
theorem d_SI_rule_14 : decode b_SI_rule 14 = .ok (.ireturn, 1) := by decide +kernel
abbrev b_PA_rule : ByteArray := prog_9_method_2_code
def y_PA_rule : MethodName := ⟨"FormulaSheet$Pair", "rule", "()I"⟩
theorem d_PA_rule_0 : decode b_PA_rule 0 = .ok (.aload_n 0, 1) := by decide +kernel
theorem d_PA_rule_1 : decode b_PA_rule 1 = .ok (.getfield 9, 3) := by decide +kernel
theorem d_PA_rule_4 : decode b_PA_rule 4 = .ok (.lookupswitch 66 #[(38, 60), (42, 64), (43, 62), (45, 62), (47, 64), (124, 60)], 60) := by decide +kernel
theorem d_PA_rule_64 : decode b_PA_rule 64 = .ok (.iconst 0, 1) := by decide +kernel
theorem d_PA_rule_65 : decode b_PA_rule 65 = .ok (.ireturn, 1) := by decide +kernel
theorem d_PA_rule_66 : decode b_PA_rule 66 = .ok (.iconst 2, 1) := by decide +kernel
theorem d_PA_rule_67 : decode b_PA_rule 67 = .ok (.ireturn, 1) := by decide +kernel
theorem d_PA_rule_68 : decode b_PA_rule 68 = .ok (.iconst 3, 1) := by decide +kernel
theorem d_PA_rule_69 : decode b_PA_rule 69 = .ok (.ireturn, 1) := by decide +kernel
theorem d_PA_rule_70 : decode b_PA_rule 70 = .ok (.iconst 1, 1) := by decide +kernel
theorem d_PA_rule_71 : decode b_PA_rule 71 = .ok (.ireturn, 1) := by decide +kernel
abbrev b_CA_rule : ByteArray := prog_2_method_2_code
def y_CA_rule : MethodName := ⟨"FormulaSheet$Call", "rule", "()I"⟩
theorem d_CA_rule_0 : decode b_CA_rule 0 = .ok (.iconst 5, 1) := by decide +kernel
theorem d_CA_rule_1 : decode b_CA_rule 1 = .ok (.ireturn, 1) := by decide +kernel
abbrev b_OV_rule : ByteArray := prog_8_method_2_code
def y_OV_rule : MethodName := ⟨"FormulaSheet$OverRange", "rule", "()I"⟩
theorem d_OV_rule_0 : decode b_OV_rule 0 = .ok (.iconst 5, 1) := by decide +kernel
theorem d_OV_rule_1 : decode b_OV_rule 1 = .ok (.ireturn, 1) := by decide +kernel
def y_PT_rule : MethodName := ⟨"FormulaSheet$Part", "rule", "()I"⟩
abbrev b_PT_with : ByteArray := prog_10_method_6_code
def y_PT_with : MethodName := ⟨"FormulaSheet$Part", "with", "([LFormulaSheet$Part;)LFormulaSheet$Part;"⟩
theorem d_PT_with_0 : decode b_PT_with 0 = .ok (.aload_n 0, 1) := by decide +kernel
theorem d_PT_with_1 : decode b_PT_with 1 = .ok (.areturn, 1) := by decide +kernel
abbrev b_SI_with : ByteArray := prog_12_method_3_code
def y_SI_with : MethodName := ⟨"FormulaSheet$Single", "with", "([LFormulaSheet$Part;)LFormulaSheet$Part;"⟩
theorem d_SI_with_0 : decode b_SI_with 0 = .ok (.new 10, 3) := by decide +kernel
theorem d_SI_with_3 : decode b_SI_with 3 = .ok (.dup, 1) := by decide +kernel
theorem d_SI_with_4 : decode b_SI_with 4 = .ok (.aload_n 0, 1) := by decide +kernel
theorem d_SI_with_5 : decode b_SI_with 5 = .ok (.getfield 9, 3) := by decide +kernel
theorem d_SI_with_8 : decode b_SI_with 8 = .ok (.aload_n 1, 1) := by decide +kernel
theorem d_SI_with_9 : decode b_SI_with 9 = .ok (.iconst 0, 1) := by decide +kernel
theorem d_SI_with_10 : decode b_SI_with 10 = .ok (.aaload, 1) := by decide +kernel
theorem d_SI_with_11 : decode b_SI_with 11 = .ok (.invokespecial 15, 3) := by decide +kernel
theorem d_SI_with_14 : decode b_SI_with 14 = .ok (.areturn, 1) := by decide +kernel
abbrev b_PA_with : ByteArray := prog_9_method_3_code
def y_PA_with : MethodName := ⟨"FormulaSheet$Pair", "with", "([LFormulaSheet$Part;)LFormulaSheet$Part;"⟩
theorem d_PA_with_0 : decode b_PA_with 0 = .ok (.new 10, 3) := by decide +kernel
theorem d_PA_with_3 : decode b_PA_with 3 = .ok (.dup, 1) := by decide +kernel
theorem d_PA_with_4 : decode b_PA_with 4 = .ok (.aload_n 0, 1) := by decide +kernel
theorem d_PA_with_5 : decode b_PA_with 5 = .ok (.getfield 9, 3) := by decide +kernel
theorem d_PA_with_8 : decode b_PA_with 8 = .ok (.aload_n 1, 1) := by decide +kernel
theorem d_PA_with_9 : decode b_PA_with 9 = .ok (.iconst 0, 1) := by decide +kernel
theorem d_PA_with_10 : decode b_PA_with 10 = .ok (.aaload, 1) := by decide +kernel
theorem d_PA_with_11 : decode b_PA_with 11 = .ok (.aload_n 1, 1) := by decide +kernel
theorem d_PA_with_12 : decode b_PA_with 12 = .ok (.iconst 1, 1) := by decide +kernel
theorem d_PA_with_13 : decode b_PA_with 13 = .ok (.aaload, 1) := by decide +kernel
theorem d_PA_with_14 : decode b_PA_with 14 = .ok (.invokespecial 15, 3) := by decide +kernel
theorem d_PA_with_17 : decode b_PA_with 17 = .ok (.areturn, 1) := by decide +kernel
abbrev b_CA_with : ByteArray := prog_2_method_3_code
def y_CA_with : MethodName := ⟨"FormulaSheet$Call", "with", "([LFormulaSheet$Part;)LFormulaSheet$Part;"⟩
theorem d_CA_with_0 : decode b_CA_with 0 = .ok (.new 10, 3) := by decide +kernel
theorem d_CA_with_3 : decode b_CA_with 3 = .ok (.dup, 1) := by decide +kernel
theorem d_CA_with_4 : decode b_CA_with 4 = .ok (.aload_n 0, 1) := by decide +kernel
theorem d_CA_with_5 : decode b_CA_with 5 = .ok (.getfield 9, 3) := by decide +kernel
theorem d_CA_with_8 : decode b_CA_with 8 = .ok (.aload_n 1, 1) := by decide +kernel
theorem d_CA_with_9 : decode b_CA_with 9 = .ok (.invokespecial 15, 3) := by decide +kernel
theorem d_CA_with_12 : decode b_CA_with 12 = .ok (.areturn, 1) := by decide +kernel
abbrev b_RE_followRowIn : ByteArray := prog_11_method_9_code
def y_RE_followRowIn : MethodName := ⟨"FormulaSheet$Reference", "followRowIn", "(I)V"⟩
theorem d_RE_followRowIn_0 : decode b_RE_followRowIn 0 = .ok (.aload_n 0, 1) := by decide +kernel
theorem d_RE_followRowIn_1 : decode b_RE_followRowIn 1 = .ok (.getfield 32, 3) := by decide +kernel
theorem d_RE_followRowIn_4 : decode b_RE_followRowIn 4 = .ok (.ifCond .ne 11, 3) := by decide +kernel
theorem d_RE_followRowIn_7 : decode b_RE_followRowIn 7 = .ok (.aload_n 0, 1) := by decide +kernel
theorem d_RE_followRowIn_8 : decode b_RE_followRowIn 8 = .ok (.getfield 22, 3) := by decide +kernel
theorem d_RE_followRowIn_11 : decode b_RE_followRowIn 11 = .ok (.iload_n 1, 1) := by decide +kernel
theorem d_RE_followRowIn_12 : decode b_RE_followRowIn 12 = .ok (.if_icmp .ge 4, 3) := by decide +kernel
theorem d_RE_followRowIn_15 : decode b_RE_followRowIn 15 = .ok (.return_, 1) := by decide +kernel
theorem d_RE_followRowIn_16 : decode b_RE_followRowIn 16 = .ok (.aload_n 0, 1) := by decide +kernel
theorem d_RE_followRowIn_17 : decode b_RE_followRowIn 17 = .ok (.dup, 1) := by decide +kernel
theorem d_RE_followRowIn_18 : decode b_RE_followRowIn 18 = .ok (.getfield 22, 3) := by decide +kernel
theorem d_RE_followRowIn_21 : decode b_RE_followRowIn 21 = .ok (.iconst 1, 1) := by decide +kernel
theorem d_RE_followRowIn_22 : decode b_RE_followRowIn 22 = .ok (.iadd, 1) := by decide +kernel
theorem d_RE_followRowIn_23 : decode b_RE_followRowIn 23 = .ok (.putfield 22, 3) := by decide +kernel
theorem d_RE_followRowIn_26 : decode b_RE_followRowIn 26 = .ok (.aload_n 0, 1) := by decide +kernel
theorem d_RE_followRowIn_27 : decode b_RE_followRowIn 27 = .ok (.aload_n 0, 1) := by decide +kernel
theorem d_RE_followRowIn_28 : decode b_RE_followRowIn 28 = .ok (.getfield 22, 3) := by decide +kernel
theorem d_RE_followRowIn_31 : decode b_RE_followRowIn 31 = .ok (.bipush 10, 2) := by decide +kernel
theorem d_RE_followRowIn_33 : decode b_RE_followRowIn 33 = .ok (.if_icmp .lt 7, 3) := by decide +kernel
theorem d_RE_followRowIn_36 : decode b_RE_followRowIn 36 = .ok (.iconst 1, 1) := by decide +kernel
theorem d_RE_followRowIn_37 : decode b_RE_followRowIn 37 = .ok (.goto 4, 3) := by decide +kernel
theorem d_RE_followRowIn_40 : decode b_RE_followRowIn 40 = .ok (.iconst 0, 1) := by decide +kernel
theorem d_RE_followRowIn_41 : decode b_RE_followRowIn 41 = .ok (.putfield 32, 3) := by decide +kernel
theorem d_RE_followRowIn_44 : decode b_RE_followRowIn 44 = .ok (.return_, 1) := by decide +kernel
abbrev b_RE_followRowOut : ByteArray := prog_11_method_10_code
def y_RE_followRowOut : MethodName := ⟨"FormulaSheet$Reference", "followRowOut", "(I)V"⟩
theorem d_RE_followRowOut_0 : decode b_RE_followRowOut 0 = .ok (.aload_n 0, 1) := by decide +kernel
theorem d_RE_followRowOut_1 : decode b_RE_followRowOut 1 = .ok (.getfield 32, 3) := by decide +kernel
theorem d_RE_followRowOut_4 : decode b_RE_followRowOut 4 = .ok (.ifCond .ne 11, 3) := by decide +kernel
theorem d_RE_followRowOut_7 : decode b_RE_followRowOut 7 = .ok (.aload_n 0, 1) := by decide +kernel
theorem d_RE_followRowOut_8 : decode b_RE_followRowOut 8 = .ok (.getfield 22, 3) := by decide +kernel
theorem d_RE_followRowOut_11 : decode b_RE_followRowOut 11 = .ok (.iload_n 1, 1) := by decide +kernel
theorem d_RE_followRowOut_12 : decode b_RE_followRowOut 12 = .ok (.if_icmp .ge 4, 3) := by decide +kernel
theorem d_RE_followRowOut_15 : decode b_RE_followRowOut 15 = .ok (.return_, 1) := by decide +kernel
theorem d_RE_followRowOut_16 : decode b_RE_followRowOut 16 = .ok (.aload_n 0, 1) := by decide +kernel
theorem d_RE_followRowOut_17 : decode b_RE_followRowOut 17 = .ok (.aload_n 0, 1) := by decide +kernel
theorem d_RE_followRowOut_18 : decode b_RE_followRowOut 18 = .ok (.getfield 22, 3) := by decide +kernel
theorem d_RE_followRowOut_21 : decode b_RE_followRowOut 21 = .ok (.iload_n 1, 1) := by decide +kernel
theorem d_RE_followRowOut_22 : decode b_RE_followRowOut 22 = .ok (.if_icmp .ne 7, 3) := by decide +kernel
theorem d_RE_followRowOut_25 : decode b_RE_followRowOut 25 = .ok (.iconst 1, 1) := by decide +kernel
theorem d_RE_followRowOut_26 : decode b_RE_followRowOut 26 = .ok (.goto 4, 3) := by decide +kernel
theorem d_RE_followRowOut_29 : decode b_RE_followRowOut 29 = .ok (.iconst 0, 1) := by decide +kernel
theorem d_RE_followRowOut_30 : decode b_RE_followRowOut 30 = .ok (.putfield 32, 3) := by decide +kernel
theorem d_RE_followRowOut_33 : decode b_RE_followRowOut 33 = .ok (.aload_n 0, 1) := by decide +kernel
theorem d_RE_followRowOut_34 : decode b_RE_followRowOut 34 = .ok (.dup, 1) := by decide +kernel
theorem d_RE_followRowOut_35 : decode b_RE_followRowOut 35 = .ok (.getfield 22, 3) := by decide +kernel
theorem d_RE_followRowOut_38 : decode b_RE_followRowOut 38 = .ok (.iconst 1, 1) := by decide +kernel
theorem d_RE_followRowOut_39 : decode b_RE_followRowOut 39 = .ok (.isub, 1) := by decide +kernel
theorem d_RE_followRowOut_40 : decode b_RE_followRowOut 40 = .ok (.putfield 22, 3) := by decide +kernel
theorem d_RE_followRowOut_43 : decode b_RE_followRowOut 43 = .ok (.return_, 1) := by decide +kernel
abbrev b_PT_followRowIn : ByteArray := prog_10_method_10_code
def y_PT_followRowIn : MethodName := ⟨"FormulaSheet$Part", "followRowIn", "(I)V"⟩
theorem d_PT_followRowIn_0 : decode b_PT_followRowIn 0 = .ok (.iconst 0, 1) := by decide +kernel
theorem d_PT_followRowIn_1 : decode b_PT_followRowIn 1 = .ok (.istore_n 2, 1) := by decide +kernel
theorem d_PT_followRowIn_2 : decode b_PT_followRowIn 2 = .ok (.iload_n 2, 1) := by decide +kernel
theorem d_PT_followRowIn_3 : decode b_PT_followRowIn 3 = .ok (.aload_n 0, 1) := by decide +kernel
theorem d_PT_followRowIn_4 : decode b_PT_followRowIn 4 = .ok (.getfield 7, 3) := by decide +kernel
theorem d_PT_followRowIn_7 : decode b_PT_followRowIn 7 = .ok (.arraylength, 1) := by decide +kernel
theorem d_PT_followRowIn_8 : decode b_PT_followRowIn 8 = .ok (.if_icmp .ge 19, 3) := by decide +kernel
theorem d_PT_followRowIn_11 : decode b_PT_followRowIn 11 = .ok (.aload_n 0, 1) := by decide +kernel
theorem d_PT_followRowIn_12 : decode b_PT_followRowIn 12 = .ok (.getfield 7, 3) := by decide +kernel
theorem d_PT_followRowIn_15 : decode b_PT_followRowIn 15 = .ok (.iload_n 2, 1) := by decide +kernel
theorem d_PT_followRowIn_16 : decode b_PT_followRowIn 16 = .ok (.aaload, 1) := by decide +kernel
theorem d_PT_followRowIn_17 : decode b_PT_followRowIn 17 = .ok (.iload_n 1, 1) := by decide +kernel
theorem d_PT_followRowIn_18 : decode b_PT_followRowIn 18 = .ok (.invokevirtual 42, 3) := by decide +kernel
theorem d_PT_followRowIn_21 : decode b_PT_followRowIn 21 = .ok (.iinc 2 1, 3) := by decide +kernel
theorem d_PT_followRowIn_24 : decode b_PT_followRowIn 24 = .ok (.goto (-22), 3) := by decide +kernel
theorem d_PT_followRowIn_27 : decode b_PT_followRowIn 27 = .ok (.return_, 1) := by decide +kernel
abbrev b_OV_followRowIn : ByteArray := prog_8_method_10_code
def y_OV_followRowIn : MethodName := ⟨"FormulaSheet$OverRange", "followRowIn", "(I)V"⟩
theorem d_OV_followRowIn_0 : decode b_OV_followRowIn 0 = .ok (.aload_n 0, 1) := by decide +kernel
theorem d_OV_followRowIn_1 : decode b_OV_followRowIn 1 = .ok (.invokevirtual 51, 3) := by decide +kernel
theorem d_OV_followRowIn_4 : decode b_OV_followRowIn 4 = .ok (.ifCond .ne 7, 3) := by decide +kernel
theorem d_OV_followRowIn_7 : decode b_OV_followRowIn 7 = .ok (.iconst 1, 1) := by decide +kernel
theorem d_OV_followRowIn_8 : decode b_OV_followRowIn 8 = .ok (.goto 4, 3) := by decide +kernel
theorem d_OV_followRowIn_11 : decode b_OV_followRowIn 11 = .ok (.iconst 0, 1) := by decide +kernel
theorem d_OV_followRowIn_12 : decode b_OV_followRowIn 12 = .ok (.istore_n 2, 1) := by decide +kernel
theorem d_OV_followRowIn_13 : decode b_OV_followRowIn 13 = .ok (.aload_n 0, 1) := by decide +kernel
theorem d_OV_followRowIn_14 : decode b_OV_followRowIn 14 = .ok (.getfield 15, 3) := by decide +kernel
theorem d_OV_followRowIn_17 : decode b_OV_followRowIn 17 = .ok (.getfield 48, 3) := by decide +kernel
theorem d_OV_followRowIn_20 : decode b_OV_followRowIn 20 = .ok (.aload_n 0, 1) := by decide +kernel
theorem d_OV_followRowIn_21 : decode b_OV_followRowIn 21 = .ok (.getfield 19, 3) := by decide +kernel
theorem d_OV_followRowIn_24 : decode b_OV_followRowIn 24 = .ok (.getfield 48, 3) := by decide +kernel
theorem d_OV_followRowIn_27 : decode b_OV_followRowIn 27 = .ok (.if_icmp .le 7, 3) := by decide +kernel
theorem d_OV_followRowIn_30 : decode b_OV_followRowIn 30 = .ok (.iconst 1, 1) := by decide +kernel
theorem d_OV_followRowIn_31 : decode b_OV_followRowIn 31 = .ok (.goto 4, 3) := by decide +kernel
theorem d_OV_followRowIn_34 : decode b_OV_followRowIn 34 = .ok (.iconst 0, 1) := by decide +kernel
theorem d_OV_followRowIn_35 : decode b_OV_followRowIn 35 = .ok (.istore_n 3, 1) := by decide +kernel
theorem d_OV_followRowIn_36 : decode b_OV_followRowIn 36 = .ok (.aload_n 0, 1) := by decide +kernel
theorem d_OV_followRowIn_37 : decode b_OV_followRowIn 37 = .ok (.getfield 15, 3) := by decide +kernel
theorem d_OV_followRowIn_40 : decode b_OV_followRowIn 40 = .ok (.iload_n 1, 1) := by decide +kernel
theorem d_OV_followRowIn_41 : decode b_OV_followRowIn 41 = .ok (.invokevirtual 74, 3) := by decide +kernel
theorem d_OV_followRowIn_44 : decode b_OV_followRowIn 44 = .ok (.aload_n 0, 1) := by decide +kernel
theorem d_OV_followRowIn_45 : decode b_OV_followRowIn 45 = .ok (.getfield 19, 3) := by decide +kernel
theorem d_OV_followRowIn_48 : decode b_OV_followRowIn 48 = .ok (.iload_n 1, 1) := by decide +kernel
theorem d_OV_followRowIn_49 : decode b_OV_followRowIn 49 = .ok (.invokevirtual 74, 3) := by decide +kernel
theorem d_OV_followRowIn_52 : decode b_OV_followRowIn 52 = .ok (.iload_n 2, 1) := by decide +kernel
theorem d_OV_followRowIn_53 : decode b_OV_followRowIn 53 = .ok (.ifCond .eq 21, 3) := by decide +kernel
theorem d_OV_followRowIn_56 : decode b_OV_followRowIn 56 = .ok (.iload_n 3, 1) := by decide +kernel
theorem d_OV_followRowIn_57 : decode b_OV_followRowIn 57 = .ok (.ifCond .eq 10, 3) := by decide +kernel
theorem d_OV_followRowIn_60 : decode b_OV_followRowIn 60 = .ok (.aload_n 0, 1) := by decide +kernel
theorem d_OV_followRowIn_61 : decode b_OV_followRowIn 61 = .ok (.getfield 15, 3) := by decide +kernel
theorem d_OV_followRowIn_64 : decode b_OV_followRowIn 64 = .ok (.goto 7, 3) := by decide +kernel
theorem d_OV_followRowIn_67 : decode b_OV_followRowIn 67 = .ok (.aload_n 0, 1) := by decide +kernel
theorem d_OV_followRowIn_68 : decode b_OV_followRowIn 68 = .ok (.getfield 19, 3) := by decide +kernel
theorem d_OV_followRowIn_71 : decode b_OV_followRowIn 71 = .ok (.invokestatic 77, 3) := by decide +kernel
theorem d_OV_followRowIn_74 : decode b_OV_followRowIn 74 = .ok (.return_, 1) := by decide +kernel
abbrev b_PT_followRowOut : ByteArray := prog_10_method_11_code
def y_PT_followRowOut : MethodName := ⟨"FormulaSheet$Part", "followRowOut", "(I)V"⟩
theorem d_PT_followRowOut_0 : decode b_PT_followRowOut 0 = .ok (.iconst 0, 1) := by decide +kernel
theorem d_PT_followRowOut_1 : decode b_PT_followRowOut 1 = .ok (.istore_n 2, 1) := by decide +kernel
theorem d_PT_followRowOut_2 : decode b_PT_followRowOut 2 = .ok (.iload_n 2, 1) := by decide +kernel
theorem d_PT_followRowOut_3 : decode b_PT_followRowOut 3 = .ok (.aload_n 0, 1) := by decide +kernel
theorem d_PT_followRowOut_4 : decode b_PT_followRowOut 4 = .ok (.getfield 7, 3) := by decide +kernel
theorem d_PT_followRowOut_7 : decode b_PT_followRowOut 7 = .ok (.arraylength, 1) := by decide +kernel
theorem d_PT_followRowOut_8 : decode b_PT_followRowOut 8 = .ok (.if_icmp .ge 19, 3) := by decide +kernel
theorem d_PT_followRowOut_11 : decode b_PT_followRowOut 11 = .ok (.aload_n 0, 1) := by decide +kernel
theorem d_PT_followRowOut_12 : decode b_PT_followRowOut 12 = .ok (.getfield 7, 3) := by decide +kernel
theorem d_PT_followRowOut_15 : decode b_PT_followRowOut 15 = .ok (.iload_n 2, 1) := by decide +kernel
theorem d_PT_followRowOut_16 : decode b_PT_followRowOut 16 = .ok (.aaload, 1) := by decide +kernel
theorem d_PT_followRowOut_17 : decode b_PT_followRowOut 17 = .ok (.iload_n 1, 1) := by decide +kernel
theorem d_PT_followRowOut_18 : decode b_PT_followRowOut 18 = .ok (.invokevirtual 46, 3) := by decide +kernel
theorem d_PT_followRowOut_21 : decode b_PT_followRowOut 21 = .ok (.iinc 2 1, 3) := by decide +kernel
theorem d_PT_followRowOut_24 : decode b_PT_followRowOut 24 = .ok (.goto (-22), 3) := by decide +kernel
theorem d_PT_followRowOut_27 : decode b_PT_followRowOut 27 = .ok (.return_, 1) := by decide +kernel
abbrev b_OV_followRowOut : ByteArray := prog_8_method_12_code
def y_OV_followRowOut : MethodName := ⟨"FormulaSheet$OverRange", "followRowOut", "(I)V"⟩
theorem d_OV_followRowOut_0 : decode b_OV_followRowOut 0 = .ok (.aload_n 0, 1) := by decide +kernel
theorem d_OV_followRowOut_1 : decode b_OV_followRowOut 1 = .ok (.invokevirtual 51, 3) := by decide +kernel
theorem d_OV_followRowOut_4 : decode b_OV_followRowOut 4 = .ok (.ifCond .ne 20, 3) := by decide +kernel
theorem d_OV_followRowOut_7 : decode b_OV_followRowOut 7 = .ok (.aload_n 0, 1) := by decide +kernel
theorem d_OV_followRowOut_8 : decode b_OV_followRowOut 8 = .ok (.getfield 15, 3) := by decide +kernel
theorem d_OV_followRowOut_11 : decode b_OV_followRowOut 11 = .ok (.getfield 48, 3) := by decide +kernel
theorem d_OV_followRowOut_14 : decode b_OV_followRowOut 14 = .ok (.aload_n 0, 1) := by decide +kernel
theorem d_OV_followRowOut_15 : decode b_OV_followRowOut 15 = .ok (.getfield 19, 3) := by decide +kernel
theorem d_OV_followRowOut_18 : decode b_OV_followRowOut 18 = .ok (.getfield 48, 3) := by decide +kernel
theorem d_OV_followRowOut_21 : decode b_OV_followRowOut 21 = .ok (.if_icmp .ne 20, 3) := by decide +kernel
theorem d_OV_followRowOut_24 : decode b_OV_followRowOut 24 = .ok (.aload_n 0, 1) := by decide +kernel
theorem d_OV_followRowOut_25 : decode b_OV_followRowOut 25 = .ok (.getfield 15, 3) := by decide +kernel
theorem d_OV_followRowOut_28 : decode b_OV_followRowOut 28 = .ok (.iload_n 1, 1) := by decide +kernel
theorem d_OV_followRowOut_29 : decode b_OV_followRowOut 29 = .ok (.invokevirtual 81, 3) := by decide +kernel
theorem d_OV_followRowOut_32 : decode b_OV_followRowOut 32 = .ok (.aload_n 0, 1) := by decide +kernel
theorem d_OV_followRowOut_33 : decode b_OV_followRowOut 33 = .ok (.getfield 19, 3) := by decide +kernel
theorem d_OV_followRowOut_36 : decode b_OV_followRowOut 36 = .ok (.iload_n 1, 1) := by decide +kernel
theorem d_OV_followRowOut_37 : decode b_OV_followRowOut 37 = .ok (.invokevirtual 81, 3) := by decide +kernel
theorem d_OV_followRowOut_40 : decode b_OV_followRowOut 40 = .ok (.return_, 1) := by decide +kernel
theorem d_OV_followRowOut_41 : decode b_OV_followRowOut 41 = .ok (.aload_n 0, 1) := by decide +kernel
theorem d_OV_followRowOut_42 : decode b_OV_followRowOut 42 = .ok (.getfield 15, 3) := by decide +kernel
theorem d_OV_followRowOut_45 : decode b_OV_followRowOut 45 = .ok (.getfield 48, 3) := by decide +kernel
theorem d_OV_followRowOut_48 : decode b_OV_followRowOut 48 = .ok (.aload_n 0, 1) := by decide +kernel
theorem d_OV_followRowOut_49 : decode b_OV_followRowOut 49 = .ok (.getfield 19, 3) := by decide +kernel
theorem d_OV_followRowOut_52 : decode b_OV_followRowOut 52 = .ok (.getfield 48, 3) := by decide +kernel
theorem d_OV_followRowOut_55 : decode b_OV_followRowOut 55 = .ok (.if_icmp .ge 10, 3) := by decide +kernel
theorem d_OV_followRowOut_58 : decode b_OV_followRowOut 58 = .ok (.aload_n 0, 1) := by decide +kernel
theorem d_OV_followRowOut_59 : decode b_OV_followRowOut 59 = .ok (.getfield 15, 3) := by decide +kernel
theorem d_OV_followRowOut_62 : decode b_OV_followRowOut 62 = .ok (.goto 7, 3) := by decide +kernel
theorem d_OV_followRowOut_65 : decode b_OV_followRowOut 65 = .ok (.aload_n 0, 1) := by decide +kernel
theorem d_OV_followRowOut_66 : decode b_OV_followRowOut 66 = .ok (.getfield 19, 3) := by decide +kernel
theorem d_OV_followRowOut_69 : decode b_OV_followRowOut 69 = .ok (.astore_n 2, 1) := by decide +kernel
theorem d_OV_followRowOut_70 : decode b_OV_followRowOut 70 = .ok (.aload_n 0, 1) := by decide +kernel
theorem d_OV_followRowOut_71 : decode b_OV_followRowOut 71 = .ok (.getfield 15, 3) := by decide +kernel
theorem d_OV_followRowOut_74 : decode b_OV_followRowOut 74 = .ok (.getfield 48, 3) := by decide +kernel
theorem d_OV_followRowOut_77 : decode b_OV_followRowOut 77 = .ok (.aload_n 0, 1) := by decide +kernel
theorem d_OV_followRowOut_78 : decode b_OV_followRowOut 78 = .ok (.getfield 19, 3) := by decide +kernel
theorem d_OV_followRowOut_81 : decode b_OV_followRowOut 81 = .ok (.getfield 48, 3) := by decide +kernel
theorem d_OV_followRowOut_84 : decode b_OV_followRowOut 84 = .ok (.if_icmp .ge 10, 3) := by decide +kernel
theorem d_OV_followRowOut_87 : decode b_OV_followRowOut 87 = .ok (.aload_n 0, 1) := by decide +kernel
theorem d_OV_followRowOut_88 : decode b_OV_followRowOut 88 = .ok (.getfield 19, 3) := by decide +kernel
theorem d_OV_followRowOut_91 : decode b_OV_followRowOut 91 = .ok (.goto 7, 3) := by decide +kernel
theorem d_OV_followRowOut_94 : decode b_OV_followRowOut 94 = .ok (.aload_n 0, 1) := by decide +kernel
theorem d_OV_followRowOut_95 : decode b_OV_followRowOut 95 = .ok (.getfield 15, 3) := by decide +kernel
theorem d_OV_followRowOut_98 : decode b_OV_followRowOut 98 = .ok (.astore_n 3, 1) := by decide +kernel
theorem d_OV_followRowOut_99 : decode b_OV_followRowOut 99 = .ok (.aload_n 2, 1) := by decide +kernel
theorem d_OV_followRowOut_100 : decode b_OV_followRowOut 100 = .ok (.getfield 48, 3) := by decide +kernel
theorem d_OV_followRowOut_103 : decode b_OV_followRowOut 103 = .ok (.iload_n 1, 1) := by decide +kernel
theorem d_OV_followRowOut_104 : decode b_OV_followRowOut 104 = .ok (.if_icmp .le 13, 3) := by decide +kernel
theorem d_OV_followRowOut_107 : decode b_OV_followRowOut 107 = .ok (.aload_n 2, 1) := by decide +kernel
theorem d_OV_followRowOut_108 : decode b_OV_followRowOut 108 = .ok (.dup, 1) := by decide +kernel
theorem d_OV_followRowOut_109 : decode b_OV_followRowOut 109 = .ok (.getfield 48, 3) := by decide +kernel
theorem d_OV_followRowOut_112 : decode b_OV_followRowOut 112 = .ok (.iconst 1, 1) := by decide +kernel
theorem d_OV_followRowOut_113 : decode b_OV_followRowOut 113 = .ok (.isub, 1) := by decide +kernel
theorem d_OV_followRowOut_114 : decode b_OV_followRowOut 114 = .ok (.putfield 48, 3) := by decide +kernel
theorem d_OV_followRowOut_117 : decode b_OV_followRowOut 117 = .ok (.aload_n 3, 1) := by decide +kernel
theorem d_OV_followRowOut_118 : decode b_OV_followRowOut 118 = .ok (.getfield 48, 3) := by decide +kernel
theorem d_OV_followRowOut_121 : decode b_OV_followRowOut 121 = .ok (.iload_n 1, 1) := by decide +kernel
theorem d_OV_followRowOut_122 : decode b_OV_followRowOut 122 = .ok (.if_icmp .lt 13, 3) := by decide +kernel
theorem d_OV_followRowOut_125 : decode b_OV_followRowOut 125 = .ok (.aload_n 3, 1) := by decide +kernel
theorem d_OV_followRowOut_126 : decode b_OV_followRowOut 126 = .ok (.dup, 1) := by decide +kernel
theorem d_OV_followRowOut_127 : decode b_OV_followRowOut 127 = .ok (.getfield 48, 3) := by decide +kernel
theorem d_OV_followRowOut_130 : decode b_OV_followRowOut 130 = .ok (.iconst 1, 1) := by decide +kernel
theorem d_OV_followRowOut_131 : decode b_OV_followRowOut 131 = .ok (.isub, 1) := by decide +kernel
theorem d_OV_followRowOut_132 : decode b_OV_followRowOut 132 = .ok (.putfield 48, 3) := by decide +kernel
theorem d_OV_followRowOut_135 : decode b_OV_followRowOut 135 = .ok (.return_, 1) := by decide +kernel
abbrev b_PT_moved : ByteArray := prog_10_method_7_code
def y_PT_moved : MethodName := ⟨"FormulaSheet$Part", "moved", "(II)LFormulaSheet$Part;"⟩
theorem d_PT_moved_0 : decode b_PT_moved 0 = .ok (.aload_n 0, 1) := by decide +kernel
theorem d_PT_moved_1 : decode b_PT_moved 1 = .ok (.getfield 7, 3) := by decide +kernel
theorem d_PT_moved_4 : decode b_PT_moved 4 = .ok (.arraylength, 1) := by decide +kernel
theorem d_PT_moved_5 : decode b_PT_moved 5 = .ok (.anewarray 8, 3) := by decide +kernel
theorem d_PT_moved_8 : decode b_PT_moved 8 = .ok (.astore_n 3, 1) := by decide +kernel
theorem d_PT_moved_9 : decode b_PT_moved 9 = .ok (.iconst 0, 1) := by decide +kernel
theorem d_PT_moved_10 : decode b_PT_moved 10 = .ok (.istore 4, 2) := by decide +kernel
theorem d_PT_moved_12 : decode b_PT_moved 12 = .ok (.iload 4, 2) := by decide +kernel
theorem d_PT_moved_14 : decode b_PT_moved 14 = .ok (.aload_n 0, 1) := by decide +kernel
theorem d_PT_moved_15 : decode b_PT_moved 15 = .ok (.getfield 7, 3) := by decide +kernel
theorem d_PT_moved_18 : decode b_PT_moved 18 = .ok (.arraylength, 1) := by decide +kernel
theorem d_PT_moved_19 : decode b_PT_moved 19 = .ok (.if_icmp .ge 25, 3) := by decide +kernel
theorem d_PT_moved_22 : decode b_PT_moved 22 = .ok (.aload_n 3, 1) := by decide +kernel
theorem d_PT_moved_23 : decode b_PT_moved 23 = .ok (.iload 4, 2) := by decide +kernel
theorem d_PT_moved_25 : decode b_PT_moved 25 = .ok (.aload_n 0, 1) := by decide +kernel
theorem d_PT_moved_26 : decode b_PT_moved 26 = .ok (.getfield 7, 3) := by decide +kernel
theorem d_PT_moved_29 : decode b_PT_moved 29 = .ok (.iload 4, 2) := by decide +kernel
theorem d_PT_moved_31 : decode b_PT_moved 31 = .ok (.aaload, 1) := by decide +kernel
theorem d_PT_moved_32 : decode b_PT_moved 32 = .ok (.iload_n 1, 1) := by decide +kernel
theorem d_PT_moved_33 : decode b_PT_moved 33 = .ok (.iload_n 2, 1) := by decide +kernel
theorem d_PT_moved_34 : decode b_PT_moved 34 = .ok (.invokevirtual 27, 3) := by decide +kernel
theorem d_PT_moved_37 : decode b_PT_moved 37 = .ok (.aastore, 1) := by decide +kernel
theorem d_PT_moved_38 : decode b_PT_moved 38 = .ok (.iinc 4 1, 3) := by decide +kernel
theorem d_PT_moved_41 : decode b_PT_moved 41 = .ok (.goto (-29), 3) := by decide +kernel
theorem d_PT_moved_44 : decode b_PT_moved 44 = .ok (.aload_n 0, 1) := by decide +kernel
theorem d_PT_moved_45 : decode b_PT_moved 45 = .ok (.aload_n 3, 1) := by decide +kernel
theorem d_PT_moved_46 : decode b_PT_moved 46 = .ok (.invokevirtual 31, 3) := by decide +kernel
theorem d_PT_moved_49 : decode b_PT_moved 49 = .ok (.areturn, 1) := by decide +kernel
abbrev b_RE_moved : ByteArray := prog_11_method_3_code
def y_RE_moved : MethodName := ⟨"FormulaSheet$Reference", "moved", "(II)LFormulaSheet$Part;"⟩
theorem d_RE_moved_0 : decode b_RE_moved 0 = .ok (.aload_n 0, 1) := by decide +kernel
theorem d_RE_moved_1 : decode b_RE_moved 1 = .ok (.iload_n 1, 1) := by decide +kernel
theorem d_RE_moved_2 : decode b_RE_moved 2 = .ok (.iload_n 2, 1) := by decide +kernel
theorem d_RE_moved_3 : decode b_RE_moved 3 = .ok (.invokevirtual 25, 3) := by decide +kernel
theorem d_RE_moved_6 : decode b_RE_moved 6 = .ok (.areturn, 1) := by decide +kernel
abbrev b_OV_moved : ByteArray := prog_8_method_3_code
def y_OV_moved : MethodName := ⟨"FormulaSheet$OverRange", "moved", "(II)LFormulaSheet$Part;"⟩
theorem d_OV_moved_0 : decode b_OV_moved 0 = .ok (.new 10, 3) := by decide +kernel
theorem d_OV_moved_3 : decode b_OV_moved 3 = .ok (.dup, 1) := by decide +kernel
theorem d_OV_moved_4 : decode b_OV_moved 4 = .ok (.aload_n 0, 1) := by decide +kernel
theorem d_OV_moved_5 : decode b_OV_moved 5 = .ok (.getfield 9, 3) := by decide +kernel
theorem d_OV_moved_8 : decode b_OV_moved 8 = .ok (.aload_n 0, 1) := by decide +kernel
theorem d_OV_moved_9 : decode b_OV_moved 9 = .ok (.getfield 15, 3) := by decide +kernel
theorem d_OV_moved_12 : decode b_OV_moved 12 = .ok (.iload_n 1, 1) := by decide +kernel
theorem d_OV_moved_13 : decode b_OV_moved 13 = .ok (.iload_n 2, 1) := by decide +kernel
theorem d_OV_moved_14 : decode b_OV_moved 14 = .ok (.invokevirtual 22, 3) := by decide +kernel
theorem d_OV_moved_17 : decode b_OV_moved 17 = .ok (.aload_n 0, 1) := by decide +kernel
theorem d_OV_moved_18 : decode b_OV_moved 18 = .ok (.getfield 19, 3) := by decide +kernel
theorem d_OV_moved_21 : decode b_OV_moved 21 = .ok (.iload_n 1, 1) := by decide +kernel
theorem d_OV_moved_22 : decode b_OV_moved 22 = .ok (.iload_n 2, 1) := by decide +kernel
theorem d_OV_moved_23 : decode b_OV_moved 23 = .ok (.invokevirtual 22, 3) := by decide +kernel
theorem d_OV_moved_26 : decode b_OV_moved 26 = .ok (.invokespecial 28, 3) := by decide +kernel
theorem d_OV_moved_29 : decode b_OV_moved 29 = .ok (.areturn, 1) := by decide +kernel
theorem tw_88 : lw_tbl[88]? = some (Jvm.Cond.initialized "FormulaSheet") := by decide +kernel
theorem tw_104 : lw_tbl[104]? = some (Jvm.Cond.initialized "FormulaSheet$Numeral") := by decide +kernel
theorem tw_110 : lw_tbl[110]? = some (Jvm.Cond.initialized "FormulaSheet$Call") := by decide +kernel
theorem tw_111 : lw_tbl[111]? = some (Jvm.Cond.initialized "FormulaSheet$Single") := by decide +kernel
theorem tw_112 : lw_tbl[112]? = some (Jvm.Cond.initialized "FormulaSheet$Pair") := by decide +kernel
theorem tw_300 : lw_tbl[300]? = some (Jvm.Cond.instantiable "FormulaSheet$OverRange" (4 : Nat)) := by decide +kernel
theorem tw_335 : lw_tbl[335]? = some (Jvm.Cond.instantiable "FormulaSheet$Reference" (6 : Nat)) := by decide +kernel
theorem tw_439 : lw_tbl[439]? = some (Jvm.Cond.instanceMethod ({ cls := "FormulaSheet$Pair", name := "rule", desc := "()I" } : Jvm.MethodName)) := by decide +kernel
theorem tw_441 : lw_tbl[441]? = some (Jvm.Cond.code ({ cls := "FormulaSheet$Pair", name := "rule", desc := "()I" } : Jvm.MethodName) prog_9_method_2_code (1 : Nat) (Option.some Jvm.ClassFile.FieldType.int)) := by decide +kernel
theorem tw_448 : lw_tbl[448]? = some (Jvm.Cond.instantiable "FormulaSheet$Pair" (2 : Nat)) := by decide +kernel
theorem tw_592 : lw_tbl[592]? = some (Jvm.Cond.static ({ cls := "FormulaSheet", name := "isInSheet", desc := "(II)Z" } : Jvm.MethodName)) := by decide +kernel
theorem tw_593 : lw_tbl[593]? = some (Jvm.Cond.code ({ cls := "FormulaSheet", name := "isInSheet", desc := "(II)Z" } : Jvm.MethodName) prog_1_method_17_code (2 : Nat) (Option.some Jvm.ClassFile.FieldType.boolean)) := by decide +kernel
theorem tw_697 : lw_tbl[697]? = some (Jvm.Cond.instanceMethod ({ cls := "FormulaSheet$Reference", name := "<init>", desc := "(ZIZI)V" } : Jvm.MethodName)) := by decide +kernel
theorem tw_698 : lw_tbl[698]? = some (Jvm.Cond.code ({ cls := "FormulaSheet$Reference", name := "<init>", desc := "(ZIZI)V" } : Jvm.MethodName) prog_11_method_1_code (5 : Nat) (Option.none : Option Jvm.ClassFile.FieldType)) := by decide +kernel
theorem tw_793 : lw_tbl[793]? = some (Jvm.Cond.instanceMethod ({ cls := "FormulaSheet$OverRange", name := "<init>", desc := "(LFormulaSheet$Name;LFormulaSheet$Reference;LFormulaSheet$Reference;)V" } : Jvm.MethodName)) := by decide +kernel
theorem tw_794 : lw_tbl[794]? = some (Jvm.Cond.code ({ cls := "FormulaSheet$OverRange", name := "<init>", desc := "(LFormulaSheet$Name;LFormulaSheet$Reference;LFormulaSheet$Reference;)V" } : Jvm.MethodName) prog_8_method_1_code (4 : Nat) (Option.none : Option Jvm.ClassFile.FieldType)) := by decide +kernel
theorem tw_814 : lw_tbl[814]? = some (Jvm.Cond.instantiable "FormulaSheet$Call" (2 : Nat)) := by decide +kernel
theorem tw_816 : lw_tbl[816]? = some (Jvm.Cond.instanceMethod ({ cls := "FormulaSheet$Call", name := "<init>", desc := "(LFormulaSheet$Name;[LFormulaSheet$Part;)V" } : Jvm.MethodName)) := by decide +kernel
theorem tw_817 : lw_tbl[817]? = some (Jvm.Cond.code ({ cls := "FormulaSheet$Call", name := "<init>", desc := "(LFormulaSheet$Name;[LFormulaSheet$Part;)V" } : Jvm.MethodName) prog_2_method_1_code (3 : Nat) (Option.none : Option Jvm.ClassFile.FieldType)) := by decide +kernel
theorem tw_828 : lw_tbl[828]? = some (Jvm.Cond.instantiable "FormulaSheet$Single" (2 : Nat)) := by decide +kernel
theorem tw_830 : lw_tbl[830]? = some (Jvm.Cond.instanceMethod ({ cls := "FormulaSheet$Single", name := "<init>", desc := "(CLFormulaSheet$Part;)V" } : Jvm.MethodName)) := by decide +kernel
theorem tw_831 : lw_tbl[831]? = some (Jvm.Cond.code ({ cls := "FormulaSheet$Single", name := "<init>", desc := "(CLFormulaSheet$Part;)V" } : Jvm.MethodName) prog_12_method_1_code (3 : Nat) (Option.none : Option Jvm.ClassFile.FieldType)) := by decide +kernel
theorem tw_848 : lw_tbl[848]? = some (Jvm.Cond.instanceMethod ({ cls := "FormulaSheet$Pair", name := "<init>", desc := "(CLFormulaSheet$Part;LFormulaSheet$Part;)V" } : Jvm.MethodName)) := by decide +kernel
theorem tw_849 : lw_tbl[849]? = some (Jvm.Cond.code ({ cls := "FormulaSheet$Pair", name := "<init>", desc := "(CLFormulaSheet$Part;LFormulaSheet$Part;)V" } : Jvm.MethodName) prog_9_method_1_code (4 : Nat) (Option.none : Option Jvm.ClassFile.FieldType)) := by decide +kernel
theorem tw_919 : lw_tbl[919]? = some (Jvm.Cond.instanceMethod ({ cls := "FormulaSheet$Part", name := "moved", desc := "(II)LFormulaSheet$Part;" } : Jvm.MethodName)) := by decide +kernel
theorem tw_920 : lw_tbl[920]? = some (Jvm.Cond.sameMethod "FormulaSheet$Part" "FormulaSheet$Part" "moved" "(II)LFormulaSheet$Part;") := by decide +kernel
theorem tw_921 : lw_tbl[921]? = some (Jvm.Cond.selects "FormulaSheet$Call" ({ cls := "FormulaSheet$Part", name := "moved", desc := "(II)LFormulaSheet$Part;" } : Jvm.MethodName) ({ cls := "FormulaSheet$Part", name := "moved", desc := "(II)LFormulaSheet$Part;" } : Jvm.MethodName)) := by decide +kernel
theorem tw_922 : lw_tbl[922]? = some (Jvm.Cond.selects "FormulaSheet$Numeral" ({ cls := "FormulaSheet$Part", name := "moved", desc := "(II)LFormulaSheet$Part;" } : Jvm.MethodName) ({ cls := "FormulaSheet$Part", name := "moved", desc := "(II)LFormulaSheet$Part;" } : Jvm.MethodName)) := by decide +kernel
theorem tw_923 : lw_tbl[923]? = some (Jvm.Cond.selects "FormulaSheet$OverRange" ({ cls := "FormulaSheet$Part", name := "moved", desc := "(II)LFormulaSheet$Part;" } : Jvm.MethodName) ({ cls := "FormulaSheet$OverRange", name := "moved", desc := "(II)LFormulaSheet$Part;" } : Jvm.MethodName)) := by decide +kernel
theorem tw_924 : lw_tbl[924]? = some (Jvm.Cond.instanceMethod ({ cls := "FormulaSheet$OverRange", name := "moved", desc := "(II)LFormulaSheet$Part;" } : Jvm.MethodName)) := by decide +kernel
theorem tw_925 : lw_tbl[925]? = some (Jvm.Cond.code ({ cls := "FormulaSheet$OverRange", name := "moved", desc := "(II)LFormulaSheet$Part;" } : Jvm.MethodName) prog_8_method_3_code (3 : Nat) (Option.some (Jvm.ClassFile.FieldType.object "FormulaSheet$Part"))) := by decide +kernel
theorem tw_926 : lw_tbl[926]? = some (Jvm.Cond.classLink "FormulaSheet$OverRange" (10 : Nat) "FormulaSheet$OverRange") := by decide +kernel
theorem tw_927 : lw_tbl[927]? = some (Jvm.Cond.methodLink "FormulaSheet$OverRange" (22 : Nat) ({ cls := "FormulaSheet$Reference", name := "shifted", desc := "(II)LFormulaSheet$Reference;" } : Jvm.MethodName)) := by decide +kernel
theorem tw_928 : lw_tbl[928]? = some (Jvm.Cond.instanceMethod ({ cls := "FormulaSheet$Reference", name := "shifted", desc := "(II)LFormulaSheet$Reference;" } : Jvm.MethodName)) := by decide +kernel
theorem tw_929 : lw_tbl[929]? = some (Jvm.Cond.selects "FormulaSheet$Reference" ({ cls := "FormulaSheet$Reference", name := "shifted", desc := "(II)LFormulaSheet$Reference;" } : Jvm.MethodName) ({ cls := "FormulaSheet$Reference", name := "shifted", desc := "(II)LFormulaSheet$Reference;" } : Jvm.MethodName)) := by decide +kernel
theorem tw_930 : lw_tbl[930]? = some (Jvm.Cond.code ({ cls := "FormulaSheet$Reference", name := "shifted", desc := "(II)LFormulaSheet$Reference;" } : Jvm.MethodName) prog_11_method_4_code (6 : Nat) (Option.some (Jvm.ClassFile.FieldType.object "FormulaSheet$Reference"))) := by decide +kernel
theorem tw_931 : lw_tbl[931]? = some (Jvm.Cond.classLink "FormulaSheet$Reference" (10 : Nat) "FormulaSheet$Reference") := by decide +kernel
theorem tw_932 : lw_tbl[932]? = some (Jvm.Cond.methodLink "FormulaSheet$Reference" (29 : Nat) ({ cls := "FormulaSheet$Reference", name := "<init>", desc := "(ZIZI)V" } : Jvm.MethodName)) := by decide +kernel
theorem tw_933 : lw_tbl[933]? = some (Jvm.Cond.methodLinkNest "FormulaSheet$Reference" (35 : Nat) ({ cls := "FormulaSheet", name := "isInSheet", desc := "(II)Z" } : Jvm.MethodName) "FormulaSheet") := by decide +kernel
theorem tw_934 : lw_tbl[934]? = some (Jvm.Cond.methodLink "FormulaSheet$OverRange" (28 : Nat) ({ cls := "FormulaSheet$OverRange", name := "<init>", desc := "(LFormulaSheet$Name;LFormulaSheet$Reference;LFormulaSheet$Reference;)V" } : Jvm.MethodName)) := by decide +kernel
theorem tw_935 : lw_tbl[935]? = some (Jvm.Cond.selects "FormulaSheet$Pair" ({ cls := "FormulaSheet$Part", name := "moved", desc := "(II)LFormulaSheet$Part;" } : Jvm.MethodName) ({ cls := "FormulaSheet$Part", name := "moved", desc := "(II)LFormulaSheet$Part;" } : Jvm.MethodName)) := by decide +kernel
theorem tw_936 : lw_tbl[936]? = some (Jvm.Cond.selects "FormulaSheet$Reference" ({ cls := "FormulaSheet$Part", name := "moved", desc := "(II)LFormulaSheet$Part;" } : Jvm.MethodName) ({ cls := "FormulaSheet$Reference", name := "moved", desc := "(II)LFormulaSheet$Part;" } : Jvm.MethodName)) := by decide +kernel
theorem tw_937 : lw_tbl[937]? = some (Jvm.Cond.instanceMethod ({ cls := "FormulaSheet$Reference", name := "moved", desc := "(II)LFormulaSheet$Part;" } : Jvm.MethodName)) := by decide +kernel
theorem tw_938 : lw_tbl[938]? = some (Jvm.Cond.code ({ cls := "FormulaSheet$Reference", name := "moved", desc := "(II)LFormulaSheet$Part;" } : Jvm.MethodName) prog_11_method_3_code (3 : Nat) (Option.some (Jvm.ClassFile.FieldType.object "FormulaSheet$Part"))) := by decide +kernel
theorem tw_939 : lw_tbl[939]? = some (Jvm.Cond.methodLink "FormulaSheet$Reference" (25 : Nat) ({ cls := "FormulaSheet$Reference", name := "shifted", desc := "(II)LFormulaSheet$Reference;" } : Jvm.MethodName)) := by decide +kernel
theorem tw_940 : lw_tbl[940]? = some (Jvm.Cond.selects "FormulaSheet$Single" ({ cls := "FormulaSheet$Part", name := "moved", desc := "(II)LFormulaSheet$Part;" } : Jvm.MethodName) ({ cls := "FormulaSheet$Part", name := "moved", desc := "(II)LFormulaSheet$Part;" } : Jvm.MethodName)) := by decide +kernel
theorem tw_941 : lw_tbl[941]? = some (Jvm.Cond.code ({ cls := "FormulaSheet$Part", name := "moved", desc := "(II)LFormulaSheet$Part;" } : Jvm.MethodName) prog_10_method_7_code (5 : Nat) (Option.some (Jvm.ClassFile.FieldType.object "FormulaSheet$Part"))) := by decide +kernel
theorem tw_942 : lw_tbl[942]? = some (Jvm.Cond.classLink "FormulaSheet$Part" (8 : Nat) "FormulaSheet$Part") := by decide +kernel
theorem tw_943 : lw_tbl[943]? = some (Jvm.Cond.methodLink "FormulaSheet$Part" (27 : Nat) ({ cls := "FormulaSheet$Part", name := "moved", desc := "(II)LFormulaSheet$Part;" } : Jvm.MethodName)) := by decide +kernel
theorem tw_944 : lw_tbl[944]? = some (Jvm.Cond.methodLink "FormulaSheet$Part" (31 : Nat) ({ cls := "FormulaSheet$Part", name := "with", desc := "([LFormulaSheet$Part;)LFormulaSheet$Part;" } : Jvm.MethodName)) := by decide +kernel
theorem tw_945 : lw_tbl[945]? = some (Jvm.Cond.instanceMethod ({ cls := "FormulaSheet$Part", name := "with", desc := "([LFormulaSheet$Part;)LFormulaSheet$Part;" } : Jvm.MethodName)) := by decide +kernel
theorem tw_946 : lw_tbl[946]? = some (Jvm.Cond.sameMethod "FormulaSheet$Part" "FormulaSheet$Part" "with" "([LFormulaSheet$Part;)LFormulaSheet$Part;") := by decide +kernel
theorem tw_947 : lw_tbl[947]? = some (Jvm.Cond.selects "FormulaSheet$Call" ({ cls := "FormulaSheet$Part", name := "with", desc := "([LFormulaSheet$Part;)LFormulaSheet$Part;" } : Jvm.MethodName) ({ cls := "FormulaSheet$Call", name := "with", desc := "([LFormulaSheet$Part;)LFormulaSheet$Part;" } : Jvm.MethodName)) := by decide +kernel
theorem tw_948 : lw_tbl[948]? = some (Jvm.Cond.instanceMethod ({ cls := "FormulaSheet$Call", name := "with", desc := "([LFormulaSheet$Part;)LFormulaSheet$Part;" } : Jvm.MethodName)) := by decide +kernel
theorem tw_949 : lw_tbl[949]? = some (Jvm.Cond.code ({ cls := "FormulaSheet$Call", name := "with", desc := "([LFormulaSheet$Part;)LFormulaSheet$Part;" } : Jvm.MethodName) prog_2_method_3_code (2 : Nat) (Option.some (Jvm.ClassFile.FieldType.object "FormulaSheet$Part"))) := by decide +kernel
theorem tw_950 : lw_tbl[950]? = some (Jvm.Cond.classLink "FormulaSheet$Call" (10 : Nat) "FormulaSheet$Call") := by decide +kernel
theorem tw_951 : lw_tbl[951]? = some (Jvm.Cond.methodLink "FormulaSheet$Call" (15 : Nat) ({ cls := "FormulaSheet$Call", name := "<init>", desc := "(LFormulaSheet$Name;[LFormulaSheet$Part;)V" } : Jvm.MethodName)) := by decide +kernel
theorem tw_952 : lw_tbl[952]? = some (Jvm.Cond.selects "FormulaSheet$Numeral" ({ cls := "FormulaSheet$Part", name := "with", desc := "([LFormulaSheet$Part;)LFormulaSheet$Part;" } : Jvm.MethodName) ({ cls := "FormulaSheet$Part", name := "with", desc := "([LFormulaSheet$Part;)LFormulaSheet$Part;" } : Jvm.MethodName)) := by decide +kernel
theorem tw_953 : lw_tbl[953]? = some (Jvm.Cond.selects "FormulaSheet$OverRange" ({ cls := "FormulaSheet$Part", name := "with", desc := "([LFormulaSheet$Part;)LFormulaSheet$Part;" } : Jvm.MethodName) ({ cls := "FormulaSheet$Part", name := "with", desc := "([LFormulaSheet$Part;)LFormulaSheet$Part;" } : Jvm.MethodName)) := by decide +kernel
theorem tw_954 : lw_tbl[954]? = some (Jvm.Cond.selects "FormulaSheet$Pair" ({ cls := "FormulaSheet$Part", name := "with", desc := "([LFormulaSheet$Part;)LFormulaSheet$Part;" } : Jvm.MethodName) ({ cls := "FormulaSheet$Pair", name := "with", desc := "([LFormulaSheet$Part;)LFormulaSheet$Part;" } : Jvm.MethodName)) := by decide +kernel
theorem tw_955 : lw_tbl[955]? = some (Jvm.Cond.instanceMethod ({ cls := "FormulaSheet$Pair", name := "with", desc := "([LFormulaSheet$Part;)LFormulaSheet$Part;" } : Jvm.MethodName)) := by decide +kernel
theorem tw_956 : lw_tbl[956]? = some (Jvm.Cond.code ({ cls := "FormulaSheet$Pair", name := "with", desc := "([LFormulaSheet$Part;)LFormulaSheet$Part;" } : Jvm.MethodName) prog_9_method_3_code (2 : Nat) (Option.some (Jvm.ClassFile.FieldType.object "FormulaSheet$Part"))) := by decide +kernel
theorem tw_957 : lw_tbl[957]? = some (Jvm.Cond.classLink "FormulaSheet$Pair" (10 : Nat) "FormulaSheet$Pair") := by decide +kernel
theorem tw_958 : lw_tbl[958]? = some (Jvm.Cond.methodLink "FormulaSheet$Pair" (15 : Nat) ({ cls := "FormulaSheet$Pair", name := "<init>", desc := "(CLFormulaSheet$Part;LFormulaSheet$Part;)V" } : Jvm.MethodName)) := by decide +kernel
theorem tw_959 : lw_tbl[959]? = some (Jvm.Cond.selects "FormulaSheet$Reference" ({ cls := "FormulaSheet$Part", name := "with", desc := "([LFormulaSheet$Part;)LFormulaSheet$Part;" } : Jvm.MethodName) ({ cls := "FormulaSheet$Part", name := "with", desc := "([LFormulaSheet$Part;)LFormulaSheet$Part;" } : Jvm.MethodName)) := by decide +kernel
theorem tw_960 : lw_tbl[960]? = some (Jvm.Cond.selects "FormulaSheet$Single" ({ cls := "FormulaSheet$Part", name := "with", desc := "([LFormulaSheet$Part;)LFormulaSheet$Part;" } : Jvm.MethodName) ({ cls := "FormulaSheet$Single", name := "with", desc := "([LFormulaSheet$Part;)LFormulaSheet$Part;" } : Jvm.MethodName)) := by decide +kernel
theorem tw_961 : lw_tbl[961]? = some (Jvm.Cond.instanceMethod ({ cls := "FormulaSheet$Single", name := "with", desc := "([LFormulaSheet$Part;)LFormulaSheet$Part;" } : Jvm.MethodName)) := by decide +kernel
theorem tw_962 : lw_tbl[962]? = some (Jvm.Cond.code ({ cls := "FormulaSheet$Single", name := "with", desc := "([LFormulaSheet$Part;)LFormulaSheet$Part;" } : Jvm.MethodName) prog_12_method_3_code (2 : Nat) (Option.some (Jvm.ClassFile.FieldType.object "FormulaSheet$Part"))) := by decide +kernel
theorem tw_963 : lw_tbl[963]? = some (Jvm.Cond.classLink "FormulaSheet$Single" (10 : Nat) "FormulaSheet$Single") := by decide +kernel
theorem tw_964 : lw_tbl[964]? = some (Jvm.Cond.methodLink "FormulaSheet$Single" (15 : Nat) ({ cls := "FormulaSheet$Single", name := "<init>", desc := "(CLFormulaSheet$Part;)V" } : Jvm.MethodName)) := by decide +kernel
theorem tw_965 : lw_tbl[965]? = some (Jvm.Cond.code ({ cls := "FormulaSheet$Part", name := "with", desc := "([LFormulaSheet$Part;)LFormulaSheet$Part;" } : Jvm.MethodName) prog_10_method_6_code (2 : Nat) (Option.some (Jvm.ClassFile.FieldType.object "FormulaSheet$Part"))) := by decide +kernel
theorem tw_989 : lw_tbl[989]? = some (Jvm.Cond.instanceMethod ({ cls := "FormulaSheet$Part", name := "followRowIn", desc := "(I)V" } : Jvm.MethodName)) := by decide +kernel
theorem tw_990 : lw_tbl[990]? = some (Jvm.Cond.sameMethod "FormulaSheet$Part" "FormulaSheet$Part" "followRowIn" "(I)V") := by decide +kernel
theorem tw_991 : lw_tbl[991]? = some (Jvm.Cond.selects "FormulaSheet$Call" ({ cls := "FormulaSheet$Part", name := "followRowIn", desc := "(I)V" } : Jvm.MethodName) ({ cls := "FormulaSheet$Part", name := "followRowIn", desc := "(I)V" } : Jvm.MethodName)) := by decide +kernel
theorem tw_992 : lw_tbl[992]? = some (Jvm.Cond.selects "FormulaSheet$Numeral" ({ cls := "FormulaSheet$Part", name := "followRowIn", desc := "(I)V" } : Jvm.MethodName) ({ cls := "FormulaSheet$Part", name := "followRowIn", desc := "(I)V" } : Jvm.MethodName)) := by decide +kernel
theorem tw_993 : lw_tbl[993]? = some (Jvm.Cond.selects "FormulaSheet$OverRange" ({ cls := "FormulaSheet$Part", name := "followRowIn", desc := "(I)V" } : Jvm.MethodName) ({ cls := "FormulaSheet$OverRange", name := "followRowIn", desc := "(I)V" } : Jvm.MethodName)) := by decide +kernel
theorem tw_994 : lw_tbl[994]? = some (Jvm.Cond.instanceMethod ({ cls := "FormulaSheet$OverRange", name := "followRowIn", desc := "(I)V" } : Jvm.MethodName)) := by decide +kernel
theorem tw_995 : lw_tbl[995]? = some (Jvm.Cond.code ({ cls := "FormulaSheet$OverRange", name := "followRowIn", desc := "(I)V" } : Jvm.MethodName) prog_8_method_10_code (4 : Nat) (Option.none : Option Jvm.ClassFile.FieldType)) := by decide +kernel
theorem tw_996 : lw_tbl[996]? = some (Jvm.Cond.methodLink "FormulaSheet$OverRange" (74 : Nat) ({ cls := "FormulaSheet$Reference", name := "followRowIn", desc := "(I)V" } : Jvm.MethodName)) := by decide +kernel
theorem tw_997 : lw_tbl[997]? = some (Jvm.Cond.instanceMethod ({ cls := "FormulaSheet$Reference", name := "followRowIn", desc := "(I)V" } : Jvm.MethodName)) := by decide +kernel
theorem tw_998 : lw_tbl[998]? = some (Jvm.Cond.selects "FormulaSheet$Reference" ({ cls := "FormulaSheet$Reference", name := "followRowIn", desc := "(I)V" } : Jvm.MethodName) ({ cls := "FormulaSheet$Reference", name := "followRowIn", desc := "(I)V" } : Jvm.MethodName)) := by decide +kernel
theorem tw_999 : lw_tbl[999]? = some (Jvm.Cond.code ({ cls := "FormulaSheet$Reference", name := "followRowIn", desc := "(I)V" } : Jvm.MethodName) prog_11_method_9_code (2 : Nat) (Option.none : Option Jvm.ClassFile.FieldType)) := by decide +kernel
theorem tw_1000 : lw_tbl[1000]? = some (Jvm.Cond.methodLink "FormulaSheet$OverRange" (77 : Nat) ({ cls := "FormulaSheet$OverRange", name := "keepAtLastRow", desc := "(LFormulaSheet$Reference;)V" } : Jvm.MethodName)) := by decide +kernel
theorem tw_1001 : lw_tbl[1001]? = some (Jvm.Cond.static ({ cls := "FormulaSheet$OverRange", name := "keepAtLastRow", desc := "(LFormulaSheet$Reference;)V" } : Jvm.MethodName)) := by decide +kernel
theorem tw_1002 : lw_tbl[1002]? = some (Jvm.Cond.code ({ cls := "FormulaSheet$OverRange", name := "keepAtLastRow", desc := "(LFormulaSheet$Reference;)V" } : Jvm.MethodName) prog_8_method_11_code (1 : Nat) (Option.none : Option Jvm.ClassFile.FieldType)) := by decide +kernel
theorem tw_1003 : lw_tbl[1003]? = some (Jvm.Cond.selects "FormulaSheet$Pair" ({ cls := "FormulaSheet$Part", name := "followRowIn", desc := "(I)V" } : Jvm.MethodName) ({ cls := "FormulaSheet$Part", name := "followRowIn", desc := "(I)V" } : Jvm.MethodName)) := by decide +kernel
theorem tw_1004 : lw_tbl[1004]? = some (Jvm.Cond.selects "FormulaSheet$Reference" ({ cls := "FormulaSheet$Part", name := "followRowIn", desc := "(I)V" } : Jvm.MethodName) ({ cls := "FormulaSheet$Reference", name := "followRowIn", desc := "(I)V" } : Jvm.MethodName)) := by decide +kernel
theorem tw_1005 : lw_tbl[1005]? = some (Jvm.Cond.selects "FormulaSheet$Single" ({ cls := "FormulaSheet$Part", name := "followRowIn", desc := "(I)V" } : Jvm.MethodName) ({ cls := "FormulaSheet$Part", name := "followRowIn", desc := "(I)V" } : Jvm.MethodName)) := by decide +kernel
theorem tw_1006 : lw_tbl[1006]? = some (Jvm.Cond.code ({ cls := "FormulaSheet$Part", name := "followRowIn", desc := "(I)V" } : Jvm.MethodName) prog_10_method_10_code (3 : Nat) (Option.none : Option Jvm.ClassFile.FieldType)) := by decide +kernel
theorem tw_1007 : lw_tbl[1007]? = some (Jvm.Cond.methodLink "FormulaSheet$Part" (42 : Nat) ({ cls := "FormulaSheet$Part", name := "followRowIn", desc := "(I)V" } : Jvm.MethodName)) := by decide +kernel
theorem tw_1020 : lw_tbl[1020]? = some (Jvm.Cond.instanceMethod ({ cls := "FormulaSheet$Part", name := "followRowOut", desc := "(I)V" } : Jvm.MethodName)) := by decide +kernel
theorem tw_1021 : lw_tbl[1021]? = some (Jvm.Cond.sameMethod "FormulaSheet$Part" "FormulaSheet$Part" "followRowOut" "(I)V") := by decide +kernel
theorem tw_1022 : lw_tbl[1022]? = some (Jvm.Cond.selects "FormulaSheet$Call" ({ cls := "FormulaSheet$Part", name := "followRowOut", desc := "(I)V" } : Jvm.MethodName) ({ cls := "FormulaSheet$Part", name := "followRowOut", desc := "(I)V" } : Jvm.MethodName)) := by decide +kernel
theorem tw_1023 : lw_tbl[1023]? = some (Jvm.Cond.selects "FormulaSheet$Numeral" ({ cls := "FormulaSheet$Part", name := "followRowOut", desc := "(I)V" } : Jvm.MethodName) ({ cls := "FormulaSheet$Part", name := "followRowOut", desc := "(I)V" } : Jvm.MethodName)) := by decide +kernel
theorem tw_1024 : lw_tbl[1024]? = some (Jvm.Cond.selects "FormulaSheet$OverRange" ({ cls := "FormulaSheet$Part", name := "followRowOut", desc := "(I)V" } : Jvm.MethodName) ({ cls := "FormulaSheet$OverRange", name := "followRowOut", desc := "(I)V" } : Jvm.MethodName)) := by decide +kernel
theorem tw_1025 : lw_tbl[1025]? = some (Jvm.Cond.instanceMethod ({ cls := "FormulaSheet$OverRange", name := "followRowOut", desc := "(I)V" } : Jvm.MethodName)) := by decide +kernel
theorem tw_1026 : lw_tbl[1026]? = some (Jvm.Cond.code ({ cls := "FormulaSheet$OverRange", name := "followRowOut", desc := "(I)V" } : Jvm.MethodName) prog_8_method_12_code (4 : Nat) (Option.none : Option Jvm.ClassFile.FieldType)) := by decide +kernel
theorem tw_1027 : lw_tbl[1027]? = some (Jvm.Cond.methodLink "FormulaSheet$OverRange" (81 : Nat) ({ cls := "FormulaSheet$Reference", name := "followRowOut", desc := "(I)V" } : Jvm.MethodName)) := by decide +kernel
theorem tw_1028 : lw_tbl[1028]? = some (Jvm.Cond.instanceMethod ({ cls := "FormulaSheet$Reference", name := "followRowOut", desc := "(I)V" } : Jvm.MethodName)) := by decide +kernel
theorem tw_1029 : lw_tbl[1029]? = some (Jvm.Cond.selects "FormulaSheet$Reference" ({ cls := "FormulaSheet$Reference", name := "followRowOut", desc := "(I)V" } : Jvm.MethodName) ({ cls := "FormulaSheet$Reference", name := "followRowOut", desc := "(I)V" } : Jvm.MethodName)) := by decide +kernel
theorem tw_1030 : lw_tbl[1030]? = some (Jvm.Cond.code ({ cls := "FormulaSheet$Reference", name := "followRowOut", desc := "(I)V" } : Jvm.MethodName) prog_11_method_10_code (2 : Nat) (Option.none : Option Jvm.ClassFile.FieldType)) := by decide +kernel
theorem tw_1031 : lw_tbl[1031]? = some (Jvm.Cond.selects "FormulaSheet$Pair" ({ cls := "FormulaSheet$Part", name := "followRowOut", desc := "(I)V" } : Jvm.MethodName) ({ cls := "FormulaSheet$Part", name := "followRowOut", desc := "(I)V" } : Jvm.MethodName)) := by decide +kernel
theorem tw_1032 : lw_tbl[1032]? = some (Jvm.Cond.selects "FormulaSheet$Reference" ({ cls := "FormulaSheet$Part", name := "followRowOut", desc := "(I)V" } : Jvm.MethodName) ({ cls := "FormulaSheet$Reference", name := "followRowOut", desc := "(I)V" } : Jvm.MethodName)) := by decide +kernel
theorem tw_1033 : lw_tbl[1033]? = some (Jvm.Cond.selects "FormulaSheet$Single" ({ cls := "FormulaSheet$Part", name := "followRowOut", desc := "(I)V" } : Jvm.MethodName) ({ cls := "FormulaSheet$Part", name := "followRowOut", desc := "(I)V" } : Jvm.MethodName)) := by decide +kernel
theorem tw_1034 : lw_tbl[1034]? = some (Jvm.Cond.code ({ cls := "FormulaSheet$Part", name := "followRowOut", desc := "(I)V" } : Jvm.MethodName) prog_10_method_11_code (3 : Nat) (Option.none : Option Jvm.ClassFile.FieldType)) := by decide +kernel
theorem tw_1035 : lw_tbl[1035]? = some (Jvm.Cond.methodLink "FormulaSheet$Part" (46 : Nat) ({ cls := "FormulaSheet$Part", name := "followRowOut", desc := "(I)V" } : Jvm.MethodName)) := by decide +kernel
theorem tw_1363 : lw_tbl[1363]? = some (Jvm.Cond.selects "FormulaSheet$Call" ({ cls := "FormulaSheet$Part", name := "rule", desc := "()I" } : Jvm.MethodName) ({ cls := "FormulaSheet$Call", name := "rule", desc := "()I" } : Jvm.MethodName)) := by decide +kernel
theorem tw_1364 : lw_tbl[1364]? = some (Jvm.Cond.instanceMethod ({ cls := "FormulaSheet$Call", name := "rule", desc := "()I" } : Jvm.MethodName)) := by decide +kernel
theorem tw_1365 : lw_tbl[1365]? = some (Jvm.Cond.code ({ cls := "FormulaSheet$Call", name := "rule", desc := "()I" } : Jvm.MethodName) prog_2_method_2_code (1 : Nat) (Option.some Jvm.ClassFile.FieldType.int)) := by decide +kernel
theorem tw_1366 : lw_tbl[1366]? = some (Jvm.Cond.selects "FormulaSheet$Numeral" ({ cls := "FormulaSheet$Part", name := "rule", desc := "()I" } : Jvm.MethodName) ({ cls := "FormulaSheet$Numeral", name := "rule", desc := "()I" } : Jvm.MethodName)) := by decide +kernel
theorem tw_1367 : lw_tbl[1367]? = some (Jvm.Cond.instanceMethod ({ cls := "FormulaSheet$Numeral", name := "rule", desc := "()I" } : Jvm.MethodName)) := by decide +kernel
theorem tw_1368 : lw_tbl[1368]? = some (Jvm.Cond.code ({ cls := "FormulaSheet$Numeral", name := "rule", desc := "()I" } : Jvm.MethodName) prog_7_method_2_code (1 : Nat) (Option.some Jvm.ClassFile.FieldType.int)) := by decide +kernel
theorem tw_1369 : lw_tbl[1369]? = some (Jvm.Cond.selects "FormulaSheet$OverRange" ({ cls := "FormulaSheet$Part", name := "rule", desc := "()I" } : Jvm.MethodName) ({ cls := "FormulaSheet$OverRange", name := "rule", desc := "()I" } : Jvm.MethodName)) := by decide +kernel
theorem tw_1370 : lw_tbl[1370]? = some (Jvm.Cond.instanceMethod ({ cls := "FormulaSheet$OverRange", name := "rule", desc := "()I" } : Jvm.MethodName)) := by decide +kernel
theorem tw_1371 : lw_tbl[1371]? = some (Jvm.Cond.code ({ cls := "FormulaSheet$OverRange", name := "rule", desc := "()I" } : Jvm.MethodName) prog_8_method_2_code (1 : Nat) (Option.some Jvm.ClassFile.FieldType.int)) := by decide +kernel
theorem tw_1372 : lw_tbl[1372]? = some (Jvm.Cond.selects "FormulaSheet$Pair" ({ cls := "FormulaSheet$Part", name := "rule", desc := "()I" } : Jvm.MethodName) ({ cls := "FormulaSheet$Pair", name := "rule", desc := "()I" } : Jvm.MethodName)) := by decide +kernel
theorem tw_1373 : lw_tbl[1373]? = some (Jvm.Cond.selects "FormulaSheet$Reference" ({ cls := "FormulaSheet$Part", name := "rule", desc := "()I" } : Jvm.MethodName) ({ cls := "FormulaSheet$Reference", name := "rule", desc := "()I" } : Jvm.MethodName)) := by decide +kernel
theorem tw_1374 : lw_tbl[1374]? = some (Jvm.Cond.instanceMethod ({ cls := "FormulaSheet$Reference", name := "rule", desc := "()I" } : Jvm.MethodName)) := by decide +kernel
theorem tw_1375 : lw_tbl[1375]? = some (Jvm.Cond.code ({ cls := "FormulaSheet$Reference", name := "rule", desc := "()I" } : Jvm.MethodName) prog_11_method_2_code (1 : Nat) (Option.some Jvm.ClassFile.FieldType.int)) := by decide +kernel
theorem tw_1376 : lw_tbl[1376]? = some (Jvm.Cond.selects "FormulaSheet$Single" ({ cls := "FormulaSheet$Part", name := "rule", desc := "()I" } : Jvm.MethodName) ({ cls := "FormulaSheet$Single", name := "rule", desc := "()I" } : Jvm.MethodName)) := by decide +kernel
theorem tw_1377 : lw_tbl[1377]? = some (Jvm.Cond.instanceMethod ({ cls := "FormulaSheet$Single", name := "rule", desc := "()I" } : Jvm.MethodName)) := by decide +kernel
theorem tw_1378 : lw_tbl[1378]? = some (Jvm.Cond.code ({ cls := "FormulaSheet$Single", name := "rule", desc := "()I" } : Jvm.MethodName) prog_12_method_2_code (1 : Nat) (Option.some Jvm.ClassFile.FieldType.int)) := by decide +kernel
section FSL
variable {p : Program} {l : Launch} {e : Env} {R : Room} {s : State} {m : MethodId} {args : Array Value} {below : List Frame} {meth : Method} {c : Code} {H : Heap} {locs : List Loc} {cells slots : Nat} {Q : State → Prop}
variable {cc : ByteArray} {pc : Nat} {ls : Array Slot} {rest : List Value} {h : fs_Hp} {s00 : State} {a : Nat} {G : fs_G} {Post' : fs_Ps} {y y0 : MethodName} {bytes : ByteArray} {nL maxL : Nat} {ret ret0 : Option FieldType} {argsL : List Value} {rm : Room} {st : List Value} {index : Nat}
theorem fs_xgetE {o n d own : String} {v : Value} {index a b : Nat} (ea : a = b) (hexec : p.tables.exec = Jvm.exec) (hb : c.code = cc) (h0 : va_OF o n d v b (fs_A s00) s00 s00.heap) (hw : fs_W s00 s) (hS : va_S (fs_A s00) s00.heap H locs) (hown : s.vm.findClass own = some m.cls) (hlink : (Cond.fieldLink own index o n d).before args s = true) (hdg : decode cc pc = .ok (.getfield index, 3))
    (kk : W p l e R s m args below meth c H locs cells slots Q (F0 m (pc + 3) ls (v :: rest))) : W p l e R s m args below meth c H locs cells slots Q (F0 m pc ls (.ref a :: rest)) := by
  subst ea
  exact fs_xget hexec hb h0 hw hS hown hlink hdg kk
theorem fs_cVS {b : Nat} {C : String} (B : fs_B p l e s m args meth c s00 G y0 cc nL ret0) (hsz : ls.size = nL) (hP : fs_P G.1 fs_cl (fs_A s00) h H) (hS : va_S (fs_A s00) s00.heap H locs)
    (hM : fs_Ct l s00 G y (.code y bytes maxL ret) rm (.ref b :: argsL) h Post') (w1 : Cond.methodLink y0.cls index y ∈ fs_tb) (hO : va_O C b (fs_A s00) s00 s00.heap) (w2 : Cond.instanceMethod y ∈ fs_tb) (w5 : Cond.selects C y y ∈ fs_tb) (w3 : Cond.initialized y.cls ∈ fs_tb) (w4 : Cond.code y bytes maxL ret ∈ fs_tb)
    (hy : y.cls ≠ "java/lang/invoke/MethodHandle" ∧ y.cls ≠ "java/lang/invoke/VarHandle") (hlen : (parseMethodDescriptor y.desc).map (fun d => d.parameters.length) = some argsL.length) (hstack : st = argsL.reverse ++ .ref b :: rest) (hdg : decode cc pc = .ok (.invokevirtual index, 3))
    (hroom : rm.frames + 1 ≤ R.frames ∧ (rest.map fun v => v.category).sum + (maxL + 11) + rm.locals ≤ R.locals ∧ cells + rm.cells ≤ R.cells ∧ slots + rm.slots ≤ R.slots)
    (kr : ∀ (v : Option Value) (h' : fs_Hp) (H1 : Heap) (locs1 : List Loc), Post' (.inl v) h' → fs_P G.1 fs_cl (fs_A s00) h' H1 → va_S (fs_A s00) s00.heap H1 locs1 → W p l e R s m args below meth c H1 locs1 (cells + rm.cells) (slots + rm.slots) Q (F0 m (pc + 3) ls (v.toList ++ rest)))
    (kt : ∀ (C : String) (a : Nat) (h' : fs_Hp) (H1 : Heap) (locs1 : List Loc), Post' (.inr C) h' → fs_P G.1 fs_cl (fs_A s00) h' H1 → va_S (fs_A s00) s00.heap H1 locs1 → fs_X (fs_A s00) C a s H1 → fx_T p l e R s m args below meth c H1 locs1 (cells + rm.cells) (slots + rm.slots) Q (F0 m pc ls rest) a) : W p l e R s m args below meth c H locs cells slots Q (F0 m pc ls st) := by
  obtain ⟨hx, hb, -, hml, hown, hts, -, -, hK, hw, -⟩ := B
  exact fs_call hb (hsz.trans hml.symm) hw hP hS hdg (fun T hT X => by
    obtain ⟨cell, q1, q2, q3, -⟩ := (va_O.moved hw.1.alike hO).kept hS.2.1
    exact fx_toV X hx hown (hts _ w1) (hts _ w2) (hts _ w5) (hts _ w4) hy (by rw [hT]; exact q1) q2 q3 hlen hstack (by rw [hb]; exact hdg)) hM (hts _ w4) (by first | rfl | decide) (fun U mk => fs_cy) (hts _ w3) hroom kr kt
end FSL
def w_RE_shifted_J41 (E : fs_E) (Post : fs_Ps) (z0 : Nat) (z3 : Int32) (w0 : Int32) (bc bs : Nat) (h1 : fs_Hp) : Prop := 1 ≤ bc ∧ 6 ≤ bs ∧ ∀ a101 : Nat, h1 a101 = none → (fun h102 : fs_Hp => fs_gi h102 z0 5 0 (fun x103 => fs_gi h102 z0 5 1 (fun x104 => ∃ c105 s106 : Nat, c105 ≤ (bc - 1) ∧ s106 ≤ (bs - 6) ∧ (w_RE_init c105 s106 E h102 a101 x103 z3 x104 w0 (fs_kv (fun h107 => fs_gi h107 z0 5 4 (fun x108 => (if x108 = 0 then w_SH_isInSheet E h107 z3 w0 (fs_ki (fun x112 h111 => (if x112 = 0 then fs_pw h111 a101 5 4 (.int 1) (fun h115 => Post (.inl (some (.ref a101))) h115) else fs_pw h111 a101 5 4 (.int 0) (fun h114 => Post (.inl (some (.ref a101))) h114))) (fun C_ h_ => Post (.inr C_) h_)) else fs_pw h107 a101 5 4 (.int 1) (fun h110 => Post (.inl (some (.ref a101))) h110)))) (fun C_ h_ => Post (.inr C_) h_)))))) (fs_up h1 a101 (.inr (5, [.int 0, .int 0, .int 0, .int 0, .int 0, .null])))
def w_RE_shifted_J20 (E : fs_E) (Post : fs_Ps) (z0 : Nat) (z2 : Int32) (w0 : Int32) (bc bs : Nat) (h1 : fs_Hp) : Prop := fs_gi h1 z0 5 1 (fun x116 => (if x116 = 0 then fs_gi h1 z0 5 3 (fun x118 => w_RE_shifted_J41 E Post z0 w0 (x118 + z2) bc bs h1) else fs_gi h1 z0 5 3 (fun x119 => w_RE_shifted_J41 E Post z0 w0 x119 bc bs h1)))
def w_RE_shifted (mc ms : Nat) (E : fs_E) (h : fs_Hp) (a0 : Nat) (x1 : Int32) (x2 : Int32) (Post : fs_Ps) : Prop := fs_gi h a0 5 0 (fun x120 => (if x120 = 0 then fs_gi h a0 5 2 (fun x122 => w_RE_shifted_J20 E Post a0 x2 (x122 + x1) mc ms h) else fs_gi h a0 5 2 (fun x123 => w_RE_shifted_J20 E Post a0 x2 x123 mc ms h)))
set_option maxHeartbeats 4000000 in
set_option maxRecDepth 100000 in
theorem kw_RE_shifted {l : Launch} {s00 : State} {E : fs_E} (hE : fs_SE l s00 E) {mc ms : Nat} {h : fs_Hp} {a0 : Nat} {x1 : Int32} {x2 : Int32} {Post : fs_Ps} (hq : w_RE_shifted mc ms E h a0 x1 x2 Post) : fs_Ct l s00 E.1 y_RE_shifted (.code y_RE_shifted b_RE_shifted 6 (some ((.object "FormulaSheet$Reference")))) { frames := 3, cells := mc, slots := ms, locals := 50 } [.ref a0, .int x1, .int x2] h Post := by
  refine fs_Ct.ofR hE.1 (by decide) ?_
  intro p e R s m below meth c hRf hRl hRc hRs B hout hP
  skip
  obtain ⟨hx, hb, hr, hml, hown, hts, hlocks, hname, hK, hw, htr⟩ := id B
  have hown : s.vm.findClass "FormulaSheet$Reference" = some m.cls := hown
  have hS := hw.S
  have hJ41 : ∀ (z0 : Nat) (z3 : Int32) (w0 : Int32) (bc bs uc us : Nat) (h1 : fs_Hp) (H : Heap) (locs : List Loc) (ls : Array Slot), w_RE_shifted_J41 E Post z0 z3 w0 bc bs h1 → fs_P E.1.1 fs_cl (fs_A s00) h1 H → va_S (fs_A s00) s00.heap H locs → uc + bc ≤ mc → us + bs ≤ ms → lv_has ls 6 [(0, .ref z0), (3, .int z3)] → W p l e R s m ([.ref a0, .int x1, .int x2] : List Value).toArray below meth c H locs uc us (fx_MQ below (fs_Qc s00 E.1 Post) ([.ref a0, .int x1, .int x2] : List Value).toArray s mc ms (fs_A s00)) (F0 m 41 ls (.int w0 :: [])) := by
    intro z0 z3 w0 bc bs uc us h1 H locs ls hq hP hS hu1 hu2 hl
    unfold w_RE_shifted_J41 at hq
    refine lv_istore (lv' := [(4, .int w0), (0, .ref z0), (3, .int z3)]) hx hb d_RE_shifted_41 hl (by decide) rfl (fun ls hl => ?_)
    obtain ⟨hc_, hs_, hq⟩ := hq
    refine fs_new (fs := [.int 0, .int 0, .int 0, .int 0, .int 0, .null]) hx hb hts hown hK c_RE hP hS (fun _ h9 => h9) (hts _ (fs_tb_at 931 tw_931 rfl)) (hts _ (fs_tb_at 335 tw_335 rfl)) (hts _ (fs_tb_at 105 tw_105 rfl)) (by decide) (by omega) (by omega) d_RE_shifted_43 (fun a101 H hn_ hP hS => ?_)
    have hq := hq a101 hn_
    generalize eh_ : fs_up h1 a101 (.inr (5, [.int 0, .int 0, .int 0, .int 0, .int 0, .null])) = h102 at hP hq
    refine lv_dup hx hb d_RE_shifted_46 rfl ?_
    refine lv_aload_n hx hb d_RE_shifted_47 rfl (lv_at hl 1 rfl) ?_
    obtain ⟨fs_, x103, he_, hv_, hq⟩ := fs_gi_some hq
    refine fs_get hx hb hts hown hK c_RE hP he_ 0 (by decide) (hts _ (fs_tb_at 701 tw_701 rfl)) (fun _ h9 => h9) hv_ d_RE_shifted_48 ?_
    refine lv_iload_n hx hb d_RE_shifted_51 rfl (lv_at hl 2 rfl) ?_
    refine lv_aload_n hx hb d_RE_shifted_52 rfl (lv_at hl 1 rfl) ?_
    obtain ⟨fs_, x104, he_, hv_, hq⟩ := fs_gi_some hq
    refine fs_get hx hb hts hown hK c_RE hP he_ 1 (by decide) (hts _ (fs_tb_at 702 tw_702 rfl)) (fun _ h9 => h9) hv_ d_RE_shifted_53 ?_
    refine lv_iload hx hb d_RE_shifted_56 (lv_at hl 0 rfl) ?_
    obtain ⟨c105, s106, hc_, hs_, hq⟩ := hq
    refine fs_cI B hl.1 hP hS (kw_RE_init hE hq) (fs_tb_at 932 tw_932 rfl) (fs_tb_at 697 tw_697 rfl) rfl (fs_tb_at 105 tw_105 rfl) (fs_tb_at 698 tw_698 rfl) (by decide) (show (parseMethodDescriptor y_RE_init.desc).map (fun d => d.parameters.length) = some 4 by decide +kernel) rfl d_RE_shifted_58 (fs_rm (k := 1) (by omega) (by omega) (by omega) (by omega) rfl) (fun v_ h107 H locs hq hP hS => ?_) (fun C_ a_ h_ H locs hq hP hS hX => fs_out (hout _) hlocks hw hP hS hX (show ((uc + 1) + c105) ≤ mc by omega) (show ((us + 6) + s106) ≤ ms by omega) hq)
    refine fs_cs (k := ((uc + 1) + c105)) (n := ((us + 6) + s106)) rfl rfl ?_
    replace hq := fs_kv_some hq
    obtain ⟨rfl, hq⟩ := hq
    refine W.eq (g2 := F0 m 61 ls (.ref a101 :: [])) rfl ?_
    refine lv_astore (lv' := [(5, .ref a101), (4, .int w0), (0, .ref z0), (3, .int z3)]) hx hb d_RE_shifted_61 hl (by decide) rfl (fun ls hl => ?_)
    refine lv_aload hx hb d_RE_shifted_63 (lv_at hl 0 rfl) ?_
    refine lv_aload_n hx hb d_RE_shifted_65 rfl (lv_at hl 2 rfl) ?_
    obtain ⟨fs_, x108, he_, hv_, hq⟩ := fs_gi_some hq
    refine fs_get hx hb hts hown hK c_RE hP he_ 4 (by decide) (hts _ (fs_tb_at 708 tw_708 rfl)) (fun _ h9 => h9) hv_ d_RE_shifted_66 ?_
    refine lv_if_ne (tgt := 81) hx hb d_RE_shifted_69 (by decide) (fun c_109 => ?_) (fun c_109 => ?_)
    · have hq := fs_wifn c_109 hq
      refine lv_iconst (v := 1) hx hb d_RE_shifted_81 (by decide) ?_
      refine lv_goto (tgt := 86) hx hb d_RE_shifted_82 (by decide) ?_
      obtain ⟨fs_, h110, e_, hl_, eh_, hq⟩ := fs_pw_some hq
      refine fs_put hx hb hts hown hK c_RE hP hS e_ 4 (by decide) (hts _ (fs_tb_at 708 tw_708 rfl)) (fun _ h9 => h9) rfl (by decide) (by decide) hl_ d_RE_shifted_86 (fun H locs hP hS => ?_)
      rw [← eh_] at hP
      refine lv_aload hx hb d_RE_shifted_89 (lv_at hl 0 rfl) ?_
      exact fs_aret hx hb hr (Or.inl ⟨_, rfl⟩) (Or.inr ⟨_, rfl⟩) hlocks hw hP hS (by omega) (by omega) hq d_RE_shifted_91
    · have hq := fs_wifp c_109 hq
      refine lv_iload_n hx hb d_RE_shifted_72 rfl (lv_at hl 3 rfl) ?_
      refine lv_iload hx hb d_RE_shifted_73 (lv_at hl 1 rfl) ?_
      refine fs_cSN B hl.1 hP hS (kw_SH_isInSheet hE hq) (fs_tb_at 933 tw_933 rfl) (fs_tb_at 592 tw_592 rfl) (fs_tb_at 88 tw_88 rfl) (fs_tb_at 593 tw_593 rfl) (by decide) (show (parseMethodDescriptor y_SH_isInSheet.desc).map (fun d => d.parameters.length) = some 2 by decide +kernel) rfl d_RE_shifted_75 (fs_rm (k := 1) (by omega) (by omega) (by omega) (by omega) rfl) (fun v_ h111 H locs hq hP hS => ?_) (fun C_ a_ h_ H locs hq hP hS hX => fs_out (hout _) hlocks hw hP hS hX (show ((uc + 1) + c105) ≤ mc by omega) (show ((us + 6) + s106) ≤ ms by omega) hq)
      refine fs_cs (k := ((uc + 1) + c105)) (n := ((us + 6) + s106)) rfl rfl ?_
      replace hq := fs_ki_some hq
      obtain ⟨x112, rfl, hq⟩ := hq
      refine W.eq (g2 := F0 m 78 ls (.int x112 :: .ref a101 :: [])) rfl ?_
      refine lv_if_ne (tgt := 85) hx hb d_RE_shifted_78 (by decide) (fun c_113 => ?_) (fun c_113 => ?_)
      · have hq := fs_wifn c_113 hq
        refine lv_iconst (v := 0) hx hb d_RE_shifted_85 (by decide) ?_
        obtain ⟨fs_, h114, e_, hl_, eh_, hq⟩ := fs_pw_some hq
        refine fs_put hx hb hts hown hK c_RE hP hS e_ 4 (by decide) (hts _ (fs_tb_at 708 tw_708 rfl)) (fun _ h9 => h9) rfl (by decide) (by decide) hl_ d_RE_shifted_86 (fun H locs hP hS => ?_)
        rw [← eh_] at hP
        refine lv_aload hx hb d_RE_shifted_89 (lv_at hl 0 rfl) ?_
        exact fs_aret hx hb hr (Or.inl ⟨_, rfl⟩) (Or.inr ⟨_, rfl⟩) hlocks hw hP hS (by omega) (by omega) hq d_RE_shifted_91
      · have hq := fs_wifp c_113 hq
        refine lv_iconst (v := 1) hx hb d_RE_shifted_81 (by decide) ?_
        refine lv_goto (tgt := 86) hx hb d_RE_shifted_82 (by decide) ?_
        obtain ⟨fs_, h115, e_, hl_, eh_, hq⟩ := fs_pw_some hq
        refine fs_put hx hb hts hown hK c_RE hP hS e_ 4 (by decide) (hts _ (fs_tb_at 708 tw_708 rfl)) (fun _ h9 => h9) rfl (by decide) (by decide) hl_ d_RE_shifted_86 (fun H locs hP hS => ?_)
        rw [← eh_] at hP
        refine lv_aload hx hb d_RE_shifted_89 (lv_at hl 0 rfl) ?_
        exact fs_aret hx hb hr (Or.inl ⟨_, rfl⟩) (Or.inr ⟨_, rfl⟩) hlocks hw hP hS (by omega) (by omega) hq d_RE_shifted_91
  have hJ20 : ∀ (z0 : Nat) (z2 : Int32) (w0 : Int32) (bc bs uc us : Nat) (h1 : fs_Hp) (H : Heap) (locs : List Loc) (ls : Array Slot), w_RE_shifted_J20 E Post z0 z2 w0 bc bs h1 → fs_P E.1.1 fs_cl (fs_A s00) h1 H → va_S (fs_A s00) s00.heap H locs → uc + bc ≤ mc → us + bs ≤ ms → lv_has ls 6 [(0, .ref z0), (2, .int z2)] → W p l e R s m ([.ref a0, .int x1, .int x2] : List Value).toArray below meth c H locs uc us (fx_MQ below (fs_Qc s00 E.1 Post) ([.ref a0, .int x1, .int x2] : List Value).toArray s mc ms (fs_A s00)) (F0 m 20 ls (.int w0 :: [])) := by
    intro z0 z2 w0 bc bs uc us h1 H locs ls hq hP hS hu1 hu2 hl
    unfold w_RE_shifted_J20 at hq
    refine lv_istore_n (lv' := [(3, .int w0), (0, .ref z0), (2, .int z2)]) hx hb d_RE_shifted_20 rfl hl (by decide) rfl (fun ls hl => ?_)
    refine lv_aload_n hx hb d_RE_shifted_21 rfl (lv_at hl 1 rfl) ?_
    obtain ⟨fs_, x116, he_, hv_, hq⟩ := fs_gi_some hq
    refine fs_get hx hb hts hown hK c_RE hP he_ 1 (by decide) (hts _ (fs_tb_at 702 tw_702 rfl)) (fun _ h9 => h9) hv_ d_RE_shifted_22 ?_
    refine lv_if_eq (tgt := 35) hx hb d_RE_shifted_25 (by decide) (fun c_117 => ?_) (fun c_117 => ?_)
    · have hq := fs_wifp c_117 hq
      refine lv_aload_n hx hb d_RE_shifted_35 rfl (lv_at hl 1 rfl) ?_
      obtain ⟨fs_, x118, he_, hv_, hq⟩ := fs_gi_some hq
      refine fs_get hx hb hts hown hK c_RE hP he_ 3 (by decide) (hts _ (fs_tb_at 705 tw_705 rfl)) (fun _ h9 => h9) hv_ d_RE_shifted_36 ?_
      refine lv_iload_n hx hb d_RE_shifted_39 rfl (lv_at hl 2 rfl) ?_
      refine lv_iadd hx hb d_RE_shifted_40 ?_
      exact hJ41 z0 w0 (x118 + z2) bc bs uc us _ _ _ _ hq hP hS (by omega) (by omega) (show lv_has ls 6 [(0, .ref z0), (3, .int w0)] from lv_sub hl [1, 0] rfl)
    · have hq := fs_wifn c_117 hq
      refine lv_aload_n hx hb d_RE_shifted_28 rfl (lv_at hl 1 rfl) ?_
      obtain ⟨fs_, x119, he_, hv_, hq⟩ := fs_gi_some hq
      refine fs_get hx hb hts hown hK c_RE hP he_ 3 (by decide) (hts _ (fs_tb_at 705 tw_705 rfl)) (fun _ h9 => h9) hv_ d_RE_shifted_29 ?_
      refine lv_goto (tgt := 41) hx hb d_RE_shifted_32 (by decide) ?_
      exact hJ41 z0 w0 x119 bc bs uc us _ _ _ _ hq hP hS (by omega) (by omega) (show lv_has ls 6 [(0, .ref z0), (3, .int w0)] from lv_sub hl [1, 0] rfl)
  have hl := lv_entry ([.ref a0, .int x1, .int x2]) (n := 6) (Nat.le_of_ble_eq_true rfl)
  rw [lg_entry_eq]
  generalize (lg_sl ([.ref a0, .int x1, .int x2]) ++ List.replicate (6 - (lg_sl ([.ref a0, .int x1, .int x2])).length) Slot.unset).toArray = ls at hl ⊢
  have hl : lv_has ls 6 [(0, .ref a0), (1, .int x1), (2, .int x2)] := hl
  unfold w_RE_shifted at hq
  refine lv_aload_n hx hb d_RE_shifted_0 rfl (lv_at hl 0 rfl) ?_
  obtain ⟨fs_, x120, he_, hv_, hq⟩ := fs_gi_some hq
  refine fs_get hx hb hts hown hK c_RE hP he_ 0 (by decide) (hts _ (fs_tb_at 701 tw_701 rfl)) (fun _ h9 => h9) hv_ d_RE_shifted_1 ?_
  refine lv_if_eq (tgt := 14) hx hb d_RE_shifted_4 (by decide) (fun c_121 => ?_) (fun c_121 => ?_)
  · have hq := fs_wifp c_121 hq
    refine lv_aload_n hx hb d_RE_shifted_14 rfl (lv_at hl 0 rfl) ?_
    obtain ⟨fs_, x122, he_, hv_, hq⟩ := fs_gi_some hq
    refine fs_get hx hb hts hown hK c_RE hP he_ 2 (by decide) (hts _ (fs_tb_at 703 tw_703 rfl)) (fun _ h9 => h9) hv_ d_RE_shifted_15 ?_
    refine lv_iload_n hx hb d_RE_shifted_18 rfl (lv_at hl 1 rfl) ?_
    refine lv_iadd hx hb d_RE_shifted_19 ?_
    exact hJ20 a0 x2 (x122 + x1) mc ms 0 0 _ _ _ _ hq hP hS (by omega) (by omega) (show lv_has ls 6 [(0, .ref a0), (2, .int x2)] from lv_sub hl [0, 2] rfl)
  · have hq := fs_wifn c_121 hq
    refine lv_aload_n hx hb d_RE_shifted_7 rfl (lv_at hl 0 rfl) ?_
    obtain ⟨fs_, x123, he_, hv_, hq⟩ := fs_gi_some hq
    refine fs_get hx hb hts hown hK c_RE hP he_ 2 (by decide) (hts _ (fs_tb_at 703 tw_703 rfl)) (fun _ h9 => h9) hv_ d_RE_shifted_8 ?_
    refine lv_goto (tgt := 20) hx hb d_RE_shifted_11 (by decide) ?_
    exact hJ20 a0 x2 x123 mc ms 0 0 _ _ _ _ hq hP hS (by omega) (by omega) (show lv_has ls 6 [(0, .ref a0), (2, .int x2)] from lv_sub hl [0, 2] rfl)
def w_OV_keepAtLastRow (E : fs_E) (h : fs_Hp) (x1 : Nat) (Post : fs_Ps) : Prop := fs_gi h x1 5 4 (fun x101 => (if x101 = 0 then Post (.inl none) h else fs_pw h x1 5 4 (.int 0) (fun h103 => fs_pw h103 x1 5 3 (.int 9) (fun h104 => Post (.inl none) h104))))
set_option maxHeartbeats 4000000 in
set_option maxRecDepth 100000 in
theorem kw_OV_keepAtLastRow {l : Launch} {s00 : State} {E : fs_E} (hE : fs_SE l s00 E) {h : fs_Hp} {x1 : Nat} {Post : fs_Ps} (hq : w_OV_keepAtLastRow E h x1 Post) : fs_Ct l s00 E.1 y_OV_keepAtLastRow (.code y_OV_keepAtLastRow b_OV_keepAtLastRow 1 none) { frames := 0, cells := 0, slots := 0, locals := 0 } [.ref x1] h Post := by
  refine fs_Ct.ofR hE.1 (by decide) ?_
  intro p e R s m below meth c hRf hRl hRc hRs B hout hP
  skip
  obtain ⟨hx, hb, hr, hml, hown, hts, hlocks, hname, hK, hw, htr⟩ := id B
  have hown : s.vm.findClass "FormulaSheet$OverRange" = some m.cls := hown
  have hS := hw.S
  have hl := lv_entry ([.ref x1]) (n := 1) (Nat.le_of_ble_eq_true rfl)
  rw [lg_entry_eq]
  generalize (lg_sl ([.ref x1]) ++ List.replicate (1 - (lg_sl ([.ref x1])).length) Slot.unset).toArray = ls at hl ⊢
  have hl : lv_has ls 1 [(0, .ref x1)] := hl
  unfold w_OV_keepAtLastRow at hq
  refine lv_aload_n hx hb d_OV_keepAtLastRow_0 rfl (lv_at hl 0 rfl) ?_
  obtain ⟨fs_, x101, he_, hv_, hq⟩ := fs_gi_some hq
  refine fs_get hx hb hts hown hK c_RE hP he_ 4 (by decide) (hts _ (fs_tb_at 707 tw_707 rfl)) (fun _ h9 => h9) hv_ d_OV_keepAtLastRow_1 ?_
  refine lv_if_eq (tgt := 18) hx hb d_OV_keepAtLastRow_4 (by decide) (fun c_102 => ?_) (fun c_102 => ?_)
  · have hq := fs_wifp c_102 hq
    exact fs_vret hx hb hr hlocks hw hP hS (Nat.le_refl _) (Nat.le_refl _) hq d_OV_keepAtLastRow_18
  · have hq := fs_wifn c_102 hq
    refine lv_aload_n hx hb d_OV_keepAtLastRow_7 rfl (lv_at hl 0 rfl) ?_
    refine lv_iconst (v := 0) hx hb d_OV_keepAtLastRow_8 (by decide) ?_
    obtain ⟨fs_, h103, e_, hl_, eh_, hq⟩ := fs_pw_some hq
    refine fs_put hx hb hts hown hK c_RE hP hS e_ 4 (by decide) (hts _ (fs_tb_at 707 tw_707 rfl)) (fun _ h9 => h9) rfl (by decide) (by decide) hl_ d_OV_keepAtLastRow_9 (fun H locs hP hS => ?_)
    rw [← eh_] at hP
    refine lv_aload_n hx hb d_OV_keepAtLastRow_12 rfl (lv_at hl 0 rfl) ?_
    refine lv_bipush (v := 9) hx hb d_OV_keepAtLastRow_13 (by decide) ?_
    obtain ⟨fs_, h104, e_, hl_, eh_, hq⟩ := fs_pw_some hq
    refine fs_put hx hb hts hown hK c_RE hP hS e_ 3 (by decide) (hts _ (fs_tb_at 706 tw_706 rfl)) (fun _ h9 => h9) rfl rfl rfl hl_ d_OV_keepAtLastRow_15 (fun H locs hP hS => ?_)
    rw [← eh_] at hP
    exact fs_vret hx hb hr hlocks hw hP hS (Nat.le_refl _) (Nat.le_refl _) hq d_OV_keepAtLastRow_18
def w_NU_rule (E : fs_E) (h : fs_Hp) (a0 : Nat) (Post : fs_Ps) : Prop := Post (.inl (some (.int 5))) h
set_option maxHeartbeats 4000000 in
set_option maxRecDepth 100000 in
theorem kw_NU_rule {l : Launch} {s00 : State} {E : fs_E} (hE : fs_SE l s00 E) {h : fs_Hp} {a0 : Nat} {Post : fs_Ps} (hq : w_NU_rule E h a0 Post) : fs_Ct l s00 E.1 y_NU_rule (.code y_NU_rule b_NU_rule 1 (some .int)) { frames := 0, cells := 0, slots := 0, locals := 0 } [.ref a0] h Post := by
  refine fs_Ct.ofR hE.1 (by decide) ?_
  intro p e R s m below meth c hRf hRl hRc hRs B hout hP
  skip
  obtain ⟨hx, hb, hr, hml, hown, hts, hlocks, hname, hK, hw, htr⟩ := id B
  have hown : s.vm.findClass "FormulaSheet$Numeral" = some m.cls := hown
  have hS := hw.S
  have hl := lv_entry ([.ref a0]) (n := 1) (Nat.le_of_ble_eq_true rfl)
  rw [lg_entry_eq]
  generalize (lg_sl ([.ref a0]) ++ List.replicate (1 - (lg_sl ([.ref a0])).length) Slot.unset).toArray = ls at hl ⊢
  have hl : lv_has ls 1 [(0, .ref a0)] := hl
  unfold w_NU_rule at hq
  refine lv_iconst (v := 5) hx hb d_NU_rule_0 (by decide) ?_
  exact fs_iret hx hb hr hlocks hw hP hS (vp_nar_int _) (Nat.le_refl _) (Nat.le_refl _) hq d_NU_rule_1
def w_RE_rule (E : fs_E) (h : fs_Hp) (a0 : Nat) (Post : fs_Ps) : Prop := Post (.inl (some (.int 5))) h
set_option maxHeartbeats 4000000 in
set_option maxRecDepth 100000 in
theorem kw_RE_rule {l : Launch} {s00 : State} {E : fs_E} (hE : fs_SE l s00 E) {h : fs_Hp} {a0 : Nat} {Post : fs_Ps} (hq : w_RE_rule E h a0 Post) : fs_Ct l s00 E.1 y_RE_rule (.code y_RE_rule b_RE_rule 1 (some .int)) { frames := 0, cells := 0, slots := 0, locals := 0 } [.ref a0] h Post := by
  refine fs_Ct.ofR hE.1 (by decide) ?_
  intro p e R s m below meth c hRf hRl hRc hRs B hout hP
  skip
  obtain ⟨hx, hb, hr, hml, hown, hts, hlocks, hname, hK, hw, htr⟩ := id B
  have hown : s.vm.findClass "FormulaSheet$Reference" = some m.cls := hown
  have hS := hw.S
  have hl := lv_entry ([.ref a0]) (n := 1) (Nat.le_of_ble_eq_true rfl)
  rw [lg_entry_eq]
  generalize (lg_sl ([.ref a0]) ++ List.replicate (1 - (lg_sl ([.ref a0])).length) Slot.unset).toArray = ls at hl ⊢
  have hl : lv_has ls 1 [(0, .ref a0)] := hl
  unfold w_RE_rule at hq
  refine lv_iconst (v := 5) hx hb d_RE_rule_0 (by decide) ?_
  exact fs_iret hx hb hr hlocks hw hP hS (vp_nar_int _) (Nat.le_refl _) (Nat.le_refl _) hq d_RE_rule_1
def w_SI_rule (E : fs_E) (h : fs_Hp) (a0 : Nat) (Post : fs_Ps) : Prop := fs_gi h a0 6 0 (fun x101 => (if x101 = 45 then Post (.inl (some (.int 4))) h else Post (.inl (some (.int 1))) h))
set_option maxHeartbeats 4000000 in
set_option maxRecDepth 100000 in
theorem kw_SI_rule {l : Launch} {s00 : State} {E : fs_E} (hE : fs_SE l s00 E) {h : fs_Hp} {a0 : Nat} {Post : fs_Ps} (hq : w_SI_rule E h a0 Post) : fs_Ct l s00 E.1 y_SI_rule (.code y_SI_rule b_SI_rule 1 (some .int)) { frames := 0, cells := 0, slots := 0, locals := 0 } [.ref a0] h Post := by
  refine fs_Ct.ofR hE.1 (by decide) ?_
  intro p e R s m below meth c hRf hRl hRc hRs B hout hP
  skip
  obtain ⟨hx, hb, hr, hml, hown, hts, hlocks, hname, hK, hw, htr⟩ := id B
  have hown : s.vm.findClass "FormulaSheet$Single" = some m.cls := hown
  have hS := hw.S
  have hl := lv_entry ([.ref a0]) (n := 1) (Nat.le_of_ble_eq_true rfl)
  rw [lg_entry_eq]
  generalize (lg_sl ([.ref a0]) ++ List.replicate (1 - (lg_sl ([.ref a0])).length) Slot.unset).toArray = ls at hl ⊢
  have hl : lv_has ls 1 [(0, .ref a0)] := hl
  unfold w_SI_rule at hq
  refine lv_aload_n hx hb d_SI_rule_0 rfl (lv_at hl 0 rfl) ?_
  obtain ⟨fs_, x101, he_, hv_, hq⟩ := fs_gi_some hq
  refine fs_get hx hb hts hown hK c_SI hP he_ 0 (by decide) (hts _ (fs_tb_at 834 tw_834 rfl)) (fun _ h9 => h9) hv_ d_SI_rule_1 ?_
  refine lv_bipush (v := 45) hx hb d_SI_rule_4 (by decide) ?_
  refine lv_icmp_ne (tgt := 13) hx hb d_SI_rule_6 (by decide) (fun c_102 => ?_) (fun c_102 => ?_)
  · have hq := fs_wifn c_102 hq
    refine lv_iconst (v := 1) hx hb d_SI_rule_13 (by decide) ?_
    exact fs_iret hx hb hr hlocks hw hP hS (vp_nar_int _) (Nat.le_refl _) (Nat.le_refl _) hq d_SI_rule_14
  · have hq := fs_wifp c_102 hq
    refine lv_iconst (v := 4) hx hb d_SI_rule_9 (by decide) ?_
    refine lv_goto (tgt := 14) hx hb d_SI_rule_10 (by decide) ?_
    exact fs_iret hx hb hr hlocks hw hP hS (vp_nar_int _) (Nat.le_refl _) (Nat.le_refl _) hq d_SI_rule_14
def w_PA_rule (E : fs_E) (h : fs_Hp) (a0 : Nat) (Post : fs_Ps) : Prop := fs_gi h a0 7 0 (fun x101 => (if x101 = 38 then Post (.inl (some (.int 0))) h else (if x101 = 42 then Post (.inl (some (.int 3))) h else (if x101 = 43 then Post (.inl (some (.int 2))) h else (if x101 = 45 then Post (.inl (some (.int 2))) h else (if x101 = 47 then Post (.inl (some (.int 3))) h else (if x101 = 124 then Post (.inl (some (.int 0))) h else Post (.inl (some (.int 1))) h)))))))
set_option maxHeartbeats 4000000 in
set_option maxRecDepth 100000 in
theorem kw_PA_rule {l : Launch} {s00 : State} {E : fs_E} (hE : fs_SE l s00 E) {h : fs_Hp} {a0 : Nat} {Post : fs_Ps} (hq : w_PA_rule E h a0 Post) : fs_Ct l s00 E.1 y_PA_rule (.code y_PA_rule b_PA_rule 1 (some .int)) { frames := 0, cells := 0, slots := 0, locals := 0 } [.ref a0] h Post := by
  refine fs_Ct.ofR hE.1 (by decide) ?_
  intro p e R s m below meth c hRf hRl hRc hRs B hout hP
  skip
  obtain ⟨hx, hb, hr, hml, hown, hts, hlocks, hname, hK, hw, htr⟩ := id B
  have hown : s.vm.findClass "FormulaSheet$Pair" = some m.cls := hown
  have hS := hw.S
  have hl := lv_entry ([.ref a0]) (n := 1) (Nat.le_of_ble_eq_true rfl)
  rw [lg_entry_eq]
  generalize (lg_sl ([.ref a0]) ++ List.replicate (1 - (lg_sl ([.ref a0])).length) Slot.unset).toArray = ls at hl ⊢
  have hl : lv_has ls 1 [(0, .ref a0)] := hl
  unfold w_PA_rule at hq
  refine lv_aload_n hx hb d_PA_rule_0 rfl (lv_at hl 0 rfl) ?_
  obtain ⟨fs_, x101, he_, hv_, hq⟩ := fs_gi_some hq
  refine fs_get hx hb hts hown hK c_PA hP he_ 0 (by decide) (hts _ (fs_tb_at 852 tw_852 rfl)) (fun _ h9 => h9) hv_ d_PA_rule_1 ?_
  by_cases c_102 : x101 = 38
  · have hq := fs_wifp c_102 hq
    refine lv_lookup (off := 60) (tgt := 64) hx hb d_PA_rule_4 (by decide) (by rw [c_102]; decide) (by decide) ?_
    refine lv_iconst (v := 0) hx hb d_PA_rule_64 (by decide) ?_
    exact fs_iret hx hb hr hlocks hw hP hS (vp_nar_int _) (Nat.le_refl _) (Nat.le_refl _) hq d_PA_rule_65
  · have hq := fs_wifn c_102 hq
    by_cases c_103 : x101 = 42
    · have hq := fs_wifp c_103 hq
      refine lv_lookup (off := 64) (tgt := 68) hx hb d_PA_rule_4 (by decide) (by rw [c_103]; decide) (by decide) ?_
      refine lv_iconst (v := 3) hx hb d_PA_rule_68 (by decide) ?_
      exact fs_iret hx hb hr hlocks hw hP hS (vp_nar_int _) (Nat.le_refl _) (Nat.le_refl _) hq d_PA_rule_69
    · have hq := fs_wifn c_103 hq
      by_cases c_104 : x101 = 43
      · have hq := fs_wifp c_104 hq
        refine lv_lookup (off := 62) (tgt := 66) hx hb d_PA_rule_4 (by decide) (by rw [c_104]; decide) (by decide) ?_
        refine lv_iconst (v := 2) hx hb d_PA_rule_66 (by decide) ?_
        exact fs_iret hx hb hr hlocks hw hP hS (vp_nar_int _) (Nat.le_refl _) (Nat.le_refl _) hq d_PA_rule_67
      · have hq := fs_wifn c_104 hq
        by_cases c_105 : x101 = 45
        · have hq := fs_wifp c_105 hq
          refine lv_lookup (off := 62) (tgt := 66) hx hb d_PA_rule_4 (by decide) (by rw [c_105]; decide) (by decide) ?_
          refine lv_iconst (v := 2) hx hb d_PA_rule_66 (by decide) ?_
          exact fs_iret hx hb hr hlocks hw hP hS (vp_nar_int _) (Nat.le_refl _) (Nat.le_refl _) hq d_PA_rule_67
        · have hq := fs_wifn c_105 hq
          by_cases c_106 : x101 = 47
          · have hq := fs_wifp c_106 hq
            refine lv_lookup (off := 64) (tgt := 68) hx hb d_PA_rule_4 (by decide) (by rw [c_106]; decide) (by decide) ?_
            refine lv_iconst (v := 3) hx hb d_PA_rule_68 (by decide) ?_
            exact fs_iret hx hb hr hlocks hw hP hS (vp_nar_int _) (Nat.le_refl _) (Nat.le_refl _) hq d_PA_rule_69
          · have hq := fs_wifn c_106 hq
            by_cases c_107 : x101 = 124
            · have hq := fs_wifp c_107 hq
              refine lv_lookup (off := 60) (tgt := 64) hx hb d_PA_rule_4 (by decide) (by rw [c_107]; decide) (by decide) ?_
              refine lv_iconst (v := 0) hx hb d_PA_rule_64 (by decide) ?_
              exact fs_iret hx hb hr hlocks hw hP hS (vp_nar_int _) (Nat.le_refl _) (Nat.le_refl _) hq d_PA_rule_65
            · have hq := fs_wifn c_107 hq
              refine lv_lookup (off := 66) (tgt := 70) hx hb d_PA_rule_4 (by decide) ((lv_osw (a := 38) c_102 (by decide)).trans ((lv_osw (a := 42) c_103 (by decide)).trans ((lv_osw (a := 43) c_104 (by decide)).trans ((lv_osw (a := 45) c_105 (by decide)).trans ((lv_osw (a := 47) c_106 (by decide)).trans ((lv_osw (a := 124) c_107 (by decide)).trans rfl)))))) (by decide) ?_
              refine lv_iconst (v := 1) hx hb d_PA_rule_70 (by decide) ?_
              exact fs_iret hx hb hr hlocks hw hP hS (vp_nar_int _) (Nat.le_refl _) (Nat.le_refl _) hq d_PA_rule_71
def w_CA_rule (E : fs_E) (h : fs_Hp) (a0 : Nat) (Post : fs_Ps) : Prop := Post (.inl (some (.int 5))) h
set_option maxHeartbeats 4000000 in
set_option maxRecDepth 100000 in
theorem kw_CA_rule {l : Launch} {s00 : State} {E : fs_E} (hE : fs_SE l s00 E) {h : fs_Hp} {a0 : Nat} {Post : fs_Ps} (hq : w_CA_rule E h a0 Post) : fs_Ct l s00 E.1 y_CA_rule (.code y_CA_rule b_CA_rule 1 (some .int)) { frames := 0, cells := 0, slots := 0, locals := 0 } [.ref a0] h Post := by
  refine fs_Ct.ofR hE.1 (by decide) ?_
  intro p e R s m below meth c hRf hRl hRc hRs B hout hP
  skip
  obtain ⟨hx, hb, hr, hml, hown, hts, hlocks, hname, hK, hw, htr⟩ := id B
  have hown : s.vm.findClass "FormulaSheet$Call" = some m.cls := hown
  have hS := hw.S
  have hl := lv_entry ([.ref a0]) (n := 1) (Nat.le_of_ble_eq_true rfl)
  rw [lg_entry_eq]
  generalize (lg_sl ([.ref a0]) ++ List.replicate (1 - (lg_sl ([.ref a0])).length) Slot.unset).toArray = ls at hl ⊢
  have hl : lv_has ls 1 [(0, .ref a0)] := hl
  unfold w_CA_rule at hq
  refine lv_iconst (v := 5) hx hb d_CA_rule_0 (by decide) ?_
  exact fs_iret hx hb hr hlocks hw hP hS (vp_nar_int _) (Nat.le_refl _) (Nat.le_refl _) hq d_CA_rule_1
def w_OV_rule (E : fs_E) (h : fs_Hp) (a0 : Nat) (Post : fs_Ps) : Prop := Post (.inl (some (.int 5))) h
set_option maxHeartbeats 4000000 in
set_option maxRecDepth 100000 in
theorem kw_OV_rule {l : Launch} {s00 : State} {E : fs_E} (hE : fs_SE l s00 E) {h : fs_Hp} {a0 : Nat} {Post : fs_Ps} (hq : w_OV_rule E h a0 Post) : fs_Ct l s00 E.1 y_OV_rule (.code y_OV_rule b_OV_rule 1 (some .int)) { frames := 0, cells := 0, slots := 0, locals := 0 } [.ref a0] h Post := by
  refine fs_Ct.ofR hE.1 (by decide) ?_
  intro p e R s m below meth c hRf hRl hRc hRs B hout hP
  skip
  obtain ⟨hx, hb, hr, hml, hown, hts, hlocks, hname, hK, hw, htr⟩ := id B
  have hown : s.vm.findClass "FormulaSheet$OverRange" = some m.cls := hown
  have hS := hw.S
  have hl := lv_entry ([.ref a0]) (n := 1) (Nat.le_of_ble_eq_true rfl)
  rw [lg_entry_eq]
  generalize (lg_sl ([.ref a0]) ++ List.replicate (1 - (lg_sl ([.ref a0])).length) Slot.unset).toArray = ls at hl ⊢
  have hl : lv_has ls 1 [(0, .ref a0)] := hl
  unfold w_OV_rule at hq
  refine lv_iconst (v := 5) hx hb d_OV_rule_0 (by decide) ?_
  exact fs_iret hx hb hr hlocks hw hP hS (vp_nar_int _) (Nat.le_refl _) (Nat.le_refl _) hq d_OV_rule_1
def w_V_rule (E : fs_E) (h : fs_Hp) (x0 : Nat) (Post : fs_Ps) : Prop := (fs_isc h x0 4 ∧ w_NU_rule E h x0 Post) ∨ (fs_isc h x0 5 ∧ w_RE_rule E h x0 Post) ∨ (fs_isc h x0 6 ∧ w_SI_rule E h x0 Post) ∨ (fs_isc h x0 7 ∧ w_PA_rule E h x0 Post) ∨ (fs_isc h x0 8 ∧ w_CA_rule E h x0 Post) ∨ (fs_isc h x0 9 ∧ w_OV_rule E h x0 Post)
theorem kw_V_rule {l : Launch} {s00 : State} {E : fs_E} (hE : fs_SE l s00 E) {h : fs_Hp} {x0 : Nat} {Post : fs_Ps} (hq : w_V_rule E h x0 Post) : fs_CtV l s00 E.1 y_PT_rule { frames := 0, cells := 0, slots := 0, locals := 0 } x0 [] h Post 1 := by
  rcases hq with ⟨hi, hq⟩ | ⟨hi, hq⟩ | ⟨hi, hq⟩ | ⟨hi, hq⟩ | ⟨hi, hq⟩ | ⟨hi, hq⟩
  · obtain ⟨fs_, he_⟩ := fs_isc_some hi
    exact ⟨y_NU_rule, b_NU_rule, 1, (some .int), 4, fs_, _, _, _, he_, rfl, (fs_tb_at 1366 tw_1366 rfl), (fs_tb_at 1367 tw_1367 rfl), (fs_tb_at 104 tw_104 rfl), (fs_tb_at 1368 tw_1368 rfl), by decide, kw_NU_rule hE hq⟩
  · obtain ⟨fs_, he_⟩ := fs_isc_some hi
    exact ⟨y_RE_rule, b_RE_rule, 1, (some .int), 5, fs_, _, _, _, he_, rfl, (fs_tb_at 1373 tw_1373 rfl), (fs_tb_at 1374 tw_1374 rfl), (fs_tb_at 105 tw_105 rfl), (fs_tb_at 1375 tw_1375 rfl), by decide, kw_RE_rule hE hq⟩
  · obtain ⟨fs_, he_⟩ := fs_isc_some hi
    exact ⟨y_SI_rule, b_SI_rule, 1, (some .int), 6, fs_, _, _, _, he_, rfl, (fs_tb_at 1376 tw_1376 rfl), (fs_tb_at 1377 tw_1377 rfl), (fs_tb_at 111 tw_111 rfl), (fs_tb_at 1378 tw_1378 rfl), by decide, kw_SI_rule hE hq⟩
  · obtain ⟨fs_, he_⟩ := fs_isc_some hi
    exact ⟨y_PA_rule, b_PA_rule, 1, (some .int), 7, fs_, _, _, _, he_, rfl, (fs_tb_at 1372 tw_1372 rfl), (fs_tb_at 439 tw_439 rfl), (fs_tb_at 112 tw_112 rfl), (fs_tb_at 441 tw_441 rfl), by decide, kw_PA_rule hE hq⟩
  · obtain ⟨fs_, he_⟩ := fs_isc_some hi
    exact ⟨y_CA_rule, b_CA_rule, 1, (some .int), 8, fs_, _, _, _, he_, rfl, (fs_tb_at 1363 tw_1363 rfl), (fs_tb_at 1364 tw_1364 rfl), (fs_tb_at 110 tw_110 rfl), (fs_tb_at 1365 tw_1365 rfl), by decide, kw_CA_rule hE hq⟩
  · obtain ⟨fs_, he_⟩ := fs_isc_some hi
    exact ⟨y_OV_rule, b_OV_rule, 1, (some .int), 9, fs_, _, _, _, he_, rfl, (fs_tb_at 1369 tw_1369 rfl), (fs_tb_at 1370 tw_1370 rfl), (fs_tb_at 109 tw_109 rfl), (fs_tb_at 1371 tw_1371 rfl), by decide, kw_OV_rule hE hq⟩
def w_PT_with (mc ms : Nat) (E : fs_E) (h : fs_Hp) (a0 : Nat) (x1 : Nat) (Post : fs_Ps) : Prop := Post (.inl (some (.ref a0))) h
set_option maxHeartbeats 4000000 in
set_option maxRecDepth 100000 in
theorem kw_PT_with {l : Launch} {s00 : State} {E : fs_E} (hE : fs_SE l s00 E) {mc ms : Nat} {h : fs_Hp} {a0 : Nat} {x1 : Nat} {Post : fs_Ps} (hq : w_PT_with mc ms E h a0 x1 Post) : fs_Ct l s00 E.1 y_PT_with (.code y_PT_with b_PT_with 2 (some ((.object "FormulaSheet$Part")))) { frames := 3, cells := mc, slots := ms, locals := 49 } [.ref a0, .ref x1] h Post := by
  refine fs_Ct.ofR hE.1 (by decide) ?_
  intro p e R s m below meth c hRf hRl hRc hRs B hout hP
  skip
  obtain ⟨hx, hb, hr, hml, hown, hts, hlocks, hname, hK, hw, htr⟩ := id B
  have hown : s.vm.findClass "FormulaSheet$Part" = some m.cls := hown
  have hS := hw.S
  have hl := lv_entry ([.ref a0, .ref x1]) (n := 2) (Nat.le_of_ble_eq_true rfl)
  rw [lg_entry_eq]
  generalize (lg_sl ([.ref a0, .ref x1]) ++ List.replicate (2 - (lg_sl ([.ref a0, .ref x1])).length) Slot.unset).toArray = ls at hl ⊢
  have hl : lv_has ls 2 [(0, .ref a0), (1, .ref x1)] := hl
  unfold w_PT_with at hq
  refine lv_aload_n hx hb d_PT_with_0 rfl (lv_at hl 0 rfl) ?_
  exact fs_aret hx hb hr (Or.inl ⟨_, rfl⟩) (Or.inr ⟨_, rfl⟩) hlocks hw hP hS (by omega) (by omega) hq d_PT_with_1
def w_SI_with (mc ms : Nat) (E : fs_E) (h : fs_Hp) (a0 : Nat) (x1 : Nat) (Post : fs_Ps) : Prop := 1 ≤ mc ∧ 2 ≤ ms ∧ ∀ a101 : Nat, h a101 = none → (fun h102 : fs_Hp => fs_gi h102 a0 6 0 (fun x103 => fs_aq h102 x1 (E.1.2 6) 0 (fun o9 => match o9 with | none => False | some a106 => ∃ c107 s108 : Nat, c107 ≤ (mc - 1) ∧ s108 ≤ (ms - 2) ∧ (w_SI_init c107 s108 E h102 a101 x103 a106 (fs_kv (fun h109 => Post (.inl (some (.ref a101))) h109) (fun C_ h_ => Post (.inr C_) h_)))))) (fs_up h a101 (.inr (6, [.int 0, .null])))
set_option maxHeartbeats 4000000 in
set_option maxRecDepth 100000 in
theorem kw_SI_with {l : Launch} {s00 : State} {E : fs_E} (hE : fs_SE l s00 E) {mc ms : Nat} {h : fs_Hp} {a0 : Nat} {x1 : Nat} {Post : fs_Ps} (hq : w_SI_with mc ms E h a0 x1 Post) : fs_Ct l s00 E.1 y_SI_with (.code y_SI_with b_SI_with 2 (some ((.object "FormulaSheet$Part")))) { frames := 3, cells := mc, slots := ms, locals := 49 } [.ref a0, .ref x1] h Post := by
  refine fs_Ct.ofR hE.1 (by decide) ?_
  intro p e R s m below meth c hRf hRl hRc hRs B hout hP
  skip
  obtain ⟨hx, hb, hr, hml, hown, hts, hlocks, hname, hK, hw, htr⟩ := id B
  have hown : s.vm.findClass "FormulaSheet$Single" = some m.cls := hown
  have hS := hw.S
  have hl := lv_entry ([.ref a0, .ref x1]) (n := 2) (Nat.le_of_ble_eq_true rfl)
  rw [lg_entry_eq]
  generalize (lg_sl ([.ref a0, .ref x1]) ++ List.replicate (2 - (lg_sl ([.ref a0, .ref x1])).length) Slot.unset).toArray = ls at hl ⊢
  have hl : lv_has ls 2 [(0, .ref a0), (1, .ref x1)] := hl
  unfold w_SI_with at hq
  obtain ⟨hc_, hs_, hq⟩ := hq
  refine fs_new (fs := [.int 0, .null]) hx hb hts hown hK c_SI hP hS (fun _ h9 => h9) (hts _ (fs_tb_at 963 tw_963 rfl)) (hts _ (fs_tb_at 828 tw_828 rfl)) (hts _ (fs_tb_at 111 tw_111 rfl)) (by decide) (by omega) (by omega) d_SI_with_0 (fun a101 H hn_ hP hS => ?_)
  have hq := hq a101 hn_
  generalize eh_ : fs_up h a101 (.inr (6, [.int 0, .null])) = h102 at hP hq
  refine lv_dup hx hb d_SI_with_3 rfl ?_
  refine lv_aload_n hx hb d_SI_with_4 rfl (lv_at hl 0 rfl) ?_
  obtain ⟨fs_, x103, he_, hv_, hq⟩ := fs_gi_some hq
  refine fs_get hx hb hts hown hK c_SI hP he_ 0 (by decide) (hts _ (fs_tb_at 834 tw_834 rfl)) (fun _ h9 => h9) hv_ d_SI_with_5 ?_
  refine lv_aload_n hx hb d_SI_with_8 rfl (lv_at hl 1 rfl) ?_
  refine lv_iconst (v := 0) hx hb d_SI_with_9 (by decide) ?_
  obtain ⟨n_, f_, o104, e_, hi_, ex_, hq⟩ := fs_aq_some hq
  refine fs_aald hx hb hK hP 6 e_ rfl hi_ d_SI_with_10 ?_
  rw [← ex_]
  cases o104 with
  | none =>
    refine W.eq (g2 := F0 m 11 ls (.null :: .int x103 :: .ref a101 :: .ref a101 :: [])) rfl ?_
    exact False.elim hq
  | some a106 =>
    refine W.eq (g2 := F0 m 11 ls (.ref a106 :: .int x103 :: .ref a101 :: .ref a101 :: [])) rfl ?_
    obtain ⟨c107, s108, hc_, hs_, hq⟩ := hq
    refine fs_cI B hl.1 hP hS (kw_SI_init hE hq) (fs_tb_at 964 tw_964 rfl) (fs_tb_at 830 tw_830 rfl) rfl (fs_tb_at 111 tw_111 rfl) (fs_tb_at 831 tw_831 rfl) (by decide) (show (parseMethodDescriptor y_SI_init.desc).map (fun d => d.parameters.length) = some 2 by decide +kernel) rfl d_SI_with_11 (fs_rm (k := 1) (by omega) (by omega) (by omega) (by omega) rfl) (fun v_ h109 H locs hq hP hS => ?_) (fun C_ a_ h_ H locs hq hP hS hX => fs_out (hout _) hlocks hw hP hS hX (show ((0 + 1) + c107) ≤ mc by omega) (show ((0 + 2) + s108) ≤ ms by omega) hq)
    refine fs_cs (k := ((0 + 1) + c107)) (n := ((0 + 2) + s108)) rfl rfl ?_
    replace hq := fs_kv_some hq
    obtain ⟨rfl, hq⟩ := hq
    refine W.eq (g2 := F0 m 14 ls (.ref a101 :: [])) rfl ?_
    exact fs_aret hx hb hr (Or.inl ⟨_, rfl⟩) (Or.inr ⟨_, rfl⟩) hlocks hw hP hS (by omega) (by omega) hq d_SI_with_14
def w_PA_with (mc ms : Nat) (E : fs_E) (h : fs_Hp) (a0 : Nat) (x1 : Nat) (Post : fs_Ps) : Prop := 1 ≤ mc ∧ 2 ≤ ms ∧ ∀ a101 : Nat, h a101 = none → (fun h102 : fs_Hp => fs_gi h102 a0 7 0 (fun x103 => fs_aq h102 x1 (E.1.2 6) 0 (fun o9 => match o9 with | none => fs_aq h102 x1 (E.1.2 6) 1 (fun o9 => match o9 with | none => False | some a108 => False) | some a109 => fs_aq h102 x1 (E.1.2 6) 1 (fun o9 => match o9 with | none => False | some a112 => ∃ c113 s114 : Nat, c113 ≤ (mc - 1) ∧ s114 ≤ (ms - 2) ∧ (w_PA_init c113 s114 E h102 a101 x103 a109 a112 (fs_kv (fun h115 => Post (.inl (some (.ref a101))) h115) (fun C_ h_ => Post (.inr C_) h_))))))) (fs_up h a101 (.inr (7, [.int 0, .null])))
set_option maxHeartbeats 4000000 in
set_option maxRecDepth 100000 in
theorem kw_PA_with {l : Launch} {s00 : State} {E : fs_E} (hE : fs_SE l s00 E) {mc ms : Nat} {h : fs_Hp} {a0 : Nat} {x1 : Nat} {Post : fs_Ps} (hq : w_PA_with mc ms E h a0 x1 Post) : fs_Ct l s00 E.1 y_PA_with (.code y_PA_with b_PA_with 2 (some ((.object "FormulaSheet$Part")))) { frames := 3, cells := mc, slots := ms, locals := 49 } [.ref a0, .ref x1] h Post := by
  refine fs_Ct.ofR hE.1 (by decide) ?_
  intro p e R s m below meth c hRf hRl hRc hRs B hout hP
  skip
  obtain ⟨hx, hb, hr, hml, hown, hts, hlocks, hname, hK, hw, htr⟩ := id B
  have hown : s.vm.findClass "FormulaSheet$Pair" = some m.cls := hown
  have hS := hw.S
  have hl := lv_entry ([.ref a0, .ref x1]) (n := 2) (Nat.le_of_ble_eq_true rfl)
  rw [lg_entry_eq]
  generalize (lg_sl ([.ref a0, .ref x1]) ++ List.replicate (2 - (lg_sl ([.ref a0, .ref x1])).length) Slot.unset).toArray = ls at hl ⊢
  have hl : lv_has ls 2 [(0, .ref a0), (1, .ref x1)] := hl
  unfold w_PA_with at hq
  obtain ⟨hc_, hs_, hq⟩ := hq
  refine fs_new (fs := [.int 0, .null]) hx hb hts hown hK c_PA hP hS (fun _ h9 => h9) (hts _ (fs_tb_at 957 tw_957 rfl)) (hts _ (fs_tb_at 448 tw_448 rfl)) (hts _ (fs_tb_at 112 tw_112 rfl)) (by decide) (by omega) (by omega) d_PA_with_0 (fun a101 H hn_ hP hS => ?_)
  have hq := hq a101 hn_
  generalize eh_ : fs_up h a101 (.inr (7, [.int 0, .null])) = h102 at hP hq
  refine lv_dup hx hb d_PA_with_3 rfl ?_
  refine lv_aload_n hx hb d_PA_with_4 rfl (lv_at hl 0 rfl) ?_
  obtain ⟨fs_, x103, he_, hv_, hq⟩ := fs_gi_some hq
  refine fs_get hx hb hts hown hK c_PA hP he_ 0 (by decide) (hts _ (fs_tb_at 852 tw_852 rfl)) (fun _ h9 => h9) hv_ d_PA_with_5 ?_
  refine lv_aload_n hx hb d_PA_with_8 rfl (lv_at hl 1 rfl) ?_
  refine lv_iconst (v := 0) hx hb d_PA_with_9 (by decide) ?_
  obtain ⟨n_, f_, o104, e_, hi_, ex_, hq⟩ := fs_aq_some hq
  refine fs_aald hx hb hK hP 6 e_ rfl hi_ d_PA_with_10 ?_
  rw [← ex_]
  cases o104 with
  | none =>
    refine W.eq (g2 := F0 m 11 ls (.null :: .int x103 :: .ref a101 :: .ref a101 :: [])) rfl ?_
    refine lv_aload_n hx hb d_PA_with_11 rfl (lv_at hl 1 rfl) ?_
    refine lv_iconst (v := 1) hx hb d_PA_with_12 (by decide) ?_
    obtain ⟨n_, f_, o106, e_, hi_, ex_, hq⟩ := fs_aq_some hq
    refine fs_aald hx hb hK hP 6 e_ rfl hi_ d_PA_with_13 ?_
    rw [← ex_]
    cases o106 with
    | none =>
      refine W.eq (g2 := F0 m 14 ls (.null :: .null :: .int x103 :: .ref a101 :: .ref a101 :: [])) rfl ?_
      exact False.elim hq
    | some a108 =>
      refine W.eq (g2 := F0 m 14 ls (.ref a108 :: .null :: .int x103 :: .ref a101 :: .ref a101 :: [])) rfl ?_
      exact False.elim hq
  | some a109 =>
    refine W.eq (g2 := F0 m 11 ls (.ref a109 :: .int x103 :: .ref a101 :: .ref a101 :: [])) rfl ?_
    refine lv_aload_n hx hb d_PA_with_11 rfl (lv_at hl 1 rfl) ?_
    refine lv_iconst (v := 1) hx hb d_PA_with_12 (by decide) ?_
    obtain ⟨n_, f_, o110, e_, hi_, ex_, hq⟩ := fs_aq_some hq
    refine fs_aald hx hb hK hP 6 e_ rfl hi_ d_PA_with_13 ?_
    rw [← ex_]
    cases o110 with
    | none =>
      refine W.eq (g2 := F0 m 14 ls (.null :: .ref a109 :: .int x103 :: .ref a101 :: .ref a101 :: [])) rfl ?_
      exact False.elim hq
    | some a112 =>
      refine W.eq (g2 := F0 m 14 ls (.ref a112 :: .ref a109 :: .int x103 :: .ref a101 :: .ref a101 :: [])) rfl ?_
      obtain ⟨c113, s114, hc_, hs_, hq⟩ := hq
      refine fs_cI B hl.1 hP hS (kw_PA_init hE hq) (fs_tb_at 958 tw_958 rfl) (fs_tb_at 848 tw_848 rfl) rfl (fs_tb_at 112 tw_112 rfl) (fs_tb_at 849 tw_849 rfl) (by decide) (show (parseMethodDescriptor y_PA_init.desc).map (fun d => d.parameters.length) = some 3 by decide +kernel) rfl d_PA_with_14 (fs_rm (k := 1) (by omega) (by omega) (by omega) (by omega) rfl) (fun v_ h115 H locs hq hP hS => ?_) (fun C_ a_ h_ H locs hq hP hS hX => fs_out (hout _) hlocks hw hP hS hX (show ((0 + 1) + c113) ≤ mc by omega) (show ((0 + 2) + s114) ≤ ms by omega) hq)
      refine fs_cs (k := ((0 + 1) + c113)) (n := ((0 + 2) + s114)) rfl rfl ?_
      replace hq := fs_kv_some hq
      obtain ⟨rfl, hq⟩ := hq
      refine W.eq (g2 := F0 m 17 ls (.ref a101 :: [])) rfl ?_
      exact fs_aret hx hb hr (Or.inl ⟨_, rfl⟩) (Or.inr ⟨_, rfl⟩) hlocks hw hP hS (by omega) (by omega) hq d_PA_with_17
def w_CA_with (mc ms : Nat) (E : fs_E) (h : fs_Hp) (a0 : Nat) (x1 : Nat) (Post : fs_Ps) : Prop := 1 ≤ mc ∧ 2 ≤ ms ∧ ∀ a101 : Nat, h a101 = none → (fun h102 : fs_Hp => fs_gr h102 a0 8 0 (fun a103 => w_CA_init E h102 a101 a103 x1 (fs_kv (fun h104 => Post (.inl (some (.ref a101))) h104) (fun C_ h_ => Post (.inr C_) h_)))) (fs_up h a101 (.inr (8, [.null, .null])))
set_option maxHeartbeats 4000000 in
set_option maxRecDepth 100000 in
theorem kw_CA_with {l : Launch} {s00 : State} {E : fs_E} (hE : fs_SE l s00 E) {mc ms : Nat} {h : fs_Hp} {a0 : Nat} {x1 : Nat} {Post : fs_Ps} (hq : w_CA_with mc ms E h a0 x1 Post) : fs_Ct l s00 E.1 y_CA_with (.code y_CA_with b_CA_with 2 (some ((.object "FormulaSheet$Part")))) { frames := 3, cells := mc, slots := ms, locals := 49 } [.ref a0, .ref x1] h Post := by
  refine fs_Ct.ofR hE.1 (by decide) ?_
  intro p e R s m below meth c hRf hRl hRc hRs B hout hP
  skip
  obtain ⟨hx, hb, hr, hml, hown, hts, hlocks, hname, hK, hw, htr⟩ := id B
  have hown : s.vm.findClass "FormulaSheet$Call" = some m.cls := hown
  have hS := hw.S
  have hl := lv_entry ([.ref a0, .ref x1]) (n := 2) (Nat.le_of_ble_eq_true rfl)
  rw [lg_entry_eq]
  generalize (lg_sl ([.ref a0, .ref x1]) ++ List.replicate (2 - (lg_sl ([.ref a0, .ref x1])).length) Slot.unset).toArray = ls at hl ⊢
  have hl : lv_has ls 2 [(0, .ref a0), (1, .ref x1)] := hl
  unfold w_CA_with at hq
  obtain ⟨hc_, hs_, hq⟩ := hq
  refine fs_new (fs := [.null, .null]) hx hb hts hown hK c_CA hP hS (fun _ h9 => h9) (hts _ (fs_tb_at 950 tw_950 rfl)) (hts _ (fs_tb_at 814 tw_814 rfl)) (hts _ (fs_tb_at 110 tw_110 rfl)) (by decide) (by omega) (by omega) d_CA_with_0 (fun a101 H hn_ hP hS => ?_)
  have hq := hq a101 hn_
  generalize eh_ : fs_up h a101 (.inr (8, [.null, .null])) = h102 at hP hq
  refine lv_dup hx hb d_CA_with_3 rfl ?_
  refine lv_aload_n hx hb d_CA_with_4 rfl (lv_at hl 0 rfl) ?_
  obtain ⟨fs_, a103, he_, hv_, hq⟩ := fs_gr_some hq
  refine fs_get hx hb hts hown hK c_CA hP he_ 0 (by decide) (hts _ (fs_tb_at 819 tw_819 rfl)) (fun _ h9 => h9) hv_ d_CA_with_5 ?_
  refine lv_aload_n hx hb d_CA_with_8 rfl (lv_at hl 1 rfl) ?_
  refine fs_cI B hl.1 hP hS (kw_CA_init hE hq) (fs_tb_at 951 tw_951 rfl) (fs_tb_at 816 tw_816 rfl) rfl (fs_tb_at 110 tw_110 rfl) (fs_tb_at 817 tw_817 rfl) (by decide) (show (parseMethodDescriptor y_CA_init.desc).map (fun d => d.parameters.length) = some 2 by decide +kernel) rfl d_CA_with_9 (fs_rm (k := 1) (by omega) (by omega) (by omega) (by omega) rfl) (fun v_ h104 H locs hq hP hS => ?_) (fun C_ a_ h_ H locs hq hP hS hX => fs_out (hout _) hlocks hw hP hS hX (show (0 + 1) ≤ mc by omega) (show (0 + 2) ≤ ms by omega) hq)
  refine fs_cs (k := (0 + 1)) (n := (0 + 2)) rfl rfl ?_
  replace hq := fs_kv_some hq
  obtain ⟨rfl, hq⟩ := hq
  refine W.eq (g2 := F0 m 12 ls (.ref a101 :: [])) rfl ?_
  exact fs_aret hx hb hr (Or.inl ⟨_, rfl⟩) (Or.inr ⟨_, rfl⟩) hlocks hw hP hS (by omega) (by omega) hq d_CA_with_12
def w_V_with (mc ms : Nat) (E : fs_E) (h : fs_Hp) (x0 : Nat) (x1 : Nat) (Post : fs_Ps) : Prop := (fs_isc h x0 4 ∧ w_PT_with mc ms E h x0 x1 Post) ∨ (fs_isc h x0 5 ∧ w_PT_with mc ms E h x0 x1 Post) ∨ (fs_isc h x0 6 ∧ w_SI_with mc ms E h x0 x1 Post) ∨ (fs_isc h x0 7 ∧ w_PA_with mc ms E h x0 x1 Post) ∨ (fs_isc h x0 8 ∧ w_CA_with mc ms E h x0 x1 Post) ∨ (fs_isc h x0 9 ∧ w_PT_with mc ms E h x0 x1 Post)
theorem kw_V_with {l : Launch} {s00 : State} {E : fs_E} (hE : fs_SE l s00 E) {mc ms : Nat} {h : fs_Hp} {x0 : Nat} {x1 : Nat} {Post : fs_Ps} (hq : w_V_with mc ms E h x0 x1 Post) : fs_CtV l s00 E.1 y_PT_with { frames := 3, cells := mc, slots := ms, locals := 49 } x0 [.ref x1] h Post 2 := by
  rcases hq with ⟨hi, hq⟩ | ⟨hi, hq⟩ | ⟨hi, hq⟩ | ⟨hi, hq⟩ | ⟨hi, hq⟩ | ⟨hi, hq⟩
  · obtain ⟨fs_, he_⟩ := fs_isc_some hi
    exact ⟨y_PT_with, b_PT_with, 2, (some ((.object "FormulaSheet$Part"))), 4, fs_, _, _, _, he_, rfl, (fs_tb_at 952 tw_952 rfl), (fs_tb_at 945 tw_945 rfl), (fs_tb_at 103 tw_103 rfl), (fs_tb_at 965 tw_965 rfl), by decide, kw_PT_with hE hq⟩
  · obtain ⟨fs_, he_⟩ := fs_isc_some hi
    exact ⟨y_PT_with, b_PT_with, 2, (some ((.object "FormulaSheet$Part"))), 5, fs_, _, _, _, he_, rfl, (fs_tb_at 959 tw_959 rfl), (fs_tb_at 945 tw_945 rfl), (fs_tb_at 103 tw_103 rfl), (fs_tb_at 965 tw_965 rfl), by decide, kw_PT_with hE hq⟩
  · obtain ⟨fs_, he_⟩ := fs_isc_some hi
    exact ⟨y_SI_with, b_SI_with, 2, (some ((.object "FormulaSheet$Part"))), 6, fs_, _, _, _, he_, rfl, (fs_tb_at 960 tw_960 rfl), (fs_tb_at 961 tw_961 rfl), (fs_tb_at 111 tw_111 rfl), (fs_tb_at 962 tw_962 rfl), by decide, kw_SI_with hE hq⟩
  · obtain ⟨fs_, he_⟩ := fs_isc_some hi
    exact ⟨y_PA_with, b_PA_with, 2, (some ((.object "FormulaSheet$Part"))), 7, fs_, _, _, _, he_, rfl, (fs_tb_at 954 tw_954 rfl), (fs_tb_at 955 tw_955 rfl), (fs_tb_at 112 tw_112 rfl), (fs_tb_at 956 tw_956 rfl), by decide, kw_PA_with hE hq⟩
  · obtain ⟨fs_, he_⟩ := fs_isc_some hi
    exact ⟨y_CA_with, b_CA_with, 2, (some ((.object "FormulaSheet$Part"))), 8, fs_, _, _, _, he_, rfl, (fs_tb_at 947 tw_947 rfl), (fs_tb_at 948 tw_948 rfl), (fs_tb_at 110 tw_110 rfl), (fs_tb_at 949 tw_949 rfl), by decide, kw_CA_with hE hq⟩
  · obtain ⟨fs_, he_⟩ := fs_isc_some hi
    exact ⟨y_PT_with, b_PT_with, 2, (some ((.object "FormulaSheet$Part"))), 9, fs_, _, _, _, he_, rfl, (fs_tb_at 953 tw_953 rfl), (fs_tb_at 945 tw_945 rfl), (fs_tb_at 103 tw_103 rfl), (fs_tb_at 965 tw_965 rfl), by decide, kw_PT_with hE hq⟩
def w_RE_followRowIn_d (E : fs_E) (h : fs_Hp) (a0 : Nat) (x1 : Int32) (Post : fs_Ps) : Prop := fs_gi h a0 5 4 (fun x101 => (if x101 = 0 then fs_gi h a0 5 3 (fun x103 => (if x1 ≤ x103 then fs_gi h a0 5 3 (fun x105 => fs_pw h a0 5 3 (.int (x105 + 1)) (fun h106 => fs_gi h106 a0 5 3 (fun x107 => (if x107 < 10 then fs_pw h106 a0 5 4 (.int 0) (fun h109 => Post (.inl none) h109) else fs_pw h106 a0 5 4 (.int 1) (fun h110 => Post (.inl none) h110))))) else Post (.inl none) h)) else Post (.inl none) h))
set_option maxHeartbeats 4000000 in
set_option maxRecDepth 100000 in
theorem kw_RE_followRowIn_d {l : Launch} {s00 : State} {E : fs_E} (hE : fs_SE l s00 E) {h : fs_Hp} {a0 : Nat} {x1 : Int32} {Post : fs_Ps} (hq : w_RE_followRowIn_d E h a0 x1 Post) : fs_Ct l s00 E.1 y_RE_followRowIn (.code y_RE_followRowIn b_RE_followRowIn 2 none) { frames := 0, cells := 0, slots := 0, locals := 0 } [.ref a0, .int x1] h Post := by
  refine fs_Ct.ofR hE.1 (by decide) ?_
  intro p e R s m below meth c hRf hRl hRc hRs B hout hP
  skip
  obtain ⟨hx, hb, hr, hml, hown, hts, hlocks, hname, hK, hw, htr⟩ := id B
  have hown : s.vm.findClass "FormulaSheet$Reference" = some m.cls := hown
  have hS := hw.S
  have hl := lv_entry ([.ref a0, .int x1]) (n := 2) (Nat.le_of_ble_eq_true rfl)
  rw [lg_entry_eq]
  generalize (lg_sl ([.ref a0, .int x1]) ++ List.replicate (2 - (lg_sl ([.ref a0, .int x1])).length) Slot.unset).toArray = ls at hl ⊢
  have hl : lv_has ls 2 [(0, .ref a0), (1, .int x1)] := hl
  unfold w_RE_followRowIn_d at hq
  refine lv_aload_n hx hb d_RE_followRowIn_0 rfl (lv_at hl 0 rfl) ?_
  obtain ⟨fs_, x101, he_, hv_, hq⟩ := fs_gi_some hq
  refine fs_get hx hb hts hown hK c_RE hP he_ 4 (by decide) (hts _ (fs_tb_at 708 tw_708 rfl)) (fun _ h9 => h9) hv_ d_RE_followRowIn_1 ?_
  refine lv_if_ne (tgt := 15) hx hb d_RE_followRowIn_4 (by decide) (fun c_102 => ?_) (fun c_102 => ?_)
  · have hq := fs_wifn c_102 hq
    exact fs_vret hx hb hr hlocks hw hP hS (Nat.le_refl _) (Nat.le_refl _) hq d_RE_followRowIn_15
  · have hq := fs_wifp c_102 hq
    refine lv_aload_n hx hb d_RE_followRowIn_7 rfl (lv_at hl 0 rfl) ?_
    obtain ⟨fs_, x103, he_, hv_, hq⟩ := fs_gi_some hq
    refine fs_get hx hb hts hown hK c_RE hP he_ 3 (by decide) (hts _ (fs_tb_at 705 tw_705 rfl)) (fun _ h9 => h9) hv_ d_RE_followRowIn_8 ?_
    refine lv_iload_n hx hb d_RE_followRowIn_11 rfl (lv_at hl 1 rfl) ?_
    refine lv_icmp_ge (tgt := 16) hx hb d_RE_followRowIn_12 (by decide) (fun c_104 => ?_) (fun c_104 => ?_)
    · have hq := fs_wifp c_104 hq
      refine lv_aload_n hx hb d_RE_followRowIn_16 rfl (lv_at hl 0 rfl) ?_
      refine lv_dup hx hb d_RE_followRowIn_17 rfl ?_
      obtain ⟨fs_, x105, he_, hv_, hq⟩ := fs_gi_some hq
      refine fs_get hx hb hts hown hK c_RE hP he_ 3 (by decide) (hts _ (fs_tb_at 705 tw_705 rfl)) (fun _ h9 => h9) hv_ d_RE_followRowIn_18 ?_
      refine lv_iconst (v := 1) hx hb d_RE_followRowIn_21 (by decide) ?_
      refine lv_iadd hx hb d_RE_followRowIn_22 ?_
      obtain ⟨fs_, h106, e_, hl_, eh_, hq⟩ := fs_pw_some hq
      refine fs_put hx hb hts hown hK c_RE hP hS e_ 3 (by decide) (hts _ (fs_tb_at 705 tw_705 rfl)) (fun _ h9 => h9) rfl rfl rfl hl_ d_RE_followRowIn_23 (fun H locs hP hS => ?_)
      rw [← eh_] at hP
      refine lv_aload_n hx hb d_RE_followRowIn_26 rfl (lv_at hl 0 rfl) ?_
      refine lv_aload_n hx hb d_RE_followRowIn_27 rfl (lv_at hl 0 rfl) ?_
      obtain ⟨fs_, x107, he_, hv_, hq⟩ := fs_gi_some hq
      refine fs_get hx hb hts hown hK c_RE hP he_ 3 (by decide) (hts _ (fs_tb_at 705 tw_705 rfl)) (fun _ h9 => h9) hv_ d_RE_followRowIn_28 ?_
      refine lv_bipush (v := 10) hx hb d_RE_followRowIn_31 (by decide) ?_
      refine lv_icmp_lt (tgt := 40) hx hb d_RE_followRowIn_33 (by decide) (fun c_108 => ?_) (fun c_108 => ?_)
      · have hq := fs_wifp c_108 hq
        refine lv_iconst (v := 0) hx hb d_RE_followRowIn_40 (by decide) ?_
        obtain ⟨fs_, h109, e_, hl_, eh_, hq⟩ := fs_pw_some hq
        refine fs_put hx hb hts hown hK c_RE hP hS e_ 4 (by decide) (hts _ (fs_tb_at 708 tw_708 rfl)) (fun _ h9 => h9) rfl (by decide) (by decide) hl_ d_RE_followRowIn_41 (fun H locs hP hS => ?_)
        rw [← eh_] at hP
        exact fs_vret hx hb hr hlocks hw hP hS (Nat.le_refl _) (Nat.le_refl _) hq d_RE_followRowIn_44
      · have hq := fs_wifn c_108 hq
        refine lv_iconst (v := 1) hx hb d_RE_followRowIn_36 (by decide) ?_
        refine lv_goto (tgt := 41) hx hb d_RE_followRowIn_37 (by decide) ?_
        obtain ⟨fs_, h110, e_, hl_, eh_, hq⟩ := fs_pw_some hq
        refine fs_put hx hb hts hown hK c_RE hP hS e_ 4 (by decide) (hts _ (fs_tb_at 708 tw_708 rfl)) (fun _ h9 => h9) rfl (by decide) (by decide) hl_ d_RE_followRowIn_41 (fun H locs hP hS => ?_)
        rw [← eh_] at hP
        exact fs_vret hx hb hr hlocks hw hP hS (Nat.le_refl _) (Nat.le_refl _) hq d_RE_followRowIn_44
    · have hq := fs_wifn c_104 hq
      exact fs_vret hx hb hr hlocks hw hP hS (Nat.le_refl _) (Nat.le_refl _) hq d_RE_followRowIn_15
def w_RE_followRowOut_d_J30 (E : fs_E) (Post : fs_Ps) (z0 : Nat) (w0 : Int32) (w1 : Nat) (h1 : fs_Hp) : Prop := narrow .boolean (.int w0) = (.int w0) ∧ fits .boolean (.int w0) = true ∧ (fs_pw h1 w1 5 4 (.int w0) (fun h101 => fs_gi h101 z0 5 3 (fun x102 => fs_pw h101 z0 5 3 (.int (x102 - 1)) (fun h103 => Post (.inl none) h103))))
def w_RE_followRowOut_d (E : fs_E) (h : fs_Hp) (a0 : Nat) (x1 : Int32) (Post : fs_Ps) : Prop := fs_gi h a0 5 4 (fun x104 => (if x104 = 0 then fs_gi h a0 5 3 (fun x106 => (if x1 ≤ x106 then fs_gi h a0 5 3 (fun x108 => (if x108 = x1 then w_RE_followRowOut_d_J30 E Post a0 1 a0 h else w_RE_followRowOut_d_J30 E Post a0 0 a0 h)) else Post (.inl none) h)) else Post (.inl none) h))
set_option maxHeartbeats 4000000 in
set_option maxRecDepth 100000 in
theorem kw_RE_followRowOut_d {l : Launch} {s00 : State} {E : fs_E} (hE : fs_SE l s00 E) {h : fs_Hp} {a0 : Nat} {x1 : Int32} {Post : fs_Ps} (hq : w_RE_followRowOut_d E h a0 x1 Post) : fs_Ct l s00 E.1 y_RE_followRowOut (.code y_RE_followRowOut b_RE_followRowOut 2 none) { frames := 0, cells := 0, slots := 0, locals := 0 } [.ref a0, .int x1] h Post := by
  refine fs_Ct.ofR hE.1 (by decide) ?_
  intro p e R s m below meth c hRf hRl hRc hRs B hout hP
  skip
  obtain ⟨hx, hb, hr, hml, hown, hts, hlocks, hname, hK, hw, htr⟩ := id B
  have hown : s.vm.findClass "FormulaSheet$Reference" = some m.cls := hown
  have hS := hw.S
  have hJ30 : ∀ (z0 : Nat) (w0 : Int32) (w1 : Nat) (h1 : fs_Hp) (H : Heap) (locs : List Loc) (ls : Array Slot), w_RE_followRowOut_d_J30 E Post z0 w0 w1 h1 → fs_P E.1.1 fs_cl (fs_A s00) h1 H → va_S (fs_A s00) s00.heap H locs → lv_has ls 2 [(0, .ref z0)] → W p l e R s m ([.ref a0, .int x1] : List Value).toArray below meth c H locs 0 0 (fx_MQ below (fs_Qc s00 E.1 Post) ([.ref a0, .int x1] : List Value).toArray s 0 0 (fs_A s00)) (F0 m 30 ls (.int w0 :: .ref w1 :: [])) := by
    intro z0 w0 w1 h1 H locs ls hq hP hS hl
    unfold w_RE_followRowOut_d_J30 at hq
    obtain ⟨hn_, hf_, hq⟩ := hq
    obtain ⟨fs_, h101, e_, hl_, eh_, hq⟩ := fs_pw_some hq
    refine fs_put hx hb hts hown hK c_RE hP hS e_ 4 (by decide) (hts _ (fs_tb_at 708 tw_708 rfl)) (fun _ h9 => h9) rfl hn_ hf_ hl_ d_RE_followRowOut_30 (fun H locs hP hS => ?_)
    rw [← eh_] at hP
    refine lv_aload_n hx hb d_RE_followRowOut_33 rfl (lv_at hl 0 rfl) ?_
    refine lv_dup hx hb d_RE_followRowOut_34 rfl ?_
    obtain ⟨fs_, x102, he_, hv_, hq⟩ := fs_gi_some hq
    refine fs_get hx hb hts hown hK c_RE hP he_ 3 (by decide) (hts _ (fs_tb_at 705 tw_705 rfl)) (fun _ h9 => h9) hv_ d_RE_followRowOut_35 ?_
    refine lv_iconst (v := 1) hx hb d_RE_followRowOut_38 (by decide) ?_
    refine lv_isub hx hb d_RE_followRowOut_39 ?_
    obtain ⟨fs_, h103, e_, hl_, eh_, hq⟩ := fs_pw_some hq
    refine fs_put hx hb hts hown hK c_RE hP hS e_ 3 (by decide) (hts _ (fs_tb_at 705 tw_705 rfl)) (fun _ h9 => h9) rfl rfl rfl hl_ d_RE_followRowOut_40 (fun H locs hP hS => ?_)
    rw [← eh_] at hP
    exact fs_vret hx hb hr hlocks hw hP hS (Nat.le_refl _) (Nat.le_refl _) hq d_RE_followRowOut_43
  have hl := lv_entry ([.ref a0, .int x1]) (n := 2) (Nat.le_of_ble_eq_true rfl)
  rw [lg_entry_eq]
  generalize (lg_sl ([.ref a0, .int x1]) ++ List.replicate (2 - (lg_sl ([.ref a0, .int x1])).length) Slot.unset).toArray = ls at hl ⊢
  have hl : lv_has ls 2 [(0, .ref a0), (1, .int x1)] := hl
  unfold w_RE_followRowOut_d at hq
  refine lv_aload_n hx hb d_RE_followRowOut_0 rfl (lv_at hl 0 rfl) ?_
  obtain ⟨fs_, x104, he_, hv_, hq⟩ := fs_gi_some hq
  refine fs_get hx hb hts hown hK c_RE hP he_ 4 (by decide) (hts _ (fs_tb_at 708 tw_708 rfl)) (fun _ h9 => h9) hv_ d_RE_followRowOut_1 ?_
  refine lv_if_ne (tgt := 15) hx hb d_RE_followRowOut_4 (by decide) (fun c_105 => ?_) (fun c_105 => ?_)
  · have hq := fs_wifn c_105 hq
    exact fs_vret hx hb hr hlocks hw hP hS (Nat.le_refl _) (Nat.le_refl _) hq d_RE_followRowOut_15
  · have hq := fs_wifp c_105 hq
    refine lv_aload_n hx hb d_RE_followRowOut_7 rfl (lv_at hl 0 rfl) ?_
    obtain ⟨fs_, x106, he_, hv_, hq⟩ := fs_gi_some hq
    refine fs_get hx hb hts hown hK c_RE hP he_ 3 (by decide) (hts _ (fs_tb_at 705 tw_705 rfl)) (fun _ h9 => h9) hv_ d_RE_followRowOut_8 ?_
    refine lv_iload_n hx hb d_RE_followRowOut_11 rfl (lv_at hl 1 rfl) ?_
    refine lv_icmp_ge (tgt := 16) hx hb d_RE_followRowOut_12 (by decide) (fun c_107 => ?_) (fun c_107 => ?_)
    · have hq := fs_wifp c_107 hq
      refine lv_aload_n hx hb d_RE_followRowOut_16 rfl (lv_at hl 0 rfl) ?_
      refine lv_aload_n hx hb d_RE_followRowOut_17 rfl (lv_at hl 0 rfl) ?_
      obtain ⟨fs_, x108, he_, hv_, hq⟩ := fs_gi_some hq
      refine fs_get hx hb hts hown hK c_RE hP he_ 3 (by decide) (hts _ (fs_tb_at 705 tw_705 rfl)) (fun _ h9 => h9) hv_ d_RE_followRowOut_18 ?_
      refine lv_iload_n hx hb d_RE_followRowOut_21 rfl (lv_at hl 1 rfl) ?_
      refine lv_icmp_ne (tgt := 29) hx hb d_RE_followRowOut_22 (by decide) (fun c_109 => ?_) (fun c_109 => ?_)
      · have hq := fs_wifn c_109 hq
        refine lv_iconst (v := 0) hx hb d_RE_followRowOut_29 (by decide) ?_
        exact hJ30 a0 0 a0 _ _ _ _ hq hP hS (show lv_has ls 2 [(0, .ref a0)] from lv_sub hl [0] rfl)
      · have hq := fs_wifp c_109 hq
        refine lv_iconst (v := 1) hx hb d_RE_followRowOut_25 (by decide) ?_
        refine lv_goto (tgt := 30) hx hb d_RE_followRowOut_26 (by decide) ?_
        exact hJ30 a0 1 a0 _ _ _ _ hq hP hS (show lv_has ls 2 [(0, .ref a0)] from lv_sub hl [0] rfl)
    · have hq := fs_wifn c_107 hq
      exact fs_vret hx hb hr hlocks hw hP hS (Nat.le_refl _) (Nat.le_refl _) hq d_RE_followRowOut_15
def w_PT_followRowIn_L2 (self : fs_E → fs_Hp → Nat → Int32 → fs_Ps → Prop) (E : fs_E) (K : fs_Hp → Prop) (Post : fs_Ps) : Nat → Nat → Int32 → Int32 → fs_Hp → Prop
  | 0 => fun _ _ _ _ => False
  | n + 1 => fun z0 z1 z2 h1 => fs_gP h1 z0 (fun a101 => fs_an h1 a101 (E.1.2 6) (fun n102 => (if (Int32.ofNat n102) ≤ z2 then K h1 else fs_gP h1 z0 (fun a104 => fs_aq h1 a104 (E.1.2 6) z2 (fun o9 => match o9 with | none => False | some a107 => self E h1 a107 z1 (fs_kv (fun h108 => (w_PT_followRowIn_L2 self E K Post n) z0 z1 (z2 + 1) h108) (fun C_ h_ => Post (.inr C_) h_)))))))
def w_PT_followRowIn (self : fs_E → fs_Hp → Nat → Int32 → fs_Ps → Prop) (E : fs_E) (h : fs_Hp) (a0 : Nat) (x1 : Int32) (Post : fs_Ps) : Prop := (∃ n110 : Nat, w_PT_followRowIn_L2 self E (fun h109 => Post (.inl none) h109) Post n110 a0 x1 0 h)
set_option maxHeartbeats 4000000 in
set_option maxRecDepth 100000 in
theorem lw_w_PT_followRowIn_2 {p : Program} {l : Launch} {e : Env} {R : Room} {s : State} {m : MethodId} {args : Array Value} {below : List Frame} {meth : Method} {c : Code} {s00 : State} {E : fs_E} {Post : fs_Ps} (hE : fs_SE l s00 E) {self : fs_E → fs_Hp → Nat → Int32 → fs_Ps → Prop} {fn ln : Nat} (hself : ∀ {h9 : fs_Hp} {q0 : Nat} {q1 : Int32} {P9 : fs_Ps}, self E h9 q0 q1 P9 → fs_CtV l s00 E.1 y_PT_followRowIn { frames := fn, cells := 0, slots := 0, locals := ln } q0 [.int q1] h9 P9 4) (B : fs_B p l e s m args meth c s00 E.1 y_PT_followRowIn b_PT_followRowIn 3 none) (hout : ∀ pc, ∀ x ∈ c.exceptionTable.toList, covers x pc = false) (hRf : fn + 1 ≤ R.frames) (hRl : ln + 15 ≤ R.locals) (K : fs_Hp → Prop) : ∀ (n : Nat) (z0 : Nat) (z1 : Int32) (z2 : Int32) (h1 : fs_Hp) (H : Heap) (locs : List Loc) (ls : Array Slot), w_PT_followRowIn_L2 self E K Post n z0 z1 z2 h1 → fs_P E.1.1 fs_cl (fs_A s00) h1 H → va_S (fs_A s00) s00.heap H locs → lv_has ls 3 [(0, .ref z0), (1, .int z1), (2, .int z2)] → (∀  (h' : fs_Hp) (H : Heap) (locs : List Loc) (ls : Array Slot), K  h' → fs_P E.1.1 fs_cl (fs_A s00) h' H → va_S (fs_A s00) s00.heap H locs → lv_has ls 3 [(0, .ref z0), (1, .int z1)] → W p l e R s m args below meth c H locs 0 0 (fx_MQ below (fs_Qc s00 E.1 Post) args s 0 0 (fs_A s00)) (F0 m 27 ls [])) → W p l e R s m args below meth c H locs 0 0 (fx_MQ below (fs_Qc s00 E.1 Post) args s 0 0 (fs_A s00)) (F0 m 2 ls []) := by
  obtain ⟨hx, hb, hr, hml, hown, hts, hlocks, hname, hK, hw, htr⟩ := id B
  have hown : s.vm.findClass "FormulaSheet$Part" = some m.cls := hown
  intro n
  induction n with
  | zero => intro z0 z1 z2 h1 H locs ls hq; exact False.elim hq
  | succ n ih =>
    intro z0 z1 z2 h1 H locs ls hq hP hS hl kk
    rw [w_PT_followRowIn_L2] at hq
    refine lv_iload_n hx hb d_PT_followRowIn_2 rfl (lv_at hl 2 rfl) ?_
    refine lv_aload_n hx hb d_PT_followRowIn_3 rfl (lv_at hl 0 rfl) ?_
    obtain ⟨ci_, fs_, a101, e_, hc_, hv_, hq⟩ := fs_gP_some hq
    refine fs_getP hx hb hts hown hK hP e_ hc_ hv_ (hts _ (fs_tb_at 673 tw_673 rfl)) d_PT_followRowIn_4 ?_
    obtain ⟨x_, n102, en_, e_, hq⟩ := fs_an_some hq
    refine fs_alen hx hb hK hP 6 e_ rfl rfl d_PT_followRowIn_7 ?_
    rw [← en_]
    refine lv_icmp_ge (tgt := 27) hx hb d_PT_followRowIn_8 (by decide) (fun c_103 => ?_) (fun c_103 => ?_)
    · have hq := fs_wifp c_103 hq
      exact kk  _ _ _ _ hq hP hS (show lv_has ls 3 [(0, .ref z0), (1, .int z1)] from lv_sub hl [0, 1] rfl)
    · have hq := fs_wifn c_103 hq
      refine lv_aload_n hx hb d_PT_followRowIn_11 rfl (lv_at hl 0 rfl) ?_
      obtain ⟨ci_, fs_, a104, e_, hc_, hv_, hq⟩ := fs_gP_some hq
      refine fs_getP hx hb hts hown hK hP e_ hc_ hv_ (hts _ (fs_tb_at 673 tw_673 rfl)) d_PT_followRowIn_12 ?_
      refine lv_iload_n hx hb d_PT_followRowIn_15 rfl (lv_at hl 2 rfl) ?_
      obtain ⟨n_, f_, o105, e_, hi_, ex_, hq⟩ := fs_aq_some hq
      refine fs_aald hx hb hK hP 6 e_ rfl hi_ d_PT_followRowIn_16 ?_
      rw [← ex_]
      cases o105 with
      | none =>
        refine W.eq (g2 := F0 m 17 ls (.null :: [])) rfl ?_
        refine lv_iload_n hx hb d_PT_followRowIn_17 rfl (lv_at hl 1 rfl) ?_
        exact False.elim hq
      | some a107 =>
        refine W.eq (g2 := F0 m 17 ls (.ref a107 :: [])) rfl ?_
        refine lv_iload_n hx hb d_PT_followRowIn_17 rfl (lv_at hl 1 rfl) ?_
        refine fs_cVV (owner := "FormulaSheet$Part") B hl.1 hP hS (hself hq) (fs_tb_at 1007 tw_1007 rfl) (fs_tb_at 990 tw_990 rfl) (fs_dclC (fs_tb_at 989 tw_989 rfl) (fs_tb_at 1006 tw_1006 rfl)) (by decide) (show (parseMethodDescriptor y_PT_followRowIn.desc).map (fun d => d.parameters.length) = some 1 by decide +kernel) rfl d_PT_followRowIn_18 (fs_rm (k := 0) (by omega) (by omega) (by omega) (by omega) rfl) (fun v_ h108 H locs hq hP hS => ?_) (fun C_ a_ h_ H locs hq hP hS hX => fs_out (hout _) hlocks hw hP hS hX (Nat.le_of_ble_eq_true rfl) (Nat.le_of_ble_eq_true rfl) hq)
        refine fs_cs (k := 0) (n := 0) rfl rfl ?_
        replace hq := fs_kv_some hq
        obtain ⟨rfl, hq⟩ := hq
        refine W.eq (g2 := F0 m 21 ls ([])) rfl ?_
        refine lv_iinc (v := z2 + 1) (lv' := [(2, .int (z2 + 1)), (0, .ref z0), (1, .int z1)]) hx hb d_PT_followRowIn_21 hl (k := 2) rfl rfl (by decide) rfl (fun ls hl => ?_)
        refine lv_goto (tgt := 2) hx hb d_PT_followRowIn_24 (by decide) ?_
        exact ih z0 z1 (z2 + 1) _ _ _ _ hq hP hS (show lv_has ls 3 [(0, .ref z0), (1, .int z1), (2, .int (z2 + 1))] from lv_sub hl [1, 2, 0] rfl) kk
set_option maxHeartbeats 4000000 in
set_option maxRecDepth 100000 in
theorem kw_PT_followRowIn {l : Launch} {s00 : State} {E : fs_E} (hE : fs_SE l s00 E) {self : fs_E → fs_Hp → Nat → Int32 → fs_Ps → Prop} {fn ln : Nat} (hself : ∀ {h9 : fs_Hp} {q0 : Nat} {q1 : Int32} {P9 : fs_Ps}, self E h9 q0 q1 P9 → fs_CtV l s00 E.1 y_PT_followRowIn { frames := fn, cells := 0, slots := 0, locals := ln } q0 [.int q1] h9 P9 4) {h : fs_Hp} {a0 : Nat} {x1 : Int32} {Post : fs_Ps} (hq : w_PT_followRowIn self E h a0 x1 Post) : fs_Ct l s00 E.1 y_PT_followRowIn (.code y_PT_followRowIn b_PT_followRowIn 3 none) { frames := fn + 1, cells := 0, slots := 0, locals := ln + 15 } [.ref a0, .int x1] h Post := by
  refine fs_Ct.ofR hE.1 (by decide) ?_
  intro p e R s m below meth c hRf hRl hRc hRs B hout hP
  skip
  obtain ⟨hx, hb, hr, hml, hown, hts, hlocks, hname, hK, hw, htr⟩ := id B
  have hown : s.vm.findClass "FormulaSheet$Part" = some m.cls := hown
  have hS := hw.S
  have hl := lv_entry ([.ref a0, .int x1]) (n := 3) (Nat.le_of_ble_eq_true rfl)
  rw [lg_entry_eq]
  generalize (lg_sl ([.ref a0, .int x1]) ++ List.replicate (3 - (lg_sl ([.ref a0, .int x1])).length) Slot.unset).toArray = ls at hl ⊢
  have hl : lv_has ls 3 [(0, .ref a0), (1, .int x1)] := hl
  unfold w_PT_followRowIn at hq
  refine lv_iconst (v := 0) hx hb d_PT_followRowIn_0 (by decide) ?_
  refine lv_istore_n (lv' := [(2, .int 0), (0, .ref a0), (1, .int x1)]) hx hb d_PT_followRowIn_1 rfl hl (by decide) rfl (fun ls hl => ?_)
  obtain ⟨n110, hq⟩ := hq
  refine lw_w_PT_followRowIn_2 hE hself B hout (by omega) (by omega) _ n110 a0 x1 0 _ _ _ _ hq hP hS (show lv_has ls 3 [(0, .ref a0), (1, .int x1), (2, .int 0)] from lv_sub hl [1, 2, 0] rfl) (fun  h109 H locs ls hq hP hS hl => ?_)
  exact fs_vret hx hb hr hlocks hw hP hS (Nat.le_refl _) (Nat.le_refl _) hq d_PT_followRowIn_27
def w_RE_followRowIn (self : fs_E → fs_Hp → Nat → Int32 → fs_Ps → Prop) (E : fs_E) (h : fs_Hp) (a0 : Nat) (x1 : Int32) (Post : fs_Ps) : Prop := fs_gi h a0 5 4 (fun x101 => (if x101 = 0 then fs_gi h a0 5 3 (fun x103 => (if x1 ≤ x103 then fs_gi h a0 5 3 (fun x105 => fs_pw h a0 5 3 (.int (x105 + 1)) (fun h106 => fs_gi h106 a0 5 3 (fun x107 => (if x107 < 10 then fs_pw h106 a0 5 4 (.int 0) (fun h109 => Post (.inl none) h109) else fs_pw h106 a0 5 4 (.int 1) (fun h110 => Post (.inl none) h110))))) else Post (.inl none) h)) else Post (.inl none) h))
set_option maxHeartbeats 4000000 in
set_option maxRecDepth 100000 in
theorem kw_RE_followRowIn {l : Launch} {s00 : State} {E : fs_E} (hE : fs_SE l s00 E) {self : fs_E → fs_Hp → Nat → Int32 → fs_Ps → Prop} {fn ln : Nat} (hself : ∀ {h9 : fs_Hp} {q0 : Nat} {q1 : Int32} {P9 : fs_Ps}, self E h9 q0 q1 P9 → fs_CtV l s00 E.1 y_PT_followRowIn { frames := fn, cells := 0, slots := 0, locals := ln } q0 [.int q1] h9 P9 4) {h : fs_Hp} {a0 : Nat} {x1 : Int32} {Post : fs_Ps} (hq : w_RE_followRowIn self E h a0 x1 Post) : fs_Ct l s00 E.1 y_RE_followRowIn (.code y_RE_followRowIn b_RE_followRowIn 2 none) { frames := fn + 1, cells := 0, slots := 0, locals := ln + 15 } [.ref a0, .int x1] h Post := by
  refine fs_Ct.ofR hE.1 (by decide) ?_
  intro p e R s m below meth c hRf hRl hRc hRs B hout hP
  skip
  obtain ⟨hx, hb, hr, hml, hown, hts, hlocks, hname, hK, hw, htr⟩ := id B
  have hown : s.vm.findClass "FormulaSheet$Reference" = some m.cls := hown
  have hS := hw.S
  have hl := lv_entry ([.ref a0, .int x1]) (n := 2) (Nat.le_of_ble_eq_true rfl)
  rw [lg_entry_eq]
  generalize (lg_sl ([.ref a0, .int x1]) ++ List.replicate (2 - (lg_sl ([.ref a0, .int x1])).length) Slot.unset).toArray = ls at hl ⊢
  have hl : lv_has ls 2 [(0, .ref a0), (1, .int x1)] := hl
  unfold w_RE_followRowIn at hq
  refine lv_aload_n hx hb d_RE_followRowIn_0 rfl (lv_at hl 0 rfl) ?_
  obtain ⟨fs_, x101, he_, hv_, hq⟩ := fs_gi_some hq
  refine fs_get hx hb hts hown hK c_RE hP he_ 4 (by decide) (hts _ (fs_tb_at 708 tw_708 rfl)) (fun _ h9 => h9) hv_ d_RE_followRowIn_1 ?_
  refine lv_if_ne (tgt := 15) hx hb d_RE_followRowIn_4 (by decide) (fun c_102 => ?_) (fun c_102 => ?_)
  · have hq := fs_wifn c_102 hq
    exact fs_vret hx hb hr hlocks hw hP hS (Nat.le_refl _) (Nat.le_refl _) hq d_RE_followRowIn_15
  · have hq := fs_wifp c_102 hq
    refine lv_aload_n hx hb d_RE_followRowIn_7 rfl (lv_at hl 0 rfl) ?_
    obtain ⟨fs_, x103, he_, hv_, hq⟩ := fs_gi_some hq
    refine fs_get hx hb hts hown hK c_RE hP he_ 3 (by decide) (hts _ (fs_tb_at 705 tw_705 rfl)) (fun _ h9 => h9) hv_ d_RE_followRowIn_8 ?_
    refine lv_iload_n hx hb d_RE_followRowIn_11 rfl (lv_at hl 1 rfl) ?_
    refine lv_icmp_ge (tgt := 16) hx hb d_RE_followRowIn_12 (by decide) (fun c_104 => ?_) (fun c_104 => ?_)
    · have hq := fs_wifp c_104 hq
      refine lv_aload_n hx hb d_RE_followRowIn_16 rfl (lv_at hl 0 rfl) ?_
      refine lv_dup hx hb d_RE_followRowIn_17 rfl ?_
      obtain ⟨fs_, x105, he_, hv_, hq⟩ := fs_gi_some hq
      refine fs_get hx hb hts hown hK c_RE hP he_ 3 (by decide) (hts _ (fs_tb_at 705 tw_705 rfl)) (fun _ h9 => h9) hv_ d_RE_followRowIn_18 ?_
      refine lv_iconst (v := 1) hx hb d_RE_followRowIn_21 (by decide) ?_
      refine lv_iadd hx hb d_RE_followRowIn_22 ?_
      obtain ⟨fs_, h106, e_, hl_, eh_, hq⟩ := fs_pw_some hq
      refine fs_put hx hb hts hown hK c_RE hP hS e_ 3 (by decide) (hts _ (fs_tb_at 705 tw_705 rfl)) (fun _ h9 => h9) rfl rfl rfl hl_ d_RE_followRowIn_23 (fun H locs hP hS => ?_)
      rw [← eh_] at hP
      refine lv_aload_n hx hb d_RE_followRowIn_26 rfl (lv_at hl 0 rfl) ?_
      refine lv_aload_n hx hb d_RE_followRowIn_27 rfl (lv_at hl 0 rfl) ?_
      obtain ⟨fs_, x107, he_, hv_, hq⟩ := fs_gi_some hq
      refine fs_get hx hb hts hown hK c_RE hP he_ 3 (by decide) (hts _ (fs_tb_at 705 tw_705 rfl)) (fun _ h9 => h9) hv_ d_RE_followRowIn_28 ?_
      refine lv_bipush (v := 10) hx hb d_RE_followRowIn_31 (by decide) ?_
      refine lv_icmp_lt (tgt := 40) hx hb d_RE_followRowIn_33 (by decide) (fun c_108 => ?_) (fun c_108 => ?_)
      · have hq := fs_wifp c_108 hq
        refine lv_iconst (v := 0) hx hb d_RE_followRowIn_40 (by decide) ?_
        obtain ⟨fs_, h109, e_, hl_, eh_, hq⟩ := fs_pw_some hq
        refine fs_put hx hb hts hown hK c_RE hP hS e_ 4 (by decide) (hts _ (fs_tb_at 708 tw_708 rfl)) (fun _ h9 => h9) rfl (by decide) (by decide) hl_ d_RE_followRowIn_41 (fun H locs hP hS => ?_)
        rw [← eh_] at hP
        exact fs_vret hx hb hr hlocks hw hP hS (Nat.le_refl _) (Nat.le_refl _) hq d_RE_followRowIn_44
      · have hq := fs_wifn c_108 hq
        refine lv_iconst (v := 1) hx hb d_RE_followRowIn_36 (by decide) ?_
        refine lv_goto (tgt := 41) hx hb d_RE_followRowIn_37 (by decide) ?_
        obtain ⟨fs_, h110, e_, hl_, eh_, hq⟩ := fs_pw_some hq
        refine fs_put hx hb hts hown hK c_RE hP hS e_ 4 (by decide) (hts _ (fs_tb_at 708 tw_708 rfl)) (fun _ h9 => h9) rfl (by decide) (by decide) hl_ d_RE_followRowIn_41 (fun H locs hP hS => ?_)
        rw [← eh_] at hP
        exact fs_vret hx hb hr hlocks hw hP hS (Nat.le_refl _) (Nat.le_refl _) hq d_RE_followRowIn_44
    · have hq := fs_wifn c_104 hq
      exact fs_vret hx hb hr hlocks hw hP hS (Nat.le_refl _) (Nat.le_refl _) hq d_RE_followRowIn_15
def w_OV_followRowIn_J35 (self : fs_E → fs_Hp → Nat → Int32 → fs_Ps → Prop) (E : fs_E) (Post : fs_Ps) (z0 : Nat) (z1 : Int32) (z2 : Int32) (w0 : Int32) (h1 : fs_Hp) : Prop := fs_gr h1 z0 9 1 (fun a101 => fs_isc h1 a101 5 ∧ (w_RE_followRowIn_d E h1 a101 z1 (fs_kv (fun h102 => fs_gr h102 z0 9 2 (fun a103 => fs_isc h102 a103 5 ∧ (w_RE_followRowIn_d E h102 a103 z1 (fs_kv (fun h104 => (if z2 = 0 then Post (.inl none) h104 else (if w0 = 0 then fs_gr h104 z0 9 2 (fun a107 => w_OV_keepAtLastRow E h104 a107 (fs_kv (fun h108 => Post (.inl none) h108) (fun C_ h_ => Post (.inr C_) h_))) else fs_gr h104 z0 9 1 (fun a109 => w_OV_keepAtLastRow E h104 a109 (fs_kv (fun h110 => Post (.inl none) h110) (fun C_ h_ => Post (.inr C_) h_)))))) (fun C_ h_ => Post (.inr C_) h_))))) (fun C_ h_ => Post (.inr C_) h_))))
def w_OV_followRowIn_J12 (self : fs_E → fs_Hp → Nat → Int32 → fs_Ps → Prop) (E : fs_E) (Post : fs_Ps) (z0 : Nat) (z1 : Int32) (w0 : Int32) (h1 : fs_Hp) : Prop := fs_gr h1 z0 9 1 (fun a111 => fs_gi h1 a111 5 3 (fun x112 => fs_gr h1 z0 9 2 (fun a113 => fs_gi h1 a113 5 3 (fun x114 => (if x112 ≤ x114 then w_OV_followRowIn_J35 self E Post z0 z1 w0 0 h1 else w_OV_followRowIn_J35 self E Post z0 z1 w0 1 h1)))))
def w_OV_followRowIn (self : fs_E → fs_Hp → Nat → Int32 → fs_Ps → Prop) (E : fs_E) (h : fs_Hp) (a0 : Nat) (x1 : Int32) (Post : fs_Ps) : Prop := fs_isc h a0 9 ∧ (w_OV_isLost E h a0 (fs_ki (fun x117 h116 => (if x117 = 0 then w_OV_followRowIn_J12 self E Post a0 x1 1 h116 else w_OV_followRowIn_J12 self E Post a0 x1 0 h116)) (fun C_ h_ => Post (.inr C_) h_)))
set_option maxHeartbeats 4000000 in
set_option maxRecDepth 100000 in
theorem kw_OV_followRowIn {l : Launch} {s00 : State} {E : fs_E} (hE : fs_SE l s00 E) {self : fs_E → fs_Hp → Nat → Int32 → fs_Ps → Prop} {fn ln : Nat} (hself : ∀ {h9 : fs_Hp} {q0 : Nat} {q1 : Int32} {P9 : fs_Ps}, self E h9 q0 q1 P9 → fs_CtV l s00 E.1 y_PT_followRowIn { frames := fn, cells := 0, slots := 0, locals := ln } q0 [.int q1] h9 P9 4) {h : fs_Hp} {a0 : Nat} {x1 : Int32} {Post : fs_Ps} (hq : w_OV_followRowIn self E h a0 x1 Post) : fs_Ct l s00 E.1 y_OV_followRowIn (.code y_OV_followRowIn b_OV_followRowIn 4 none) { frames := fn + 1, cells := 0, slots := 0, locals := ln + 15 } [.ref a0, .int x1] h Post := by
  refine fs_Ct.ofR hE.1 (by decide) ?_
  intro p e R s m below meth c hRf hRl hRc hRs B hout hP
  skip
  obtain ⟨hx, hb, hr, hml, hown, hts, hlocks, hname, hK, hw, htr⟩ := id B
  have hown : s.vm.findClass "FormulaSheet$OverRange" = some m.cls := hown
  have hS := hw.S
  have hJ35 : ∀ (z0 : Nat) (z1 : Int32) (z2 : Int32) (w0 : Int32) (h1 : fs_Hp) (H : Heap) (locs : List Loc) (ls : Array Slot), w_OV_followRowIn_J35 self E Post z0 z1 z2 w0 h1 → fs_P E.1.1 fs_cl (fs_A s00) h1 H → va_S (fs_A s00) s00.heap H locs → lv_has ls 4 [(0, .ref z0), (1, .int z1), (2, .int z2)] → W p l e R s m ([.ref a0, .int x1] : List Value).toArray below meth c H locs 0 0 (fx_MQ below (fs_Qc s00 E.1 Post) ([.ref a0, .int x1] : List Value).toArray s 0 0 (fs_A s00)) (F0 m 35 ls (.int w0 :: [])) := by
    intro z0 z1 z2 w0 h1 H locs ls hq hP hS hl
    unfold w_OV_followRowIn_J35 at hq
    refine lv_istore_n (lv' := [(3, .int w0), (0, .ref z0), (1, .int z1), (2, .int z2)]) hx hb d_OV_followRowIn_35 rfl hl (by decide) rfl (fun ls hl => ?_)
    refine lv_aload_n hx hb d_OV_followRowIn_36 rfl (lv_at hl 1 rfl) ?_
    obtain ⟨fs_, a101, he_, hv_, hq⟩ := fs_gr_some hq
    refine fs_get hx hb hts hown hK c_OV hP he_ 1 (by decide) (hts _ (fs_tb_at 798 tw_798 rfl)) (fun _ h9 => h9) hv_ d_OV_followRowIn_37 ?_
    refine lv_iload_n hx hb d_OV_followRowIn_40 rfl (lv_at hl 2 rfl) ?_
    obtain ⟨hi_, hq⟩ := hq
    obtain ⟨fs_, he_⟩ := fs_isc_some hi_
    refine fs_cV B hl.1 hP hS (kw_RE_followRowIn_d hE hq) (fs_tb_at 996 tw_996 rfl) he_ rfl (fs_tb_at 997 tw_997 rfl) (fs_tb_at 998 tw_998 rfl) (fs_tb_at 105 tw_105 rfl) (fs_tb_at 999 tw_999 rfl) (by decide) (show (parseMethodDescriptor y_RE_followRowIn.desc).map (fun d => d.parameters.length) = some 1 by decide +kernel) rfl d_OV_followRowIn_41 (fs_rm (k := 0) (by omega) (by omega) (by omega) (by omega) rfl) (fun v_ h102 H locs hq hP hS => ?_) (fun C_ a_ h_ H locs hq hP hS hX => fs_out (hout _) hlocks hw hP hS hX (Nat.le_of_ble_eq_true rfl) (Nat.le_of_ble_eq_true rfl) hq)
    refine fs_cs (k := 0) (n := 0) rfl rfl ?_
    replace hq := fs_kv_some hq
    obtain ⟨rfl, hq⟩ := hq
    refine W.eq (g2 := F0 m 44 ls ([])) rfl ?_
    refine lv_aload_n hx hb d_OV_followRowIn_44 rfl (lv_at hl 1 rfl) ?_
    obtain ⟨fs_, a103, he_, hv_, hq⟩ := fs_gr_some hq
    refine fs_get hx hb hts hown hK c_OV hP he_ 2 (by decide) (hts _ (fs_tb_at 799 tw_799 rfl)) (fun _ h9 => h9) hv_ d_OV_followRowIn_45 ?_
    refine lv_iload_n hx hb d_OV_followRowIn_48 rfl (lv_at hl 2 rfl) ?_
    obtain ⟨hi_, hq⟩ := hq
    obtain ⟨fs_, he_⟩ := fs_isc_some hi_
    refine fs_cV B hl.1 hP hS (kw_RE_followRowIn_d hE hq) (fs_tb_at 996 tw_996 rfl) he_ rfl (fs_tb_at 997 tw_997 rfl) (fs_tb_at 998 tw_998 rfl) (fs_tb_at 105 tw_105 rfl) (fs_tb_at 999 tw_999 rfl) (by decide) (show (parseMethodDescriptor y_RE_followRowIn.desc).map (fun d => d.parameters.length) = some 1 by decide +kernel) rfl d_OV_followRowIn_49 (fs_rm (k := 0) (by omega) (by omega) (by omega) (by omega) rfl) (fun v_ h104 H locs hq hP hS => ?_) (fun C_ a_ h_ H locs hq hP hS hX => fs_out (hout _) hlocks hw hP hS hX (Nat.le_of_ble_eq_true rfl) (Nat.le_of_ble_eq_true rfl) hq)
    refine fs_cs (k := 0) (n := 0) rfl rfl ?_
    replace hq := fs_kv_some hq
    obtain ⟨rfl, hq⟩ := hq
    refine W.eq (g2 := F0 m 52 ls ([])) rfl ?_
    refine lv_iload_n hx hb d_OV_followRowIn_52 rfl (lv_at hl 3 rfl) ?_
    refine lv_if_eq (tgt := 74) hx hb d_OV_followRowIn_53 (by decide) (fun c_105 => ?_) (fun c_105 => ?_)
    · have hq := fs_wifp c_105 hq
      exact fs_vret hx hb hr hlocks hw hP hS (Nat.le_refl _) (Nat.le_refl _) hq d_OV_followRowIn_74
    · have hq := fs_wifn c_105 hq
      refine lv_iload_n hx hb d_OV_followRowIn_56 rfl (lv_at hl 0 rfl) ?_
      refine lv_if_eq (tgt := 67) hx hb d_OV_followRowIn_57 (by decide) (fun c_106 => ?_) (fun c_106 => ?_)
      · have hq := fs_wifp c_106 hq
        refine lv_aload_n hx hb d_OV_followRowIn_67 rfl (lv_at hl 1 rfl) ?_
        obtain ⟨fs_, a107, he_, hv_, hq⟩ := fs_gr_some hq
        refine fs_get hx hb hts hown hK c_OV hP he_ 2 (by decide) (hts _ (fs_tb_at 799 tw_799 rfl)) (fun _ h9 => h9) hv_ d_OV_followRowIn_68 ?_
        refine fs_cS B hl.1 hP hS (kw_OV_keepAtLastRow hE hq) (fs_tb_at 1000 tw_1000 rfl) (fs_tb_at 1001 tw_1001 rfl) (fs_tb_at 109 tw_109 rfl) (fs_tb_at 1002 tw_1002 rfl) (by decide) (show (parseMethodDescriptor y_OV_keepAtLastRow.desc).map (fun d => d.parameters.length) = some 1 by decide +kernel) rfl d_OV_followRowIn_71 (fs_rm (k := 0) (by omega) (by omega) (by omega) (by omega) rfl) (fun v_ h108 H locs hq hP hS => ?_) (fun C_ a_ h_ H locs hq hP hS hX => fs_out (hout _) hlocks hw hP hS hX (Nat.le_of_ble_eq_true rfl) (Nat.le_of_ble_eq_true rfl) hq)
        refine fs_cs (k := 0) (n := 0) rfl rfl ?_
        replace hq := fs_kv_some hq
        obtain ⟨rfl, hq⟩ := hq
        refine W.eq (g2 := F0 m 74 ls ([])) rfl ?_
        exact fs_vret hx hb hr hlocks hw hP hS (Nat.le_refl _) (Nat.le_refl _) hq d_OV_followRowIn_74
      · have hq := fs_wifn c_106 hq
        refine lv_aload_n hx hb d_OV_followRowIn_60 rfl (lv_at hl 1 rfl) ?_
        obtain ⟨fs_, a109, he_, hv_, hq⟩ := fs_gr_some hq
        refine fs_get hx hb hts hown hK c_OV hP he_ 1 (by decide) (hts _ (fs_tb_at 798 tw_798 rfl)) (fun _ h9 => h9) hv_ d_OV_followRowIn_61 ?_
        refine lv_goto (tgt := 71) hx hb d_OV_followRowIn_64 (by decide) ?_
        refine fs_cS B hl.1 hP hS (kw_OV_keepAtLastRow hE hq) (fs_tb_at 1000 tw_1000 rfl) (fs_tb_at 1001 tw_1001 rfl) (fs_tb_at 109 tw_109 rfl) (fs_tb_at 1002 tw_1002 rfl) (by decide) (show (parseMethodDescriptor y_OV_keepAtLastRow.desc).map (fun d => d.parameters.length) = some 1 by decide +kernel) rfl d_OV_followRowIn_71 (fs_rm (k := 0) (by omega) (by omega) (by omega) (by omega) rfl) (fun v_ h110 H locs hq hP hS => ?_) (fun C_ a_ h_ H locs hq hP hS hX => fs_out (hout _) hlocks hw hP hS hX (Nat.le_of_ble_eq_true rfl) (Nat.le_of_ble_eq_true rfl) hq)
        refine fs_cs (k := 0) (n := 0) rfl rfl ?_
        replace hq := fs_kv_some hq
        obtain ⟨rfl, hq⟩ := hq
        refine W.eq (g2 := F0 m 74 ls ([])) rfl ?_
        exact fs_vret hx hb hr hlocks hw hP hS (Nat.le_refl _) (Nat.le_refl _) hq d_OV_followRowIn_74
  have hJ12 : ∀ (z0 : Nat) (z1 : Int32) (w0 : Int32) (h1 : fs_Hp) (H : Heap) (locs : List Loc) (ls : Array Slot), w_OV_followRowIn_J12 self E Post z0 z1 w0 h1 → fs_P E.1.1 fs_cl (fs_A s00) h1 H → va_S (fs_A s00) s00.heap H locs → lv_has ls 4 [(0, .ref z0), (1, .int z1)] → W p l e R s m ([.ref a0, .int x1] : List Value).toArray below meth c H locs 0 0 (fx_MQ below (fs_Qc s00 E.1 Post) ([.ref a0, .int x1] : List Value).toArray s 0 0 (fs_A s00)) (F0 m 12 ls (.int w0 :: [])) := by
    intro z0 z1 w0 h1 H locs ls hq hP hS hl
    unfold w_OV_followRowIn_J12 at hq
    refine lv_istore_n (lv' := [(2, .int w0), (0, .ref z0), (1, .int z1)]) hx hb d_OV_followRowIn_12 rfl hl (by decide) rfl (fun ls hl => ?_)
    refine lv_aload_n hx hb d_OV_followRowIn_13 rfl (lv_at hl 1 rfl) ?_
    obtain ⟨fs_, a111, he_, hv_, hq⟩ := fs_gr_some hq
    refine fs_get hx hb hts hown hK c_OV hP he_ 1 (by decide) (hts _ (fs_tb_at 798 tw_798 rfl)) (fun _ h9 => h9) hv_ d_OV_followRowIn_14 ?_
    obtain ⟨fs_, x112, he_, hv_, hq⟩ := fs_gi_some hq
    refine fs_get hx hb hts hown hK c_RE hP he_ 3 (by decide) (hts _ (fs_tb_at 706 tw_706 rfl)) (fun _ h9 => h9) hv_ d_OV_followRowIn_17 ?_
    refine lv_aload_n hx hb d_OV_followRowIn_20 rfl (lv_at hl 1 rfl) ?_
    obtain ⟨fs_, a113, he_, hv_, hq⟩ := fs_gr_some hq
    refine fs_get hx hb hts hown hK c_OV hP he_ 2 (by decide) (hts _ (fs_tb_at 799 tw_799 rfl)) (fun _ h9 => h9) hv_ d_OV_followRowIn_21 ?_
    obtain ⟨fs_, x114, he_, hv_, hq⟩ := fs_gi_some hq
    refine fs_get hx hb hts hown hK c_RE hP he_ 3 (by decide) (hts _ (fs_tb_at 706 tw_706 rfl)) (fun _ h9 => h9) hv_ d_OV_followRowIn_24 ?_
    refine lv_icmp_le (tgt := 34) hx hb d_OV_followRowIn_27 (by decide) (fun c_115 => ?_) (fun c_115 => ?_)
    · have hq := fs_wifp c_115 hq
      refine lv_iconst (v := 0) hx hb d_OV_followRowIn_34 (by decide) ?_
      exact hJ35 z0 z1 w0 0 _ _ _ _ hq hP hS (show lv_has ls 4 [(0, .ref z0), (1, .int z1), (2, .int w0)] from lv_sub hl [1, 2, 0] rfl)
    · have hq := fs_wifn c_115 hq
      refine lv_iconst (v := 1) hx hb d_OV_followRowIn_30 (by decide) ?_
      refine lv_goto (tgt := 35) hx hb d_OV_followRowIn_31 (by decide) ?_
      exact hJ35 z0 z1 w0 1 _ _ _ _ hq hP hS (show lv_has ls 4 [(0, .ref z0), (1, .int z1), (2, .int w0)] from lv_sub hl [1, 2, 0] rfl)
  have hl := lv_entry ([.ref a0, .int x1]) (n := 4) (Nat.le_of_ble_eq_true rfl)
  rw [lg_entry_eq]
  generalize (lg_sl ([.ref a0, .int x1]) ++ List.replicate (4 - (lg_sl ([.ref a0, .int x1])).length) Slot.unset).toArray = ls at hl ⊢
  have hl : lv_has ls 4 [(0, .ref a0), (1, .int x1)] := hl
  unfold w_OV_followRowIn at hq
  refine lv_aload_n hx hb d_OV_followRowIn_0 rfl (lv_at hl 0 rfl) ?_
  obtain ⟨hi_, hq⟩ := hq
  obtain ⟨fs_, he_⟩ := fs_isc_some hi_
  refine fs_cV B hl.1 hP hS (kw_OV_isLost hE hq) (fs_tb_at 297 tw_297 rfl) he_ rfl (fs_tb_at 299 tw_299 rfl) (fs_tb_at 1 tw_1 rfl) (fs_tb_at 109 tw_109 rfl) (fs_tb_at 301 tw_301 rfl) (by decide) (show (parseMethodDescriptor y_OV_isLost.desc).map (fun d => d.parameters.length) = some 0 by decide +kernel) rfl d_OV_followRowIn_1 (fs_rm (k := 0) (by omega) (by omega) (by omega) (by omega) rfl) (fun v_ h116 H locs hq hP hS => ?_) (fun C_ a_ h_ H locs hq hP hS hX => fs_out (hout _) hlocks hw hP hS hX (Nat.le_of_ble_eq_true rfl) (Nat.le_of_ble_eq_true rfl) hq)
  refine fs_cs (k := 0) (n := 0) rfl rfl ?_
  replace hq := fs_ki_some hq
  obtain ⟨x117, rfl, hq⟩ := hq
  refine W.eq (g2 := F0 m 4 ls (.int x117 :: [])) rfl ?_
  refine lv_if_ne (tgt := 11) hx hb d_OV_followRowIn_4 (by decide) (fun c_118 => ?_) (fun c_118 => ?_)
  · have hq := fs_wifn c_118 hq
    refine lv_iconst (v := 0) hx hb d_OV_followRowIn_11 (by decide) ?_
    exact hJ12 a0 x1 0 _ _ _ _ hq hP hS (show lv_has ls 4 [(0, .ref a0), (1, .int x1)] from lv_sub hl [0, 1] rfl)
  · have hq := fs_wifp c_118 hq
    refine lv_iconst (v := 1) hx hb d_OV_followRowIn_7 (by decide) ?_
    refine lv_goto (tgt := 12) hx hb d_OV_followRowIn_8 (by decide) ?_
    exact hJ12 a0 x1 1 _ _ _ _ hq hP hS (show lv_has ls 4 [(0, .ref a0), (1, .int x1)] from lv_sub hl [0, 1] rfl)
def w_V_followRowIn (self : fs_E → fs_Hp → Nat → Int32 → fs_Ps → Prop) (E : fs_E) (h : fs_Hp) (x0 : Nat) (x1 : Int32) (Post : fs_Ps) : Prop := (fs_isc h x0 4 ∧ w_PT_followRowIn self E h x0 x1 Post) ∨ (fs_isc h x0 5 ∧ w_RE_followRowIn self E h x0 x1 Post) ∨ (fs_isc h x0 6 ∧ w_PT_followRowIn self E h x0 x1 Post) ∨ (fs_isc h x0 7 ∧ w_PT_followRowIn self E h x0 x1 Post) ∨ (fs_isc h x0 8 ∧ w_PT_followRowIn self E h x0 x1 Post) ∨ (fs_isc h x0 9 ∧ w_OV_followRowIn self E h x0 x1 Post)
theorem kw_V_followRowIn {l : Launch} {s00 : State} {E : fs_E} (hE : fs_SE l s00 E) {self : fs_E → fs_Hp → Nat → Int32 → fs_Ps → Prop} {fn ln : Nat} (hself : ∀ {h9 : fs_Hp} {q0 : Nat} {q1 : Int32} {P9 : fs_Ps}, self E h9 q0 q1 P9 → fs_CtV l s00 E.1 y_PT_followRowIn { frames := fn, cells := 0, slots := 0, locals := ln } q0 [.int q1] h9 P9 4) {h : fs_Hp} {x0 : Nat} {x1 : Int32} {Post : fs_Ps} (hq : w_V_followRowIn self E h x0 x1 Post) : fs_CtV l s00 E.1 y_PT_followRowIn { frames := fn + 1, cells := 0, slots := 0, locals := ln + 15 } x0 [.int x1] h Post 4 := by
  rcases hq with ⟨hi, hq⟩ | ⟨hi, hq⟩ | ⟨hi, hq⟩ | ⟨hi, hq⟩ | ⟨hi, hq⟩ | ⟨hi, hq⟩
  · obtain ⟨fs_, he_⟩ := fs_isc_some hi
    exact ⟨y_PT_followRowIn, b_PT_followRowIn, 3, none, 4, fs_, _, _, _, he_, rfl, (fs_tb_at 992 tw_992 rfl), (fs_tb_at 989 tw_989 rfl), (fs_tb_at 103 tw_103 rfl), (fs_tb_at 1006 tw_1006 rfl), by decide, kw_PT_followRowIn hE hself hq⟩
  · obtain ⟨fs_, he_⟩ := fs_isc_some hi
    exact ⟨y_RE_followRowIn, b_RE_followRowIn, 2, none, 5, fs_, _, _, _, he_, rfl, (fs_tb_at 1004 tw_1004 rfl), (fs_tb_at 997 tw_997 rfl), (fs_tb_at 105 tw_105 rfl), (fs_tb_at 999 tw_999 rfl), by decide, kw_RE_followRowIn hE hself hq⟩
  · obtain ⟨fs_, he_⟩ := fs_isc_some hi
    exact ⟨y_PT_followRowIn, b_PT_followRowIn, 3, none, 6, fs_, _, _, _, he_, rfl, (fs_tb_at 1005 tw_1005 rfl), (fs_tb_at 989 tw_989 rfl), (fs_tb_at 103 tw_103 rfl), (fs_tb_at 1006 tw_1006 rfl), by decide, kw_PT_followRowIn hE hself hq⟩
  · obtain ⟨fs_, he_⟩ := fs_isc_some hi
    exact ⟨y_PT_followRowIn, b_PT_followRowIn, 3, none, 7, fs_, _, _, _, he_, rfl, (fs_tb_at 1003 tw_1003 rfl), (fs_tb_at 989 tw_989 rfl), (fs_tb_at 103 tw_103 rfl), (fs_tb_at 1006 tw_1006 rfl), by decide, kw_PT_followRowIn hE hself hq⟩
  · obtain ⟨fs_, he_⟩ := fs_isc_some hi
    exact ⟨y_PT_followRowIn, b_PT_followRowIn, 3, none, 8, fs_, _, _, _, he_, rfl, (fs_tb_at 991 tw_991 rfl), (fs_tb_at 989 tw_989 rfl), (fs_tb_at 103 tw_103 rfl), (fs_tb_at 1006 tw_1006 rfl), by decide, kw_PT_followRowIn hE hself hq⟩
  · obtain ⟨fs_, he_⟩ := fs_isc_some hi
    exact ⟨y_OV_followRowIn, b_OV_followRowIn, 4, none, 9, fs_, _, _, _, he_, rfl, (fs_tb_at 993 tw_993 rfl), (fs_tb_at 994 tw_994 rfl), (fs_tb_at 109 tw_109 rfl), (fs_tb_at 995 tw_995 rfl), by decide, kw_OV_followRowIn hE hself hq⟩
def w_N_followRowIn : Nat → fs_E → fs_Hp → Nat → Int32 → fs_Ps → Prop
  | 0 => fun _ _ _ _ _ => False
  | n + 1 => w_V_followRowIn (w_N_followRowIn n)
theorem kN_followRowIn {l : Launch} {s00 : State} {E : fs_E} (hE : fs_SE l s00 E) : ∀ {n : Nat} {h : fs_Hp} {x0 : Nat} {x1 : Int32} {Post : fs_Ps}, w_N_followRowIn n E h x0 x1 Post → fs_CtV l s00 E.1 y_PT_followRowIn { frames := 1 * n, cells := 0, slots := 0, locals := 15 * n } x0 [.int x1] h Post 4 := by
  intro n
  induction n with
  | zero => intro h x0 x1 Post hq; exact False.elim hq
  | succ n ih => intro h x0 x1 Post hq; exact kw_V_followRowIn hE ih hq
def w_PT_followRowOut_L2 (self : fs_E → fs_Hp → Nat → Int32 → fs_Ps → Prop) (E : fs_E) (K : fs_Hp → Prop) (Post : fs_Ps) : Nat → Nat → Int32 → Int32 → fs_Hp → Prop
  | 0 => fun _ _ _ _ => False
  | n + 1 => fun z0 z1 z2 h1 => fs_gP h1 z0 (fun a101 => fs_an h1 a101 (E.1.2 6) (fun n102 => (if (Int32.ofNat n102) ≤ z2 then K h1 else fs_gP h1 z0 (fun a104 => fs_aq h1 a104 (E.1.2 6) z2 (fun o9 => match o9 with | none => False | some a107 => self E h1 a107 z1 (fs_kv (fun h108 => (w_PT_followRowOut_L2 self E K Post n) z0 z1 (z2 + 1) h108) (fun C_ h_ => Post (.inr C_) h_)))))))
def w_PT_followRowOut (self : fs_E → fs_Hp → Nat → Int32 → fs_Ps → Prop) (E : fs_E) (h : fs_Hp) (a0 : Nat) (x1 : Int32) (Post : fs_Ps) : Prop := (∃ n110 : Nat, w_PT_followRowOut_L2 self E (fun h109 => Post (.inl none) h109) Post n110 a0 x1 0 h)
set_option maxHeartbeats 4000000 in
set_option maxRecDepth 100000 in
theorem lw_w_PT_followRowOut_2 {p : Program} {l : Launch} {e : Env} {R : Room} {s : State} {m : MethodId} {args : Array Value} {below : List Frame} {meth : Method} {c : Code} {s00 : State} {E : fs_E} {Post : fs_Ps} (hE : fs_SE l s00 E) {self : fs_E → fs_Hp → Nat → Int32 → fs_Ps → Prop} {fn ln : Nat} (hself : ∀ {h9 : fs_Hp} {q0 : Nat} {q1 : Int32} {P9 : fs_Ps}, self E h9 q0 q1 P9 → fs_CtV l s00 E.1 y_PT_followRowOut { frames := fn, cells := 0, slots := 0, locals := ln } q0 [.int q1] h9 P9 4) (B : fs_B p l e s m args meth c s00 E.1 y_PT_followRowOut b_PT_followRowOut 3 none) (hout : ∀ pc, ∀ x ∈ c.exceptionTable.toList, covers x pc = false) (hRf : fn + 1 ≤ R.frames) (hRl : ln + 15 ≤ R.locals) (K : fs_Hp → Prop) : ∀ (n : Nat) (z0 : Nat) (z1 : Int32) (z2 : Int32) (h1 : fs_Hp) (H : Heap) (locs : List Loc) (ls : Array Slot), w_PT_followRowOut_L2 self E K Post n z0 z1 z2 h1 → fs_P E.1.1 fs_cl (fs_A s00) h1 H → va_S (fs_A s00) s00.heap H locs → lv_has ls 3 [(0, .ref z0), (1, .int z1), (2, .int z2)] → (∀  (h' : fs_Hp) (H : Heap) (locs : List Loc) (ls : Array Slot), K  h' → fs_P E.1.1 fs_cl (fs_A s00) h' H → va_S (fs_A s00) s00.heap H locs → lv_has ls 3 [(0, .ref z0), (1, .int z1)] → W p l e R s m args below meth c H locs 0 0 (fx_MQ below (fs_Qc s00 E.1 Post) args s 0 0 (fs_A s00)) (F0 m 27 ls [])) → W p l e R s m args below meth c H locs 0 0 (fx_MQ below (fs_Qc s00 E.1 Post) args s 0 0 (fs_A s00)) (F0 m 2 ls []) := by
  obtain ⟨hx, hb, hr, hml, hown, hts, hlocks, hname, hK, hw, htr⟩ := id B
  have hown : s.vm.findClass "FormulaSheet$Part" = some m.cls := hown
  intro n
  induction n with
  | zero => intro z0 z1 z2 h1 H locs ls hq; exact False.elim hq
  | succ n ih =>
    intro z0 z1 z2 h1 H locs ls hq hP hS hl kk
    rw [w_PT_followRowOut_L2] at hq
    refine lv_iload_n hx hb d_PT_followRowOut_2 rfl (lv_at hl 2 rfl) ?_
    refine lv_aload_n hx hb d_PT_followRowOut_3 rfl (lv_at hl 0 rfl) ?_
    obtain ⟨ci_, fs_, a101, e_, hc_, hv_, hq⟩ := fs_gP_some hq
    refine fs_getP hx hb hts hown hK hP e_ hc_ hv_ (hts _ (fs_tb_at 673 tw_673 rfl)) d_PT_followRowOut_4 ?_
    obtain ⟨x_, n102, en_, e_, hq⟩ := fs_an_some hq
    refine fs_alen hx hb hK hP 6 e_ rfl rfl d_PT_followRowOut_7 ?_
    rw [← en_]
    refine lv_icmp_ge (tgt := 27) hx hb d_PT_followRowOut_8 (by decide) (fun c_103 => ?_) (fun c_103 => ?_)
    · have hq := fs_wifp c_103 hq
      exact kk  _ _ _ _ hq hP hS (show lv_has ls 3 [(0, .ref z0), (1, .int z1)] from lv_sub hl [0, 1] rfl)
    · have hq := fs_wifn c_103 hq
      refine lv_aload_n hx hb d_PT_followRowOut_11 rfl (lv_at hl 0 rfl) ?_
      obtain ⟨ci_, fs_, a104, e_, hc_, hv_, hq⟩ := fs_gP_some hq
      refine fs_getP hx hb hts hown hK hP e_ hc_ hv_ (hts _ (fs_tb_at 673 tw_673 rfl)) d_PT_followRowOut_12 ?_
      refine lv_iload_n hx hb d_PT_followRowOut_15 rfl (lv_at hl 2 rfl) ?_
      obtain ⟨n_, f_, o105, e_, hi_, ex_, hq⟩ := fs_aq_some hq
      refine fs_aald hx hb hK hP 6 e_ rfl hi_ d_PT_followRowOut_16 ?_
      rw [← ex_]
      cases o105 with
      | none =>
        refine W.eq (g2 := F0 m 17 ls (.null :: [])) rfl ?_
        refine lv_iload_n hx hb d_PT_followRowOut_17 rfl (lv_at hl 1 rfl) ?_
        exact False.elim hq
      | some a107 =>
        refine W.eq (g2 := F0 m 17 ls (.ref a107 :: [])) rfl ?_
        refine lv_iload_n hx hb d_PT_followRowOut_17 rfl (lv_at hl 1 rfl) ?_
        refine fs_cVV (owner := "FormulaSheet$Part") B hl.1 hP hS (hself hq) (fs_tb_at 1035 tw_1035 rfl) (fs_tb_at 1021 tw_1021 rfl) (fs_dclC (fs_tb_at 1020 tw_1020 rfl) (fs_tb_at 1034 tw_1034 rfl)) (by decide) (show (parseMethodDescriptor y_PT_followRowOut.desc).map (fun d => d.parameters.length) = some 1 by decide +kernel) rfl d_PT_followRowOut_18 (fs_rm (k := 0) (by omega) (by omega) (by omega) (by omega) rfl) (fun v_ h108 H locs hq hP hS => ?_) (fun C_ a_ h_ H locs hq hP hS hX => fs_out (hout _) hlocks hw hP hS hX (Nat.le_of_ble_eq_true rfl) (Nat.le_of_ble_eq_true rfl) hq)
        refine fs_cs (k := 0) (n := 0) rfl rfl ?_
        replace hq := fs_kv_some hq
        obtain ⟨rfl, hq⟩ := hq
        refine W.eq (g2 := F0 m 21 ls ([])) rfl ?_
        refine lv_iinc (v := z2 + 1) (lv' := [(2, .int (z2 + 1)), (0, .ref z0), (1, .int z1)]) hx hb d_PT_followRowOut_21 hl (k := 2) rfl rfl (by decide) rfl (fun ls hl => ?_)
        refine lv_goto (tgt := 2) hx hb d_PT_followRowOut_24 (by decide) ?_
        exact ih z0 z1 (z2 + 1) _ _ _ _ hq hP hS (show lv_has ls 3 [(0, .ref z0), (1, .int z1), (2, .int (z2 + 1))] from lv_sub hl [1, 2, 0] rfl) kk
set_option maxHeartbeats 4000000 in
set_option maxRecDepth 100000 in
theorem kw_PT_followRowOut {l : Launch} {s00 : State} {E : fs_E} (hE : fs_SE l s00 E) {self : fs_E → fs_Hp → Nat → Int32 → fs_Ps → Prop} {fn ln : Nat} (hself : ∀ {h9 : fs_Hp} {q0 : Nat} {q1 : Int32} {P9 : fs_Ps}, self E h9 q0 q1 P9 → fs_CtV l s00 E.1 y_PT_followRowOut { frames := fn, cells := 0, slots := 0, locals := ln } q0 [.int q1] h9 P9 4) {h : fs_Hp} {a0 : Nat} {x1 : Int32} {Post : fs_Ps} (hq : w_PT_followRowOut self E h a0 x1 Post) : fs_Ct l s00 E.1 y_PT_followRowOut (.code y_PT_followRowOut b_PT_followRowOut 3 none) { frames := fn + 1, cells := 0, slots := 0, locals := ln + 15 } [.ref a0, .int x1] h Post := by
  refine fs_Ct.ofR hE.1 (by decide) ?_
  intro p e R s m below meth c hRf hRl hRc hRs B hout hP
  skip
  obtain ⟨hx, hb, hr, hml, hown, hts, hlocks, hname, hK, hw, htr⟩ := id B
  have hown : s.vm.findClass "FormulaSheet$Part" = some m.cls := hown
  have hS := hw.S
  have hl := lv_entry ([.ref a0, .int x1]) (n := 3) (Nat.le_of_ble_eq_true rfl)
  rw [lg_entry_eq]
  generalize (lg_sl ([.ref a0, .int x1]) ++ List.replicate (3 - (lg_sl ([.ref a0, .int x1])).length) Slot.unset).toArray = ls at hl ⊢
  have hl : lv_has ls 3 [(0, .ref a0), (1, .int x1)] := hl
  unfold w_PT_followRowOut at hq
  refine lv_iconst (v := 0) hx hb d_PT_followRowOut_0 (by decide) ?_
  refine lv_istore_n (lv' := [(2, .int 0), (0, .ref a0), (1, .int x1)]) hx hb d_PT_followRowOut_1 rfl hl (by decide) rfl (fun ls hl => ?_)
  obtain ⟨n110, hq⟩ := hq
  refine lw_w_PT_followRowOut_2 hE hself B hout (by omega) (by omega) _ n110 a0 x1 0 _ _ _ _ hq hP hS (show lv_has ls 3 [(0, .ref a0), (1, .int x1), (2, .int 0)] from lv_sub hl [1, 2, 0] rfl) (fun  h109 H locs ls hq hP hS hl => ?_)
  exact fs_vret hx hb hr hlocks hw hP hS (Nat.le_refl _) (Nat.le_refl _) hq d_PT_followRowOut_27
def w_RE_followRowOut_J30 (self : fs_E → fs_Hp → Nat → Int32 → fs_Ps → Prop) (E : fs_E) (Post : fs_Ps) (z0 : Nat) (w0 : Int32) (w1 : Nat) (h1 : fs_Hp) : Prop := narrow .boolean (.int w0) = (.int w0) ∧ fits .boolean (.int w0) = true ∧ (fs_pw h1 w1 5 4 (.int w0) (fun h101 => fs_gi h101 z0 5 3 (fun x102 => fs_pw h101 z0 5 3 (.int (x102 - 1)) (fun h103 => Post (.inl none) h103))))
def w_RE_followRowOut (self : fs_E → fs_Hp → Nat → Int32 → fs_Ps → Prop) (E : fs_E) (h : fs_Hp) (a0 : Nat) (x1 : Int32) (Post : fs_Ps) : Prop := fs_gi h a0 5 4 (fun x104 => (if x104 = 0 then fs_gi h a0 5 3 (fun x106 => (if x1 ≤ x106 then fs_gi h a0 5 3 (fun x108 => (if x108 = x1 then w_RE_followRowOut_J30 self E Post a0 1 a0 h else w_RE_followRowOut_J30 self E Post a0 0 a0 h)) else Post (.inl none) h)) else Post (.inl none) h))
set_option maxHeartbeats 4000000 in
set_option maxRecDepth 100000 in
theorem kw_RE_followRowOut {l : Launch} {s00 : State} {E : fs_E} (hE : fs_SE l s00 E) {self : fs_E → fs_Hp → Nat → Int32 → fs_Ps → Prop} {fn ln : Nat} (hself : ∀ {h9 : fs_Hp} {q0 : Nat} {q1 : Int32} {P9 : fs_Ps}, self E h9 q0 q1 P9 → fs_CtV l s00 E.1 y_PT_followRowOut { frames := fn, cells := 0, slots := 0, locals := ln } q0 [.int q1] h9 P9 4) {h : fs_Hp} {a0 : Nat} {x1 : Int32} {Post : fs_Ps} (hq : w_RE_followRowOut self E h a0 x1 Post) : fs_Ct l s00 E.1 y_RE_followRowOut (.code y_RE_followRowOut b_RE_followRowOut 2 none) { frames := fn + 1, cells := 0, slots := 0, locals := ln + 15 } [.ref a0, .int x1] h Post := by
  refine fs_Ct.ofR hE.1 (by decide) ?_
  intro p e R s m below meth c hRf hRl hRc hRs B hout hP
  skip
  obtain ⟨hx, hb, hr, hml, hown, hts, hlocks, hname, hK, hw, htr⟩ := id B
  have hown : s.vm.findClass "FormulaSheet$Reference" = some m.cls := hown
  have hS := hw.S
  have hJ30 : ∀ (z0 : Nat) (w0 : Int32) (w1 : Nat) (h1 : fs_Hp) (H : Heap) (locs : List Loc) (ls : Array Slot), w_RE_followRowOut_J30 self E Post z0 w0 w1 h1 → fs_P E.1.1 fs_cl (fs_A s00) h1 H → va_S (fs_A s00) s00.heap H locs → lv_has ls 2 [(0, .ref z0)] → W p l e R s m ([.ref a0, .int x1] : List Value).toArray below meth c H locs 0 0 (fx_MQ below (fs_Qc s00 E.1 Post) ([.ref a0, .int x1] : List Value).toArray s 0 0 (fs_A s00)) (F0 m 30 ls (.int w0 :: .ref w1 :: [])) := by
    intro z0 w0 w1 h1 H locs ls hq hP hS hl
    unfold w_RE_followRowOut_J30 at hq
    obtain ⟨hn_, hf_, hq⟩ := hq
    obtain ⟨fs_, h101, e_, hl_, eh_, hq⟩ := fs_pw_some hq
    refine fs_put hx hb hts hown hK c_RE hP hS e_ 4 (by decide) (hts _ (fs_tb_at 708 tw_708 rfl)) (fun _ h9 => h9) rfl hn_ hf_ hl_ d_RE_followRowOut_30 (fun H locs hP hS => ?_)
    rw [← eh_] at hP
    refine lv_aload_n hx hb d_RE_followRowOut_33 rfl (lv_at hl 0 rfl) ?_
    refine lv_dup hx hb d_RE_followRowOut_34 rfl ?_
    obtain ⟨fs_, x102, he_, hv_, hq⟩ := fs_gi_some hq
    refine fs_get hx hb hts hown hK c_RE hP he_ 3 (by decide) (hts _ (fs_tb_at 705 tw_705 rfl)) (fun _ h9 => h9) hv_ d_RE_followRowOut_35 ?_
    refine lv_iconst (v := 1) hx hb d_RE_followRowOut_38 (by decide) ?_
    refine lv_isub hx hb d_RE_followRowOut_39 ?_
    obtain ⟨fs_, h103, e_, hl_, eh_, hq⟩ := fs_pw_some hq
    refine fs_put hx hb hts hown hK c_RE hP hS e_ 3 (by decide) (hts _ (fs_tb_at 705 tw_705 rfl)) (fun _ h9 => h9) rfl rfl rfl hl_ d_RE_followRowOut_40 (fun H locs hP hS => ?_)
    rw [← eh_] at hP
    exact fs_vret hx hb hr hlocks hw hP hS (Nat.le_refl _) (Nat.le_refl _) hq d_RE_followRowOut_43
  have hl := lv_entry ([.ref a0, .int x1]) (n := 2) (Nat.le_of_ble_eq_true rfl)
  rw [lg_entry_eq]
  generalize (lg_sl ([.ref a0, .int x1]) ++ List.replicate (2 - (lg_sl ([.ref a0, .int x1])).length) Slot.unset).toArray = ls at hl ⊢
  have hl : lv_has ls 2 [(0, .ref a0), (1, .int x1)] := hl
  unfold w_RE_followRowOut at hq
  refine lv_aload_n hx hb d_RE_followRowOut_0 rfl (lv_at hl 0 rfl) ?_
  obtain ⟨fs_, x104, he_, hv_, hq⟩ := fs_gi_some hq
  refine fs_get hx hb hts hown hK c_RE hP he_ 4 (by decide) (hts _ (fs_tb_at 708 tw_708 rfl)) (fun _ h9 => h9) hv_ d_RE_followRowOut_1 ?_
  refine lv_if_ne (tgt := 15) hx hb d_RE_followRowOut_4 (by decide) (fun c_105 => ?_) (fun c_105 => ?_)
  · have hq := fs_wifn c_105 hq
    exact fs_vret hx hb hr hlocks hw hP hS (Nat.le_refl _) (Nat.le_refl _) hq d_RE_followRowOut_15
  · have hq := fs_wifp c_105 hq
    refine lv_aload_n hx hb d_RE_followRowOut_7 rfl (lv_at hl 0 rfl) ?_
    obtain ⟨fs_, x106, he_, hv_, hq⟩ := fs_gi_some hq
    refine fs_get hx hb hts hown hK c_RE hP he_ 3 (by decide) (hts _ (fs_tb_at 705 tw_705 rfl)) (fun _ h9 => h9) hv_ d_RE_followRowOut_8 ?_
    refine lv_iload_n hx hb d_RE_followRowOut_11 rfl (lv_at hl 1 rfl) ?_
    refine lv_icmp_ge (tgt := 16) hx hb d_RE_followRowOut_12 (by decide) (fun c_107 => ?_) (fun c_107 => ?_)
    · have hq := fs_wifp c_107 hq
      refine lv_aload_n hx hb d_RE_followRowOut_16 rfl (lv_at hl 0 rfl) ?_
      refine lv_aload_n hx hb d_RE_followRowOut_17 rfl (lv_at hl 0 rfl) ?_
      obtain ⟨fs_, x108, he_, hv_, hq⟩ := fs_gi_some hq
      refine fs_get hx hb hts hown hK c_RE hP he_ 3 (by decide) (hts _ (fs_tb_at 705 tw_705 rfl)) (fun _ h9 => h9) hv_ d_RE_followRowOut_18 ?_
      refine lv_iload_n hx hb d_RE_followRowOut_21 rfl (lv_at hl 1 rfl) ?_
      refine lv_icmp_ne (tgt := 29) hx hb d_RE_followRowOut_22 (by decide) (fun c_109 => ?_) (fun c_109 => ?_)
      · have hq := fs_wifn c_109 hq
        refine lv_iconst (v := 0) hx hb d_RE_followRowOut_29 (by decide) ?_
        exact hJ30 a0 0 a0 _ _ _ _ hq hP hS (show lv_has ls 2 [(0, .ref a0)] from lv_sub hl [0] rfl)
      · have hq := fs_wifp c_109 hq
        refine lv_iconst (v := 1) hx hb d_RE_followRowOut_25 (by decide) ?_
        refine lv_goto (tgt := 30) hx hb d_RE_followRowOut_26 (by decide) ?_
        exact hJ30 a0 1 a0 _ _ _ _ hq hP hS (show lv_has ls 2 [(0, .ref a0)] from lv_sub hl [0] rfl)
    · have hq := fs_wifn c_107 hq
      exact fs_vret hx hb hr hlocks hw hP hS (Nat.le_refl _) (Nat.le_refl _) hq d_RE_followRowOut_15
def w_OV_followRowOut_J117 (self : fs_E → fs_Hp → Nat → Int32 → fs_Ps → Prop) (E : fs_E) (Post : fs_Ps) (z1 : Int32) (z3 : Nat) (h1 : fs_Hp) : Prop := fs_gi h1 z3 5 3 (fun x101 => (if x101 < z1 then Post (.inl none) h1 else fs_gi h1 z3 5 3 (fun x103 => fs_pw h1 z3 5 3 (.int (x103 - 1)) (fun h104 => Post (.inl none) h104))))
def w_OV_followRowOut_J98 (self : fs_E → fs_Hp → Nat → Int32 → fs_Ps → Prop) (E : fs_E) (Post : fs_Ps) (z1 : Int32) (z2 : Nat) (w0 : Nat) (h1 : fs_Hp) : Prop := fs_gi h1 z2 5 3 (fun x105 => (if x105 ≤ z1 then w_OV_followRowOut_J117 self E Post z1 w0 h1 else fs_gi h1 z2 5 3 (fun x107 => fs_pw h1 z2 5 3 (.int (x107 - 1)) (fun h108 => w_OV_followRowOut_J117 self E Post z1 w0 h108))))
def w_OV_followRowOut_J69 (self : fs_E → fs_Hp → Nat → Int32 → fs_Ps → Prop) (E : fs_E) (Post : fs_Ps) (z0 : Nat) (z1 : Int32) (w0 : Nat) (h1 : fs_Hp) : Prop := fs_gr h1 z0 9 1 (fun a109 => fs_gi h1 a109 5 3 (fun x110 => fs_gr h1 z0 9 2 (fun a111 => fs_gi h1 a111 5 3 (fun x112 => (if x112 ≤ x110 then fs_gr h1 z0 9 1 (fun a114 => w_OV_followRowOut_J98 self E Post z1 w0 a114 h1) else fs_gr h1 z0 9 2 (fun a115 => w_OV_followRowOut_J98 self E Post z1 w0 a115 h1))))))
def w_OV_followRowOut_J24 (self : fs_E → fs_Hp → Nat → Int32 → fs_Ps → Prop) (E : fs_E) (Post : fs_Ps) (z0 : Nat) (z1 : Int32) (h1 : fs_Hp) : Prop := fs_gr h1 z0 9 1 (fun a116 => fs_isc h1 a116 5 ∧ (w_RE_followRowOut_d E h1 a116 z1 (fs_kv (fun h117 => fs_gr h117 z0 9 2 (fun a118 => fs_isc h117 a118 5 ∧ (w_RE_followRowOut_d E h117 a118 z1 (fs_kv (fun h119 => Post (.inl none) h119) (fun C_ h_ => Post (.inr C_) h_))))) (fun C_ h_ => Post (.inr C_) h_))))
def w_OV_followRowOut (self : fs_E → fs_Hp → Nat → Int32 → fs_Ps → Prop) (E : fs_E) (h : fs_Hp) (a0 : Nat) (x1 : Int32) (Post : fs_Ps) : Prop := fs_isc h a0 9 ∧ (w_OV_isLost E h a0 (fs_ki (fun x121 h120 => (if x121 = 0 then fs_gr h120 a0 9 1 (fun a123 => fs_gi h120 a123 5 3 (fun x124 => fs_gr h120 a0 9 2 (fun a125 => fs_gi h120 a125 5 3 (fun x126 => (if x124 = x126 then w_OV_followRowOut_J24 self E Post a0 x1 h120 else fs_gr h120 a0 9 1 (fun a128 => fs_gi h120 a128 5 3 (fun x129 => fs_gr h120 a0 9 2 (fun a130 => fs_gi h120 a130 5 3 (fun x131 => (if x131 ≤ x129 then fs_gr h120 a0 9 2 (fun a133 => w_OV_followRowOut_J69 self E Post a0 x1 a133 h120) else fs_gr h120 a0 9 1 (fun a134 => w_OV_followRowOut_J69 self E Post a0 x1 a134 h120))))))))))) else w_OV_followRowOut_J24 self E Post a0 x1 h120)) (fun C_ h_ => Post (.inr C_) h_)))
set_option maxHeartbeats 4000000 in
set_option maxRecDepth 100000 in
theorem kw_OV_followRowOut {l : Launch} {s00 : State} {E : fs_E} (hE : fs_SE l s00 E) {self : fs_E → fs_Hp → Nat → Int32 → fs_Ps → Prop} {fn ln : Nat} (hself : ∀ {h9 : fs_Hp} {q0 : Nat} {q1 : Int32} {P9 : fs_Ps}, self E h9 q0 q1 P9 → fs_CtV l s00 E.1 y_PT_followRowOut { frames := fn, cells := 0, slots := 0, locals := ln } q0 [.int q1] h9 P9 4) {h : fs_Hp} {a0 : Nat} {x1 : Int32} {Post : fs_Ps} (hq : w_OV_followRowOut self E h a0 x1 Post) : fs_Ct l s00 E.1 y_OV_followRowOut (.code y_OV_followRowOut b_OV_followRowOut 4 none) { frames := fn + 1, cells := 0, slots := 0, locals := ln + 15 } [.ref a0, .int x1] h Post := by
  refine fs_Ct.ofR hE.1 (by decide) ?_
  intro p e R s m below meth c hRf hRl hRc hRs B hout hP
  skip
  obtain ⟨hx, hb, hr, hml, hown, hts, hlocks, hname, hK, hw, htr⟩ := id B
  have hown : s.vm.findClass "FormulaSheet$OverRange" = some m.cls := hown
  have hS := hw.S
  have hJ117 : ∀ (z1 : Int32) (z3 : Nat) (h1 : fs_Hp) (H : Heap) (locs : List Loc) (ls : Array Slot), w_OV_followRowOut_J117 self E Post z1 z3 h1 → fs_P E.1.1 fs_cl (fs_A s00) h1 H → va_S (fs_A s00) s00.heap H locs → lv_has ls 4 [(1, .int z1), (3, .ref z3)] → W p l e R s m ([.ref a0, .int x1] : List Value).toArray below meth c H locs 0 0 (fx_MQ below (fs_Qc s00 E.1 Post) ([.ref a0, .int x1] : List Value).toArray s 0 0 (fs_A s00)) (F0 m 117 ls ([])) := by
    intro z1 z3 h1 H locs ls hq hP hS hl
    unfold w_OV_followRowOut_J117 at hq
    refine lv_aload_n hx hb d_OV_followRowOut_117 rfl (lv_at hl 1 rfl) ?_
    obtain ⟨fs_, x101, he_, hv_, hq⟩ := fs_gi_some hq
    refine fs_get hx hb hts hown hK c_RE hP he_ 3 (by decide) (hts _ (fs_tb_at 706 tw_706 rfl)) (fun _ h9 => h9) hv_ d_OV_followRowOut_118 ?_
    refine lv_iload_n hx hb d_OV_followRowOut_121 rfl (lv_at hl 0 rfl) ?_
    refine lv_icmp_lt (tgt := 135) hx hb d_OV_followRowOut_122 (by decide) (fun c_102 => ?_) (fun c_102 => ?_)
    · have hq := fs_wifp c_102 hq
      exact fs_vret hx hb hr hlocks hw hP hS (Nat.le_refl _) (Nat.le_refl _) hq d_OV_followRowOut_135
    · have hq := fs_wifn c_102 hq
      refine lv_aload_n hx hb d_OV_followRowOut_125 rfl (lv_at hl 1 rfl) ?_
      refine lv_dup hx hb d_OV_followRowOut_126 rfl ?_
      obtain ⟨fs_, x103, he_, hv_, hq⟩ := fs_gi_some hq
      refine fs_get hx hb hts hown hK c_RE hP he_ 3 (by decide) (hts _ (fs_tb_at 706 tw_706 rfl)) (fun _ h9 => h9) hv_ d_OV_followRowOut_127 ?_
      refine lv_iconst (v := 1) hx hb d_OV_followRowOut_130 (by decide) ?_
      refine lv_isub hx hb d_OV_followRowOut_131 ?_
      obtain ⟨fs_, h104, e_, hl_, eh_, hq⟩ := fs_pw_some hq
      refine fs_put hx hb hts hown hK c_RE hP hS e_ 3 (by decide) (hts _ (fs_tb_at 706 tw_706 rfl)) (fun _ h9 => h9) rfl rfl rfl hl_ d_OV_followRowOut_132 (fun H locs hP hS => ?_)
      rw [← eh_] at hP
      exact fs_vret hx hb hr hlocks hw hP hS (Nat.le_refl _) (Nat.le_refl _) hq d_OV_followRowOut_135
  have hJ98 : ∀ (z1 : Int32) (z2 : Nat) (w0 : Nat) (h1 : fs_Hp) (H : Heap) (locs : List Loc) (ls : Array Slot), w_OV_followRowOut_J98 self E Post z1 z2 w0 h1 → fs_P E.1.1 fs_cl (fs_A s00) h1 H → va_S (fs_A s00) s00.heap H locs → lv_has ls 4 [(1, .int z1), (2, .ref z2)] → W p l e R s m ([.ref a0, .int x1] : List Value).toArray below meth c H locs 0 0 (fx_MQ below (fs_Qc s00 E.1 Post) ([.ref a0, .int x1] : List Value).toArray s 0 0 (fs_A s00)) (F0 m 98 ls (.ref w0 :: [])) := by
    intro z1 z2 w0 h1 H locs ls hq hP hS hl
    unfold w_OV_followRowOut_J98 at hq
    refine lv_astore_n (lv' := [(3, .ref w0), (1, .int z1), (2, .ref z2)]) hx hb d_OV_followRowOut_98 rfl hl (by decide) rfl (fun ls hl => ?_)
    refine lv_aload_n hx hb d_OV_followRowOut_99 rfl (lv_at hl 2 rfl) ?_
    obtain ⟨fs_, x105, he_, hv_, hq⟩ := fs_gi_some hq
    refine fs_get hx hb hts hown hK c_RE hP he_ 3 (by decide) (hts _ (fs_tb_at 706 tw_706 rfl)) (fun _ h9 => h9) hv_ d_OV_followRowOut_100 ?_
    refine lv_iload_n hx hb d_OV_followRowOut_103 rfl (lv_at hl 1 rfl) ?_
    refine lv_icmp_le (tgt := 117) hx hb d_OV_followRowOut_104 (by decide) (fun c_106 => ?_) (fun c_106 => ?_)
    · have hq := fs_wifp c_106 hq
      exact hJ117 z1 w0 _ _ _ _ hq hP hS (show lv_has ls 4 [(1, .int z1), (3, .ref w0)] from lv_sub hl [1, 0] rfl)
    · have hq := fs_wifn c_106 hq
      refine lv_aload_n hx hb d_OV_followRowOut_107 rfl (lv_at hl 2 rfl) ?_
      refine lv_dup hx hb d_OV_followRowOut_108 rfl ?_
      obtain ⟨fs_, x107, he_, hv_, hq⟩ := fs_gi_some hq
      refine fs_get hx hb hts hown hK c_RE hP he_ 3 (by decide) (hts _ (fs_tb_at 706 tw_706 rfl)) (fun _ h9 => h9) hv_ d_OV_followRowOut_109 ?_
      refine lv_iconst (v := 1) hx hb d_OV_followRowOut_112 (by decide) ?_
      refine lv_isub hx hb d_OV_followRowOut_113 ?_
      obtain ⟨fs_, h108, e_, hl_, eh_, hq⟩ := fs_pw_some hq
      refine fs_put hx hb hts hown hK c_RE hP hS e_ 3 (by decide) (hts _ (fs_tb_at 706 tw_706 rfl)) (fun _ h9 => h9) rfl rfl rfl hl_ d_OV_followRowOut_114 (fun H locs hP hS => ?_)
      rw [← eh_] at hP
      exact hJ117 z1 w0 _ _ _ _ hq hP hS (show lv_has ls 4 [(1, .int z1), (3, .ref w0)] from lv_sub hl [1, 0] rfl)
  have hJ69 : ∀ (z0 : Nat) (z1 : Int32) (w0 : Nat) (h1 : fs_Hp) (H : Heap) (locs : List Loc) (ls : Array Slot), w_OV_followRowOut_J69 self E Post z0 z1 w0 h1 → fs_P E.1.1 fs_cl (fs_A s00) h1 H → va_S (fs_A s00) s00.heap H locs → lv_has ls 4 [(0, .ref z0), (1, .int z1)] → W p l e R s m ([.ref a0, .int x1] : List Value).toArray below meth c H locs 0 0 (fx_MQ below (fs_Qc s00 E.1 Post) ([.ref a0, .int x1] : List Value).toArray s 0 0 (fs_A s00)) (F0 m 69 ls (.ref w0 :: [])) := by
    intro z0 z1 w0 h1 H locs ls hq hP hS hl
    unfold w_OV_followRowOut_J69 at hq
    refine lv_astore_n (lv' := [(2, .ref w0), (0, .ref z0), (1, .int z1)]) hx hb d_OV_followRowOut_69 rfl hl (by decide) rfl (fun ls hl => ?_)
    refine lv_aload_n hx hb d_OV_followRowOut_70 rfl (lv_at hl 1 rfl) ?_
    obtain ⟨fs_, a109, he_, hv_, hq⟩ := fs_gr_some hq
    refine fs_get hx hb hts hown hK c_OV hP he_ 1 (by decide) (hts _ (fs_tb_at 798 tw_798 rfl)) (fun _ h9 => h9) hv_ d_OV_followRowOut_71 ?_
    obtain ⟨fs_, x110, he_, hv_, hq⟩ := fs_gi_some hq
    refine fs_get hx hb hts hown hK c_RE hP he_ 3 (by decide) (hts _ (fs_tb_at 706 tw_706 rfl)) (fun _ h9 => h9) hv_ d_OV_followRowOut_74 ?_
    refine lv_aload_n hx hb d_OV_followRowOut_77 rfl (lv_at hl 1 rfl) ?_
    obtain ⟨fs_, a111, he_, hv_, hq⟩ := fs_gr_some hq
    refine fs_get hx hb hts hown hK c_OV hP he_ 2 (by decide) (hts _ (fs_tb_at 799 tw_799 rfl)) (fun _ h9 => h9) hv_ d_OV_followRowOut_78 ?_
    obtain ⟨fs_, x112, he_, hv_, hq⟩ := fs_gi_some hq
    refine fs_get hx hb hts hown hK c_RE hP he_ 3 (by decide) (hts _ (fs_tb_at 706 tw_706 rfl)) (fun _ h9 => h9) hv_ d_OV_followRowOut_81 ?_
    refine lv_icmp_ge (tgt := 94) hx hb d_OV_followRowOut_84 (by decide) (fun c_113 => ?_) (fun c_113 => ?_)
    · have hq := fs_wifp c_113 hq
      refine lv_aload_n hx hb d_OV_followRowOut_94 rfl (lv_at hl 1 rfl) ?_
      obtain ⟨fs_, a114, he_, hv_, hq⟩ := fs_gr_some hq
      refine fs_get hx hb hts hown hK c_OV hP he_ 1 (by decide) (hts _ (fs_tb_at 798 tw_798 rfl)) (fun _ h9 => h9) hv_ d_OV_followRowOut_95 ?_
      exact hJ98 z1 w0 a114 _ _ _ _ hq hP hS (show lv_has ls 4 [(1, .int z1), (2, .ref w0)] from lv_sub hl [2, 0] rfl)
    · have hq := fs_wifn c_113 hq
      refine lv_aload_n hx hb d_OV_followRowOut_87 rfl (lv_at hl 1 rfl) ?_
      obtain ⟨fs_, a115, he_, hv_, hq⟩ := fs_gr_some hq
      refine fs_get hx hb hts hown hK c_OV hP he_ 2 (by decide) (hts _ (fs_tb_at 799 tw_799 rfl)) (fun _ h9 => h9) hv_ d_OV_followRowOut_88 ?_
      refine lv_goto (tgt := 98) hx hb d_OV_followRowOut_91 (by decide) ?_
      exact hJ98 z1 w0 a115 _ _ _ _ hq hP hS (show lv_has ls 4 [(1, .int z1), (2, .ref w0)] from lv_sub hl [2, 0] rfl)
  have hJ24 : ∀ (z0 : Nat) (z1 : Int32) (h1 : fs_Hp) (H : Heap) (locs : List Loc) (ls : Array Slot), w_OV_followRowOut_J24 self E Post z0 z1 h1 → fs_P E.1.1 fs_cl (fs_A s00) h1 H → va_S (fs_A s00) s00.heap H locs → lv_has ls 4 [(0, .ref z0), (1, .int z1)] → W p l e R s m ([.ref a0, .int x1] : List Value).toArray below meth c H locs 0 0 (fx_MQ below (fs_Qc s00 E.1 Post) ([.ref a0, .int x1] : List Value).toArray s 0 0 (fs_A s00)) (F0 m 24 ls ([])) := by
    intro z0 z1 h1 H locs ls hq hP hS hl
    unfold w_OV_followRowOut_J24 at hq
    refine lv_aload_n hx hb d_OV_followRowOut_24 rfl (lv_at hl 0 rfl) ?_
    obtain ⟨fs_, a116, he_, hv_, hq⟩ := fs_gr_some hq
    refine fs_get hx hb hts hown hK c_OV hP he_ 1 (by decide) (hts _ (fs_tb_at 798 tw_798 rfl)) (fun _ h9 => h9) hv_ d_OV_followRowOut_25 ?_
    refine lv_iload_n hx hb d_OV_followRowOut_28 rfl (lv_at hl 1 rfl) ?_
    obtain ⟨hi_, hq⟩ := hq
    obtain ⟨fs_, he_⟩ := fs_isc_some hi_
    refine fs_cV B hl.1 hP hS (kw_RE_followRowOut_d hE hq) (fs_tb_at 1027 tw_1027 rfl) he_ rfl (fs_tb_at 1028 tw_1028 rfl) (fs_tb_at 1029 tw_1029 rfl) (fs_tb_at 105 tw_105 rfl) (fs_tb_at 1030 tw_1030 rfl) (by decide) (show (parseMethodDescriptor y_RE_followRowOut.desc).map (fun d => d.parameters.length) = some 1 by decide +kernel) rfl d_OV_followRowOut_29 (fs_rm (k := 0) (by omega) (by omega) (by omega) (by omega) rfl) (fun v_ h117 H locs hq hP hS => ?_) (fun C_ a_ h_ H locs hq hP hS hX => fs_out (hout _) hlocks hw hP hS hX (Nat.le_of_ble_eq_true rfl) (Nat.le_of_ble_eq_true rfl) hq)
    refine fs_cs (k := 0) (n := 0) rfl rfl ?_
    replace hq := fs_kv_some hq
    obtain ⟨rfl, hq⟩ := hq
    refine W.eq (g2 := F0 m 32 ls ([])) rfl ?_
    refine lv_aload_n hx hb d_OV_followRowOut_32 rfl (lv_at hl 0 rfl) ?_
    obtain ⟨fs_, a118, he_, hv_, hq⟩ := fs_gr_some hq
    refine fs_get hx hb hts hown hK c_OV hP he_ 2 (by decide) (hts _ (fs_tb_at 799 tw_799 rfl)) (fun _ h9 => h9) hv_ d_OV_followRowOut_33 ?_
    refine lv_iload_n hx hb d_OV_followRowOut_36 rfl (lv_at hl 1 rfl) ?_
    obtain ⟨hi_, hq⟩ := hq
    obtain ⟨fs_, he_⟩ := fs_isc_some hi_
    refine fs_cV B hl.1 hP hS (kw_RE_followRowOut_d hE hq) (fs_tb_at 1027 tw_1027 rfl) he_ rfl (fs_tb_at 1028 tw_1028 rfl) (fs_tb_at 1029 tw_1029 rfl) (fs_tb_at 105 tw_105 rfl) (fs_tb_at 1030 tw_1030 rfl) (by decide) (show (parseMethodDescriptor y_RE_followRowOut.desc).map (fun d => d.parameters.length) = some 1 by decide +kernel) rfl d_OV_followRowOut_37 (fs_rm (k := 0) (by omega) (by omega) (by omega) (by omega) rfl) (fun v_ h119 H locs hq hP hS => ?_) (fun C_ a_ h_ H locs hq hP hS hX => fs_out (hout _) hlocks hw hP hS hX (Nat.le_of_ble_eq_true rfl) (Nat.le_of_ble_eq_true rfl) hq)
    refine fs_cs (k := 0) (n := 0) rfl rfl ?_
    replace hq := fs_kv_some hq
    obtain ⟨rfl, hq⟩ := hq
    refine W.eq (g2 := F0 m 40 ls ([])) rfl ?_
    exact fs_vret hx hb hr hlocks hw hP hS (Nat.le_refl _) (Nat.le_refl _) hq d_OV_followRowOut_40
  have hl := lv_entry ([.ref a0, .int x1]) (n := 4) (Nat.le_of_ble_eq_true rfl)
  rw [lg_entry_eq]
  generalize (lg_sl ([.ref a0, .int x1]) ++ List.replicate (4 - (lg_sl ([.ref a0, .int x1])).length) Slot.unset).toArray = ls at hl ⊢
  have hl : lv_has ls 4 [(0, .ref a0), (1, .int x1)] := hl
  unfold w_OV_followRowOut at hq
  refine lv_aload_n hx hb d_OV_followRowOut_0 rfl (lv_at hl 0 rfl) ?_
  obtain ⟨hi_, hq⟩ := hq
  obtain ⟨fs_, he_⟩ := fs_isc_some hi_
  refine fs_cV B hl.1 hP hS (kw_OV_isLost hE hq) (fs_tb_at 297 tw_297 rfl) he_ rfl (fs_tb_at 299 tw_299 rfl) (fs_tb_at 1 tw_1 rfl) (fs_tb_at 109 tw_109 rfl) (fs_tb_at 301 tw_301 rfl) (by decide) (show (parseMethodDescriptor y_OV_isLost.desc).map (fun d => d.parameters.length) = some 0 by decide +kernel) rfl d_OV_followRowOut_1 (fs_rm (k := 0) (by omega) (by omega) (by omega) (by omega) rfl) (fun v_ h120 H locs hq hP hS => ?_) (fun C_ a_ h_ H locs hq hP hS hX => fs_out (hout _) hlocks hw hP hS hX (Nat.le_of_ble_eq_true rfl) (Nat.le_of_ble_eq_true rfl) hq)
  refine fs_cs (k := 0) (n := 0) rfl rfl ?_
  replace hq := fs_ki_some hq
  obtain ⟨x121, rfl, hq⟩ := hq
  refine W.eq (g2 := F0 m 4 ls (.int x121 :: [])) rfl ?_
  refine lv_if_ne (tgt := 24) hx hb d_OV_followRowOut_4 (by decide) (fun c_122 => ?_) (fun c_122 => ?_)
  · have hq := fs_wifn c_122 hq
    exact hJ24 a0 x1 _ _ _ _ hq hP hS (show lv_has ls 4 [(0, .ref a0), (1, .int x1)] from lv_sub hl [0, 1] rfl)
  · have hq := fs_wifp c_122 hq
    refine lv_aload_n hx hb d_OV_followRowOut_7 rfl (lv_at hl 0 rfl) ?_
    obtain ⟨fs_, a123, he_, hv_, hq⟩ := fs_gr_some hq
    refine fs_get hx hb hts hown hK c_OV hP he_ 1 (by decide) (hts _ (fs_tb_at 798 tw_798 rfl)) (fun _ h9 => h9) hv_ d_OV_followRowOut_8 ?_
    obtain ⟨fs_, x124, he_, hv_, hq⟩ := fs_gi_some hq
    refine fs_get hx hb hts hown hK c_RE hP he_ 3 (by decide) (hts _ (fs_tb_at 706 tw_706 rfl)) (fun _ h9 => h9) hv_ d_OV_followRowOut_11 ?_
    refine lv_aload_n hx hb d_OV_followRowOut_14 rfl (lv_at hl 0 rfl) ?_
    obtain ⟨fs_, a125, he_, hv_, hq⟩ := fs_gr_some hq
    refine fs_get hx hb hts hown hK c_OV hP he_ 2 (by decide) (hts _ (fs_tb_at 799 tw_799 rfl)) (fun _ h9 => h9) hv_ d_OV_followRowOut_15 ?_
    obtain ⟨fs_, x126, he_, hv_, hq⟩ := fs_gi_some hq
    refine fs_get hx hb hts hown hK c_RE hP he_ 3 (by decide) (hts _ (fs_tb_at 706 tw_706 rfl)) (fun _ h9 => h9) hv_ d_OV_followRowOut_18 ?_
    refine lv_icmp_ne (tgt := 41) hx hb d_OV_followRowOut_21 (by decide) (fun c_127 => ?_) (fun c_127 => ?_)
    · have hq := fs_wifn c_127 hq
      refine lv_aload_n hx hb d_OV_followRowOut_41 rfl (lv_at hl 0 rfl) ?_
      obtain ⟨fs_, a128, he_, hv_, hq⟩ := fs_gr_some hq
      refine fs_get hx hb hts hown hK c_OV hP he_ 1 (by decide) (hts _ (fs_tb_at 798 tw_798 rfl)) (fun _ h9 => h9) hv_ d_OV_followRowOut_42 ?_
      obtain ⟨fs_, x129, he_, hv_, hq⟩ := fs_gi_some hq
      refine fs_get hx hb hts hown hK c_RE hP he_ 3 (by decide) (hts _ (fs_tb_at 706 tw_706 rfl)) (fun _ h9 => h9) hv_ d_OV_followRowOut_45 ?_
      refine lv_aload_n hx hb d_OV_followRowOut_48 rfl (lv_at hl 0 rfl) ?_
      obtain ⟨fs_, a130, he_, hv_, hq⟩ := fs_gr_some hq
      refine fs_get hx hb hts hown hK c_OV hP he_ 2 (by decide) (hts _ (fs_tb_at 799 tw_799 rfl)) (fun _ h9 => h9) hv_ d_OV_followRowOut_49 ?_
      obtain ⟨fs_, x131, he_, hv_, hq⟩ := fs_gi_some hq
      refine fs_get hx hb hts hown hK c_RE hP he_ 3 (by decide) (hts _ (fs_tb_at 706 tw_706 rfl)) (fun _ h9 => h9) hv_ d_OV_followRowOut_52 ?_
      refine lv_icmp_ge (tgt := 65) hx hb d_OV_followRowOut_55 (by decide) (fun c_132 => ?_) (fun c_132 => ?_)
      · have hq := fs_wifp c_132 hq
        refine lv_aload_n hx hb d_OV_followRowOut_65 rfl (lv_at hl 0 rfl) ?_
        obtain ⟨fs_, a133, he_, hv_, hq⟩ := fs_gr_some hq
        refine fs_get hx hb hts hown hK c_OV hP he_ 2 (by decide) (hts _ (fs_tb_at 799 tw_799 rfl)) (fun _ h9 => h9) hv_ d_OV_followRowOut_66 ?_
        exact hJ69 a0 x1 a133 _ _ _ _ hq hP hS (show lv_has ls 4 [(0, .ref a0), (1, .int x1)] from lv_sub hl [0, 1] rfl)
      · have hq := fs_wifn c_132 hq
        refine lv_aload_n hx hb d_OV_followRowOut_58 rfl (lv_at hl 0 rfl) ?_
        obtain ⟨fs_, a134, he_, hv_, hq⟩ := fs_gr_some hq
        refine fs_get hx hb hts hown hK c_OV hP he_ 1 (by decide) (hts _ (fs_tb_at 798 tw_798 rfl)) (fun _ h9 => h9) hv_ d_OV_followRowOut_59 ?_
        refine lv_goto (tgt := 69) hx hb d_OV_followRowOut_62 (by decide) ?_
        exact hJ69 a0 x1 a134 _ _ _ _ hq hP hS (show lv_has ls 4 [(0, .ref a0), (1, .int x1)] from lv_sub hl [0, 1] rfl)
    · have hq := fs_wifp c_127 hq
      exact hJ24 a0 x1 _ _ _ _ hq hP hS (show lv_has ls 4 [(0, .ref a0), (1, .int x1)] from lv_sub hl [0, 1] rfl)
def w_V_followRowOut (self : fs_E → fs_Hp → Nat → Int32 → fs_Ps → Prop) (E : fs_E) (h : fs_Hp) (x0 : Nat) (x1 : Int32) (Post : fs_Ps) : Prop := (fs_isc h x0 4 ∧ w_PT_followRowOut self E h x0 x1 Post) ∨ (fs_isc h x0 5 ∧ w_RE_followRowOut self E h x0 x1 Post) ∨ (fs_isc h x0 6 ∧ w_PT_followRowOut self E h x0 x1 Post) ∨ (fs_isc h x0 7 ∧ w_PT_followRowOut self E h x0 x1 Post) ∨ (fs_isc h x0 8 ∧ w_PT_followRowOut self E h x0 x1 Post) ∨ (fs_isc h x0 9 ∧ w_OV_followRowOut self E h x0 x1 Post)
theorem kw_V_followRowOut {l : Launch} {s00 : State} {E : fs_E} (hE : fs_SE l s00 E) {self : fs_E → fs_Hp → Nat → Int32 → fs_Ps → Prop} {fn ln : Nat} (hself : ∀ {h9 : fs_Hp} {q0 : Nat} {q1 : Int32} {P9 : fs_Ps}, self E h9 q0 q1 P9 → fs_CtV l s00 E.1 y_PT_followRowOut { frames := fn, cells := 0, slots := 0, locals := ln } q0 [.int q1] h9 P9 4) {h : fs_Hp} {x0 : Nat} {x1 : Int32} {Post : fs_Ps} (hq : w_V_followRowOut self E h x0 x1 Post) : fs_CtV l s00 E.1 y_PT_followRowOut { frames := fn + 1, cells := 0, slots := 0, locals := ln + 15 } x0 [.int x1] h Post 4 := by
  rcases hq with ⟨hi, hq⟩ | ⟨hi, hq⟩ | ⟨hi, hq⟩ | ⟨hi, hq⟩ | ⟨hi, hq⟩ | ⟨hi, hq⟩
  · obtain ⟨fs_, he_⟩ := fs_isc_some hi
    exact ⟨y_PT_followRowOut, b_PT_followRowOut, 3, none, 4, fs_, _, _, _, he_, rfl, (fs_tb_at 1023 tw_1023 rfl), (fs_tb_at 1020 tw_1020 rfl), (fs_tb_at 103 tw_103 rfl), (fs_tb_at 1034 tw_1034 rfl), by decide, kw_PT_followRowOut hE hself hq⟩
  · obtain ⟨fs_, he_⟩ := fs_isc_some hi
    exact ⟨y_RE_followRowOut, b_RE_followRowOut, 2, none, 5, fs_, _, _, _, he_, rfl, (fs_tb_at 1032 tw_1032 rfl), (fs_tb_at 1028 tw_1028 rfl), (fs_tb_at 105 tw_105 rfl), (fs_tb_at 1030 tw_1030 rfl), by decide, kw_RE_followRowOut hE hself hq⟩
  · obtain ⟨fs_, he_⟩ := fs_isc_some hi
    exact ⟨y_PT_followRowOut, b_PT_followRowOut, 3, none, 6, fs_, _, _, _, he_, rfl, (fs_tb_at 1033 tw_1033 rfl), (fs_tb_at 1020 tw_1020 rfl), (fs_tb_at 103 tw_103 rfl), (fs_tb_at 1034 tw_1034 rfl), by decide, kw_PT_followRowOut hE hself hq⟩
  · obtain ⟨fs_, he_⟩ := fs_isc_some hi
    exact ⟨y_PT_followRowOut, b_PT_followRowOut, 3, none, 7, fs_, _, _, _, he_, rfl, (fs_tb_at 1031 tw_1031 rfl), (fs_tb_at 1020 tw_1020 rfl), (fs_tb_at 103 tw_103 rfl), (fs_tb_at 1034 tw_1034 rfl), by decide, kw_PT_followRowOut hE hself hq⟩
  · obtain ⟨fs_, he_⟩ := fs_isc_some hi
    exact ⟨y_PT_followRowOut, b_PT_followRowOut, 3, none, 8, fs_, _, _, _, he_, rfl, (fs_tb_at 1022 tw_1022 rfl), (fs_tb_at 1020 tw_1020 rfl), (fs_tb_at 103 tw_103 rfl), (fs_tb_at 1034 tw_1034 rfl), by decide, kw_PT_followRowOut hE hself hq⟩
  · obtain ⟨fs_, he_⟩ := fs_isc_some hi
    exact ⟨y_OV_followRowOut, b_OV_followRowOut, 4, none, 9, fs_, _, _, _, he_, rfl, (fs_tb_at 1024 tw_1024 rfl), (fs_tb_at 1025 tw_1025 rfl), (fs_tb_at 109 tw_109 rfl), (fs_tb_at 1026 tw_1026 rfl), by decide, kw_OV_followRowOut hE hself hq⟩
def w_N_followRowOut : Nat → fs_E → fs_Hp → Nat → Int32 → fs_Ps → Prop
  | 0 => fun _ _ _ _ _ => False
  | n + 1 => w_V_followRowOut (w_N_followRowOut n)
theorem kN_followRowOut {l : Launch} {s00 : State} {E : fs_E} (hE : fs_SE l s00 E) : ∀ {n : Nat} {h : fs_Hp} {x0 : Nat} {x1 : Int32} {Post : fs_Ps}, w_N_followRowOut n E h x0 x1 Post → fs_CtV l s00 E.1 y_PT_followRowOut { frames := 1 * n, cells := 0, slots := 0, locals := 15 * n } x0 [.int x1] h Post 4 := by
  intro n
  induction n with
  | zero => intro h x0 x1 Post hq; exact False.elim hq
  | succ n ih => intro h x0 x1 Post hq; exact kw_V_followRowOut hE ih hq
def w_PT_moved_L12 (self : Nat → Nat → fs_E → fs_Hp → Nat → Int32 → Int32 → fs_Ps → Prop) (E : fs_E) (K : Nat → Nat → fs_Hp → Prop) (Post : fs_Ps) : Nat → Nat → Int32 → Int32 → Nat → Int32 → Nat → Nat → fs_Hp → Prop
  | 0 => fun _ _ _ _ _ _ _ _ => False
  | n + 1 => fun z0 z1 z2 z3 z4 bc bs h1 => fs_gP h1 z0 (fun a105 => fs_an h1 a105 (E.1.2 6) (fun n106 => (if (Int32.ofNat n106) ≤ z4 then K bc bs h1 else fs_gP h1 z0 (fun a108 => fs_aq h1 a108 (E.1.2 6) z4 (fun o9 => match o9 with | none => False | some a111 => ∃ c112 s113 : Nat, c112 ≤ bc ∧ s113 ≤ bs ∧ (self c112 s113 E h1 a111 z1 z2 (fs_kr (fun a115 h114 => fs_isP h114 a115 ∧ (fs_sq h114 z3 (E.1.2 6) z4 (some a115) (fun h116 => (w_PT_moved_L12 self E K Post n) z0 z1 z2 z3 (z4 + 1) (bc - c112) (bs - s113) h116))) (fun C_ h_ => Post (.inr C_) h_))))))))
def w_PT_moved (self : Nat → Nat → fs_E → fs_Hp → Nat → Int32 → Int32 → fs_Ps → Prop) (mc ms : Nat) (E : fs_E) (h : fs_Hp) (a0 : Nat) (x1 : Int32) (x2 : Int32) (Post : fs_Ps) : Prop := fs_gP h a0 (fun a101 => fs_an h a101 (E.1.2 6) (fun n102 => ¬ (Int32.ofNat n102 : Int32) < 0 ∧ (Int32.toNatClampNeg (Int32.ofNat n102)) * 4 ≤ 536870912 ∧ 1 ≤ mc ∧ (Int32.toNatClampNeg (Int32.ofNat n102)) ≤ ms ∧ ∀ a103 : Nat, h a103 = none → (fun h104 : fs_Hp => (∃ n122 : Nat, w_PT_moved_L12 self E (fun bc118 bs119 h117 => ∃ c123 s124 : Nat, c123 ≤ bc118 ∧ s124 ≤ bs119 ∧ (w_V_with c123 s124 E h117 a0 a103 (fs_kr (fun a126 h125 => Post (.inl (some (.ref a126))) h125) (fun C_ h_ => Post (.inr C_) h_)))) Post n122 a0 x1 x2 a103 0 (mc - 1) (ms - (Int32.toNatClampNeg (Int32.ofNat n102))) h104)) (fs_up h a103 (.inl (E.1.2 6, (Int32.toNatClampNeg (Int32.ofNat n102)), .inr (.inr (.inr (.inr (fun _ => none)))))))))
set_option maxHeartbeats 4000000 in
set_option maxRecDepth 100000 in
theorem lw_w_PT_moved_12 {p : Program} {l : Launch} {e : Env} {R : Room} {s : State} {m : MethodId} {args : Array Value} {below : List Frame} {meth : Method} {c : Code} {s00 : State} {E : fs_E} {Post : fs_Ps} {mc ms : Nat} (hE : fs_SE l s00 E) {self : Nat → Nat → fs_E → fs_Hp → Nat → Int32 → Int32 → fs_Ps → Prop} {fn ln : Nat} (hself : ∀ {c9 s9 : Nat} {h9 : fs_Hp} {q0 : Nat} {q1 : Int32} {q2 : Int32} {P9 : fs_Ps}, self c9 s9 E h9 q0 q1 q2 P9 → fs_CtV l s00 E.1 y_PT_moved { frames := fn, cells := c9, slots := s9, locals := ln } q0 [.int q1, .int q2] h9 P9 5) (B : fs_B p l e s m args meth c s00 E.1 y_PT_moved b_PT_moved 5 (some ((.object "FormulaSheet$Part")))) (hout : ∀ pc, ∀ x ∈ c.exceptionTable.toList, covers x pc = false) (hRf : fn + 4 ≤ R.frames) (hRl : ln + 71 ≤ R.locals) (hRc : mc ≤ R.cells) (hRs : ms ≤ R.slots) (K : Nat → Nat → fs_Hp → Prop) : ∀ (n : Nat) (z0 : Nat) (z1 : Int32) (z2 : Int32) (z3 : Nat) (z4 : Int32) (bc bs uc us : Nat) (h1 : fs_Hp) (H : Heap) (locs : List Loc) (ls : Array Slot), w_PT_moved_L12 self E K Post n z0 z1 z2 z3 z4 bc bs h1 → fs_P E.1.1 fs_cl (fs_A s00) h1 H → va_S (fs_A s00) s00.heap H locs → uc + bc ≤ mc → us + bs ≤ ms → lv_has ls 5 [(0, .ref z0), (1, .int z1), (2, .int z2), (3, .ref z3), (4, .int z4)] → (∀  (bc bs uc us : Nat) (h' : fs_Hp) (H : Heap) (locs : List Loc) (ls : Array Slot), K  bc bs h' → fs_P E.1.1 fs_cl (fs_A s00) h' H → va_S (fs_A s00) s00.heap H locs → uc + bc ≤ mc → us + bs ≤ ms → lv_has ls 5 [(0, .ref z0), (1, .int z1), (2, .int z2), (3, .ref z3)] → W p l e R s m args below meth c H locs uc us (fx_MQ below (fs_Qc s00 E.1 Post) args s mc ms (fs_A s00)) (F0 m 44 ls [])) → W p l e R s m args below meth c H locs uc us (fx_MQ below (fs_Qc s00 E.1 Post) args s mc ms (fs_A s00)) (F0 m 12 ls []) := by
  obtain ⟨hx, hb, hr, hml, hown, hts, hlocks, hname, hK, hw, htr⟩ := id B
  have hown : s.vm.findClass "FormulaSheet$Part" = some m.cls := hown
  intro n
  induction n with
  | zero => intro z0 z1 z2 z3 z4 bc bs uc us h1 H locs ls hq; exact False.elim hq
  | succ n ih =>
    intro z0 z1 z2 z3 z4 bc bs uc us h1 H locs ls hq hP hS hu1 hu2 hl kk
    rw [w_PT_moved_L12] at hq
    refine lv_iload hx hb d_PT_moved_12 (lv_at hl 4 rfl) ?_
    refine lv_aload_n hx hb d_PT_moved_14 rfl (lv_at hl 0 rfl) ?_
    obtain ⟨ci_, fs_, a105, e_, hc_, hv_, hq⟩ := fs_gP_some hq
    refine fs_getP hx hb hts hown hK hP e_ hc_ hv_ (hts _ (fs_tb_at 673 tw_673 rfl)) d_PT_moved_15 ?_
    obtain ⟨x_, n106, en_, e_, hq⟩ := fs_an_some hq
    refine fs_alen hx hb hK hP 6 e_ rfl rfl d_PT_moved_18 ?_
    rw [← en_]
    refine lv_icmp_ge (tgt := 44) hx hb d_PT_moved_19 (by decide) (fun c_107 => ?_) (fun c_107 => ?_)
    · have hq := fs_wifp c_107 hq
      exact kk  bc bs uc us _ _ _ _ hq hP hS (by omega) (by omega) (show lv_has ls 5 [(0, .ref z0), (1, .int z1), (2, .int z2), (3, .ref z3)] from lv_sub hl [0, 1, 2, 3] rfl)
    · have hq := fs_wifn c_107 hq
      refine lv_aload_n hx hb d_PT_moved_22 rfl (lv_at hl 3 rfl) ?_
      refine lv_iload hx hb d_PT_moved_23 (lv_at hl 4 rfl) ?_
      refine lv_aload_n hx hb d_PT_moved_25 rfl (lv_at hl 0 rfl) ?_
      obtain ⟨ci_, fs_, a108, e_, hc_, hv_, hq⟩ := fs_gP_some hq
      refine fs_getP hx hb hts hown hK hP e_ hc_ hv_ (hts _ (fs_tb_at 673 tw_673 rfl)) d_PT_moved_26 ?_
      refine lv_iload hx hb d_PT_moved_29 (lv_at hl 4 rfl) ?_
      obtain ⟨n_, f_, o109, e_, hi_, ex_, hq⟩ := fs_aq_some hq
      refine fs_aald hx hb hK hP 6 e_ rfl hi_ d_PT_moved_31 ?_
      rw [← ex_]
      cases o109 with
      | none =>
        refine W.eq (g2 := F0 m 32 ls (.null :: .int z4 :: .ref z3 :: [])) rfl ?_
        refine lv_iload_n hx hb d_PT_moved_32 rfl (lv_at hl 1 rfl) ?_
        refine lv_iload_n hx hb d_PT_moved_33 rfl (lv_at hl 2 rfl) ?_
        exact False.elim hq
      | some a111 =>
        refine W.eq (g2 := F0 m 32 ls (.ref a111 :: .int z4 :: .ref z3 :: [])) rfl ?_
        refine lv_iload_n hx hb d_PT_moved_32 rfl (lv_at hl 1 rfl) ?_
        refine lv_iload_n hx hb d_PT_moved_33 rfl (lv_at hl 2 rfl) ?_
        obtain ⟨c112, s113, hc_, hs_, hq⟩ := hq
        refine fs_cVV (owner := "FormulaSheet$Part") B hl.1 hP hS (hself hq) (fs_tb_at 943 tw_943 rfl) (fs_tb_at 920 tw_920 rfl) (fs_dclC (fs_tb_at 919 tw_919 rfl) (fs_tb_at 941 tw_941 rfl)) (by decide) (show (parseMethodDescriptor y_PT_moved.desc).map (fun d => d.parameters.length) = some 2 by decide +kernel) rfl d_PT_moved_34 (fs_rm (k := 2) (by omega) (by omega) (by omega) (by omega) rfl) (fun v_ h114 H locs hq hP hS => ?_) (fun C_ a_ h_ H locs hq hP hS hX => fs_out (hout _) hlocks hw hP hS hX (show (uc + c112) ≤ mc by omega) (show (us + s113) ≤ ms by omega) hq)
        refine fs_cs (k := (uc + c112)) (n := (us + s113)) rfl rfl ?_
        replace hq := fs_kr_some hq
        obtain ⟨a115, rfl, hq⟩ := hq
        refine W.eq (g2 := F0 m 37 ls (.ref a115 :: .int z4 :: .ref z3 :: [])) rfl ?_
        obtain ⟨hc_, hq⟩ := hq
        obtain ⟨n_, f_, h116, e_, hi_, eh_, hq⟩ := fs_sq_some hq
        refine fs_aastP hx hb hts hK hP hS e_ hc_ hi_ d_PT_moved_37 (fun H locs hP hS => ?_)
        rw [← eh_] at hP
        refine lv_iinc (v := z4 + 1) (lv' := [(4, .int (z4 + 1)), (0, .ref z0), (1, .int z1), (2, .int z2), (3, .ref z3)]) hx hb d_PT_moved_38 hl (k := 4) rfl rfl (by decide) rfl (fun ls hl => ?_)
        refine lv_goto (tgt := 12) hx hb d_PT_moved_41 (by decide) ?_
        exact ih z0 z1 z2 z3 (z4 + 1) (bc - c112) (bs - s113) (uc + c112) (us + s113) _ _ _ _ hq hP hS (by omega) (by omega) (show lv_has ls 5 [(0, .ref z0), (1, .int z1), (2, .int z2), (3, .ref z3), (4, .int (z4 + 1))] from lv_sub hl [1, 2, 3, 4, 0] rfl) kk
set_option maxHeartbeats 4000000 in
set_option maxRecDepth 100000 in
theorem kw_PT_moved {l : Launch} {s00 : State} {E : fs_E} (hE : fs_SE l s00 E) {self : Nat → Nat → fs_E → fs_Hp → Nat → Int32 → Int32 → fs_Ps → Prop} {fn ln : Nat} (hself : ∀ {c9 s9 : Nat} {h9 : fs_Hp} {q0 : Nat} {q1 : Int32} {q2 : Int32} {P9 : fs_Ps}, self c9 s9 E h9 q0 q1 q2 P9 → fs_CtV l s00 E.1 y_PT_moved { frames := fn, cells := c9, slots := s9, locals := ln } q0 [.int q1, .int q2] h9 P9 5) {mc ms : Nat} {h : fs_Hp} {a0 : Nat} {x1 : Int32} {x2 : Int32} {Post : fs_Ps} (hq : w_PT_moved self mc ms E h a0 x1 x2 Post) : fs_Ct l s00 E.1 y_PT_moved (.code y_PT_moved b_PT_moved 5 (some ((.object "FormulaSheet$Part")))) { frames := fn + 4, cells := mc, slots := ms, locals := ln + 71 } [.ref a0, .int x1, .int x2] h Post := by
  refine fs_Ct.ofR hE.1 (by decide) ?_
  intro p e R s m below meth c hRf hRl hRc hRs B hout hP
  skip
  obtain ⟨hx, hb, hr, hml, hown, hts, hlocks, hname, hK, hw, htr⟩ := id B
  have hown : s.vm.findClass "FormulaSheet$Part" = some m.cls := hown
  have hS := hw.S
  have hl := lv_entry ([.ref a0, .int x1, .int x2]) (n := 5) (Nat.le_of_ble_eq_true rfl)
  rw [lg_entry_eq]
  generalize (lg_sl ([.ref a0, .int x1, .int x2]) ++ List.replicate (5 - (lg_sl ([.ref a0, .int x1, .int x2])).length) Slot.unset).toArray = ls at hl ⊢
  have hl : lv_has ls 5 [(0, .ref a0), (1, .int x1), (2, .int x2)] := hl
  unfold w_PT_moved at hq
  refine lv_aload_n hx hb d_PT_moved_0 rfl (lv_at hl 0 rfl) ?_
  obtain ⟨ci_, fs_, a101, e_, hc_, hv_, hq⟩ := fs_gP_some hq
  refine fs_getP hx hb hts hown hK hP e_ hc_ hv_ (hts _ (fs_tb_at 673 tw_673 rfl)) d_PT_moved_1 ?_
  obtain ⟨x_, n102, en_, e_, hq⟩ := fs_an_some hq
  refine fs_alen hx hb hK hP 6 e_ rfl rfl d_PT_moved_4 ?_
  rw [← en_]
  obtain ⟨hn_, hb_, hc_, hs_, hq⟩ := hq
  refine fs_newq hx hb hown (hts _ (fs_tb_at 942 tw_942 rfl)) (fs_ao hE.1 hw (List.mem_of_getElem? tw_162) rfl) hK 6 rfl hP hS (fun _ h9 => h9) hn_ rfl hb_ (by omega) (by omega) d_PT_moved_5 (fun a103 H hn_ hP hS => ?_)
  have hq := hq a103 hn_
  generalize eh_ : fs_up h a103 (.inl (E.1.2 6, (Int32.toNatClampNeg (Int32.ofNat n102)), .inr (.inr (.inr (.inr (fun _ => none)))))) = h104 at hP hq
  refine lv_astore_n (lv' := [(3, .ref a103), (0, .ref a0), (1, .int x1), (2, .int x2)]) hx hb d_PT_moved_8 rfl hl (by decide) rfl (fun ls hl => ?_)
  refine lv_iconst (v := 0) hx hb d_PT_moved_9 (by decide) ?_
  refine lv_istore (lv' := [(4, .int 0), (3, .ref a103), (0, .ref a0), (1, .int x1), (2, .int x2)]) hx hb d_PT_moved_10 hl (by decide) rfl (fun ls hl => ?_)
  obtain ⟨n122, hq⟩ := hq
  refine lw_w_PT_moved_12 hE hself B hout (by omega) (by omega) hRc hRs _ n122 a0 x1 x2 a103 0 (mc - 1) (ms - (Int32.toNatClampNeg (Int32.ofNat n102))) (0 + 1) (0 + (Int32.toNatClampNeg (Int32.ofNat n102))) _ _ _ _ hq hP hS (by omega) (by omega) (show lv_has ls 5 [(0, .ref a0), (1, .int x1), (2, .int x2), (3, .ref a103), (4, .int 0)] from lv_sub hl [2, 3, 4, 1, 0] rfl) (fun  bc118 bs119 uc120 us121 h117 H locs ls hq hP hS hu1 hu2 hl => ?_)
  refine lv_aload_n hx hb d_PT_moved_44 rfl (lv_at hl 0 rfl) ?_
  refine lv_aload_n hx hb d_PT_moved_45 rfl (lv_at hl 3 rfl) ?_
  obtain ⟨c123, s124, hc_, hs_, hq⟩ := hq
  refine fs_cVV (owner := "FormulaSheet$Part") B hl.1 hP hS (kw_V_with hE hq) (fs_tb_at 944 tw_944 rfl) (fs_tb_at 946 tw_946 rfl) (fs_dclC (fs_tb_at 945 tw_945 rfl) (fs_tb_at 965 tw_965 rfl)) (by decide) (show (parseMethodDescriptor y_PT_with.desc).map (fun d => d.parameters.length) = some 1 by decide +kernel) rfl d_PT_moved_46 (fs_rm (k := 0) (by omega) (by omega) (by omega) (by omega) rfl) (fun v_ h125 H locs hq hP hS => ?_) (fun C_ a_ h_ H locs hq hP hS hX => fs_out (hout _) hlocks hw hP hS hX (show (uc120 + c123) ≤ mc by omega) (show (us121 + s124) ≤ ms by omega) hq)
  refine fs_cs (k := (uc120 + c123)) (n := (us121 + s124)) rfl rfl ?_
  replace hq := fs_kr_some hq
  obtain ⟨a126, rfl, hq⟩ := hq
  refine W.eq (g2 := F0 m 49 ls (.ref a126 :: [])) rfl ?_
  exact fs_aret hx hb hr (Or.inl ⟨_, rfl⟩) (Or.inr ⟨_, rfl⟩) hlocks hw hP hS (by omega) (by omega) hq d_PT_moved_49
def w_RE_moved (self : Nat → Nat → fs_E → fs_Hp → Nat → Int32 → Int32 → fs_Ps → Prop) (mc ms : Nat) (E : fs_E) (h : fs_Hp) (a0 : Nat) (x1 : Int32) (x2 : Int32) (Post : fs_Ps) : Prop := ∃ c101 s102 : Nat, c101 ≤ mc ∧ s102 ≤ ms ∧ (fs_isc h a0 5 ∧ (w_RE_shifted c101 s102 E h a0 x1 x2 (fs_kr (fun a104 h103 => Post (.inl (some (.ref a104))) h103) (fun C_ h_ => Post (.inr C_) h_))))
set_option maxHeartbeats 4000000 in
set_option maxRecDepth 100000 in
theorem kw_RE_moved {l : Launch} {s00 : State} {E : fs_E} (hE : fs_SE l s00 E) {self : Nat → Nat → fs_E → fs_Hp → Nat → Int32 → Int32 → fs_Ps → Prop} {fn ln : Nat} (hself : ∀ {c9 s9 : Nat} {h9 : fs_Hp} {q0 : Nat} {q1 : Int32} {q2 : Int32} {P9 : fs_Ps}, self c9 s9 E h9 q0 q1 q2 P9 → fs_CtV l s00 E.1 y_PT_moved { frames := fn, cells := c9, slots := s9, locals := ln } q0 [.int q1, .int q2] h9 P9 5) {mc ms : Nat} {h : fs_Hp} {a0 : Nat} {x1 : Int32} {x2 : Int32} {Post : fs_Ps} (hq : w_RE_moved self mc ms E h a0 x1 x2 Post) : fs_Ct l s00 E.1 y_RE_moved (.code y_RE_moved b_RE_moved 3 (some ((.object "FormulaSheet$Part")))) { frames := fn + 4, cells := mc, slots := ms, locals := ln + 71 } [.ref a0, .int x1, .int x2] h Post := by
  refine fs_Ct.ofR hE.1 (by decide) ?_
  intro p e R s m below meth c hRf hRl hRc hRs B hout hP
  skip
  obtain ⟨hx, hb, hr, hml, hown, hts, hlocks, hname, hK, hw, htr⟩ := id B
  have hown : s.vm.findClass "FormulaSheet$Reference" = some m.cls := hown
  have hS := hw.S
  have hl := lv_entry ([.ref a0, .int x1, .int x2]) (n := 3) (Nat.le_of_ble_eq_true rfl)
  rw [lg_entry_eq]
  generalize (lg_sl ([.ref a0, .int x1, .int x2]) ++ List.replicate (3 - (lg_sl ([.ref a0, .int x1, .int x2])).length) Slot.unset).toArray = ls at hl ⊢
  have hl : lv_has ls 3 [(0, .ref a0), (1, .int x1), (2, .int x2)] := hl
  unfold w_RE_moved at hq
  refine lv_aload_n hx hb d_RE_moved_0 rfl (lv_at hl 0 rfl) ?_
  refine lv_iload_n hx hb d_RE_moved_1 rfl (lv_at hl 1 rfl) ?_
  refine lv_iload_n hx hb d_RE_moved_2 rfl (lv_at hl 2 rfl) ?_
  obtain ⟨c101, s102, hc_, hs_, hq⟩ := hq
  obtain ⟨hi_, hq⟩ := hq
  obtain ⟨fs_, he_⟩ := fs_isc_some hi_
  refine fs_cV B hl.1 hP hS (kw_RE_shifted hE hq) (fs_tb_at 939 tw_939 rfl) he_ rfl (fs_tb_at 928 tw_928 rfl) (fs_tb_at 929 tw_929 rfl) (fs_tb_at 105 tw_105 rfl) (fs_tb_at 930 tw_930 rfl) (by decide) (show (parseMethodDescriptor y_RE_shifted.desc).map (fun d => d.parameters.length) = some 2 by decide +kernel) rfl d_RE_moved_3 (fs_rm (k := 0) (by omega) (by omega) (by omega) (by omega) rfl) (fun v_ h103 H locs hq hP hS => ?_) (fun C_ a_ h_ H locs hq hP hS hX => fs_out (hout _) hlocks hw hP hS hX (show (0 + c101) ≤ mc by omega) (show (0 + s102) ≤ ms by omega) hq)
  refine fs_cs (k := (0 + c101)) (n := (0 + s102)) rfl rfl ?_
  replace hq := fs_kr_some hq
  obtain ⟨a104, rfl, hq⟩ := hq
  refine W.eq (g2 := F0 m 6 ls (.ref a104 :: [])) rfl ?_
  exact fs_aret hx hb hr (Or.inl ⟨_, rfl⟩) (Or.inr ⟨_, rfl⟩) hlocks hw hP hS (by omega) (by omega) hq d_RE_moved_6
def w_OV_moved (self : Nat → Nat → fs_E → fs_Hp → Nat → Int32 → Int32 → fs_Ps → Prop) (mc ms : Nat) (E : fs_E) (h : fs_Hp) (a0 : Nat) (x1 : Int32) (x2 : Int32) (Post : fs_Ps) : Prop := 1 ≤ mc ∧ 4 ≤ ms ∧ ∀ a101 : Nat, h a101 = none → (fun h102 : fs_Hp => fs_gr h102 a0 9 0 (fun a103 => fs_gr h102 a0 9 1 (fun a104 => ∃ c105 s106 : Nat, c105 ≤ (mc - 1) ∧ s106 ≤ (ms - 4) ∧ (fs_isc h102 a104 5 ∧ (w_RE_shifted c105 s106 E h102 a104 x1 x2 (fs_kr (fun a108 h107 => fs_gr h107 a0 9 2 (fun a109 => ∃ c110 s111 : Nat, c110 ≤ ((mc - 1) - c105) ∧ s111 ≤ ((ms - 4) - s106) ∧ (fs_isc h107 a109 5 ∧ (w_RE_shifted c110 s111 E h107 a109 x1 x2 (fs_kr (fun a113 h112 => ∃ c114 s115 : Nat, c114 ≤ (((mc - 1) - c105) - c110) ∧ s115 ≤ (((ms - 4) - s106) - s111) ∧ (w_OV_init c114 s115 E h112 a101 a103 a108 a113 (fs_kv (fun h116 => Post (.inl (some (.ref a101))) h116) (fun C_ h_ => Post (.inr C_) h_)))) (fun C_ h_ => Post (.inr C_) h_)))))) (fun C_ h_ => Post (.inr C_) h_))))))) (fs_up h a101 (.inr (9, [.null, .null, .null, .null])))
set_option maxHeartbeats 4000000 in
set_option maxRecDepth 100000 in
theorem kw_OV_moved {l : Launch} {s00 : State} {E : fs_E} (hE : fs_SE l s00 E) {self : Nat → Nat → fs_E → fs_Hp → Nat → Int32 → Int32 → fs_Ps → Prop} {fn ln : Nat} (hself : ∀ {c9 s9 : Nat} {h9 : fs_Hp} {q0 : Nat} {q1 : Int32} {q2 : Int32} {P9 : fs_Ps}, self c9 s9 E h9 q0 q1 q2 P9 → fs_CtV l s00 E.1 y_PT_moved { frames := fn, cells := c9, slots := s9, locals := ln } q0 [.int q1, .int q2] h9 P9 5) {mc ms : Nat} {h : fs_Hp} {a0 : Nat} {x1 : Int32} {x2 : Int32} {Post : fs_Ps} (hq : w_OV_moved self mc ms E h a0 x1 x2 Post) : fs_Ct l s00 E.1 y_OV_moved (.code y_OV_moved b_OV_moved 3 (some ((.object "FormulaSheet$Part")))) { frames := fn + 4, cells := mc, slots := ms, locals := ln + 71 } [.ref a0, .int x1, .int x2] h Post := by
  refine fs_Ct.ofR hE.1 (by decide) ?_
  intro p e R s m below meth c hRf hRl hRc hRs B hout hP
  skip
  obtain ⟨hx, hb, hr, hml, hown, hts, hlocks, hname, hK, hw, htr⟩ := id B
  have hown : s.vm.findClass "FormulaSheet$OverRange" = some m.cls := hown
  have hS := hw.S
  have hl := lv_entry ([.ref a0, .int x1, .int x2]) (n := 3) (Nat.le_of_ble_eq_true rfl)
  rw [lg_entry_eq]
  generalize (lg_sl ([.ref a0, .int x1, .int x2]) ++ List.replicate (3 - (lg_sl ([.ref a0, .int x1, .int x2])).length) Slot.unset).toArray = ls at hl ⊢
  have hl : lv_has ls 3 [(0, .ref a0), (1, .int x1), (2, .int x2)] := hl
  unfold w_OV_moved at hq
  obtain ⟨hc_, hs_, hq⟩ := hq
  refine fs_new (fs := [.null, .null, .null, .null]) hx hb hts hown hK c_OV hP hS (fun _ h9 => h9) (hts _ (fs_tb_at 926 tw_926 rfl)) (hts _ (fs_tb_at 300 tw_300 rfl)) (hts _ (fs_tb_at 109 tw_109 rfl)) (by decide) (by omega) (by omega) d_OV_moved_0 (fun a101 H hn_ hP hS => ?_)
  have hq := hq a101 hn_
  generalize eh_ : fs_up h a101 (.inr (9, [.null, .null, .null, .null])) = h102 at hP hq
  refine lv_dup hx hb d_OV_moved_3 rfl ?_
  refine lv_aload_n hx hb d_OV_moved_4 rfl (lv_at hl 0 rfl) ?_
  obtain ⟨fs_, a103, he_, hv_, hq⟩ := fs_gr_some hq
  refine fs_get hx hb hts hown hK c_OV hP he_ 0 (by decide) (hts _ (fs_tb_at 797 tw_797 rfl)) (fun _ h9 => h9) hv_ d_OV_moved_5 ?_
  refine lv_aload_n hx hb d_OV_moved_8 rfl (lv_at hl 0 rfl) ?_
  obtain ⟨fs_, a104, he_, hv_, hq⟩ := fs_gr_some hq
  refine fs_get hx hb hts hown hK c_OV hP he_ 1 (by decide) (hts _ (fs_tb_at 798 tw_798 rfl)) (fun _ h9 => h9) hv_ d_OV_moved_9 ?_
  refine lv_iload_n hx hb d_OV_moved_12 rfl (lv_at hl 1 rfl) ?_
  refine lv_iload_n hx hb d_OV_moved_13 rfl (lv_at hl 2 rfl) ?_
  obtain ⟨c105, s106, hc_, hs_, hq⟩ := hq
  obtain ⟨hi_, hq⟩ := hq
  obtain ⟨fs_, he_⟩ := fs_isc_some hi_
  refine fs_cV B hl.1 hP hS (kw_RE_shifted hE hq) (fs_tb_at 927 tw_927 rfl) he_ rfl (fs_tb_at 928 tw_928 rfl) (fs_tb_at 929 tw_929 rfl) (fs_tb_at 105 tw_105 rfl) (fs_tb_at 930 tw_930 rfl) (by decide) (show (parseMethodDescriptor y_RE_shifted.desc).map (fun d => d.parameters.length) = some 2 by decide +kernel) rfl d_OV_moved_14 (fs_rm (k := 3) (by omega) (by omega) (by omega) (by omega) rfl) (fun v_ h107 H locs hq hP hS => ?_) (fun C_ a_ h_ H locs hq hP hS hX => fs_out (hout _) hlocks hw hP hS hX (show ((0 + 1) + c105) ≤ mc by omega) (show ((0 + 4) + s106) ≤ ms by omega) hq)
  refine fs_cs (k := ((0 + 1) + c105)) (n := ((0 + 4) + s106)) rfl rfl ?_
  replace hq := fs_kr_some hq
  obtain ⟨a108, rfl, hq⟩ := hq
  refine W.eq (g2 := F0 m 17 ls (.ref a108 :: .ref a103 :: .ref a101 :: .ref a101 :: [])) rfl ?_
  refine lv_aload_n hx hb d_OV_moved_17 rfl (lv_at hl 0 rfl) ?_
  obtain ⟨fs_, a109, he_, hv_, hq⟩ := fs_gr_some hq
  refine fs_get hx hb hts hown hK c_OV hP he_ 2 (by decide) (hts _ (fs_tb_at 799 tw_799 rfl)) (fun _ h9 => h9) hv_ d_OV_moved_18 ?_
  refine lv_iload_n hx hb d_OV_moved_21 rfl (lv_at hl 1 rfl) ?_
  refine lv_iload_n hx hb d_OV_moved_22 rfl (lv_at hl 2 rfl) ?_
  obtain ⟨c110, s111, hc_, hs_, hq⟩ := hq
  obtain ⟨hi_, hq⟩ := hq
  obtain ⟨fs_, he_⟩ := fs_isc_some hi_
  refine fs_cV B hl.1 hP hS (kw_RE_shifted hE hq) (fs_tb_at 927 tw_927 rfl) he_ rfl (fs_tb_at 928 tw_928 rfl) (fs_tb_at 929 tw_929 rfl) (fs_tb_at 105 tw_105 rfl) (fs_tb_at 930 tw_930 rfl) (by decide) (show (parseMethodDescriptor y_RE_shifted.desc).map (fun d => d.parameters.length) = some 2 by decide +kernel) rfl d_OV_moved_23 (fs_rm (k := 4) (by omega) (by omega) (by omega) (by omega) rfl) (fun v_ h112 H locs hq hP hS => ?_) (fun C_ a_ h_ H locs hq hP hS hX => fs_out (hout _) hlocks hw hP hS hX (show (((0 + 1) + c105) + c110) ≤ mc by omega) (show (((0 + 4) + s106) + s111) ≤ ms by omega) hq)
  refine fs_cs (k := (((0 + 1) + c105) + c110)) (n := (((0 + 4) + s106) + s111)) rfl rfl ?_
  replace hq := fs_kr_some hq
  obtain ⟨a113, rfl, hq⟩ := hq
  refine W.eq (g2 := F0 m 26 ls (.ref a113 :: .ref a108 :: .ref a103 :: .ref a101 :: .ref a101 :: [])) rfl ?_
  obtain ⟨c114, s115, hc_, hs_, hq⟩ := hq
  refine fs_cI B hl.1 hP hS (kw_OV_init hE hq) (fs_tb_at 934 tw_934 rfl) (fs_tb_at 793 tw_793 rfl) rfl (fs_tb_at 109 tw_109 rfl) (fs_tb_at 794 tw_794 rfl) (by decide) (show (parseMethodDescriptor y_OV_init.desc).map (fun d => d.parameters.length) = some 3 by decide +kernel) rfl d_OV_moved_26 (fs_rm (k := 1) (by omega) (by omega) (by omega) (by omega) rfl) (fun v_ h116 H locs hq hP hS => ?_) (fun C_ a_ h_ H locs hq hP hS hX => fs_out (hout _) hlocks hw hP hS hX (show ((((0 + 1) + c105) + c110) + c114) ≤ mc by omega) (show ((((0 + 4) + s106) + s111) + s115) ≤ ms by omega) hq)
  refine fs_cs (k := ((((0 + 1) + c105) + c110) + c114)) (n := ((((0 + 4) + s106) + s111) + s115)) rfl rfl ?_
  replace hq := fs_kv_some hq
  obtain ⟨rfl, hq⟩ := hq
  refine W.eq (g2 := F0 m 29 ls (.ref a101 :: [])) rfl ?_
  exact fs_aret hx hb hr (Or.inl ⟨_, rfl⟩) (Or.inr ⟨_, rfl⟩) hlocks hw hP hS (by omega) (by omega) hq d_OV_moved_29
def w_V_moved (self : Nat → Nat → fs_E → fs_Hp → Nat → Int32 → Int32 → fs_Ps → Prop) (mc ms : Nat) (E : fs_E) (h : fs_Hp) (x0 : Nat) (x1 : Int32) (x2 : Int32) (Post : fs_Ps) : Prop := (fs_isc h x0 4 ∧ w_PT_moved self mc ms E h x0 x1 x2 Post) ∨ (fs_isc h x0 5 ∧ w_RE_moved self mc ms E h x0 x1 x2 Post) ∨ (fs_isc h x0 6 ∧ w_PT_moved self mc ms E h x0 x1 x2 Post) ∨ (fs_isc h x0 7 ∧ w_PT_moved self mc ms E h x0 x1 x2 Post) ∨ (fs_isc h x0 8 ∧ w_PT_moved self mc ms E h x0 x1 x2 Post) ∨ (fs_isc h x0 9 ∧ w_OV_moved self mc ms E h x0 x1 x2 Post)
theorem kw_V_moved {l : Launch} {s00 : State} {E : fs_E} (hE : fs_SE l s00 E) {self : Nat → Nat → fs_E → fs_Hp → Nat → Int32 → Int32 → fs_Ps → Prop} {fn ln : Nat} (hself : ∀ {c9 s9 : Nat} {h9 : fs_Hp} {q0 : Nat} {q1 : Int32} {q2 : Int32} {P9 : fs_Ps}, self c9 s9 E h9 q0 q1 q2 P9 → fs_CtV l s00 E.1 y_PT_moved { frames := fn, cells := c9, slots := s9, locals := ln } q0 [.int q1, .int q2] h9 P9 5) {mc ms : Nat} {h : fs_Hp} {x0 : Nat} {x1 : Int32} {x2 : Int32} {Post : fs_Ps} (hq : w_V_moved self mc ms E h x0 x1 x2 Post) : fs_CtV l s00 E.1 y_PT_moved { frames := fn + 4, cells := mc, slots := ms, locals := ln + 71 } x0 [.int x1, .int x2] h Post 5 := by
  rcases hq with ⟨hi, hq⟩ | ⟨hi, hq⟩ | ⟨hi, hq⟩ | ⟨hi, hq⟩ | ⟨hi, hq⟩ | ⟨hi, hq⟩
  · obtain ⟨fs_, he_⟩ := fs_isc_some hi
    exact ⟨y_PT_moved, b_PT_moved, 5, (some ((.object "FormulaSheet$Part"))), 4, fs_, _, _, _, he_, rfl, (fs_tb_at 922 tw_922 rfl), (fs_tb_at 919 tw_919 rfl), (fs_tb_at 103 tw_103 rfl), (fs_tb_at 941 tw_941 rfl), by decide, kw_PT_moved hE hself hq⟩
  · obtain ⟨fs_, he_⟩ := fs_isc_some hi
    exact ⟨y_RE_moved, b_RE_moved, 3, (some ((.object "FormulaSheet$Part"))), 5, fs_, _, _, _, he_, rfl, (fs_tb_at 936 tw_936 rfl), (fs_tb_at 937 tw_937 rfl), (fs_tb_at 105 tw_105 rfl), (fs_tb_at 938 tw_938 rfl), by decide, kw_RE_moved hE hself hq⟩
  · obtain ⟨fs_, he_⟩ := fs_isc_some hi
    exact ⟨y_PT_moved, b_PT_moved, 5, (some ((.object "FormulaSheet$Part"))), 6, fs_, _, _, _, he_, rfl, (fs_tb_at 940 tw_940 rfl), (fs_tb_at 919 tw_919 rfl), (fs_tb_at 103 tw_103 rfl), (fs_tb_at 941 tw_941 rfl), by decide, kw_PT_moved hE hself hq⟩
  · obtain ⟨fs_, he_⟩ := fs_isc_some hi
    exact ⟨y_PT_moved, b_PT_moved, 5, (some ((.object "FormulaSheet$Part"))), 7, fs_, _, _, _, he_, rfl, (fs_tb_at 935 tw_935 rfl), (fs_tb_at 919 tw_919 rfl), (fs_tb_at 103 tw_103 rfl), (fs_tb_at 941 tw_941 rfl), by decide, kw_PT_moved hE hself hq⟩
  · obtain ⟨fs_, he_⟩ := fs_isc_some hi
    exact ⟨y_PT_moved, b_PT_moved, 5, (some ((.object "FormulaSheet$Part"))), 8, fs_, _, _, _, he_, rfl, (fs_tb_at 921 tw_921 rfl), (fs_tb_at 919 tw_919 rfl), (fs_tb_at 103 tw_103 rfl), (fs_tb_at 941 tw_941 rfl), by decide, kw_PT_moved hE hself hq⟩
  · obtain ⟨fs_, he_⟩ := fs_isc_some hi
    exact ⟨y_OV_moved, b_OV_moved, 3, (some ((.object "FormulaSheet$Part"))), 9, fs_, _, _, _, he_, rfl, (fs_tb_at 923 tw_923 rfl), (fs_tb_at 924 tw_924 rfl), (fs_tb_at 109 tw_109 rfl), (fs_tb_at 925 tw_925 rfl), by decide, kw_OV_moved hE hself hq⟩
def w_N_moved : Nat → Nat → Nat → fs_E → fs_Hp → Nat → Int32 → Int32 → fs_Ps → Prop
  | 0 => fun _ _ _ _ _ _ _ _ => False
  | n + 1 => w_V_moved (w_N_moved n)
theorem kN_moved {l : Launch} {s00 : State} {E : fs_E} (hE : fs_SE l s00 E) : ∀ {n : Nat} {mc ms : Nat} {h : fs_Hp} {x0 : Nat} {x1 : Int32} {x2 : Int32} {Post : fs_Ps}, w_N_moved n mc ms E h x0 x1 x2 Post → fs_CtV l s00 E.1 y_PT_moved { frames := 4 * n, cells := mc, slots := ms, locals := 71 * n } x0 [.int x1, .int x2] h Post 5 := by
  intro n
  induction n with
  | zero => intro mc ms h x0 x1 x2 Post hq; exact False.elim hq
  | succ n ih => intro mc ms h x0 x1 x2 Post hq; exact kw_V_moved hE ih hq
