/-! Parts: makers and small questions, as conditions. -/
abbrev b_SH_isInSheet : ByteArray := prog_1_method_17_code
def y_SH_isInSheet : MethodName := ⟨"FormulaSheet", "isInSheet", "(II)Z"⟩
theorem d_SH_isInSheet_0 : decode b_SH_isInSheet 0 = .ok (.iload_n 0, 1) := by decide +kernel
theorem d_SH_isInSheet_1 : decode b_SH_isInSheet 1 = .ok (.ifCond .lt 23, 3) := by decide +kernel
theorem d_SH_isInSheet_4 : decode b_SH_isInSheet 4 = .ok (.iload_n 0, 1) := by decide +kernel
theorem d_SH_isInSheet_5 : decode b_SH_isInSheet 5 = .ok (.bipush 8, 2) := by decide +kernel
theorem d_SH_isInSheet_7 : decode b_SH_isInSheet 7 = .ok (.if_icmp .ge 17, 3) := by decide +kernel
theorem d_SH_isInSheet_10 : decode b_SH_isInSheet 10 = .ok (.iload_n 1, 1) := by decide +kernel
theorem d_SH_isInSheet_11 : decode b_SH_isInSheet 11 = .ok (.ifCond .lt 13, 3) := by decide +kernel
theorem d_SH_isInSheet_14 : decode b_SH_isInSheet 14 = .ok (.iload_n 1, 1) := by decide +kernel
theorem d_SH_isInSheet_15 : decode b_SH_isInSheet 15 = .ok (.bipush 10, 2) := by decide +kernel
theorem d_SH_isInSheet_17 : decode b_SH_isInSheet 17 = .ok (.if_icmp .ge 7, 3) := by decide +kernel
theorem d_SH_isInSheet_20 : decode b_SH_isInSheet 20 = .ok (.iconst 1, 1) := by decide +kernel
theorem d_SH_isInSheet_21 : decode b_SH_isInSheet 21 = .ok (.goto 4, 3) := by decide +kernel
theorem d_SH_isInSheet_24 : decode b_SH_isInSheet 24 = .ok (.iconst 0, 1) := by decide +kernel
theorem d_SH_isInSheet_25 : decode b_SH_isInSheet 25 = .ok (.ireturn, 1) := by decide +kernel
abbrev b_SH_isBad : ByteArray := prog_1_method_18_code
def y_SH_isBad : MethodName := ⟨"FormulaSheet", "isBad", "(D)Z"⟩
theorem d_SH_isBad_0 : decode b_SH_isBad 0 = .ok (.dload_n 0, 1) := by decide +kernel
theorem d_SH_isBad_1 : decode b_SH_isBad 1 = .ok (.ldc2_w 174, 3) := by decide +kernel
theorem d_SH_isBad_4 : decode b_SH_isBad 4 = .ok (.dcmp .l, 1) := by decide +kernel
theorem d_SH_isBad_5 : decode b_SH_isBad 5 = .ok (.ifCond .gt 11, 3) := by decide +kernel
theorem d_SH_isBad_8 : decode b_SH_isBad 8 = .ok (.dload_n 0, 1) := by decide +kernel
theorem d_SH_isBad_9 : decode b_SH_isBad 9 = .ok (.ldc2_w 176, 3) := by decide +kernel
theorem d_SH_isBad_12 : decode b_SH_isBad 12 = .ok (.dcmp .g, 1) := by decide +kernel
theorem d_SH_isBad_13 : decode b_SH_isBad 13 = .ok (.ifCond .ge 7, 3) := by decide +kernel
theorem d_SH_isBad_16 : decode b_SH_isBad 16 = .ok (.iconst 1, 1) := by decide +kernel
theorem d_SH_isBad_17 : decode b_SH_isBad 17 = .ok (.goto 4, 3) := by decide +kernel
theorem d_SH_isBad_20 : decode b_SH_isBad 20 = .ok (.iconst 0, 1) := by decide +kernel
theorem d_SH_isBad_21 : decode b_SH_isBad 21 = .ok (.ireturn, 1) := by decide +kernel
abbrev b_PT_init : ByteArray := prog_10_method_1_code
def y_PT_init : MethodName := ⟨"FormulaSheet$Part", "<init>", "([LFormulaSheet$Part;)V"⟩
theorem d_PT_init_0 : decode b_PT_init 0 = .ok (.aload_n 0, 1) := by decide +kernel
theorem d_PT_init_1 : decode b_PT_init 1 = .ok (.invokespecial 1, 3) := by decide +kernel
theorem d_PT_init_4 : decode b_PT_init 4 = .ok (.aload_n 0, 1) := by decide +kernel
theorem d_PT_init_5 : decode b_PT_init 5 = .ok (.aload_n 1, 1) := by decide +kernel
theorem d_PT_init_6 : decode b_PT_init 6 = .ok (.putfield 7, 3) := by decide +kernel
theorem d_PT_init_9 : decode b_PT_init 9 = .ok (.return_, 1) := by decide +kernel
abbrev b_NU_init : ByteArray := prog_7_method_1_code
def y_NU_init : MethodName := ⟨"FormulaSheet$Numeral", "<init>", "(JI)V"⟩
theorem d_NU_init_0 : decode b_NU_init 0 = .ok (.aload_n 0, 1) := by decide +kernel
theorem d_NU_init_1 : decode b_NU_init 1 = .ok (.iconst 0, 1) := by decide +kernel
theorem d_NU_init_2 : decode b_NU_init 2 = .ok (.anewarray 3, 3) := by decide +kernel
theorem d_NU_init_5 : decode b_NU_init 5 = .ok (.invokespecial 5, 3) := by decide +kernel
theorem d_NU_init_8 : decode b_NU_init 8 = .ok (.aload_n 0, 1) := by decide +kernel
theorem d_NU_init_9 : decode b_NU_init 9 = .ok (.lload_n 1, 1) := by decide +kernel
theorem d_NU_init_10 : decode b_NU_init 10 = .ok (.putfield 9, 3) := by decide +kernel
theorem d_NU_init_13 : decode b_NU_init 13 = .ok (.aload_n 0, 1) := by decide +kernel
theorem d_NU_init_14 : decode b_NU_init 14 = .ok (.iload_n 3, 1) := by decide +kernel
theorem d_NU_init_15 : decode b_NU_init 15 = .ok (.putfield 15, 3) := by decide +kernel
theorem d_NU_init_18 : decode b_NU_init 18 = .ok (.return_, 1) := by decide +kernel
abbrev b_RE_init : ByteArray := prog_11_method_1_code
def y_RE_init : MethodName := ⟨"FormulaSheet$Reference", "<init>", "(ZIZI)V"⟩
theorem d_RE_init_0 : decode b_RE_init 0 = .ok (.aload_n 0, 1) := by decide +kernel
theorem d_RE_init_1 : decode b_RE_init 1 = .ok (.iconst 0, 1) := by decide +kernel
theorem d_RE_init_2 : decode b_RE_init 2 = .ok (.anewarray 3, 3) := by decide +kernel
theorem d_RE_init_5 : decode b_RE_init 5 = .ok (.invokespecial 5, 3) := by decide +kernel
theorem d_RE_init_8 : decode b_RE_init 8 = .ok (.aload_n 0, 1) := by decide +kernel
theorem d_RE_init_9 : decode b_RE_init 9 = .ok (.iload_n 1, 1) := by decide +kernel
theorem d_RE_init_10 : decode b_RE_init 10 = .ok (.putfield 9, 3) := by decide +kernel
theorem d_RE_init_13 : decode b_RE_init 13 = .ok (.aload_n 0, 1) := by decide +kernel
theorem d_RE_init_14 : decode b_RE_init 14 = .ok (.iload_n 2, 1) := by decide +kernel
theorem d_RE_init_15 : decode b_RE_init 15 = .ok (.putfield 15, 3) := by decide +kernel
theorem d_RE_init_18 : decode b_RE_init 18 = .ok (.aload_n 0, 1) := by decide +kernel
theorem d_RE_init_19 : decode b_RE_init 19 = .ok (.iload_n 3, 1) := by decide +kernel
theorem d_RE_init_20 : decode b_RE_init 20 = .ok (.putfield 19, 3) := by decide +kernel
theorem d_RE_init_23 : decode b_RE_init 23 = .ok (.aload_n 0, 1) := by decide +kernel
theorem d_RE_init_24 : decode b_RE_init 24 = .ok (.iload 4, 2) := by decide +kernel
theorem d_RE_init_26 : decode b_RE_init 26 = .ok (.putfield 22, 3) := by decide +kernel
theorem d_RE_init_29 : decode b_RE_init 29 = .ok (.return_, 1) := by decide +kernel
abbrev b_SI_init : ByteArray := prog_12_method_1_code
def y_SI_init : MethodName := ⟨"FormulaSheet$Single", "<init>", "(CLFormulaSheet$Part;)V"⟩
theorem d_SI_init_0 : decode b_SI_init 0 = .ok (.aload_n 0, 1) := by decide +kernel
theorem d_SI_init_1 : decode b_SI_init 1 = .ok (.iconst 1, 1) := by decide +kernel
theorem d_SI_init_2 : decode b_SI_init 2 = .ok (.anewarray 3, 3) := by decide +kernel
theorem d_SI_init_5 : decode b_SI_init 5 = .ok (.dup, 1) := by decide +kernel
theorem d_SI_init_6 : decode b_SI_init 6 = .ok (.iconst 0, 1) := by decide +kernel
theorem d_SI_init_7 : decode b_SI_init 7 = .ok (.aload_n 2, 1) := by decide +kernel
theorem d_SI_init_8 : decode b_SI_init 8 = .ok (.aastore, 1) := by decide +kernel
theorem d_SI_init_9 : decode b_SI_init 9 = .ok (.invokespecial 5, 3) := by decide +kernel
theorem d_SI_init_12 : decode b_SI_init 12 = .ok (.aload_n 0, 1) := by decide +kernel
theorem d_SI_init_13 : decode b_SI_init 13 = .ok (.iload_n 1, 1) := by decide +kernel
theorem d_SI_init_14 : decode b_SI_init 14 = .ok (.putfield 9, 3) := by decide +kernel
theorem d_SI_init_17 : decode b_SI_init 17 = .ok (.return_, 1) := by decide +kernel
abbrev b_PA_init : ByteArray := prog_9_method_1_code
def y_PA_init : MethodName := ⟨"FormulaSheet$Pair", "<init>", "(CLFormulaSheet$Part;LFormulaSheet$Part;)V"⟩
theorem d_PA_init_0 : decode b_PA_init 0 = .ok (.aload_n 0, 1) := by decide +kernel
theorem d_PA_init_1 : decode b_PA_init 1 = .ok (.iconst 2, 1) := by decide +kernel
theorem d_PA_init_2 : decode b_PA_init 2 = .ok (.anewarray 3, 3) := by decide +kernel
theorem d_PA_init_5 : decode b_PA_init 5 = .ok (.dup, 1) := by decide +kernel
theorem d_PA_init_6 : decode b_PA_init 6 = .ok (.iconst 0, 1) := by decide +kernel
theorem d_PA_init_7 : decode b_PA_init 7 = .ok (.aload_n 2, 1) := by decide +kernel
theorem d_PA_init_8 : decode b_PA_init 8 = .ok (.aastore, 1) := by decide +kernel
theorem d_PA_init_9 : decode b_PA_init 9 = .ok (.dup, 1) := by decide +kernel
theorem d_PA_init_10 : decode b_PA_init 10 = .ok (.iconst 1, 1) := by decide +kernel
theorem d_PA_init_11 : decode b_PA_init 11 = .ok (.aload_n 3, 1) := by decide +kernel
theorem d_PA_init_12 : decode b_PA_init 12 = .ok (.aastore, 1) := by decide +kernel
theorem d_PA_init_13 : decode b_PA_init 13 = .ok (.invokespecial 5, 3) := by decide +kernel
theorem d_PA_init_16 : decode b_PA_init 16 = .ok (.aload_n 0, 1) := by decide +kernel
theorem d_PA_init_17 : decode b_PA_init 17 = .ok (.iload_n 1, 1) := by decide +kernel
theorem d_PA_init_18 : decode b_PA_init 18 = .ok (.putfield 9, 3) := by decide +kernel
theorem d_PA_init_21 : decode b_PA_init 21 = .ok (.return_, 1) := by decide +kernel
abbrev b_CA_init : ByteArray := prog_2_method_1_code
def y_CA_init : MethodName := ⟨"FormulaSheet$Call", "<init>", "(LFormulaSheet$Name;[LFormulaSheet$Part;)V"⟩
theorem d_CA_init_0 : decode b_CA_init 0 = .ok (.aload_n 0, 1) := by decide +kernel
theorem d_CA_init_1 : decode b_CA_init 1 = .ok (.aload_n 2, 1) := by decide +kernel
theorem d_CA_init_2 : decode b_CA_init 2 = .ok (.invokespecial 3, 3) := by decide +kernel
theorem d_CA_init_5 : decode b_CA_init 5 = .ok (.aload_n 0, 1) := by decide +kernel
theorem d_CA_init_6 : decode b_CA_init 6 = .ok (.aload_n 1, 1) := by decide +kernel
theorem d_CA_init_7 : decode b_CA_init 7 = .ok (.putfield 9, 3) := by decide +kernel
theorem d_CA_init_10 : decode b_CA_init 10 = .ok (.return_, 1) := by decide +kernel
abbrev b_OV_init : ByteArray := prog_8_method_1_code
def y_OV_init : MethodName := ⟨"FormulaSheet$OverRange", "<init>", "(LFormulaSheet$Name;LFormulaSheet$Reference;LFormulaSheet$Reference;)V"⟩
theorem d_OV_init_0 : decode b_OV_init 0 = .ok (.aload_n 0, 1) := by decide +kernel
theorem d_OV_init_1 : decode b_OV_init 1 = .ok (.iconst 2, 1) := by decide +kernel
theorem d_OV_init_2 : decode b_OV_init 2 = .ok (.anewarray 3, 3) := by decide +kernel
theorem d_OV_init_5 : decode b_OV_init 5 = .ok (.dup, 1) := by decide +kernel
theorem d_OV_init_6 : decode b_OV_init 6 = .ok (.iconst 0, 1) := by decide +kernel
theorem d_OV_init_7 : decode b_OV_init 7 = .ok (.aload_n 2, 1) := by decide +kernel
theorem d_OV_init_8 : decode b_OV_init 8 = .ok (.aastore, 1) := by decide +kernel
theorem d_OV_init_9 : decode b_OV_init 9 = .ok (.dup, 1) := by decide +kernel
theorem d_OV_init_10 : decode b_OV_init 10 = .ok (.iconst 1, 1) := by decide +kernel
theorem d_OV_init_11 : decode b_OV_init 11 = .ok (.aload_n 3, 1) := by decide +kernel
theorem d_OV_init_12 : decode b_OV_init 12 = .ok (.aastore, 1) := by decide +kernel
theorem d_OV_init_13 : decode b_OV_init 13 = .ok (.invokespecial 5, 3) := by decide +kernel
theorem d_OV_init_16 : decode b_OV_init 16 = .ok (.aload_n 0, 1) := by decide +kernel
theorem d_OV_init_17 : decode b_OV_init 17 = .ok (.aload_n 1, 1) := by decide +kernel
theorem d_OV_init_18 : decode b_OV_init 18 = .ok (.putfield 9, 3) := by decide +kernel
theorem d_OV_init_21 : decode b_OV_init 21 = .ok (.aload_n 0, 1) := by decide +kernel
theorem d_OV_init_22 : decode b_OV_init 22 = .ok (.aload_n 2, 1) := by decide +kernel
theorem d_OV_init_23 : decode b_OV_init 23 = .ok (.putfield 15, 3) := by decide +kernel
theorem d_OV_init_26 : decode b_OV_init 26 = .ok (.aload_n 0, 1) := by decide +kernel
theorem d_OV_init_27 : decode b_OV_init 27 = .ok (.aload_n 3, 1) := by decide +kernel
theorem d_OV_init_28 : decode b_OV_init 28 = .ok (.putfield 19, 3) := by decide +kernel
theorem d_OV_init_31 : decode b_OV_init 31 = .ok (.return_, 1) := by decide +kernel
abbrev b_NU_scale : ByteArray := prog_7_method_5_code
def y_NU_scale : MethodName := ⟨"FormulaSheet$Numeral", "scale", "()J"⟩
theorem d_NU_scale_0 : decode b_NU_scale 0 = .ok (.lconst 1, 1) := by decide +kernel
theorem d_NU_scale_1 : decode b_NU_scale 1 = .ok (.lstore_n 1, 1) := by decide +kernel
theorem d_NU_scale_2 : decode b_NU_scale 2 = .ok (.iconst 0, 1) := by decide +kernel
theorem d_NU_scale_3 : decode b_NU_scale 3 = .ok (.istore_n 3, 1) := by decide +kernel
theorem d_NU_scale_4 : decode b_NU_scale 4 = .ok (.iload_n 3, 1) := by decide +kernel
theorem d_NU_scale_5 : decode b_NU_scale 5 = .ok (.aload_n 0, 1) := by decide +kernel
theorem d_NU_scale_6 : decode b_NU_scale 6 = .ok (.getfield 15, 3) := by decide +kernel
theorem d_NU_scale_9 : decode b_NU_scale 9 = .ok (.if_icmp .ge 15, 3) := by decide +kernel
theorem d_NU_scale_12 : decode b_NU_scale 12 = .ok (.lload_n 1, 1) := by decide +kernel
theorem d_NU_scale_13 : decode b_NU_scale 13 = .ok (.ldc2_w 32, 3) := by decide +kernel
theorem d_NU_scale_16 : decode b_NU_scale 16 = .ok (.lmul, 1) := by decide +kernel
theorem d_NU_scale_17 : decode b_NU_scale 17 = .ok (.lstore_n 1, 1) := by decide +kernel
theorem d_NU_scale_18 : decode b_NU_scale 18 = .ok (.iinc 3 1, 3) := by decide +kernel
theorem d_NU_scale_21 : decode b_NU_scale 21 = .ok (.goto (-17), 3) := by decide +kernel
theorem d_NU_scale_24 : decode b_NU_scale 24 = .ok (.lload_n 1, 1) := by decide +kernel
theorem d_NU_scale_25 : decode b_NU_scale 25 = .ok (.lreturn, 1) := by decide +kernel
abbrev b_RE_cell : ByteArray := prog_11_method_5_code
def y_RE_cell : MethodName := ⟨"FormulaSheet$Reference", "cell", "()I"⟩
theorem d_RE_cell_0 : decode b_RE_cell 0 = .ok (.aload_n 0, 1) := by decide +kernel
theorem d_RE_cell_1 : decode b_RE_cell 1 = .ok (.getfield 22, 3) := by decide +kernel
theorem d_RE_cell_4 : decode b_RE_cell 4 = .ok (.bipush 8, 2) := by decide +kernel
theorem d_RE_cell_6 : decode b_RE_cell 6 = .ok (.imul, 1) := by decide +kernel
theorem d_RE_cell_7 : decode b_RE_cell 7 = .ok (.aload_n 0, 1) := by decide +kernel
theorem d_RE_cell_8 : decode b_RE_cell 8 = .ok (.getfield 15, 3) := by decide +kernel
theorem d_RE_cell_11 : decode b_RE_cell 11 = .ok (.iadd, 1) := by decide +kernel
theorem d_RE_cell_12 : decode b_RE_cell 12 = .ok (.ireturn, 1) := by decide +kernel
abbrev b_OV_isLost : ByteArray := prog_8_method_4_code
def y_OV_isLost : MethodName := ⟨"FormulaSheet$OverRange", "isLost", "()Z"⟩
theorem d_OV_isLost_0 : decode b_OV_isLost 0 = .ok (.aload_n 0, 1) := by decide +kernel
theorem d_OV_isLost_1 : decode b_OV_isLost 1 = .ok (.getfield 15, 3) := by decide +kernel
theorem d_OV_isLost_4 : decode b_OV_isLost 4 = .ok (.getfield 31, 3) := by decide +kernel
theorem d_OV_isLost_7 : decode b_OV_isLost 7 = .ok (.ifCond .ne 13, 3) := by decide +kernel
theorem d_OV_isLost_10 : decode b_OV_isLost 10 = .ok (.aload_n 0, 1) := by decide +kernel
theorem d_OV_isLost_11 : decode b_OV_isLost 11 = .ok (.getfield 19, 3) := by decide +kernel
theorem d_OV_isLost_14 : decode b_OV_isLost 14 = .ok (.getfield 31, 3) := by decide +kernel
theorem d_OV_isLost_17 : decode b_OV_isLost 17 = .ok (.ifCond .eq 7, 3) := by decide +kernel
theorem d_OV_isLost_20 : decode b_OV_isLost 20 = .ok (.iconst 1, 1) := by decide +kernel
theorem d_OV_isLost_21 : decode b_OV_isLost 21 = .ok (.goto 4, 3) := by decide +kernel
theorem d_OV_isLost_24 : decode b_OV_isLost 24 = .ok (.iconst 0, 1) := by decide +kernel
theorem d_OV_isLost_25 : decode b_OV_isLost 25 = .ok (.ireturn, 1) := by decide +kernel
abbrev b_OV_right : ByteArray := prog_8_method_6_code
def y_OV_right : MethodName := ⟨"FormulaSheet$OverRange", "right", "()I"⟩
theorem d_OV_right_0 : decode b_OV_right 0 = .ok (.aload_n 0, 1) := by decide +kernel
theorem d_OV_right_1 : decode b_OV_right 1 = .ok (.getfield 15, 3) := by decide +kernel
theorem d_OV_right_4 : decode b_OV_right 4 = .ok (.getfield 35, 3) := by decide +kernel
theorem d_OV_right_7 : decode b_OV_right 7 = .ok (.aload_n 0, 1) := by decide +kernel
theorem d_OV_right_8 : decode b_OV_right 8 = .ok (.getfield 19, 3) := by decide +kernel
theorem d_OV_right_11 : decode b_OV_right 11 = .ok (.getfield 35, 3) := by decide +kernel
theorem d_OV_right_14 : decode b_OV_right 14 = .ok (.invokestatic 45, 3) := by decide +kernel
theorem d_OV_right_17 : decode b_OV_right 17 = .ok (.ireturn, 1) := by decide +kernel
abbrev b_OV_top : ByteArray := prog_8_method_7_code
def y_OV_top : MethodName := ⟨"FormulaSheet$OverRange", "top", "()I"⟩
theorem d_OV_top_0 : decode b_OV_top 0 = .ok (.aload_n 0, 1) := by decide +kernel
theorem d_OV_top_1 : decode b_OV_top 1 = .ok (.getfield 15, 3) := by decide +kernel
theorem d_OV_top_4 : decode b_OV_top 4 = .ok (.getfield 48, 3) := by decide +kernel
theorem d_OV_top_7 : decode b_OV_top 7 = .ok (.aload_n 0, 1) := by decide +kernel
theorem d_OV_top_8 : decode b_OV_top 8 = .ok (.getfield 19, 3) := by decide +kernel
theorem d_OV_top_11 : decode b_OV_top 11 = .ok (.getfield 48, 3) := by decide +kernel
theorem d_OV_top_14 : decode b_OV_top 14 = .ok (.invokestatic 39, 3) := by decide +kernel
theorem d_OV_top_17 : decode b_OV_top 17 = .ok (.ireturn, 1) := by decide +kernel
abbrev b_OV_bottom : ByteArray := prog_8_method_8_code
def y_OV_bottom : MethodName := ⟨"FormulaSheet$OverRange", "bottom", "()I"⟩
theorem d_OV_bottom_0 : decode b_OV_bottom 0 = .ok (.aload_n 0, 1) := by decide +kernel
theorem d_OV_bottom_1 : decode b_OV_bottom 1 = .ok (.getfield 15, 3) := by decide +kernel
theorem d_OV_bottom_4 : decode b_OV_bottom 4 = .ok (.getfield 48, 3) := by decide +kernel
theorem d_OV_bottom_7 : decode b_OV_bottom 7 = .ok (.aload_n 0, 1) := by decide +kernel
theorem d_OV_bottom_8 : decode b_OV_bottom 8 = .ok (.getfield 19, 3) := by decide +kernel
theorem d_OV_bottom_11 : decode b_OV_bottom 11 = .ok (.getfield 48, 3) := by decide +kernel
theorem d_OV_bottom_14 : decode b_OV_bottom 14 = .ok (.invokestatic 45, 3) := by decide +kernel
theorem d_OV_bottom_17 : decode b_OV_bottom 17 = .ok (.ireturn, 1) := by decide +kernel
theorem tw_103 : lw_tbl[103]? = some (Jvm.Cond.initialized "FormulaSheet$Part") := by decide +kernel
theorem tw_162 : lw_tbl[162]? = some (Jvm.Cond.arrayOver (Jvm.ClassFile.FieldType.object "FormulaSheet$Part")) := by decide +kernel
theorem tw_313 : lw_tbl[313]? = some (Jvm.Cond.methodLink "FormulaSheet$OverRange" (45 : Nat) ({ cls := "java/lang/Math", name := "max", desc := "(II)I" } : Jvm.MethodName)) := by decide +kernel
theorem tw_314 : lw_tbl[314]? = some (Jvm.Cond.static ({ cls := "java/lang/Math", name := "max", desc := "(II)I" } : Jvm.MethodName)) := by decide +kernel
theorem tw_315 : lw_tbl[315]? = some (Jvm.Cond.code ({ cls := "java/lang/Math", name := "max", desc := "(II)I" } : Jvm.MethodName) prog_26_method_65_code (2 : Nat) (Option.some Jvm.ClassFile.FieldType.int)) := by decide +kernel
theorem tw_390 : lw_tbl[390]? = some (Jvm.Cond.constantLong "FormulaSheet$Numeral" (32 : Nat) (10 : Int64)) := by decide +kernel
theorem tw_411 : lw_tbl[411]? = some (Jvm.Cond.constantDouble "FormulaSheet" (174 : Nat) (4832362400168542208 : UInt64)) := by decide +kernel
theorem tw_412 : lw_tbl[412]? = some (Jvm.Cond.constantDouble "FormulaSheet" (176 : Nat) (14055734437023318016 : UInt64)) := by decide +kernel
theorem tw_666 : lw_tbl[666]? = some (Jvm.Cond.classLink "FormulaSheet$Numeral" (3 : Nat) "FormulaSheet$Part") := by decide +kernel
theorem tw_667 : lw_tbl[667]? = some (Jvm.Cond.methodLink "FormulaSheet$Numeral" (5 : Nat) ({ cls := "FormulaSheet$Part", name := "<init>", desc := "([LFormulaSheet$Part;)V" } : Jvm.MethodName)) := by decide +kernel
theorem tw_668 : lw_tbl[668]? = some (Jvm.Cond.instanceMethod ({ cls := "FormulaSheet$Part", name := "<init>", desc := "([LFormulaSheet$Part;)V" } : Jvm.MethodName)) := by decide +kernel
theorem tw_669 : lw_tbl[669]? = some (Jvm.Cond.code ({ cls := "FormulaSheet$Part", name := "<init>", desc := "([LFormulaSheet$Part;)V" } : Jvm.MethodName) prog_10_method_1_code (2 : Nat) (Option.none : Option Jvm.ClassFile.FieldType)) := by decide +kernel
theorem tw_670 : lw_tbl[670]? = some (Jvm.Cond.methodLink "FormulaSheet$Part" (1 : Nat) ({ cls := "java/lang/Object", name := "<init>", desc := "()V" } : Jvm.MethodName)) := by decide +kernel
theorem tw_671 : lw_tbl[671]? = some (Jvm.Cond.fieldLink "FormulaSheet$Numeral" (9 : Nat) "FormulaSheet$Numeral" "digits" "J") := by decide +kernel
theorem tw_672 : lw_tbl[672]? = some (Jvm.Cond.fieldLink "FormulaSheet$Numeral" (15 : Nat) "FormulaSheet$Numeral" "behind" "I") := by decide +kernel
theorem tw_673 : lw_tbl[673]? = some (Jvm.Cond.fieldLink "FormulaSheet$Part" (7 : Nat) "FormulaSheet$Part" "inner" "[LFormulaSheet$Part;") := by decide +kernel
theorem tw_699 : lw_tbl[699]? = some (Jvm.Cond.classLink "FormulaSheet$Reference" (3 : Nat) "FormulaSheet$Part") := by decide +kernel
theorem tw_700 : lw_tbl[700]? = some (Jvm.Cond.methodLink "FormulaSheet$Reference" (5 : Nat) ({ cls := "FormulaSheet$Part", name := "<init>", desc := "([LFormulaSheet$Part;)V" } : Jvm.MethodName)) := by decide +kernel
theorem tw_701 : lw_tbl[701]? = some (Jvm.Cond.fieldLink "FormulaSheet$Reference" (9 : Nat) "FormulaSheet$Reference" "columnFixed" "Z") := by decide +kernel
theorem tw_702 : lw_tbl[702]? = some (Jvm.Cond.fieldLink "FormulaSheet$Reference" (19 : Nat) "FormulaSheet$Reference" "rowFixed" "Z") := by decide +kernel
theorem tw_703 : lw_tbl[703]? = some (Jvm.Cond.fieldLink "FormulaSheet$Reference" (15 : Nat) "FormulaSheet$Reference" "column" "I") := by decide +kernel
theorem tw_705 : lw_tbl[705]? = some (Jvm.Cond.fieldLink "FormulaSheet$Reference" (22 : Nat) "FormulaSheet$Reference" "row" "I") := by decide +kernel
theorem tw_706 : lw_tbl[706]? = some (Jvm.Cond.fieldLink "FormulaSheet$OverRange" (48 : Nat) "FormulaSheet$Reference" "row" "I") := by decide +kernel
theorem tw_707 : lw_tbl[707]? = some (Jvm.Cond.fieldLink "FormulaSheet$OverRange" (31 : Nat) "FormulaSheet$Reference" "lost" "Z") := by decide +kernel
theorem tw_795 : lw_tbl[795]? = some (Jvm.Cond.classLink "FormulaSheet$OverRange" (3 : Nat) "FormulaSheet$Part") := by decide +kernel
theorem tw_796 : lw_tbl[796]? = some (Jvm.Cond.methodLink "FormulaSheet$OverRange" (5 : Nat) ({ cls := "FormulaSheet$Part", name := "<init>", desc := "([LFormulaSheet$Part;)V" } : Jvm.MethodName)) := by decide +kernel
theorem tw_797 : lw_tbl[797]? = some (Jvm.Cond.fieldLink "FormulaSheet$OverRange" (9 : Nat) "FormulaSheet$OverRange" "name" "LFormulaSheet$Name;") := by decide +kernel
theorem tw_818 : lw_tbl[818]? = some (Jvm.Cond.methodLink "FormulaSheet$Call" (3 : Nat) ({ cls := "FormulaSheet$Part", name := "<init>", desc := "([LFormulaSheet$Part;)V" } : Jvm.MethodName)) := by decide +kernel
theorem tw_819 : lw_tbl[819]? = some (Jvm.Cond.fieldLink "FormulaSheet$Call" (9 : Nat) "FormulaSheet$Call" "name" "LFormulaSheet$Name;") := by decide +kernel
theorem tw_832 : lw_tbl[832]? = some (Jvm.Cond.classLink "FormulaSheet$Single" (3 : Nat) "FormulaSheet$Part") := by decide +kernel
theorem tw_833 : lw_tbl[833]? = some (Jvm.Cond.methodLink "FormulaSheet$Single" (5 : Nat) ({ cls := "FormulaSheet$Part", name := "<init>", desc := "([LFormulaSheet$Part;)V" } : Jvm.MethodName)) := by decide +kernel
theorem tw_834 : lw_tbl[834]? = some (Jvm.Cond.fieldLink "FormulaSheet$Single" (9 : Nat) "FormulaSheet$Single" "sign" "C") := by decide +kernel
theorem tw_850 : lw_tbl[850]? = some (Jvm.Cond.classLink "FormulaSheet$Pair" (3 : Nat) "FormulaSheet$Part") := by decide +kernel
theorem tw_851 : lw_tbl[851]? = some (Jvm.Cond.methodLink "FormulaSheet$Pair" (5 : Nat) ({ cls := "FormulaSheet$Part", name := "<init>", desc := "([LFormulaSheet$Part;)V" } : Jvm.MethodName)) := by decide +kernel
theorem tw_852 : lw_tbl[852]? = some (Jvm.Cond.fieldLink "FormulaSheet$Pair" (9 : Nat) "FormulaSheet$Pair" "sign" "C") := by decide +kernel
def w_SH_isInSheet (E : fs_E) (h : fs_Hp) (x1 : Int32) (x2 : Int32) (Post : fs_Ps) : Prop := (if x1 < 0 then Post (.inl (some (.int 0))) h else (if 8 ≤ x1 then Post (.inl (some (.int 0))) h else (if x2 < 0 then Post (.inl (some (.int 0))) h else (if 10 ≤ x2 then Post (.inl (some (.int 0))) h else Post (.inl (some (.int 1))) h))))
set_option maxHeartbeats 4000000 in
set_option maxRecDepth 100000 in
theorem kw_SH_isInSheet {l : Launch} {s00 : State} {E : fs_E} (hE : fs_SE l s00 E) {h : fs_Hp} {x1 : Int32} {x2 : Int32} {Post : fs_Ps} (hq : w_SH_isInSheet E h x1 x2 Post) : fs_Ct l s00 E.1 y_SH_isInSheet (.code y_SH_isInSheet b_SH_isInSheet 2 (some .boolean)) { frames := 0, cells := 0, slots := 0, locals := 0 } [.int x1, .int x2] h Post := by
  refine fs_Ct.ofR hE.1 (by decide) ?_
  intro p e R s m below meth c hRf hRl hRc hRs B hout hP
  skip
  obtain ⟨hx, hb, hr, hml, hown, hts, hlocks, hname, hK, hw, htr⟩ := id B
  have hown : s.vm.findClass "FormulaSheet" = some m.cls := hown
  have hS := hw.S
  have hl := lv_entry ([.int x1, .int x2]) (n := 2) (Nat.le_of_ble_eq_true rfl)
  rw [lg_entry_eq]
  generalize (lg_sl ([.int x1, .int x2]) ++ List.replicate (2 - (lg_sl ([.int x1, .int x2])).length) Slot.unset).toArray = ls at hl ⊢
  have hl : lv_has ls 2 [(0, .int x1), (1, .int x2)] := hl
  unfold w_SH_isInSheet at hq
  refine lv_iload_n hx hb d_SH_isInSheet_0 rfl (lv_at hl 0 rfl) ?_
  refine lv_if_lt (tgt := 24) hx hb d_SH_isInSheet_1 (by decide) (fun c_101 => ?_) (fun c_101 => ?_)
  · have hq := fs_wifp c_101 hq
    refine lv_iconst (v := 0) hx hb d_SH_isInSheet_24 (by decide) ?_
    exact fs_iret hx hb hr hlocks hw hP hS (by decide) (Nat.le_refl _) (Nat.le_refl _) hq d_SH_isInSheet_25
  · have hq := fs_wifn c_101 hq
    refine lv_iload_n hx hb d_SH_isInSheet_4 rfl (lv_at hl 0 rfl) ?_
    refine lv_bipush (v := 8) hx hb d_SH_isInSheet_5 (by decide) ?_
    refine lv_icmp_ge (tgt := 24) hx hb d_SH_isInSheet_7 (by decide) (fun c_102 => ?_) (fun c_102 => ?_)
    · have hq := fs_wifp c_102 hq
      refine lv_iconst (v := 0) hx hb d_SH_isInSheet_24 (by decide) ?_
      exact fs_iret hx hb hr hlocks hw hP hS (by decide) (Nat.le_refl _) (Nat.le_refl _) hq d_SH_isInSheet_25
    · have hq := fs_wifn c_102 hq
      refine lv_iload_n hx hb d_SH_isInSheet_10 rfl (lv_at hl 1 rfl) ?_
      refine lv_if_lt (tgt := 24) hx hb d_SH_isInSheet_11 (by decide) (fun c_103 => ?_) (fun c_103 => ?_)
      · have hq := fs_wifp c_103 hq
        refine lv_iconst (v := 0) hx hb d_SH_isInSheet_24 (by decide) ?_
        exact fs_iret hx hb hr hlocks hw hP hS (by decide) (Nat.le_refl _) (Nat.le_refl _) hq d_SH_isInSheet_25
      · have hq := fs_wifn c_103 hq
        refine lv_iload_n hx hb d_SH_isInSheet_14 rfl (lv_at hl 1 rfl) ?_
        refine lv_bipush (v := 10) hx hb d_SH_isInSheet_15 (by decide) ?_
        refine lv_icmp_ge (tgt := 24) hx hb d_SH_isInSheet_17 (by decide) (fun c_104 => ?_) (fun c_104 => ?_)
        · have hq := fs_wifp c_104 hq
          refine lv_iconst (v := 0) hx hb d_SH_isInSheet_24 (by decide) ?_
          exact fs_iret hx hb hr hlocks hw hP hS (by decide) (Nat.le_refl _) (Nat.le_refl _) hq d_SH_isInSheet_25
        · have hq := fs_wifn c_104 hq
          refine lv_iconst (v := 1) hx hb d_SH_isInSheet_20 (by decide) ?_
          refine lv_goto (tgt := 25) hx hb d_SH_isInSheet_21 (by decide) ?_
          exact fs_iret hx hb hr hlocks hw hP hS (by decide) (Nat.le_refl _) (Nat.le_refl _) hq d_SH_isInSheet_25
def w_SH_isBad (E : fs_E) (h : fs_Hp) (x1 : UInt64) (Post : fs_Ps) : Prop := (if 0 < (Op.cmpValue (FP.dcmp x1 4832362400168542208) .l) then Post (.inl (some (.int 1))) h else (if 0 ≤ (Op.cmpValue (FP.dcmp x1 14055734437023318016) .g) then Post (.inl (some (.int 0))) h else Post (.inl (some (.int 1))) h))
set_option maxHeartbeats 4000000 in
set_option maxRecDepth 100000 in
theorem kw_SH_isBad {l : Launch} {s00 : State} {E : fs_E} (hE : fs_SE l s00 E) {h : fs_Hp} {x1 : UInt64} {Post : fs_Ps} (hq : w_SH_isBad E h x1 Post) : fs_Ct l s00 E.1 y_SH_isBad (.code y_SH_isBad b_SH_isBad 2 (some .boolean)) { frames := 0, cells := 0, slots := 0, locals := 0 } [.double x1] h Post := by
  refine fs_Ct.ofR hE.1 (by decide) ?_
  intro p e R s m below meth c hRf hRl hRc hRs B hout hP
  skip
  obtain ⟨hx, hb, hr, hml, hown, hts, hlocks, hname, hK, hw, htr⟩ := id B
  have hown : s.vm.findClass "FormulaSheet" = some m.cls := hown
  have hS := hw.S
  have hl := lv_entry ([.double x1]) (n := 2) (Nat.le_of_ble_eq_true rfl)
  rw [lg_entry_eq]
  generalize (lg_sl ([.double x1]) ++ List.replicate (2 - (lg_sl ([.double x1])).length) Slot.unset).toArray = ls at hl ⊢
  have hl : lv_has ls 2 [(0, .double x1)] := hl
  unfold w_SH_isBad at hq
  refine lv_dload_n hx hb d_SH_isBad_0 rfl (lv_at hl 0 rfl) ?_
  refine lv_ldc2d (v := 4832362400168542208) hx hb hown (hts _ (fs_tb_at 411 tw_411 rfl)) d_SH_isBad_1 ?_
  refine lv_dcmp hx hb d_SH_isBad_4 ?_
  refine lv_if_gt (tgt := 16) hx hb d_SH_isBad_5 (by decide) (fun c_101 => ?_) (fun c_101 => ?_)
  · have hq := fs_wifp c_101 hq
    refine lv_iconst (v := 1) hx hb d_SH_isBad_16 (by decide) ?_
    refine lv_goto (tgt := 21) hx hb d_SH_isBad_17 (by decide) ?_
    exact fs_iret hx hb hr hlocks hw hP hS (by decide) (Nat.le_refl _) (Nat.le_refl _) hq d_SH_isBad_21
  · have hq := fs_wifn c_101 hq
    refine lv_dload_n hx hb d_SH_isBad_8 rfl (lv_at hl 0 rfl) ?_
    refine lv_ldc2d (v := 14055734437023318016) hx hb hown (hts _ (fs_tb_at 412 tw_412 rfl)) d_SH_isBad_9 ?_
    refine lv_dcmp hx hb d_SH_isBad_12 ?_
    refine lv_if_ge (tgt := 20) hx hb d_SH_isBad_13 (by decide) (fun c_102 => ?_) (fun c_102 => ?_)
    · have hq := fs_wifp c_102 hq
      refine lv_iconst (v := 0) hx hb d_SH_isBad_20 (by decide) ?_
      exact fs_iret hx hb hr hlocks hw hP hS (by decide) (Nat.le_refl _) (Nat.le_refl _) hq d_SH_isBad_21
    · have hq := fs_wifn c_102 hq
      refine lv_iconst (v := 1) hx hb d_SH_isBad_16 (by decide) ?_
      refine lv_goto (tgt := 21) hx hb d_SH_isBad_17 (by decide) ?_
      exact fs_iret hx hb hr hlocks hw hP hS (by decide) (Nat.le_refl _) (Nat.le_refl _) hq d_SH_isBad_21
def w_PT_init (E : fs_E) (h : fs_Hp) (a0 : Nat) (x1 : Nat) (Post : fs_Ps) : Prop := fs_pwP h a0 (.ref x1) (fun h101 => Post (.inl none) h101)
set_option maxHeartbeats 4000000 in
set_option maxRecDepth 100000 in
theorem kw_PT_init {l : Launch} {s00 : State} {E : fs_E} (hE : fs_SE l s00 E) {h : fs_Hp} {a0 : Nat} {x1 : Nat} {Post : fs_Ps} (hq : w_PT_init E h a0 x1 Post) : fs_Ct l s00 E.1 y_PT_init (.code y_PT_init b_PT_init 2 none) { frames := 1, cells := 0, slots := 0, locals := 20 } [.ref a0, .ref x1] h Post := by
  refine fs_Ct.ofR hE.1 (by decide) ?_
  intro p e R s m below meth c hRf hRl hRc hRs B hout hP
  skip
  obtain ⟨hx, hb, hr, hml, hown, hts, hlocks, hname, hK, hw, htr⟩ := id B
  have hown : s.vm.findClass "FormulaSheet$Part" = some m.cls := hown
  have hS := hw.S
  have hl := lv_entry ([.ref a0, .ref x1]) (n := 2) (Nat.le_of_ble_eq_true rfl)
  rw [lg_entry_eq]
  generalize (lg_sl ([.ref a0, .ref x1]) ++ List.replicate (2 - (lg_sl ([.ref a0, .ref x1])).length) Slot.unset).toArray = ls at hl ⊢
  have hl : lv_has ls 2 [(0, .ref a0), (1, .ref x1)] := hl
  unfold w_PT_init at hq
  refine lv_aload_n hx hb d_PT_init_0 rfl (lv_at hl 0 rfl) ?_
  refine W.objInit hx hb hown (hts _ (fs_tb_at 670 tw_670 rfl)) (hts _ (fs_tb_at 131 tw_131 rfl)) (hts _ (fs_tb_at 132 tw_132 rfl)) rfl (by rw [hml]; exact hl.1) rfl d_PT_init_1 (Nat.le_trans (Nat.le_of_ble_eq_true rfl) hRf) (Nat.le_trans (Nat.le_of_ble_eq_true rfl) hRl) ?_
  refine W.eq (g2 := F0 m 4 ls ([])) rfl ?_
  refine lv_aload_n hx hb d_PT_init_4 rfl (lv_at hl 0 rfl) ?_
  refine lv_aload_n hx hb d_PT_init_5 rfl (lv_at hl 1 rfl) ?_
  obtain ⟨ci_, fs_, h101, e_, hc_, hl_, eh_, hq⟩ := fs_pwP_some hq
  refine fs_putP hx hb hts hown hK hP hS e_ hc_ hl_ (hts _ (fs_tb_at 673 tw_673 rfl)) hname d_PT_init_6 (fun H locs hP hS => ?_)
  rw [← eh_] at hP
  exact fs_vret hx hb hr hlocks hw hP hS (Nat.le_refl _) (Nat.le_refl _) hq d_PT_init_9
def w_NU_init (mc ms : Nat) (E : fs_E) (h : fs_Hp) (a0 : Nat) (x1 : Int64) (x2 : Int32) (Post : fs_Ps) : Prop := ¬ (0 : Int32) < 0 ∧ (Int32.toNatClampNeg 0) * 4 ≤ 536870912 ∧ 1 ≤ mc ∧ (Int32.toNatClampNeg 0) ≤ ms ∧ ∀ a101 : Nat, h a101 = none → (fun h102 : fs_Hp => w_PT_init E h102 a0 a101 (fs_kv (fun h103 => fs_pw h103 a0 4 0 (.long x1) (fun h104 => fs_pw h104 a0 4 1 (.int x2) (fun h105 => Post (.inl none) h105))) (fun C_ h_ => Post (.inr C_) h_))) (fs_up h a101 (.inl (E.1.2 6, (Int32.toNatClampNeg 0), .inr (.inr (.inr (.inr (fun _ => none)))))))
set_option maxHeartbeats 4000000 in
set_option maxRecDepth 100000 in
theorem kw_NU_init {l : Launch} {s00 : State} {E : fs_E} (hE : fs_SE l s00 E) {mc ms : Nat} {h : fs_Hp} {a0 : Nat} {x1 : Int64} {x2 : Int32} {Post : fs_Ps} (hq : w_NU_init mc ms E h a0 x1 x2 Post) : fs_Ct l s00 E.1 y_NU_init (.code y_NU_init b_NU_init 4 none) { frames := 2, cells := mc, slots := ms, locals := 33 } [.ref a0, .long x1, .int x2] h Post := by
  refine fs_Ct.ofR hE.1 (by decide) ?_
  intro p e R s m below meth c hRf hRl hRc hRs B hout hP
  skip
  obtain ⟨hx, hb, hr, hml, hown, hts, hlocks, hname, hK, hw, htr⟩ := id B
  have hown : s.vm.findClass "FormulaSheet$Numeral" = some m.cls := hown
  have hS := hw.S
  have hl := lv_entry ([.ref a0, .long x1, .int x2]) (n := 4) (Nat.le_of_ble_eq_true rfl)
  rw [lg_entry_eq]
  generalize (lg_sl ([.ref a0, .long x1, .int x2]) ++ List.replicate (4 - (lg_sl ([.ref a0, .long x1, .int x2])).length) Slot.unset).toArray = ls at hl ⊢
  have hl : lv_has ls 4 [(0, .ref a0), (1, .long x1), (3, .int x2)] := hl
  unfold w_NU_init at hq
  refine lv_aload_n hx hb d_NU_init_0 rfl (lv_at hl 0 rfl) ?_
  refine lv_iconst (v := 0) hx hb d_NU_init_1 (by decide) ?_
  obtain ⟨hn_, hb_, hc_, hs_, hq⟩ := hq
  refine fs_newq hx hb hown (hts _ (fs_tb_at 666 tw_666 rfl)) (fs_ao hE.1 hw (List.mem_of_getElem? tw_162) rfl) hK 6 rfl hP hS (fun _ h9 => h9) hn_ rfl hb_ (by omega) (by omega) d_NU_init_2 (fun a101 H hn_ hP hS => ?_)
  have hq := hq a101 hn_
  generalize eh_ : fs_up h a101 (.inl (E.1.2 6, (Int32.toNatClampNeg 0), .inr (.inr (.inr (.inr (fun _ => none)))))) = h102 at hP hq
  refine fs_cI B hl.1 hP hS (kw_PT_init hE hq) (fs_tb_at 667 tw_667 rfl) (fs_tb_at 668 tw_668 rfl) rfl (fs_tb_at 103 tw_103 rfl) (fs_tb_at 669 tw_669 rfl) (by decide) (show (parseMethodDescriptor y_PT_init.desc).map (fun d => d.parameters.length) = some 1 by decide +kernel) rfl d_NU_init_5 (fs_rm (k := 0) (by omega) (by omega) (by omega) (by omega) rfl) (fun v_ h103 H locs hq hP hS => ?_) (fun C_ a_ h_ H locs hq hP hS hX => fs_out (hout _) hlocks hw hP hS hX (show (0 + 1) ≤ mc by omega) (show (0 + (Int32.toNatClampNeg 0)) ≤ ms by omega) hq)
  refine fs_cs (k := (0 + 1)) (n := (0 + (Int32.toNatClampNeg 0))) rfl rfl ?_
  replace hq := fs_kv_some hq
  obtain ⟨rfl, hq⟩ := hq
  refine W.eq (g2 := F0 m 8 ls ([])) rfl ?_
  refine lv_aload_n hx hb d_NU_init_8 rfl (lv_at hl 0 rfl) ?_
  refine lv_lload_n hx hb d_NU_init_9 rfl (lv_at hl 1 rfl) ?_
  obtain ⟨fs_, h104, e_, hl_, eh_, hq⟩ := fs_pw_some hq
  refine fs_putF hx hb hts hown hK c_NU hP hS e_ 0 (by decide) (hts _ (fs_tb_at 671 tw_671 rfl)) (fun _ h9 => h9) rfl hname rfl rfl rfl hl_ d_NU_init_10 (fun H locs hP hS => ?_)
  rw [← eh_] at hP
  refine lv_aload_n hx hb d_NU_init_13 rfl (lv_at hl 0 rfl) ?_
  refine lv_iload_n hx hb d_NU_init_14 rfl (lv_at hl 2 rfl) ?_
  obtain ⟨fs_, h105, e_, hl_, eh_, hq⟩ := fs_pw_some hq
  refine fs_putF hx hb hts hown hK c_NU hP hS e_ 1 (by decide) (hts _ (fs_tb_at 672 tw_672 rfl)) (fun _ h9 => h9) rfl hname rfl rfl rfl hl_ d_NU_init_15 (fun H locs hP hS => ?_)
  rw [← eh_] at hP
  exact fs_vret hx hb hr hlocks hw hP hS (by omega) (by omega) hq d_NU_init_18
def w_RE_init (mc ms : Nat) (E : fs_E) (h : fs_Hp) (a0 : Nat) (x1 : Int32) (x2 : Int32) (x3 : Int32) (x4 : Int32) (Post : fs_Ps) : Prop := ¬ (0 : Int32) < 0 ∧ (Int32.toNatClampNeg 0) * 4 ≤ 536870912 ∧ 1 ≤ mc ∧ (Int32.toNatClampNeg 0) ≤ ms ∧ ∀ a101 : Nat, h a101 = none → (fun h102 : fs_Hp => w_PT_init E h102 a0 a101 (fs_kv (fun h103 => narrow .boolean (.int x1) = (.int x1) ∧ fits .boolean (.int x1) = true ∧ (fs_pw h103 a0 5 0 (.int x1) (fun h104 => fs_pw h104 a0 5 2 (.int x2) (fun h105 => narrow .boolean (.int x3) = (.int x3) ∧ fits .boolean (.int x3) = true ∧ (fs_pw h105 a0 5 1 (.int x3) (fun h106 => fs_pw h106 a0 5 3 (.int x4) (fun h107 => Post (.inl none) h107))))))) (fun C_ h_ => Post (.inr C_) h_))) (fs_up h a101 (.inl (E.1.2 6, (Int32.toNatClampNeg 0), .inr (.inr (.inr (.inr (fun _ => none)))))))
set_option maxHeartbeats 4000000 in
set_option maxRecDepth 100000 in
theorem kw_RE_init {l : Launch} {s00 : State} {E : fs_E} (hE : fs_SE l s00 E) {mc ms : Nat} {h : fs_Hp} {a0 : Nat} {x1 : Int32} {x2 : Int32} {x3 : Int32} {x4 : Int32} {Post : fs_Ps} (hq : w_RE_init mc ms E h a0 x1 x2 x3 x4 Post) : fs_Ct l s00 E.1 y_RE_init (.code y_RE_init b_RE_init 5 none) { frames := 2, cells := mc, slots := ms, locals := 33 } [.ref a0, .int x1, .int x2, .int x3, .int x4] h Post := by
  refine fs_Ct.ofR hE.1 (by decide) ?_
  intro p e R s m below meth c hRf hRl hRc hRs B hout hP
  skip
  obtain ⟨hx, hb, hr, hml, hown, hts, hlocks, hname, hK, hw, htr⟩ := id B
  have hown : s.vm.findClass "FormulaSheet$Reference" = some m.cls := hown
  have hS := hw.S
  have hl := lv_entry ([.ref a0, .int x1, .int x2, .int x3, .int x4]) (n := 5) (Nat.le_of_ble_eq_true rfl)
  rw [lg_entry_eq]
  generalize (lg_sl ([.ref a0, .int x1, .int x2, .int x3, .int x4]) ++ List.replicate (5 - (lg_sl ([.ref a0, .int x1, .int x2, .int x3, .int x4])).length) Slot.unset).toArray = ls at hl ⊢
  have hl : lv_has ls 5 [(0, .ref a0), (1, .int x1), (2, .int x2), (3, .int x3), (4, .int x4)] := hl
  unfold w_RE_init at hq
  refine lv_aload_n hx hb d_RE_init_0 rfl (lv_at hl 0 rfl) ?_
  refine lv_iconst (v := 0) hx hb d_RE_init_1 (by decide) ?_
  obtain ⟨hn_, hb_, hc_, hs_, hq⟩ := hq
  refine fs_newq hx hb hown (hts _ (fs_tb_at 699 tw_699 rfl)) (fs_ao hE.1 hw (List.mem_of_getElem? tw_162) rfl) hK 6 rfl hP hS (fun _ h9 => h9) hn_ rfl hb_ (by omega) (by omega) d_RE_init_2 (fun a101 H hn_ hP hS => ?_)
  have hq := hq a101 hn_
  generalize eh_ : fs_up h a101 (.inl (E.1.2 6, (Int32.toNatClampNeg 0), .inr (.inr (.inr (.inr (fun _ => none)))))) = h102 at hP hq
  refine fs_cI B hl.1 hP hS (kw_PT_init hE hq) (fs_tb_at 700 tw_700 rfl) (fs_tb_at 668 tw_668 rfl) rfl (fs_tb_at 103 tw_103 rfl) (fs_tb_at 669 tw_669 rfl) (by decide) (show (parseMethodDescriptor y_PT_init.desc).map (fun d => d.parameters.length) = some 1 by decide +kernel) rfl d_RE_init_5 (fs_rm (k := 0) (by omega) (by omega) (by omega) (by omega) rfl) (fun v_ h103 H locs hq hP hS => ?_) (fun C_ a_ h_ H locs hq hP hS hX => fs_out (hout _) hlocks hw hP hS hX (show (0 + 1) ≤ mc by omega) (show (0 + (Int32.toNatClampNeg 0)) ≤ ms by omega) hq)
  refine fs_cs (k := (0 + 1)) (n := (0 + (Int32.toNatClampNeg 0))) rfl rfl ?_
  replace hq := fs_kv_some hq
  obtain ⟨rfl, hq⟩ := hq
  refine W.eq (g2 := F0 m 8 ls ([])) rfl ?_
  refine lv_aload_n hx hb d_RE_init_8 rfl (lv_at hl 0 rfl) ?_
  refine lv_iload_n hx hb d_RE_init_9 rfl (lv_at hl 1 rfl) ?_
  obtain ⟨hn_, hf_, hq⟩ := hq
  obtain ⟨fs_, h104, e_, hl_, eh_, hq⟩ := fs_pw_some hq
  refine fs_putF hx hb hts hown hK c_RE hP hS e_ 0 (by decide) (hts _ (fs_tb_at 701 tw_701 rfl)) (fun _ h9 => h9) rfl hname rfl hn_ hf_ hl_ d_RE_init_10 (fun H locs hP hS => ?_)
  rw [← eh_] at hP
  refine lv_aload_n hx hb d_RE_init_13 rfl (lv_at hl 0 rfl) ?_
  refine lv_iload_n hx hb d_RE_init_14 rfl (lv_at hl 2 rfl) ?_
  obtain ⟨fs_, h105, e_, hl_, eh_, hq⟩ := fs_pw_some hq
  refine fs_putF hx hb hts hown hK c_RE hP hS e_ 2 (by decide) (hts _ (fs_tb_at 703 tw_703 rfl)) (fun _ h9 => h9) rfl hname rfl rfl rfl hl_ d_RE_init_15 (fun H locs hP hS => ?_)
  rw [← eh_] at hP
  refine lv_aload_n hx hb d_RE_init_18 rfl (lv_at hl 0 rfl) ?_
  refine lv_iload_n hx hb d_RE_init_19 rfl (lv_at hl 3 rfl) ?_
  obtain ⟨hn_, hf_, hq⟩ := hq
  obtain ⟨fs_, h106, e_, hl_, eh_, hq⟩ := fs_pw_some hq
  refine fs_putF hx hb hts hown hK c_RE hP hS e_ 1 (by decide) (hts _ (fs_tb_at 702 tw_702 rfl)) (fun _ h9 => h9) rfl hname rfl hn_ hf_ hl_ d_RE_init_20 (fun H locs hP hS => ?_)
  rw [← eh_] at hP
  refine lv_aload_n hx hb d_RE_init_23 rfl (lv_at hl 0 rfl) ?_
  refine lv_iload hx hb d_RE_init_24 (lv_at hl 4 rfl) ?_
  obtain ⟨fs_, h107, e_, hl_, eh_, hq⟩ := fs_pw_some hq
  refine fs_put hx hb hts hown hK c_RE hP hS e_ 3 (by decide) (hts _ (fs_tb_at 705 tw_705 rfl)) (fun _ h9 => h9) rfl rfl rfl hl_ d_RE_init_26 (fun H locs hP hS => ?_)
  rw [← eh_] at hP
  exact fs_vret hx hb hr hlocks hw hP hS (by omega) (by omega) hq d_RE_init_29
def w_SI_init (mc ms : Nat) (E : fs_E) (h : fs_Hp) (a0 : Nat) (x1 : Int32) (x2 : Nat) (Post : fs_Ps) : Prop := ¬ (1 : Int32) < 0 ∧ (Int32.toNatClampNeg 1) * 4 ≤ 536870912 ∧ 1 ≤ mc ∧ (Int32.toNatClampNeg 1) ≤ ms ∧ ∀ a101 : Nat, h a101 = none → (fun h102 : fs_Hp => fs_isP h102 x2 ∧ (fs_sq h102 a101 (E.1.2 6) 0 (some x2) (fun h103 => w_PT_init E h103 a0 a101 (fs_kv (fun h104 => narrow .char (.int x1) = (.int x1) ∧ fits .char (.int x1) = true ∧ (fs_pw h104 a0 6 0 (.int x1) (fun h105 => Post (.inl none) h105))) (fun C_ h_ => Post (.inr C_) h_))))) (fs_up h a101 (.inl (E.1.2 6, (Int32.toNatClampNeg 1), .inr (.inr (.inr (.inr (fun _ => none)))))))
set_option maxHeartbeats 4000000 in
set_option maxRecDepth 100000 in
theorem kw_SI_init {l : Launch} {s00 : State} {E : fs_E} (hE : fs_SE l s00 E) {mc ms : Nat} {h : fs_Hp} {a0 : Nat} {x1 : Int32} {x2 : Nat} {Post : fs_Ps} (hq : w_SI_init mc ms E h a0 x1 x2 Post) : fs_Ct l s00 E.1 y_SI_init (.code y_SI_init b_SI_init 3 none) { frames := 2, cells := mc, slots := ms, locals := 33 } [.ref a0, .int x1, .ref x2] h Post := by
  refine fs_Ct.ofR hE.1 (by decide) ?_
  intro p e R s m below meth c hRf hRl hRc hRs B hout hP
  skip
  obtain ⟨hx, hb, hr, hml, hown, hts, hlocks, hname, hK, hw, htr⟩ := id B
  have hown : s.vm.findClass "FormulaSheet$Single" = some m.cls := hown
  have hS := hw.S
  have hl := lv_entry ([.ref a0, .int x1, .ref x2]) (n := 3) (Nat.le_of_ble_eq_true rfl)
  rw [lg_entry_eq]
  generalize (lg_sl ([.ref a0, .int x1, .ref x2]) ++ List.replicate (3 - (lg_sl ([.ref a0, .int x1, .ref x2])).length) Slot.unset).toArray = ls at hl ⊢
  have hl : lv_has ls 3 [(0, .ref a0), (1, .int x1), (2, .ref x2)] := hl
  unfold w_SI_init at hq
  refine lv_aload_n hx hb d_SI_init_0 rfl (lv_at hl 0 rfl) ?_
  refine lv_iconst (v := 1) hx hb d_SI_init_1 (by decide) ?_
  obtain ⟨hn_, hb_, hc_, hs_, hq⟩ := hq
  refine fs_newq hx hb hown (hts _ (fs_tb_at 832 tw_832 rfl)) (fs_ao hE.1 hw (List.mem_of_getElem? tw_162) rfl) hK 6 rfl hP hS (fun _ h9 => h9) hn_ rfl hb_ (by omega) (by omega) d_SI_init_2 (fun a101 H hn_ hP hS => ?_)
  have hq := hq a101 hn_
  generalize eh_ : fs_up h a101 (.inl (E.1.2 6, (Int32.toNatClampNeg 1), .inr (.inr (.inr (.inr (fun _ => none)))))) = h102 at hP hq
  refine lv_dup hx hb d_SI_init_5 rfl ?_
  refine lv_iconst (v := 0) hx hb d_SI_init_6 (by decide) ?_
  refine lv_aload_n hx hb d_SI_init_7 rfl (lv_at hl 2 rfl) ?_
  obtain ⟨hc_, hq⟩ := hq
  obtain ⟨n_, f_, h103, e_, hi_, eh_, hq⟩ := fs_sq_some hq
  refine fs_aastP hx hb hts hK hP hS e_ hc_ hi_ d_SI_init_8 (fun H locs hP hS => ?_)
  rw [← eh_] at hP
  refine fs_cI B hl.1 hP hS (kw_PT_init hE hq) (fs_tb_at 833 tw_833 rfl) (fs_tb_at 668 tw_668 rfl) rfl (fs_tb_at 103 tw_103 rfl) (fs_tb_at 669 tw_669 rfl) (by decide) (show (parseMethodDescriptor y_PT_init.desc).map (fun d => d.parameters.length) = some 1 by decide +kernel) rfl d_SI_init_9 (fs_rm (k := 0) (by omega) (by omega) (by omega) (by omega) rfl) (fun v_ h104 H locs hq hP hS => ?_) (fun C_ a_ h_ H locs hq hP hS hX => fs_out (hout _) hlocks hw hP hS hX (show (0 + 1) ≤ mc by omega) (show (0 + (Int32.toNatClampNeg 1)) ≤ ms by omega) hq)
  refine fs_cs (k := (0 + 1)) (n := (0 + (Int32.toNatClampNeg 1))) rfl rfl ?_
  replace hq := fs_kv_some hq
  obtain ⟨rfl, hq⟩ := hq
  refine W.eq (g2 := F0 m 12 ls ([])) rfl ?_
  refine lv_aload_n hx hb d_SI_init_12 rfl (lv_at hl 0 rfl) ?_
  refine lv_iload_n hx hb d_SI_init_13 rfl (lv_at hl 1 rfl) ?_
  obtain ⟨hn_, hf_, hq⟩ := hq
  obtain ⟨fs_, h105, e_, hl_, eh_, hq⟩ := fs_pw_some hq
  refine fs_putF hx hb hts hown hK c_SI hP hS e_ 0 (by decide) (hts _ (fs_tb_at 834 tw_834 rfl)) (fun _ h9 => h9) rfl hname rfl hn_ hf_ hl_ d_SI_init_14 (fun H locs hP hS => ?_)
  rw [← eh_] at hP
  exact fs_vret hx hb hr hlocks hw hP hS (by omega) (by omega) hq d_SI_init_17
def w_PA_init (mc ms : Nat) (E : fs_E) (h : fs_Hp) (a0 : Nat) (x1 : Int32) (x2 : Nat) (x3 : Nat) (Post : fs_Ps) : Prop := ¬ (2 : Int32) < 0 ∧ (Int32.toNatClampNeg 2) * 4 ≤ 536870912 ∧ 1 ≤ mc ∧ (Int32.toNatClampNeg 2) ≤ ms ∧ ∀ a101 : Nat, h a101 = none → (fun h102 : fs_Hp => fs_isP h102 x2 ∧ (fs_sq h102 a101 (E.1.2 6) 0 (some x2) (fun h103 => fs_isP h103 x3 ∧ (fs_sq h103 a101 (E.1.2 6) 1 (some x3) (fun h104 => w_PT_init E h104 a0 a101 (fs_kv (fun h105 => narrow .char (.int x1) = (.int x1) ∧ fits .char (.int x1) = true ∧ (fs_pw h105 a0 7 0 (.int x1) (fun h106 => Post (.inl none) h106))) (fun C_ h_ => Post (.inr C_) h_))))))) (fs_up h a101 (.inl (E.1.2 6, (Int32.toNatClampNeg 2), .inr (.inr (.inr (.inr (fun _ => none)))))))
set_option maxHeartbeats 4000000 in
set_option maxRecDepth 100000 in
theorem kw_PA_init {l : Launch} {s00 : State} {E : fs_E} (hE : fs_SE l s00 E) {mc ms : Nat} {h : fs_Hp} {a0 : Nat} {x1 : Int32} {x2 : Nat} {x3 : Nat} {Post : fs_Ps} (hq : w_PA_init mc ms E h a0 x1 x2 x3 Post) : fs_Ct l s00 E.1 y_PA_init (.code y_PA_init b_PA_init 4 none) { frames := 2, cells := mc, slots := ms, locals := 33 } [.ref a0, .int x1, .ref x2, .ref x3] h Post := by
  refine fs_Ct.ofR hE.1 (by decide) ?_
  intro p e R s m below meth c hRf hRl hRc hRs B hout hP
  skip
  obtain ⟨hx, hb, hr, hml, hown, hts, hlocks, hname, hK, hw, htr⟩ := id B
  have hown : s.vm.findClass "FormulaSheet$Pair" = some m.cls := hown
  have hS := hw.S
  have hl := lv_entry ([.ref a0, .int x1, .ref x2, .ref x3]) (n := 4) (Nat.le_of_ble_eq_true rfl)
  rw [lg_entry_eq]
  generalize (lg_sl ([.ref a0, .int x1, .ref x2, .ref x3]) ++ List.replicate (4 - (lg_sl ([.ref a0, .int x1, .ref x2, .ref x3])).length) Slot.unset).toArray = ls at hl ⊢
  have hl : lv_has ls 4 [(0, .ref a0), (1, .int x1), (2, .ref x2), (3, .ref x3)] := hl
  unfold w_PA_init at hq
  refine lv_aload_n hx hb d_PA_init_0 rfl (lv_at hl 0 rfl) ?_
  refine lv_iconst (v := 2) hx hb d_PA_init_1 (by decide) ?_
  obtain ⟨hn_, hb_, hc_, hs_, hq⟩ := hq
  refine fs_newq hx hb hown (hts _ (fs_tb_at 850 tw_850 rfl)) (fs_ao hE.1 hw (List.mem_of_getElem? tw_162) rfl) hK 6 rfl hP hS (fun _ h9 => h9) hn_ rfl hb_ (by omega) (by omega) d_PA_init_2 (fun a101 H hn_ hP hS => ?_)
  have hq := hq a101 hn_
  generalize eh_ : fs_up h a101 (.inl (E.1.2 6, (Int32.toNatClampNeg 2), .inr (.inr (.inr (.inr (fun _ => none)))))) = h102 at hP hq
  refine lv_dup hx hb d_PA_init_5 rfl ?_
  refine lv_iconst (v := 0) hx hb d_PA_init_6 (by decide) ?_
  refine lv_aload_n hx hb d_PA_init_7 rfl (lv_at hl 2 rfl) ?_
  obtain ⟨hc_, hq⟩ := hq
  obtain ⟨n_, f_, h103, e_, hi_, eh_, hq⟩ := fs_sq_some hq
  refine fs_aastP hx hb hts hK hP hS e_ hc_ hi_ d_PA_init_8 (fun H locs hP hS => ?_)
  rw [← eh_] at hP
  refine lv_dup hx hb d_PA_init_9 rfl ?_
  refine lv_iconst (v := 1) hx hb d_PA_init_10 (by decide) ?_
  refine lv_aload_n hx hb d_PA_init_11 rfl (lv_at hl 3 rfl) ?_
  obtain ⟨hc_, hq⟩ := hq
  obtain ⟨n_, f_, h104, e_, hi_, eh_, hq⟩ := fs_sq_some hq
  refine fs_aastP hx hb hts hK hP hS e_ hc_ hi_ d_PA_init_12 (fun H locs hP hS => ?_)
  rw [← eh_] at hP
  refine fs_cI B hl.1 hP hS (kw_PT_init hE hq) (fs_tb_at 851 tw_851 rfl) (fs_tb_at 668 tw_668 rfl) rfl (fs_tb_at 103 tw_103 rfl) (fs_tb_at 669 tw_669 rfl) (by decide) (show (parseMethodDescriptor y_PT_init.desc).map (fun d => d.parameters.length) = some 1 by decide +kernel) rfl d_PA_init_13 (fs_rm (k := 0) (by omega) (by omega) (by omega) (by omega) rfl) (fun v_ h105 H locs hq hP hS => ?_) (fun C_ a_ h_ H locs hq hP hS hX => fs_out (hout _) hlocks hw hP hS hX (show (0 + 1) ≤ mc by omega) (show (0 + (Int32.toNatClampNeg 2)) ≤ ms by omega) hq)
  refine fs_cs (k := (0 + 1)) (n := (0 + (Int32.toNatClampNeg 2))) rfl rfl ?_
  replace hq := fs_kv_some hq
  obtain ⟨rfl, hq⟩ := hq
  refine W.eq (g2 := F0 m 16 ls ([])) rfl ?_
  refine lv_aload_n hx hb d_PA_init_16 rfl (lv_at hl 0 rfl) ?_
  refine lv_iload_n hx hb d_PA_init_17 rfl (lv_at hl 1 rfl) ?_
  obtain ⟨hn_, hf_, hq⟩ := hq
  obtain ⟨fs_, h106, e_, hl_, eh_, hq⟩ := fs_pw_some hq
  refine fs_putF hx hb hts hown hK c_PA hP hS e_ 0 (by decide) (hts _ (fs_tb_at 852 tw_852 rfl)) (fun _ h9 => h9) rfl hname rfl hn_ hf_ hl_ d_PA_init_18 (fun H locs hP hS => ?_)
  rw [← eh_] at hP
  exact fs_vret hx hb hr hlocks hw hP hS (by omega) (by omega) hq d_PA_init_21
def w_CA_init (E : fs_E) (h : fs_Hp) (a0 : Nat) (x1 : Nat) (x2 : Nat) (Post : fs_Ps) : Prop := w_PT_init E h a0 x2 (fs_kv (fun h101 => fs_pw h101 a0 8 0 (.ref x1) (fun h102 => Post (.inl none) h102)) (fun C_ h_ => Post (.inr C_) h_))
set_option maxHeartbeats 4000000 in
set_option maxRecDepth 100000 in
theorem kw_CA_init {l : Launch} {s00 : State} {E : fs_E} (hE : fs_SE l s00 E) {h : fs_Hp} {a0 : Nat} {x1 : Nat} {x2 : Nat} {Post : fs_Ps} (hq : w_CA_init E h a0 x1 x2 Post) : fs_Ct l s00 E.1 y_CA_init (.code y_CA_init b_CA_init 3 none) { frames := 2, cells := 0, slots := 0, locals := 33 } [.ref a0, .ref x1, .ref x2] h Post := by
  refine fs_Ct.ofR hE.1 (by decide) ?_
  intro p e R s m below meth c hRf hRl hRc hRs B hout hP
  skip
  obtain ⟨hx, hb, hr, hml, hown, hts, hlocks, hname, hK, hw, htr⟩ := id B
  have hown : s.vm.findClass "FormulaSheet$Call" = some m.cls := hown
  have hS := hw.S
  have hl := lv_entry ([.ref a0, .ref x1, .ref x2]) (n := 3) (Nat.le_of_ble_eq_true rfl)
  rw [lg_entry_eq]
  generalize (lg_sl ([.ref a0, .ref x1, .ref x2]) ++ List.replicate (3 - (lg_sl ([.ref a0, .ref x1, .ref x2])).length) Slot.unset).toArray = ls at hl ⊢
  have hl : lv_has ls 3 [(0, .ref a0), (1, .ref x1), (2, .ref x2)] := hl
  unfold w_CA_init at hq
  refine lv_aload_n hx hb d_CA_init_0 rfl (lv_at hl 0 rfl) ?_
  refine lv_aload_n hx hb d_CA_init_1 rfl (lv_at hl 2 rfl) ?_
  refine fs_cI B hl.1 hP hS (kw_PT_init hE hq) (fs_tb_at 818 tw_818 rfl) (fs_tb_at 668 tw_668 rfl) rfl (fs_tb_at 103 tw_103 rfl) (fs_tb_at 669 tw_669 rfl) (by decide) (show (parseMethodDescriptor y_PT_init.desc).map (fun d => d.parameters.length) = some 1 by decide +kernel) rfl d_CA_init_2 (fs_rm (k := 0) (by omega) (by omega) (by omega) (by omega) rfl) (fun v_ h101 H locs hq hP hS => ?_) (fun C_ a_ h_ H locs hq hP hS hX => fs_out (hout _) hlocks hw hP hS hX (Nat.le_of_ble_eq_true rfl) (Nat.le_of_ble_eq_true rfl) hq)
  refine fs_cs (k := 0) (n := 0) rfl rfl ?_
  replace hq := fs_kv_some hq
  obtain ⟨rfl, hq⟩ := hq
  refine W.eq (g2 := F0 m 5 ls ([])) rfl ?_
  refine lv_aload_n hx hb d_CA_init_5 rfl (lv_at hl 0 rfl) ?_
  refine lv_aload_n hx hb d_CA_init_6 rfl (lv_at hl 1 rfl) ?_
  obtain ⟨fs_, h102, e_, hl_, eh_, hq⟩ := fs_pw_some hq
  refine fs_putF hx hb hts hown hK c_CA hP hS e_ 0 (by decide) (hts _ (fs_tb_at 819 tw_819 rfl)) (fun _ h9 => h9) rfl hname rfl rfl rfl hl_ d_CA_init_7 (fun H locs hP hS => ?_)
  rw [← eh_] at hP
  exact fs_vret hx hb hr hlocks hw hP hS (Nat.le_refl _) (Nat.le_refl _) hq d_CA_init_10
def w_OV_init (mc ms : Nat) (E : fs_E) (h : fs_Hp) (a0 : Nat) (x1 : Nat) (x2 : Nat) (x3 : Nat) (Post : fs_Ps) : Prop := ¬ (2 : Int32) < 0 ∧ (Int32.toNatClampNeg 2) * 4 ≤ 536870912 ∧ 1 ≤ mc ∧ (Int32.toNatClampNeg 2) ≤ ms ∧ ∀ a101 : Nat, h a101 = none → (fun h102 : fs_Hp => fs_isP h102 x2 ∧ (fs_sq h102 a101 (E.1.2 6) 0 (some x2) (fun h103 => fs_isP h103 x3 ∧ (fs_sq h103 a101 (E.1.2 6) 1 (some x3) (fun h104 => w_PT_init E h104 a0 a101 (fs_kv (fun h105 => fs_pw h105 a0 9 0 (.ref x1) (fun h106 => fs_pw h106 a0 9 1 (.ref x2) (fun h107 => fs_pw h107 a0 9 2 (.ref x3) (fun h108 => Post (.inl none) h108)))) (fun C_ h_ => Post (.inr C_) h_))))))) (fs_up h a101 (.inl (E.1.2 6, (Int32.toNatClampNeg 2), .inr (.inr (.inr (.inr (fun _ => none)))))))
set_option maxHeartbeats 4000000 in
set_option maxRecDepth 100000 in
theorem kw_OV_init {l : Launch} {s00 : State} {E : fs_E} (hE : fs_SE l s00 E) {mc ms : Nat} {h : fs_Hp} {a0 : Nat} {x1 : Nat} {x2 : Nat} {x3 : Nat} {Post : fs_Ps} (hq : w_OV_init mc ms E h a0 x1 x2 x3 Post) : fs_Ct l s00 E.1 y_OV_init (.code y_OV_init b_OV_init 4 none) { frames := 2, cells := mc, slots := ms, locals := 33 } [.ref a0, .ref x1, .ref x2, .ref x3] h Post := by
  refine fs_Ct.ofR hE.1 (by decide) ?_
  intro p e R s m below meth c hRf hRl hRc hRs B hout hP
  skip
  obtain ⟨hx, hb, hr, hml, hown, hts, hlocks, hname, hK, hw, htr⟩ := id B
  have hown : s.vm.findClass "FormulaSheet$OverRange" = some m.cls := hown
  have hS := hw.S
  have hl := lv_entry ([.ref a0, .ref x1, .ref x2, .ref x3]) (n := 4) (Nat.le_of_ble_eq_true rfl)
  rw [lg_entry_eq]
  generalize (lg_sl ([.ref a0, .ref x1, .ref x2, .ref x3]) ++ List.replicate (4 - (lg_sl ([.ref a0, .ref x1, .ref x2, .ref x3])).length) Slot.unset).toArray = ls at hl ⊢
  have hl : lv_has ls 4 [(0, .ref a0), (1, .ref x1), (2, .ref x2), (3, .ref x3)] := hl
  unfold w_OV_init at hq
  refine lv_aload_n hx hb d_OV_init_0 rfl (lv_at hl 0 rfl) ?_
  refine lv_iconst (v := 2) hx hb d_OV_init_1 (by decide) ?_
  obtain ⟨hn_, hb_, hc_, hs_, hq⟩ := hq
  refine fs_newq hx hb hown (hts _ (fs_tb_at 795 tw_795 rfl)) (fs_ao hE.1 hw (List.mem_of_getElem? tw_162) rfl) hK 6 rfl hP hS (fun _ h9 => h9) hn_ rfl hb_ (by omega) (by omega) d_OV_init_2 (fun a101 H hn_ hP hS => ?_)
  have hq := hq a101 hn_
  generalize eh_ : fs_up h a101 (.inl (E.1.2 6, (Int32.toNatClampNeg 2), .inr (.inr (.inr (.inr (fun _ => none)))))) = h102 at hP hq
  refine lv_dup hx hb d_OV_init_5 rfl ?_
  refine lv_iconst (v := 0) hx hb d_OV_init_6 (by decide) ?_
  refine lv_aload_n hx hb d_OV_init_7 rfl (lv_at hl 2 rfl) ?_
  obtain ⟨hc_, hq⟩ := hq
  obtain ⟨n_, f_, h103, e_, hi_, eh_, hq⟩ := fs_sq_some hq
  refine fs_aastP hx hb hts hK hP hS e_ hc_ hi_ d_OV_init_8 (fun H locs hP hS => ?_)
  rw [← eh_] at hP
  refine lv_dup hx hb d_OV_init_9 rfl ?_
  refine lv_iconst (v := 1) hx hb d_OV_init_10 (by decide) ?_
  refine lv_aload_n hx hb d_OV_init_11 rfl (lv_at hl 3 rfl) ?_
  obtain ⟨hc_, hq⟩ := hq
  obtain ⟨n_, f_, h104, e_, hi_, eh_, hq⟩ := fs_sq_some hq
  refine fs_aastP hx hb hts hK hP hS e_ hc_ hi_ d_OV_init_12 (fun H locs hP hS => ?_)
  rw [← eh_] at hP
  refine fs_cI B hl.1 hP hS (kw_PT_init hE hq) (fs_tb_at 796 tw_796 rfl) (fs_tb_at 668 tw_668 rfl) rfl (fs_tb_at 103 tw_103 rfl) (fs_tb_at 669 tw_669 rfl) (by decide) (show (parseMethodDescriptor y_PT_init.desc).map (fun d => d.parameters.length) = some 1 by decide +kernel) rfl d_OV_init_13 (fs_rm (k := 0) (by omega) (by omega) (by omega) (by omega) rfl) (fun v_ h105 H locs hq hP hS => ?_) (fun C_ a_ h_ H locs hq hP hS hX => fs_out (hout _) hlocks hw hP hS hX (show (0 + 1) ≤ mc by omega) (show (0 + (Int32.toNatClampNeg 2)) ≤ ms by omega) hq)
  refine fs_cs (k := (0 + 1)) (n := (0 + (Int32.toNatClampNeg 2))) rfl rfl ?_
  replace hq := fs_kv_some hq
  obtain ⟨rfl, hq⟩ := hq
  refine W.eq (g2 := F0 m 16 ls ([])) rfl ?_
  refine lv_aload_n hx hb d_OV_init_16 rfl (lv_at hl 0 rfl) ?_
  refine lv_aload_n hx hb d_OV_init_17 rfl (lv_at hl 1 rfl) ?_
  obtain ⟨fs_, h106, e_, hl_, eh_, hq⟩ := fs_pw_some hq
  refine fs_putF hx hb hts hown hK c_OV hP hS e_ 0 (by decide) (hts _ (fs_tb_at 797 tw_797 rfl)) (fun _ h9 => h9) rfl hname rfl rfl rfl hl_ d_OV_init_18 (fun H locs hP hS => ?_)
  rw [← eh_] at hP
  refine lv_aload_n hx hb d_OV_init_21 rfl (lv_at hl 0 rfl) ?_
  refine lv_aload_n hx hb d_OV_init_22 rfl (lv_at hl 2 rfl) ?_
  obtain ⟨fs_, h107, e_, hl_, eh_, hq⟩ := fs_pw_some hq
  refine fs_putF hx hb hts hown hK c_OV hP hS e_ 1 (by decide) (hts _ (fs_tb_at 798 tw_798 rfl)) (fun _ h9 => h9) rfl hname rfl rfl rfl hl_ d_OV_init_23 (fun H locs hP hS => ?_)
  rw [← eh_] at hP
  refine lv_aload_n hx hb d_OV_init_26 rfl (lv_at hl 0 rfl) ?_
  refine lv_aload_n hx hb d_OV_init_27 rfl (lv_at hl 3 rfl) ?_
  obtain ⟨fs_, h108, e_, hl_, eh_, hq⟩ := fs_pw_some hq
  refine fs_putF hx hb hts hown hK c_OV hP hS e_ 2 (by decide) (hts _ (fs_tb_at 799 tw_799 rfl)) (fun _ h9 => h9) rfl hname rfl rfl rfl hl_ d_OV_init_28 (fun H locs hP hS => ?_)
  rw [← eh_] at hP
  exact fs_vret hx hb hr hlocks hw hP hS (by omega) (by omega) hq d_OV_init_31
def w_NU_scale_L4 (E : fs_E) (K : Int64 → fs_Hp → Prop) (Post : fs_Ps) : Nat → Nat → Int64 → Int32 → fs_Hp → Prop
  | 0 => fun _ _ _ _ => False
  | n + 1 => fun z0 z1 z3 h1 => fs_gi h1 z0 4 1 (fun x101 => (if x101 ≤ z3 then K z1 h1 else (w_NU_scale_L4 E K Post n) z0 (z1 * 10) (z3 + 1) h1))
def w_NU_scale (E : fs_E) (h : fs_Hp) (a0 : Nat) (Post : fs_Ps) : Prop := (∃ n105 : Nat, w_NU_scale_L4 E (fun y103 h104 => Post (.inl (some (.long y103))) h104) Post n105 a0 1 0 h)
set_option maxHeartbeats 4000000 in
set_option maxRecDepth 100000 in
theorem lw_w_NU_scale_4 {p : Program} {l : Launch} {e : Env} {R : Room} {s : State} {m : MethodId} {args : Array Value} {below : List Frame} {meth : Method} {c : Code} {s00 : State} {E : fs_E} {Post : fs_Ps} (hE : fs_SE l s00 E) (B : fs_B p l e s m args meth c s00 E.1 y_NU_scale b_NU_scale 4 (some .long)) (hout : ∀ pc, ∀ x ∈ c.exceptionTable.toList, covers x pc = false) (hRf : 0 ≤ R.frames) (hRl : 0 ≤ R.locals) (K : Int64 → fs_Hp → Prop) : ∀ (n : Nat) (z0 : Nat) (z1 : Int64) (z3 : Int32) (h1 : fs_Hp) (H : Heap) (locs : List Loc) (ls : Array Slot), w_NU_scale_L4 E K Post n z0 z1 z3 h1 → fs_P E.1.1 fs_cl (fs_A s00) h1 H → va_S (fs_A s00) s00.heap H locs → lv_has ls 4 [(0, .ref z0), (1, .long z1), (3, .int z3)] → (∀ (y1 : Int64) (h' : fs_Hp) (H : Heap) (locs : List Loc) (ls : Array Slot), K y1 h' → fs_P E.1.1 fs_cl (fs_A s00) h' H → va_S (fs_A s00) s00.heap H locs → lv_has ls 4 [(0, .ref z0), (1, .long y1)] → W p l e R s m args below meth c H locs 0 0 (fx_MQ below (fs_Qc s00 E.1 Post) args s 0 0 (fs_A s00)) (F0 m 24 ls [])) → W p l e R s m args below meth c H locs 0 0 (fx_MQ below (fs_Qc s00 E.1 Post) args s 0 0 (fs_A s00)) (F0 m 4 ls []) := by
  obtain ⟨hx, hb, hr, hml, hown, hts, hlocks, hname, hK, hw, htr⟩ := id B
  have hown : s.vm.findClass "FormulaSheet$Numeral" = some m.cls := hown
  intro n
  induction n with
  | zero => intro z0 z1 z3 h1 H locs ls hq; exact False.elim hq
  | succ n ih =>
    intro z0 z1 z3 h1 H locs ls hq hP hS hl kk
    rw [w_NU_scale_L4] at hq
    refine lv_iload_n hx hb d_NU_scale_4 rfl (lv_at hl 2 rfl) ?_
    refine lv_aload_n hx hb d_NU_scale_5 rfl (lv_at hl 0 rfl) ?_
    obtain ⟨fs_, x101, he_, hv_, hq⟩ := fs_gi_some hq
    refine fs_get hx hb hts hown hK c_NU hP he_ 1 (by decide) (hts _ (fs_tb_at 672 tw_672 rfl)) (fun _ h9 => h9) hv_ d_NU_scale_6 ?_
    refine lv_icmp_ge (tgt := 24) hx hb d_NU_scale_9 (by decide) (fun c_102 => ?_) (fun c_102 => ?_)
    · have hq := fs_wifp c_102 hq
      exact kk z1 _ _ _ _ hq hP hS (show lv_has ls 4 [(0, .ref z0), (1, .long z1)] from lv_sub hl [0, 1] rfl)
    · have hq := fs_wifn c_102 hq
      refine lv_lload_n hx hb d_NU_scale_12 rfl (lv_at hl 1 rfl) ?_
      refine lv_ldc2 (v := 10) hx hb hown (hts _ (fs_tb_at 390 tw_390 rfl)) d_NU_scale_13 ?_
      refine lv_lmul hx hb d_NU_scale_16 ?_
      refine lv_lstore_n (lv' := [(1, .long (z1 * 10)), (0, .ref z0), (3, .int z3)]) hx hb d_NU_scale_17 rfl hl (by decide) rfl (fun ls hl => ?_)
      refine lv_iinc (v := z3 + 1) (lv' := [(3, .int (z3 + 1)), (1, .long (z1 * 10)), (0, .ref z0)]) hx hb d_NU_scale_18 hl (k := 2) rfl rfl (by decide) rfl (fun ls hl => ?_)
      refine lv_goto (tgt := 4) hx hb d_NU_scale_21 (by decide) ?_
      exact ih z0 (z1 * 10) (z3 + 1) _ _ _ _ hq hP hS (show lv_has ls 4 [(0, .ref z0), (1, .long (z1 * 10)), (3, .int (z3 + 1))] from lv_sub hl [2, 1, 0] rfl) kk
set_option maxHeartbeats 4000000 in
set_option maxRecDepth 100000 in
theorem kw_NU_scale {l : Launch} {s00 : State} {E : fs_E} (hE : fs_SE l s00 E) {h : fs_Hp} {a0 : Nat} {Post : fs_Ps} (hq : w_NU_scale E h a0 Post) : fs_Ct l s00 E.1 y_NU_scale (.code y_NU_scale b_NU_scale 4 (some .long)) { frames := 0, cells := 0, slots := 0, locals := 0 } [.ref a0] h Post := by
  refine fs_Ct.ofR hE.1 (by decide) ?_
  intro p e R s m below meth c hRf hRl hRc hRs B hout hP
  skip
  obtain ⟨hx, hb, hr, hml, hown, hts, hlocks, hname, hK, hw, htr⟩ := id B
  have hown : s.vm.findClass "FormulaSheet$Numeral" = some m.cls := hown
  have hS := hw.S
  have hl := lv_entry ([.ref a0]) (n := 4) (Nat.le_of_ble_eq_true rfl)
  rw [lg_entry_eq]
  generalize (lg_sl ([.ref a0]) ++ List.replicate (4 - (lg_sl ([.ref a0])).length) Slot.unset).toArray = ls at hl ⊢
  have hl : lv_has ls 4 [(0, .ref a0)] := hl
  unfold w_NU_scale at hq
  refine lv_lconst (v := 1) hx hb d_NU_scale_0 (by decide) ?_
  refine lv_lstore_n (lv' := [(1, .long 1), (0, .ref a0)]) hx hb d_NU_scale_1 rfl hl (by decide) rfl (fun ls hl => ?_)
  refine lv_iconst (v := 0) hx hb d_NU_scale_2 (by decide) ?_
  refine lv_istore_n (lv' := [(3, .int 0), (1, .long 1), (0, .ref a0)]) hx hb d_NU_scale_3 rfl hl (by decide) rfl (fun ls hl => ?_)
  obtain ⟨n105, hq⟩ := hq
  refine lw_w_NU_scale_4 hE B hout (by omega) (by omega) _ n105 a0 1 0 _ _ _ _ hq hP hS (show lv_has ls 4 [(0, .ref a0), (1, .long 1), (3, .int 0)] from lv_sub hl [2, 1, 0] rfl) (fun y103 h104 H locs ls hq hP hS hl => ?_)
  refine lv_lload_n hx hb d_NU_scale_24 rfl (lv_at hl 1 rfl) ?_
  exact fs_lret hx hb hr hlocks hw hP hS (Nat.le_refl _) (Nat.le_refl _) hq d_NU_scale_25
def w_RE_cell (E : fs_E) (h : fs_Hp) (a0 : Nat) (Post : fs_Ps) : Prop := fs_gi h a0 5 3 (fun x101 => fs_gi h a0 5 2 (fun x102 => Post (.inl (some (.int ((x101 * 8) + x102)))) h))
set_option maxHeartbeats 4000000 in
set_option maxRecDepth 100000 in
theorem kw_RE_cell {l : Launch} {s00 : State} {E : fs_E} (hE : fs_SE l s00 E) {h : fs_Hp} {a0 : Nat} {Post : fs_Ps} (hq : w_RE_cell E h a0 Post) : fs_Ct l s00 E.1 y_RE_cell (.code y_RE_cell b_RE_cell 1 (some .int)) { frames := 0, cells := 0, slots := 0, locals := 0 } [.ref a0] h Post := by
  refine fs_Ct.ofR hE.1 (by decide) ?_
  intro p e R s m below meth c hRf hRl hRc hRs B hout hP
  skip
  obtain ⟨hx, hb, hr, hml, hown, hts, hlocks, hname, hK, hw, htr⟩ := id B
  have hown : s.vm.findClass "FormulaSheet$Reference" = some m.cls := hown
  have hS := hw.S
  have hl := lv_entry ([.ref a0]) (n := 1) (Nat.le_of_ble_eq_true rfl)
  rw [lg_entry_eq]
  generalize (lg_sl ([.ref a0]) ++ List.replicate (1 - (lg_sl ([.ref a0])).length) Slot.unset).toArray = ls at hl ⊢
  have hl : lv_has ls 1 [(0, .ref a0)] := hl
  unfold w_RE_cell at hq
  refine lv_aload_n hx hb d_RE_cell_0 rfl (lv_at hl 0 rfl) ?_
  obtain ⟨fs_, x101, he_, hv_, hq⟩ := fs_gi_some hq
  refine fs_get hx hb hts hown hK c_RE hP he_ 3 (by decide) (hts _ (fs_tb_at 705 tw_705 rfl)) (fun _ h9 => h9) hv_ d_RE_cell_1 ?_
  refine lv_bipush (v := 8) hx hb d_RE_cell_4 (by decide) ?_
  refine lv_imul hx hb d_RE_cell_6 ?_
  refine lv_aload_n hx hb d_RE_cell_7 rfl (lv_at hl 0 rfl) ?_
  obtain ⟨fs_, x102, he_, hv_, hq⟩ := fs_gi_some hq
  refine fs_get hx hb hts hown hK c_RE hP he_ 2 (by decide) (hts _ (fs_tb_at 703 tw_703 rfl)) (fun _ h9 => h9) hv_ d_RE_cell_8 ?_
  refine lv_iadd hx hb d_RE_cell_11 ?_
  exact fs_iret hx hb hr hlocks hw hP hS (vp_nar_int _) (Nat.le_refl _) (Nat.le_refl _) hq d_RE_cell_12
def w_OV_isLost (E : fs_E) (h : fs_Hp) (a0 : Nat) (Post : fs_Ps) : Prop := fs_gr h a0 9 1 (fun a101 => fs_gi h a101 5 4 (fun x102 => (if x102 = 0 then fs_gr h a0 9 2 (fun a104 => fs_gi h a104 5 4 (fun x105 => (if x105 = 0 then Post (.inl (some (.int 0))) h else Post (.inl (some (.int 1))) h))) else Post (.inl (some (.int 1))) h)))
set_option maxHeartbeats 4000000 in
set_option maxRecDepth 100000 in
theorem kw_OV_isLost {l : Launch} {s00 : State} {E : fs_E} (hE : fs_SE l s00 E) {h : fs_Hp} {a0 : Nat} {Post : fs_Ps} (hq : w_OV_isLost E h a0 Post) : fs_Ct l s00 E.1 y_OV_isLost (.code y_OV_isLost b_OV_isLost 1 (some .boolean)) { frames := 0, cells := 0, slots := 0, locals := 0 } [.ref a0] h Post := by
  refine fs_Ct.ofR hE.1 (by decide) ?_
  intro p e R s m below meth c hRf hRl hRc hRs B hout hP
  skip
  obtain ⟨hx, hb, hr, hml, hown, hts, hlocks, hname, hK, hw, htr⟩ := id B
  have hown : s.vm.findClass "FormulaSheet$OverRange" = some m.cls := hown
  have hS := hw.S
  have hl := lv_entry ([.ref a0]) (n := 1) (Nat.le_of_ble_eq_true rfl)
  rw [lg_entry_eq]
  generalize (lg_sl ([.ref a0]) ++ List.replicate (1 - (lg_sl ([.ref a0])).length) Slot.unset).toArray = ls at hl ⊢
  have hl : lv_has ls 1 [(0, .ref a0)] := hl
  unfold w_OV_isLost at hq
  refine lv_aload_n hx hb d_OV_isLost_0 rfl (lv_at hl 0 rfl) ?_
  obtain ⟨fs_, a101, he_, hv_, hq⟩ := fs_gr_some hq
  refine fs_get hx hb hts hown hK c_OV hP he_ 1 (by decide) (hts _ (fs_tb_at 798 tw_798 rfl)) (fun _ h9 => h9) hv_ d_OV_isLost_1 ?_
  obtain ⟨fs_, x102, he_, hv_, hq⟩ := fs_gi_some hq
  refine fs_get hx hb hts hown hK c_RE hP he_ 4 (by decide) (hts _ (fs_tb_at 707 tw_707 rfl)) (fun _ h9 => h9) hv_ d_OV_isLost_4 ?_
  refine lv_if_ne (tgt := 20) hx hb d_OV_isLost_7 (by decide) (fun c_103 => ?_) (fun c_103 => ?_)
  · have hq := fs_wifn c_103 hq
    refine lv_iconst (v := 1) hx hb d_OV_isLost_20 (by decide) ?_
    refine lv_goto (tgt := 25) hx hb d_OV_isLost_21 (by decide) ?_
    exact fs_iret hx hb hr hlocks hw hP hS (by decide) (Nat.le_refl _) (Nat.le_refl _) hq d_OV_isLost_25
  · have hq := fs_wifp c_103 hq
    refine lv_aload_n hx hb d_OV_isLost_10 rfl (lv_at hl 0 rfl) ?_
    obtain ⟨fs_, a104, he_, hv_, hq⟩ := fs_gr_some hq
    refine fs_get hx hb hts hown hK c_OV hP he_ 2 (by decide) (hts _ (fs_tb_at 799 tw_799 rfl)) (fun _ h9 => h9) hv_ d_OV_isLost_11 ?_
    obtain ⟨fs_, x105, he_, hv_, hq⟩ := fs_gi_some hq
    refine fs_get hx hb hts hown hK c_RE hP he_ 4 (by decide) (hts _ (fs_tb_at 707 tw_707 rfl)) (fun _ h9 => h9) hv_ d_OV_isLost_14 ?_
    refine lv_if_eq (tgt := 24) hx hb d_OV_isLost_17 (by decide) (fun c_106 => ?_) (fun c_106 => ?_)
    · have hq := fs_wifp c_106 hq
      refine lv_iconst (v := 0) hx hb d_OV_isLost_24 (by decide) ?_
      exact fs_iret hx hb hr hlocks hw hP hS (by decide) (Nat.le_refl _) (Nat.le_refl _) hq d_OV_isLost_25
    · have hq := fs_wifn c_106 hq
      refine lv_iconst (v := 1) hx hb d_OV_isLost_20 (by decide) ?_
      refine lv_goto (tgt := 25) hx hb d_OV_isLost_21 (by decide) ?_
      exact fs_iret hx hb hr hlocks hw hP hS (by decide) (Nat.le_refl _) (Nat.le_refl _) hq d_OV_isLost_25
def w_OV_right (E : fs_E) (h : fs_Hp) (a0 : Nat) (Post : fs_Ps) : Prop := fs_gr h a0 9 1 (fun a101 => fs_gi h a101 5 2 (fun x102 => fs_gr h a0 9 2 (fun a103 => fs_gi h a103 5 2 (fun x104 => Post (.inl (some (.int (if x102 < x104 then x104 else x102)))) h))))
set_option maxHeartbeats 4000000 in
set_option maxRecDepth 100000 in
theorem kw_OV_right {l : Launch} {s00 : State} {E : fs_E} (hE : fs_SE l s00 E) {h : fs_Hp} {a0 : Nat} {Post : fs_Ps} (hq : w_OV_right E h a0 Post) : fs_Ct l s00 E.1 y_OV_right (.code y_OV_right b_OV_right 1 (some .int)) { frames := 1, cells := 0, slots := 0, locals := 13 } [.ref a0] h Post := by
  refine fs_Ct.ofR hE.1 (by decide) ?_
  intro p e R s m below meth c hRf hRl hRc hRs B hout hP
  skip
  obtain ⟨hx, hb, hr, hml, hown, hts, hlocks, hname, hK, hw, htr⟩ := id B
  have hown : s.vm.findClass "FormulaSheet$OverRange" = some m.cls := hown
  have hS := hw.S
  have hl := lv_entry ([.ref a0]) (n := 1) (Nat.le_of_ble_eq_true rfl)
  rw [lg_entry_eq]
  generalize (lg_sl ([.ref a0]) ++ List.replicate (1 - (lg_sl ([.ref a0])).length) Slot.unset).toArray = ls at hl ⊢
  have hl : lv_has ls 1 [(0, .ref a0)] := hl
  unfold w_OV_right at hq
  refine lv_aload_n hx hb d_OV_right_0 rfl (lv_at hl 0 rfl) ?_
  obtain ⟨fs_, a101, he_, hv_, hq⟩ := fs_gr_some hq
  refine fs_get hx hb hts hown hK c_OV hP he_ 1 (by decide) (hts _ (fs_tb_at 798 tw_798 rfl)) (fun _ h9 => h9) hv_ d_OV_right_1 ?_
  obtain ⟨fs_, x102, he_, hv_, hq⟩ := fs_gi_some hq
  refine fs_get hx hb hts hown hK c_RE hP he_ 2 (by decide) (hts _ (fs_tb_at 704 tw_704 rfl)) (fun _ h9 => h9) hv_ d_OV_right_4 ?_
  refine lv_aload_n hx hb d_OV_right_7 rfl (lv_at hl 0 rfl) ?_
  obtain ⟨fs_, a103, he_, hv_, hq⟩ := fs_gr_some hq
  refine fs_get hx hb hts hown hK c_OV hP he_ 2 (by decide) (hts _ (fs_tb_at 799 tw_799 rfl)) (fun _ h9 => h9) hv_ d_OV_right_8 ?_
  obtain ⟨fs_, x104, he_, hv_, hq⟩ := fs_gi_some hq
  refine fs_get hx hb hts hown hK c_RE hP he_ 2 (by decide) (hts _ (fs_tb_at 704 tw_704 rfl)) (fun _ h9 => h9) hv_ d_OV_right_11 ?_
  refine va_mmax hx hb (by rw [hml]; exact hl.1.symm) hown (hts _ (fs_tb_at 313 tw_313 rfl)) (hts _ (fs_tb_at 314 tw_314 rfl)) (hts _ (fs_tb_at 108 tw_108 rfl)) (hts _ (fs_tb_at 315 tw_315 rfl)) (by omega) (fs_lc (k := 0) rfl (by omega)) (Nat.zero_le _) (Nat.zero_le _) d_OV_right_14 ?_
  exact fs_iret hx hb hr hlocks hw hP hS (vp_nar_int _) (Nat.le_refl _) (Nat.le_refl _) hq d_OV_right_17
def w_OV_top (E : fs_E) (h : fs_Hp) (a0 : Nat) (Post : fs_Ps) : Prop := fs_gr h a0 9 1 (fun a101 => fs_gi h a101 5 3 (fun x102 => fs_gr h a0 9 2 (fun a103 => fs_gi h a103 5 3 (fun x104 => Post (.inl (some (.int (if x104 < x102 then x104 else x102)))) h))))
set_option maxHeartbeats 4000000 in
set_option maxRecDepth 100000 in
theorem kw_OV_top {l : Launch} {s00 : State} {E : fs_E} (hE : fs_SE l s00 E) {h : fs_Hp} {a0 : Nat} {Post : fs_Ps} (hq : w_OV_top E h a0 Post) : fs_Ct l s00 E.1 y_OV_top (.code y_OV_top b_OV_top 1 (some .int)) { frames := 1, cells := 0, slots := 0, locals := 13 } [.ref a0] h Post := by
  refine fs_Ct.ofR hE.1 (by decide) ?_
  intro p e R s m below meth c hRf hRl hRc hRs B hout hP
  skip
  obtain ⟨hx, hb, hr, hml, hown, hts, hlocks, hname, hK, hw, htr⟩ := id B
  have hown : s.vm.findClass "FormulaSheet$OverRange" = some m.cls := hown
  have hS := hw.S
  have hl := lv_entry ([.ref a0]) (n := 1) (Nat.le_of_ble_eq_true rfl)
  rw [lg_entry_eq]
  generalize (lg_sl ([.ref a0]) ++ List.replicate (1 - (lg_sl ([.ref a0])).length) Slot.unset).toArray = ls at hl ⊢
  have hl : lv_has ls 1 [(0, .ref a0)] := hl
  unfold w_OV_top at hq
  refine lv_aload_n hx hb d_OV_top_0 rfl (lv_at hl 0 rfl) ?_
  obtain ⟨fs_, a101, he_, hv_, hq⟩ := fs_gr_some hq
  refine fs_get hx hb hts hown hK c_OV hP he_ 1 (by decide) (hts _ (fs_tb_at 798 tw_798 rfl)) (fun _ h9 => h9) hv_ d_OV_top_1 ?_
  obtain ⟨fs_, x102, he_, hv_, hq⟩ := fs_gi_some hq
  refine fs_get hx hb hts hown hK c_RE hP he_ 3 (by decide) (hts _ (fs_tb_at 706 tw_706 rfl)) (fun _ h9 => h9) hv_ d_OV_top_4 ?_
  refine lv_aload_n hx hb d_OV_top_7 rfl (lv_at hl 0 rfl) ?_
  obtain ⟨fs_, a103, he_, hv_, hq⟩ := fs_gr_some hq
  refine fs_get hx hb hts hown hK c_OV hP he_ 2 (by decide) (hts _ (fs_tb_at 799 tw_799 rfl)) (fun _ h9 => h9) hv_ d_OV_top_8 ?_
  obtain ⟨fs_, x104, he_, hv_, hq⟩ := fs_gi_some hq
  refine fs_get hx hb hts hown hK c_RE hP he_ 3 (by decide) (hts _ (fs_tb_at 706 tw_706 rfl)) (fun _ h9 => h9) hv_ d_OV_top_11 ?_
  refine va_mmin hx hb (by rw [hml]; exact hl.1.symm) hown (hts _ (fs_tb_at 306 tw_306 rfl)) (hts _ (fs_tb_at 307 tw_307 rfl)) (hts _ (fs_tb_at 108 tw_108 rfl)) (hts _ (fs_tb_at 308 tw_308 rfl)) (by omega) (fs_lc (k := 0) rfl (by omega)) (Nat.zero_le _) (Nat.zero_le _) d_OV_top_14 ?_
  exact fs_iret hx hb hr hlocks hw hP hS (vp_nar_int _) (Nat.le_refl _) (Nat.le_refl _) hq d_OV_top_17
def w_OV_bottom (E : fs_E) (h : fs_Hp) (a0 : Nat) (Post : fs_Ps) : Prop := fs_gr h a0 9 1 (fun a101 => fs_gi h a101 5 3 (fun x102 => fs_gr h a0 9 2 (fun a103 => fs_gi h a103 5 3 (fun x104 => Post (.inl (some (.int (if x102 < x104 then x104 else x102)))) h))))
set_option maxHeartbeats 4000000 in
set_option maxRecDepth 100000 in
theorem kw_OV_bottom {l : Launch} {s00 : State} {E : fs_E} (hE : fs_SE l s00 E) {h : fs_Hp} {a0 : Nat} {Post : fs_Ps} (hq : w_OV_bottom E h a0 Post) : fs_Ct l s00 E.1 y_OV_bottom (.code y_OV_bottom b_OV_bottom 1 (some .int)) { frames := 1, cells := 0, slots := 0, locals := 13 } [.ref a0] h Post := by
  refine fs_Ct.ofR hE.1 (by decide) ?_
  intro p e R s m below meth c hRf hRl hRc hRs B hout hP
  skip
  obtain ⟨hx, hb, hr, hml, hown, hts, hlocks, hname, hK, hw, htr⟩ := id B
  have hown : s.vm.findClass "FormulaSheet$OverRange" = some m.cls := hown
  have hS := hw.S
  have hl := lv_entry ([.ref a0]) (n := 1) (Nat.le_of_ble_eq_true rfl)
  rw [lg_entry_eq]
  generalize (lg_sl ([.ref a0]) ++ List.replicate (1 - (lg_sl ([.ref a0])).length) Slot.unset).toArray = ls at hl ⊢
  have hl : lv_has ls 1 [(0, .ref a0)] := hl
  unfold w_OV_bottom at hq
  refine lv_aload_n hx hb d_OV_bottom_0 rfl (lv_at hl 0 rfl) ?_
  obtain ⟨fs_, a101, he_, hv_, hq⟩ := fs_gr_some hq
  refine fs_get hx hb hts hown hK c_OV hP he_ 1 (by decide) (hts _ (fs_tb_at 798 tw_798 rfl)) (fun _ h9 => h9) hv_ d_OV_bottom_1 ?_
  obtain ⟨fs_, x102, he_, hv_, hq⟩ := fs_gi_some hq
  refine fs_get hx hb hts hown hK c_RE hP he_ 3 (by decide) (hts _ (fs_tb_at 706 tw_706 rfl)) (fun _ h9 => h9) hv_ d_OV_bottom_4 ?_
  refine lv_aload_n hx hb d_OV_bottom_7 rfl (lv_at hl 0 rfl) ?_
  obtain ⟨fs_, a103, he_, hv_, hq⟩ := fs_gr_some hq
  refine fs_get hx hb hts hown hK c_OV hP he_ 2 (by decide) (hts _ (fs_tb_at 799 tw_799 rfl)) (fun _ h9 => h9) hv_ d_OV_bottom_8 ?_
  obtain ⟨fs_, x104, he_, hv_, hq⟩ := fs_gi_some hq
  refine fs_get hx hb hts hown hK c_RE hP he_ 3 (by decide) (hts _ (fs_tb_at 706 tw_706 rfl)) (fun _ h9 => h9) hv_ d_OV_bottom_11 ?_
  refine va_mmax hx hb (by rw [hml]; exact hl.1.symm) hown (hts _ (fs_tb_at 313 tw_313 rfl)) (hts _ (fs_tb_at 314 tw_314 rfl)) (hts _ (fs_tb_at 108 tw_108 rfl)) (hts _ (fs_tb_at 315 tw_315 rfl)) (by omega) (fs_lc (k := 0) rfl (by omega)) (Nat.zero_le _) (Nat.zero_le _) d_OV_bottom_14 ?_
  exact fs_iret hx hb hr hlocks hw hP hS (vp_nar_int _) (Nat.le_refl _) (Nat.le_refl _) hq d_OV_bottom_17
