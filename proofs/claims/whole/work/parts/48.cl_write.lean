/-! Parts: how they are written. -/
abbrev b_PT_write : ByteArray := prog_10_method_5_code
def y_PT_write : MethodName := ⟨"FormulaSheet$Part", "write", "(Ljava/lang/StringBuilder;I)V"⟩
theorem d_PT_write_0 : decode b_PT_write 0 = .ok (.aload_n 0, 1) := by decide +kernel
theorem d_PT_write_1 : decode b_PT_write 1 = .ok (.invokevirtual 13, 3) := by decide +kernel
theorem d_PT_write_4 : decode b_PT_write 4 = .ok (.iload_n 2, 1) := by decide +kernel
theorem d_PT_write_5 : decode b_PT_write 5 = .ok (.if_icmp .ge 7, 3) := by decide +kernel
theorem d_PT_write_8 : decode b_PT_write 8 = .ok (.iconst 1, 1) := by decide +kernel
theorem d_PT_write_9 : decode b_PT_write 9 = .ok (.goto 4, 3) := by decide +kernel
theorem d_PT_write_12 : decode b_PT_write 12 = .ok (.iconst 0, 1) := by decide +kernel
theorem d_PT_write_13 : decode b_PT_write 13 = .ok (.istore_n 3, 1) := by decide +kernel
theorem d_PT_write_14 : decode b_PT_write 14 = .ok (.iload_n 3, 1) := by decide +kernel
theorem d_PT_write_15 : decode b_PT_write 15 = .ok (.ifCond .eq 10, 3) := by decide +kernel
theorem d_PT_write_18 : decode b_PT_write 18 = .ok (.aload_n 1, 1) := by decide +kernel
theorem d_PT_write_19 : decode b_PT_write 19 = .ok (.bipush 40, 2) := by decide +kernel
theorem d_PT_write_21 : decode b_PT_write 21 = .ok (.invokevirtual 17, 3) := by decide +kernel
theorem d_PT_write_24 : decode b_PT_write 24 = .ok (.pop, 1) := by decide +kernel
theorem d_PT_write_25 : decode b_PT_write 25 = .ok (.aload_n 0, 1) := by decide +kernel
theorem d_PT_write_26 : decode b_PT_write 26 = .ok (.aload_n 1, 1) := by decide +kernel
theorem d_PT_write_27 : decode b_PT_write 27 = .ok (.invokevirtual 23, 3) := by decide +kernel
theorem d_PT_write_30 : decode b_PT_write 30 = .ok (.iload_n 3, 1) := by decide +kernel
theorem d_PT_write_31 : decode b_PT_write 31 = .ok (.ifCond .eq 10, 3) := by decide +kernel
theorem d_PT_write_34 : decode b_PT_write 34 = .ok (.aload_n 1, 1) := by decide +kernel
theorem d_PT_write_35 : decode b_PT_write 35 = .ok (.bipush 41, 2) := by decide +kernel
theorem d_PT_write_37 : decode b_PT_write 37 = .ok (.invokevirtual 17, 3) := by decide +kernel
theorem d_PT_write_40 : decode b_PT_write 40 = .ok (.pop, 1) := by decide +kernel
theorem d_PT_write_41 : decode b_PT_write 41 = .ok (.return_, 1) := by decide +kernel
def y_PT_writeBare : MethodName := ⟨"FormulaSheet$Part", "writeBare", "(Ljava/lang/StringBuilder;)V"⟩
def y_RE_write : MethodName := ⟨"FormulaSheet$Reference", "write", "(Ljava/lang/StringBuilder;I)V"⟩
abbrev b_NU_writeBare : ByteArray := prog_7_method_4_code
def y_NU_writeBare : MethodName := ⟨"FormulaSheet$Numeral", "writeBare", "(Ljava/lang/StringBuilder;)V"⟩
theorem d_NU_writeBare_0 : decode b_NU_writeBare 0 = .ok (.aload_n 0, 1) := by decide +kernel
theorem d_NU_writeBare_1 : decode b_NU_writeBare 1 = .ok (.invokevirtual 19, 3) := by decide +kernel
theorem d_NU_writeBare_4 : decode b_NU_writeBare 4 = .ok (.lstore_n 2, 1) := by decide +kernel
theorem d_NU_writeBare_5 : decode b_NU_writeBare 5 = .ok (.aload_n 1, 1) := by decide +kernel
theorem d_NU_writeBare_6 : decode b_NU_writeBare 6 = .ok (.aload_n 0, 1) := by decide +kernel
theorem d_NU_writeBare_7 : decode b_NU_writeBare 7 = .ok (.getfield 9, 3) := by decide +kernel
theorem d_NU_writeBare_10 : decode b_NU_writeBare 10 = .ok (.lload_n 2, 1) := by decide +kernel
theorem d_NU_writeBare_11 : decode b_NU_writeBare 11 = .ok (.ldiv, 1) := by decide +kernel
theorem d_NU_writeBare_12 : decode b_NU_writeBare 12 = .ok (.l2i, 1) := by decide +kernel
theorem d_NU_writeBare_13 : decode b_NU_writeBare 13 = .ok (.invokevirtual 23, 3) := by decide +kernel
theorem d_NU_writeBare_16 : decode b_NU_writeBare 16 = .ok (.pop, 1) := by decide +kernel
theorem d_NU_writeBare_17 : decode b_NU_writeBare 17 = .ok (.aload_n 0, 1) := by decide +kernel
theorem d_NU_writeBare_18 : decode b_NU_writeBare 18 = .ok (.getfield 15, 3) := by decide +kernel
theorem d_NU_writeBare_21 : decode b_NU_writeBare 21 = .ok (.ifCond .le 10, 3) := by decide +kernel
theorem d_NU_writeBare_24 : decode b_NU_writeBare 24 = .ok (.aload_n 1, 1) := by decide +kernel
theorem d_NU_writeBare_25 : decode b_NU_writeBare 25 = .ok (.bipush 46, 2) := by decide +kernel
theorem d_NU_writeBare_27 : decode b_NU_writeBare 27 = .ok (.invokevirtual 29, 3) := by decide +kernel
theorem d_NU_writeBare_30 : decode b_NU_writeBare 30 = .ok (.pop, 1) := by decide +kernel
theorem d_NU_writeBare_31 : decode b_NU_writeBare 31 = .ok (.aload_n 0, 1) := by decide +kernel
theorem d_NU_writeBare_32 : decode b_NU_writeBare 32 = .ok (.getfield 9, 3) := by decide +kernel
theorem d_NU_writeBare_35 : decode b_NU_writeBare 35 = .ok (.lload_n 2, 1) := by decide +kernel
theorem d_NU_writeBare_36 : decode b_NU_writeBare 36 = .ok (.lrem, 1) := by decide +kernel
theorem d_NU_writeBare_37 : decode b_NU_writeBare 37 = .ok (.lstore 4, 2) := by decide +kernel
theorem d_NU_writeBare_39 : decode b_NU_writeBare 39 = .ok (.iconst 0, 1) := by decide +kernel
theorem d_NU_writeBare_40 : decode b_NU_writeBare 40 = .ok (.istore 6, 2) := by decide +kernel
theorem d_NU_writeBare_42 : decode b_NU_writeBare 42 = .ok (.iload 6, 2) := by decide +kernel
theorem d_NU_writeBare_44 : decode b_NU_writeBare 44 = .ok (.aload_n 0, 1) := by decide +kernel
theorem d_NU_writeBare_45 : decode b_NU_writeBare 45 = .ok (.getfield 15, 3) := by decide +kernel
theorem d_NU_writeBare_48 : decode b_NU_writeBare 48 = .ok (.if_icmp .ge 38, 3) := by decide +kernel
theorem d_NU_writeBare_51 : decode b_NU_writeBare 51 = .ok (.lload 4, 2) := by decide +kernel
theorem d_NU_writeBare_53 : decode b_NU_writeBare 53 = .ok (.ldc2_w 32, 3) := by decide +kernel
theorem d_NU_writeBare_56 : decode b_NU_writeBare 56 = .ok (.lmul, 1) := by decide +kernel
theorem d_NU_writeBare_57 : decode b_NU_writeBare 57 = .ok (.lstore 4, 2) := by decide +kernel
theorem d_NU_writeBare_59 : decode b_NU_writeBare 59 = .ok (.aload_n 1, 1) := by decide +kernel
theorem d_NU_writeBare_60 : decode b_NU_writeBare 60 = .ok (.ldc2_w 34, 3) := by decide +kernel
theorem d_NU_writeBare_63 : decode b_NU_writeBare 63 = .ok (.lload 4, 2) := by decide +kernel
theorem d_NU_writeBare_65 : decode b_NU_writeBare 65 = .ok (.lload_n 2, 1) := by decide +kernel
theorem d_NU_writeBare_66 : decode b_NU_writeBare 66 = .ok (.ldiv, 1) := by decide +kernel
theorem d_NU_writeBare_67 : decode b_NU_writeBare 67 = .ok (.ladd, 1) := by decide +kernel
theorem d_NU_writeBare_68 : decode b_NU_writeBare 68 = .ok (.l2i, 1) := by decide +kernel
theorem d_NU_writeBare_69 : decode b_NU_writeBare 69 = .ok (.i2c, 1) := by decide +kernel
theorem d_NU_writeBare_70 : decode b_NU_writeBare 70 = .ok (.invokevirtual 29, 3) := by decide +kernel
theorem d_NU_writeBare_73 : decode b_NU_writeBare 73 = .ok (.pop, 1) := by decide +kernel
theorem d_NU_writeBare_74 : decode b_NU_writeBare 74 = .ok (.lload 4, 2) := by decide +kernel
theorem d_NU_writeBare_76 : decode b_NU_writeBare 76 = .ok (.lload_n 2, 1) := by decide +kernel
theorem d_NU_writeBare_77 : decode b_NU_writeBare 77 = .ok (.lrem, 1) := by decide +kernel
theorem d_NU_writeBare_78 : decode b_NU_writeBare 78 = .ok (.lstore 4, 2) := by decide +kernel
theorem d_NU_writeBare_80 : decode b_NU_writeBare 80 = .ok (.iinc 6 1, 3) := by decide +kernel
theorem d_NU_writeBare_83 : decode b_NU_writeBare 83 = .ok (.goto (-41), 3) := by decide +kernel
theorem d_NU_writeBare_86 : decode b_NU_writeBare 86 = .ok (.return_, 1) := by decide +kernel
abbrev b_RE_writeBare : ByteArray := prog_11_method_11_code
def y_RE_writeBare : MethodName := ⟨"FormulaSheet$Reference", "writeBare", "(Ljava/lang/StringBuilder;)V"⟩
theorem d_RE_writeBare_0 : decode b_RE_writeBare 0 = .ok (.aload_n 0, 1) := by decide +kernel
theorem d_RE_writeBare_1 : decode b_RE_writeBare 1 = .ok (.getfield 32, 3) := by decide +kernel
theorem d_RE_writeBare_4 : decode b_RE_writeBare 4 = .ok (.ifCond .eq 11, 3) := by decide +kernel
theorem d_RE_writeBare_7 : decode b_RE_writeBare 7 = .ok (.aload_n 1, 1) := by decide +kernel
theorem d_RE_writeBare_8 : decode b_RE_writeBare 8 = .ok (.bipush 126, 2) := by decide +kernel
theorem d_RE_writeBare_10 : decode b_RE_writeBare 10 = .ok (.invokevirtual 61, 3) := by decide +kernel
theorem d_RE_writeBare_13 : decode b_RE_writeBare 13 = .ok (.pop, 1) := by decide +kernel
theorem d_RE_writeBare_14 : decode b_RE_writeBare 14 = .ok (.return_, 1) := by decide +kernel
theorem d_RE_writeBare_15 : decode b_RE_writeBare 15 = .ok (.aload_n 0, 1) := by decide +kernel
theorem d_RE_writeBare_16 : decode b_RE_writeBare 16 = .ok (.getfield 9, 3) := by decide +kernel
theorem d_RE_writeBare_19 : decode b_RE_writeBare 19 = .ok (.ifCond .eq 10, 3) := by decide +kernel
theorem d_RE_writeBare_22 : decode b_RE_writeBare 22 = .ok (.aload_n 1, 1) := by decide +kernel
theorem d_RE_writeBare_23 : decode b_RE_writeBare 23 = .ok (.bipush 36, 2) := by decide +kernel
theorem d_RE_writeBare_25 : decode b_RE_writeBare 25 = .ok (.invokevirtual 61, 3) := by decide +kernel
theorem d_RE_writeBare_28 : decode b_RE_writeBare 28 = .ok (.pop, 1) := by decide +kernel
theorem d_RE_writeBare_29 : decode b_RE_writeBare 29 = .ok (.aload_n 1, 1) := by decide +kernel
theorem d_RE_writeBare_30 : decode b_RE_writeBare 30 = .ok (.bipush 97, 2) := by decide +kernel
theorem d_RE_writeBare_32 : decode b_RE_writeBare 32 = .ok (.aload_n 0, 1) := by decide +kernel
theorem d_RE_writeBare_33 : decode b_RE_writeBare 33 = .ok (.getfield 15, 3) := by decide +kernel
theorem d_RE_writeBare_36 : decode b_RE_writeBare 36 = .ok (.iadd, 1) := by decide +kernel
theorem d_RE_writeBare_37 : decode b_RE_writeBare 37 = .ok (.i2c, 1) := by decide +kernel
theorem d_RE_writeBare_38 : decode b_RE_writeBare 38 = .ok (.invokevirtual 61, 3) := by decide +kernel
theorem d_RE_writeBare_41 : decode b_RE_writeBare 41 = .ok (.pop, 1) := by decide +kernel
theorem d_RE_writeBare_42 : decode b_RE_writeBare 42 = .ok (.aload_n 0, 1) := by decide +kernel
theorem d_RE_writeBare_43 : decode b_RE_writeBare 43 = .ok (.getfield 19, 3) := by decide +kernel
theorem d_RE_writeBare_46 : decode b_RE_writeBare 46 = .ok (.ifCond .eq 10, 3) := by decide +kernel
theorem d_RE_writeBare_49 : decode b_RE_writeBare 49 = .ok (.aload_n 1, 1) := by decide +kernel
theorem d_RE_writeBare_50 : decode b_RE_writeBare 50 = .ok (.bipush 36, 2) := by decide +kernel
theorem d_RE_writeBare_52 : decode b_RE_writeBare 52 = .ok (.invokevirtual 61, 3) := by decide +kernel
theorem d_RE_writeBare_55 : decode b_RE_writeBare 55 = .ok (.pop, 1) := by decide +kernel
theorem d_RE_writeBare_56 : decode b_RE_writeBare 56 = .ok (.aload_n 1, 1) := by decide +kernel
theorem d_RE_writeBare_57 : decode b_RE_writeBare 57 = .ok (.aload_n 0, 1) := by decide +kernel
theorem d_RE_writeBare_58 : decode b_RE_writeBare 58 = .ok (.getfield 22, 3) := by decide +kernel
theorem d_RE_writeBare_61 : decode b_RE_writeBare 61 = .ok (.iconst 1, 1) := by decide +kernel
theorem d_RE_writeBare_62 : decode b_RE_writeBare 62 = .ok (.iadd, 1) := by decide +kernel
theorem d_RE_writeBare_63 : decode b_RE_writeBare 63 = .ok (.invokevirtual 67, 3) := by decide +kernel
theorem d_RE_writeBare_66 : decode b_RE_writeBare 66 = .ok (.pop, 1) := by decide +kernel
theorem d_RE_writeBare_67 : decode b_RE_writeBare 67 = .ok (.return_, 1) := by decide +kernel
abbrev b_SI_writeBare : ByteArray := prog_12_method_5_code
def y_SI_writeBare : MethodName := ⟨"FormulaSheet$Single", "writeBare", "(Ljava/lang/StringBuilder;)V"⟩
theorem d_SI_writeBare_0 : decode b_SI_writeBare 0 = .ok (.aload_n 1, 1) := by decide +kernel
theorem d_SI_writeBare_1 : decode b_SI_writeBare 1 = .ok (.aload_n 0, 1) := by decide +kernel
theorem d_SI_writeBare_2 : decode b_SI_writeBare 2 = .ok (.getfield 9, 3) := by decide +kernel
theorem d_SI_writeBare_5 : decode b_SI_writeBare 5 = .ok (.invokevirtual 35, 3) := by decide +kernel
theorem d_SI_writeBare_8 : decode b_SI_writeBare 8 = .ok (.pop, 1) := by decide +kernel
theorem d_SI_writeBare_9 : decode b_SI_writeBare 9 = .ok (.aload_n 0, 1) := by decide +kernel
theorem d_SI_writeBare_10 : decode b_SI_writeBare 10 = .ok (.getfield 18, 3) := by decide +kernel
theorem d_SI_writeBare_13 : decode b_SI_writeBare 13 = .ok (.iconst 0, 1) := by decide +kernel
theorem d_SI_writeBare_14 : decode b_SI_writeBare 14 = .ok (.aaload, 1) := by decide +kernel
theorem d_SI_writeBare_15 : decode b_SI_writeBare 15 = .ok (.aload_n 1, 1) := by decide +kernel
theorem d_SI_writeBare_16 : decode b_SI_writeBare 16 = .ok (.aload_n 0, 1) := by decide +kernel
theorem d_SI_writeBare_17 : decode b_SI_writeBare 17 = .ok (.getfield 9, 3) := by decide +kernel
theorem d_SI_writeBare_20 : decode b_SI_writeBare 20 = .ok (.bipush 45, 2) := by decide +kernel
theorem d_SI_writeBare_22 : decode b_SI_writeBare 22 = .ok (.if_icmp .ne 7, 3) := by decide +kernel
theorem d_SI_writeBare_25 : decode b_SI_writeBare 25 = .ok (.iconst 5, 1) := by decide +kernel
theorem d_SI_writeBare_26 : decode b_SI_writeBare 26 = .ok (.goto 4, 3) := by decide +kernel
theorem d_SI_writeBare_29 : decode b_SI_writeBare 29 = .ok (.iconst 2, 1) := by decide +kernel
theorem d_SI_writeBare_30 : decode b_SI_writeBare 30 = .ok (.invokevirtual 41, 3) := by decide +kernel
theorem d_SI_writeBare_33 : decode b_SI_writeBare 33 = .ok (.return_, 1) := by decide +kernel
abbrev b_PA_writeBare : ByteArray := prog_9_method_6_code
def y_PA_writeBare : MethodName := ⟨"FormulaSheet$Pair", "writeBare", "(Ljava/lang/StringBuilder;)V"⟩
theorem d_PA_writeBare_0 : decode b_PA_writeBare 0 = .ok (.aload_n 0, 1) := by decide +kernel
theorem d_PA_writeBare_1 : decode b_PA_writeBare 1 = .ok (.invokevirtual 26, 3) := by decide +kernel
theorem d_PA_writeBare_4 : decode b_PA_writeBare 4 = .ok (.istore_n 2, 1) := by decide +kernel
theorem d_PA_writeBare_5 : decode b_PA_writeBare 5 = .ok (.aload_n 0, 1) := by decide +kernel
theorem d_PA_writeBare_6 : decode b_PA_writeBare 6 = .ok (.getfield 18, 3) := by decide +kernel
theorem d_PA_writeBare_9 : decode b_PA_writeBare 9 = .ok (.iconst 0, 1) := by decide +kernel
theorem d_PA_writeBare_10 : decode b_PA_writeBare 10 = .ok (.aaload, 1) := by decide +kernel
theorem d_PA_writeBare_11 : decode b_PA_writeBare 11 = .ok (.aload_n 1, 1) := by decide +kernel
theorem d_PA_writeBare_12 : decode b_PA_writeBare 12 = .ok (.iload_n 2, 1) := by decide +kernel
theorem d_PA_writeBare_13 : decode b_PA_writeBare 13 = .ok (.iconst 1, 1) := by decide +kernel
theorem d_PA_writeBare_14 : decode b_PA_writeBare 14 = .ok (.if_icmp .ne 7, 3) := by decide +kernel
theorem d_PA_writeBare_17 : decode b_PA_writeBare 17 = .ok (.iconst 2, 1) := by decide +kernel
theorem d_PA_writeBare_18 : decode b_PA_writeBare 18 = .ok (.goto 4, 3) := by decide +kernel
theorem d_PA_writeBare_21 : decode b_PA_writeBare 21 = .ok (.iload_n 2, 1) := by decide +kernel
theorem d_PA_writeBare_22 : decode b_PA_writeBare 22 = .ok (.invokevirtual 44, 3) := by decide +kernel
theorem d_PA_writeBare_25 : decode b_PA_writeBare 25 = .ok (.aload_n 1, 1) := by decide +kernel
theorem d_PA_writeBare_26 : decode b_PA_writeBare 26 = .ok (.aload_n 0, 1) := by decide +kernel
theorem d_PA_writeBare_27 : decode b_PA_writeBare 27 = .ok (.getfield 9, 3) := by decide +kernel
theorem d_PA_writeBare_30 : decode b_PA_writeBare 30 = .ok (.invokevirtual 48, 3) := by decide +kernel
theorem d_PA_writeBare_33 : decode b_PA_writeBare 33 = .ok (.pop, 1) := by decide +kernel
theorem d_PA_writeBare_34 : decode b_PA_writeBare 34 = .ok (.aload_n 0, 1) := by decide +kernel
theorem d_PA_writeBare_35 : decode b_PA_writeBare 35 = .ok (.getfield 18, 3) := by decide +kernel
theorem d_PA_writeBare_38 : decode b_PA_writeBare 38 = .ok (.iconst 1, 1) := by decide +kernel
theorem d_PA_writeBare_39 : decode b_PA_writeBare 39 = .ok (.aaload, 1) := by decide +kernel
theorem d_PA_writeBare_40 : decode b_PA_writeBare 40 = .ok (.aload_n 1, 1) := by decide +kernel
theorem d_PA_writeBare_41 : decode b_PA_writeBare 41 = .ok (.iload_n 2, 1) := by decide +kernel
theorem d_PA_writeBare_42 : decode b_PA_writeBare 42 = .ok (.iconst 1, 1) := by decide +kernel
theorem d_PA_writeBare_43 : decode b_PA_writeBare 43 = .ok (.iadd, 1) := by decide +kernel
theorem d_PA_writeBare_44 : decode b_PA_writeBare 44 = .ok (.invokevirtual 44, 3) := by decide +kernel
theorem d_PA_writeBare_47 : decode b_PA_writeBare 47 = .ok (.return_, 1) := by decide +kernel
abbrev b_CA_writeBare : ByteArray := prog_2_method_5_code
def y_CA_writeBare : MethodName := ⟨"FormulaSheet$Call", "writeBare", "(Ljava/lang/StringBuilder;)V"⟩
theorem d_CA_writeBare_0 : decode b_CA_writeBare 0 = .ok (.aload_n 1, 1) := by decide +kernel
theorem d_CA_writeBare_1 : decode b_CA_writeBare 1 = .ok (.bipush 64, 2) := by decide +kernel
theorem d_CA_writeBare_3 : decode b_CA_writeBare 3 = .ok (.invokevirtual 40, 3) := by decide +kernel
theorem d_CA_writeBare_6 : decode b_CA_writeBare 6 = .ok (.pop, 1) := by decide +kernel
theorem d_CA_writeBare_7 : decode b_CA_writeBare 7 = .ok (.aload_n 1, 1) := by decide +kernel
theorem d_CA_writeBare_8 : decode b_CA_writeBare 8 = .ok (.aload_n 0, 1) := by decide +kernel
theorem d_CA_writeBare_9 : decode b_CA_writeBare 9 = .ok (.getfield 9, 3) := by decide +kernel
theorem d_CA_writeBare_12 : decode b_CA_writeBare 12 = .ok (.getfield 46, 3) := by decide +kernel
theorem d_CA_writeBare_15 : decode b_CA_writeBare 15 = .ok (.invokevirtual 50, 3) := by decide +kernel
theorem d_CA_writeBare_18 : decode b_CA_writeBare 18 = .ok (.pop, 1) := by decide +kernel
theorem d_CA_writeBare_19 : decode b_CA_writeBare 19 = .ok (.iconst 0, 1) := by decide +kernel
theorem d_CA_writeBare_20 : decode b_CA_writeBare 20 = .ok (.istore_n 2, 1) := by decide +kernel
theorem d_CA_writeBare_21 : decode b_CA_writeBare 21 = .ok (.iload_n 2, 1) := by decide +kernel
theorem d_CA_writeBare_22 : decode b_CA_writeBare 22 = .ok (.aload_n 0, 1) := by decide +kernel
theorem d_CA_writeBare_23 : decode b_CA_writeBare 23 = .ok (.getfield 18, 3) := by decide +kernel
theorem d_CA_writeBare_26 : decode b_CA_writeBare 26 = .ok (.arraylength, 1) := by decide +kernel
theorem d_CA_writeBare_27 : decode b_CA_writeBare 27 = .ok (.if_icmp .ge 31, 3) := by decide +kernel
theorem d_CA_writeBare_30 : decode b_CA_writeBare 30 = .ok (.iload_n 2, 1) := by decide +kernel
theorem d_CA_writeBare_31 : decode b_CA_writeBare 31 = .ok (.ifCond .le 10, 3) := by decide +kernel
theorem d_CA_writeBare_34 : decode b_CA_writeBare 34 = .ok (.aload_n 1, 1) := by decide +kernel
theorem d_CA_writeBare_35 : decode b_CA_writeBare 35 = .ok (.bipush 44, 2) := by decide +kernel
theorem d_CA_writeBare_37 : decode b_CA_writeBare 37 = .ok (.invokevirtual 40, 3) := by decide +kernel
theorem d_CA_writeBare_40 : decode b_CA_writeBare 40 = .ok (.pop, 1) := by decide +kernel
theorem d_CA_writeBare_41 : decode b_CA_writeBare 41 = .ok (.aload_n 0, 1) := by decide +kernel
theorem d_CA_writeBare_42 : decode b_CA_writeBare 42 = .ok (.getfield 18, 3) := by decide +kernel
theorem d_CA_writeBare_45 : decode b_CA_writeBare 45 = .ok (.iload_n 2, 1) := by decide +kernel
theorem d_CA_writeBare_46 : decode b_CA_writeBare 46 = .ok (.aaload, 1) := by decide +kernel
theorem d_CA_writeBare_47 : decode b_CA_writeBare 47 = .ok (.aload_n 1, 1) := by decide +kernel
theorem d_CA_writeBare_48 : decode b_CA_writeBare 48 = .ok (.iconst 0, 1) := by decide +kernel
theorem d_CA_writeBare_49 : decode b_CA_writeBare 49 = .ok (.invokevirtual 53, 3) := by decide +kernel
theorem d_CA_writeBare_52 : decode b_CA_writeBare 52 = .ok (.iinc 2 1, 3) := by decide +kernel
theorem d_CA_writeBare_55 : decode b_CA_writeBare 55 = .ok (.goto (-34), 3) := by decide +kernel
theorem d_CA_writeBare_58 : decode b_CA_writeBare 58 = .ok (.aload_n 1, 1) := by decide +kernel
theorem d_CA_writeBare_59 : decode b_CA_writeBare 59 = .ok (.bipush 41, 2) := by decide +kernel
theorem d_CA_writeBare_61 : decode b_CA_writeBare 61 = .ok (.invokevirtual 40, 3) := by decide +kernel
theorem d_CA_writeBare_64 : decode b_CA_writeBare 64 = .ok (.pop, 1) := by decide +kernel
theorem d_CA_writeBare_65 : decode b_CA_writeBare 65 = .ok (.return_, 1) := by decide +kernel
abbrev b_OV_writeBare : ByteArray := prog_8_method_17_code
def y_OV_writeBare : MethodName := ⟨"FormulaSheet$OverRange", "writeBare", "(Ljava/lang/StringBuilder;)V"⟩
theorem d_OV_writeBare_0 : decode b_OV_writeBare 0 = .ok (.aload_n 1, 1) := by decide +kernel
theorem d_OV_writeBare_1 : decode b_OV_writeBare 1 = .ok (.bipush 64, 2) := by decide +kernel
theorem d_OV_writeBare_3 : decode b_OV_writeBare 3 = .ok (.invokevirtual 132, 3) := by decide +kernel
theorem d_OV_writeBare_6 : decode b_OV_writeBare 6 = .ok (.pop, 1) := by decide +kernel
theorem d_OV_writeBare_7 : decode b_OV_writeBare 7 = .ok (.aload_n 1, 1) := by decide +kernel
theorem d_OV_writeBare_8 : decode b_OV_writeBare 8 = .ok (.aload_n 0, 1) := by decide +kernel
theorem d_OV_writeBare_9 : decode b_OV_writeBare 9 = .ok (.getfield 9, 3) := by decide +kernel
theorem d_OV_writeBare_12 : decode b_OV_writeBare 12 = .ok (.getfield 138, 3) := by decide +kernel
theorem d_OV_writeBare_15 : decode b_OV_writeBare 15 = .ok (.invokevirtual 142, 3) := by decide +kernel
theorem d_OV_writeBare_18 : decode b_OV_writeBare 18 = .ok (.pop, 1) := by decide +kernel
theorem d_OV_writeBare_19 : decode b_OV_writeBare 19 = .ok (.aload_n 0, 1) := by decide +kernel
theorem d_OV_writeBare_20 : decode b_OV_writeBare 20 = .ok (.getfield 15, 3) := by decide +kernel
theorem d_OV_writeBare_23 : decode b_OV_writeBare 23 = .ok (.aload_n 1, 1) := by decide +kernel
theorem d_OV_writeBare_24 : decode b_OV_writeBare 24 = .ok (.iconst 5, 1) := by decide +kernel
theorem d_OV_writeBare_25 : decode b_OV_writeBare 25 = .ok (.invokevirtual 145, 3) := by decide +kernel
theorem d_OV_writeBare_28 : decode b_OV_writeBare 28 = .ok (.aload_n 1, 1) := by decide +kernel
theorem d_OV_writeBare_29 : decode b_OV_writeBare 29 = .ok (.bipush 58, 2) := by decide +kernel
theorem d_OV_writeBare_31 : decode b_OV_writeBare 31 = .ok (.invokevirtual 132, 3) := by decide +kernel
theorem d_OV_writeBare_34 : decode b_OV_writeBare 34 = .ok (.pop, 1) := by decide +kernel
theorem d_OV_writeBare_35 : decode b_OV_writeBare 35 = .ok (.aload_n 0, 1) := by decide +kernel
theorem d_OV_writeBare_36 : decode b_OV_writeBare 36 = .ok (.getfield 19, 3) := by decide +kernel
theorem d_OV_writeBare_39 : decode b_OV_writeBare 39 = .ok (.aload_n 1, 1) := by decide +kernel
theorem d_OV_writeBare_40 : decode b_OV_writeBare 40 = .ok (.iconst 5, 1) := by decide +kernel
theorem d_OV_writeBare_41 : decode b_OV_writeBare 41 = .ok (.invokevirtual 145, 3) := by decide +kernel
theorem d_OV_writeBare_44 : decode b_OV_writeBare 44 = .ok (.aload_n 1, 1) := by decide +kernel
theorem d_OV_writeBare_45 : decode b_OV_writeBare 45 = .ok (.bipush 41, 2) := by decide +kernel
theorem d_OV_writeBare_47 : decode b_OV_writeBare 47 = .ok (.invokevirtual 132, 3) := by decide +kernel
theorem d_OV_writeBare_50 : decode b_OV_writeBare 50 = .ok (.pop, 1) := by decide +kernel
theorem d_OV_writeBare_51 : decode b_OV_writeBare 51 = .ok (.return_, 1) := by decide +kernel
theorem tw_93 : lw_tbl[93]? = some (Jvm.Cond.initialized "java/lang/StringBuilder") := by decide +kernel
theorem tw_1107 : lw_tbl[1107]? = some (Jvm.Cond.instanceMethod ({ cls := "java/lang/StringBuilder", name := "append", desc := "(Ljava/lang/String;)Ljava/lang/StringBuilder;" } : Jvm.MethodName)) := by decide +kernel
theorem tw_1108 : lw_tbl[1108]? = some (Jvm.Cond.selects "java/lang/StringBuilder" ({ cls := "java/lang/StringBuilder", name := "append", desc := "(Ljava/lang/String;)Ljava/lang/StringBuilder;" } : Jvm.MethodName) ({ cls := "java/lang/StringBuilder", name := "append", desc := "(Ljava/lang/String;)Ljava/lang/StringBuilder;" } : Jvm.MethodName)) := by decide +kernel
theorem tw_1109 : lw_tbl[1109]? = some (Jvm.Cond.code ({ cls := "java/lang/StringBuilder", name := "append", desc := "(Ljava/lang/String;)Ljava/lang/StringBuilder;" } : Jvm.MethodName) prog_29_method_7_code (2 : Nat) (Option.some (Jvm.ClassFile.FieldType.object "java/lang/StringBuilder"))) := by decide +kernel
theorem tw_1204 : lw_tbl[1204]? = some (Jvm.Cond.instanceMethod ({ cls := "java/lang/StringBuilder", name := "append", desc := "(I)Ljava/lang/StringBuilder;" } : Jvm.MethodName)) := by decide +kernel
theorem tw_1205 : lw_tbl[1205]? = some (Jvm.Cond.selects "java/lang/StringBuilder" ({ cls := "java/lang/StringBuilder", name := "append", desc := "(I)Ljava/lang/StringBuilder;" } : Jvm.MethodName) ({ cls := "java/lang/StringBuilder", name := "append", desc := "(I)Ljava/lang/StringBuilder;" } : Jvm.MethodName)) := by decide +kernel
theorem tw_1206 : lw_tbl[1206]? = some (Jvm.Cond.code ({ cls := "java/lang/StringBuilder", name := "append", desc := "(I)Ljava/lang/StringBuilder;" } : Jvm.MethodName) prog_29_method_15_code (2 : Nat) (Option.some (Jvm.ClassFile.FieldType.object "java/lang/StringBuilder"))) := by decide +kernel
theorem tw_1351 : lw_tbl[1351]? = some (Jvm.Cond.instanceMethod ({ cls := "FormulaSheet$Part", name := "write", desc := "(Ljava/lang/StringBuilder;I)V" } : Jvm.MethodName)) := by decide +kernel
theorem tw_1352 : lw_tbl[1352]? = some (Jvm.Cond.sameMethod "FormulaSheet$Part" "FormulaSheet$Part" "write" "(Ljava/lang/StringBuilder;I)V") := by decide +kernel
theorem tw_1353 : lw_tbl[1353]? = some (Jvm.Cond.selects "FormulaSheet$Call" ({ cls := "FormulaSheet$Part", name := "write", desc := "(Ljava/lang/StringBuilder;I)V" } : Jvm.MethodName) ({ cls := "FormulaSheet$Part", name := "write", desc := "(Ljava/lang/StringBuilder;I)V" } : Jvm.MethodName)) := by decide +kernel
theorem tw_1354 : lw_tbl[1354]? = some (Jvm.Cond.selects "FormulaSheet$Numeral" ({ cls := "FormulaSheet$Part", name := "write", desc := "(Ljava/lang/StringBuilder;I)V" } : Jvm.MethodName) ({ cls := "FormulaSheet$Part", name := "write", desc := "(Ljava/lang/StringBuilder;I)V" } : Jvm.MethodName)) := by decide +kernel
theorem tw_1355 : lw_tbl[1355]? = some (Jvm.Cond.selects "FormulaSheet$OverRange" ({ cls := "FormulaSheet$Part", name := "write", desc := "(Ljava/lang/StringBuilder;I)V" } : Jvm.MethodName) ({ cls := "FormulaSheet$Part", name := "write", desc := "(Ljava/lang/StringBuilder;I)V" } : Jvm.MethodName)) := by decide +kernel
theorem tw_1356 : lw_tbl[1356]? = some (Jvm.Cond.selects "FormulaSheet$Pair" ({ cls := "FormulaSheet$Part", name := "write", desc := "(Ljava/lang/StringBuilder;I)V" } : Jvm.MethodName) ({ cls := "FormulaSheet$Part", name := "write", desc := "(Ljava/lang/StringBuilder;I)V" } : Jvm.MethodName)) := by decide +kernel
theorem tw_1357 : lw_tbl[1357]? = some (Jvm.Cond.selects "FormulaSheet$Reference" ({ cls := "FormulaSheet$Part", name := "write", desc := "(Ljava/lang/StringBuilder;I)V" } : Jvm.MethodName) ({ cls := "FormulaSheet$Part", name := "write", desc := "(Ljava/lang/StringBuilder;I)V" } : Jvm.MethodName)) := by decide +kernel
theorem tw_1358 : lw_tbl[1358]? = some (Jvm.Cond.selects "FormulaSheet$Single" ({ cls := "FormulaSheet$Part", name := "write", desc := "(Ljava/lang/StringBuilder;I)V" } : Jvm.MethodName) ({ cls := "FormulaSheet$Part", name := "write", desc := "(Ljava/lang/StringBuilder;I)V" } : Jvm.MethodName)) := by decide +kernel
theorem tw_1359 : lw_tbl[1359]? = some (Jvm.Cond.code ({ cls := "FormulaSheet$Part", name := "write", desc := "(Ljava/lang/StringBuilder;I)V" } : Jvm.MethodName) prog_10_method_5_code (4 : Nat) (Option.none : Option Jvm.ClassFile.FieldType)) := by decide +kernel
theorem tw_1360 : lw_tbl[1360]? = some (Jvm.Cond.methodLink "FormulaSheet$Part" (13 : Nat) ({ cls := "FormulaSheet$Part", name := "rule", desc := "()I" } : Jvm.MethodName)) := by decide +kernel
theorem tw_1361 : lw_tbl[1361]? = some (Jvm.Cond.declares ({ cls := "FormulaSheet$Part", name := "rule", desc := "()I" } : Jvm.MethodName)) := by decide +kernel
theorem tw_1362 : lw_tbl[1362]? = some (Jvm.Cond.sameMethod "FormulaSheet$Part" "FormulaSheet$Part" "rule" "()I") := by decide +kernel
theorem tw_1379 : lw_tbl[1379]? = some (Jvm.Cond.methodLink "FormulaSheet$Part" (17 : Nat) ({ cls := "java/lang/StringBuilder", name := "append", desc := "(C)Ljava/lang/StringBuilder;" } : Jvm.MethodName)) := by decide +kernel
theorem tw_1380 : lw_tbl[1380]? = some (Jvm.Cond.instanceMethod ({ cls := "java/lang/StringBuilder", name := "append", desc := "(C)Ljava/lang/StringBuilder;" } : Jvm.MethodName)) := by decide +kernel
theorem tw_1381 : lw_tbl[1381]? = some (Jvm.Cond.selects "java/lang/StringBuilder" ({ cls := "java/lang/StringBuilder", name := "append", desc := "(C)Ljava/lang/StringBuilder;" } : Jvm.MethodName) ({ cls := "java/lang/StringBuilder", name := "append", desc := "(C)Ljava/lang/StringBuilder;" } : Jvm.MethodName)) := by decide +kernel
theorem tw_1382 : lw_tbl[1382]? = some (Jvm.Cond.code ({ cls := "java/lang/StringBuilder", name := "append", desc := "(C)Ljava/lang/StringBuilder;" } : Jvm.MethodName) prog_29_method_14_code (2 : Nat) (Option.some (Jvm.ClassFile.FieldType.object "java/lang/StringBuilder"))) := by decide +kernel
theorem tw_1392 : lw_tbl[1392]? = some (Jvm.Cond.methodLink "FormulaSheet$Part" (23 : Nat) ({ cls := "FormulaSheet$Part", name := "writeBare", desc := "(Ljava/lang/StringBuilder;)V" } : Jvm.MethodName)) := by decide +kernel
theorem tw_1393 : lw_tbl[1393]? = some (Jvm.Cond.declares ({ cls := "FormulaSheet$Part", name := "writeBare", desc := "(Ljava/lang/StringBuilder;)V" } : Jvm.MethodName)) := by decide +kernel
theorem tw_1394 : lw_tbl[1394]? = some (Jvm.Cond.sameMethod "FormulaSheet$Part" "FormulaSheet$Part" "writeBare" "(Ljava/lang/StringBuilder;)V") := by decide +kernel
theorem tw_1395 : lw_tbl[1395]? = some (Jvm.Cond.selects "FormulaSheet$Call" ({ cls := "FormulaSheet$Part", name := "writeBare", desc := "(Ljava/lang/StringBuilder;)V" } : Jvm.MethodName) ({ cls := "FormulaSheet$Call", name := "writeBare", desc := "(Ljava/lang/StringBuilder;)V" } : Jvm.MethodName)) := by decide +kernel
theorem tw_1396 : lw_tbl[1396]? = some (Jvm.Cond.instanceMethod ({ cls := "FormulaSheet$Call", name := "writeBare", desc := "(Ljava/lang/StringBuilder;)V" } : Jvm.MethodName)) := by decide +kernel
theorem tw_1397 : lw_tbl[1397]? = some (Jvm.Cond.code ({ cls := "FormulaSheet$Call", name := "writeBare", desc := "(Ljava/lang/StringBuilder;)V" } : Jvm.MethodName) prog_2_method_5_code (3 : Nat) (Option.none : Option Jvm.ClassFile.FieldType)) := by decide +kernel
theorem tw_1398 : lw_tbl[1398]? = some (Jvm.Cond.methodLink "FormulaSheet$Call" (40 : Nat) ({ cls := "java/lang/StringBuilder", name := "append", desc := "(C)Ljava/lang/StringBuilder;" } : Jvm.MethodName)) := by decide +kernel
theorem tw_1399 : lw_tbl[1399]? = some (Jvm.Cond.methodLink "FormulaSheet$Call" (50 : Nat) ({ cls := "java/lang/StringBuilder", name := "append", desc := "(Ljava/lang/String;)Ljava/lang/StringBuilder;" } : Jvm.MethodName)) := by decide +kernel
theorem tw_1400 : lw_tbl[1400]? = some (Jvm.Cond.methodLink "FormulaSheet$Call" (53 : Nat) ({ cls := "FormulaSheet$Part", name := "write", desc := "(Ljava/lang/StringBuilder;I)V" } : Jvm.MethodName)) := by decide +kernel
theorem tw_1401 : lw_tbl[1401]? = some (Jvm.Cond.selects "FormulaSheet$Numeral" ({ cls := "FormulaSheet$Part", name := "writeBare", desc := "(Ljava/lang/StringBuilder;)V" } : Jvm.MethodName) ({ cls := "FormulaSheet$Numeral", name := "writeBare", desc := "(Ljava/lang/StringBuilder;)V" } : Jvm.MethodName)) := by decide +kernel
theorem tw_1402 : lw_tbl[1402]? = some (Jvm.Cond.instanceMethod ({ cls := "FormulaSheet$Numeral", name := "writeBare", desc := "(Ljava/lang/StringBuilder;)V" } : Jvm.MethodName)) := by decide +kernel
theorem tw_1403 : lw_tbl[1403]? = some (Jvm.Cond.code ({ cls := "FormulaSheet$Numeral", name := "writeBare", desc := "(Ljava/lang/StringBuilder;)V" } : Jvm.MethodName) prog_7_method_4_code (7 : Nat) (Option.none : Option Jvm.ClassFile.FieldType)) := by decide +kernel
theorem tw_1404 : lw_tbl[1404]? = some (Jvm.Cond.methodLink "FormulaSheet$Numeral" (23 : Nat) ({ cls := "java/lang/StringBuilder", name := "append", desc := "(I)Ljava/lang/StringBuilder;" } : Jvm.MethodName)) := by decide +kernel
theorem tw_1405 : lw_tbl[1405]? = some (Jvm.Cond.methodLink "FormulaSheet$Numeral" (29 : Nat) ({ cls := "java/lang/StringBuilder", name := "append", desc := "(C)Ljava/lang/StringBuilder;" } : Jvm.MethodName)) := by decide +kernel
theorem tw_1406 : lw_tbl[1406]? = some (Jvm.Cond.constantLong "FormulaSheet$Numeral" (34 : Nat) (48 : Int64)) := by decide +kernel
theorem tw_1407 : lw_tbl[1407]? = some (Jvm.Cond.selects "FormulaSheet$OverRange" ({ cls := "FormulaSheet$Part", name := "writeBare", desc := "(Ljava/lang/StringBuilder;)V" } : Jvm.MethodName) ({ cls := "FormulaSheet$OverRange", name := "writeBare", desc := "(Ljava/lang/StringBuilder;)V" } : Jvm.MethodName)) := by decide +kernel
theorem tw_1408 : lw_tbl[1408]? = some (Jvm.Cond.instanceMethod ({ cls := "FormulaSheet$OverRange", name := "writeBare", desc := "(Ljava/lang/StringBuilder;)V" } : Jvm.MethodName)) := by decide +kernel
theorem tw_1409 : lw_tbl[1409]? = some (Jvm.Cond.code ({ cls := "FormulaSheet$OverRange", name := "writeBare", desc := "(Ljava/lang/StringBuilder;)V" } : Jvm.MethodName) prog_8_method_17_code (2 : Nat) (Option.none : Option Jvm.ClassFile.FieldType)) := by decide +kernel
theorem tw_1410 : lw_tbl[1410]? = some (Jvm.Cond.methodLink "FormulaSheet$OverRange" (132 : Nat) ({ cls := "java/lang/StringBuilder", name := "append", desc := "(C)Ljava/lang/StringBuilder;" } : Jvm.MethodName)) := by decide +kernel
theorem tw_1411 : lw_tbl[1411]? = some (Jvm.Cond.methodLink "FormulaSheet$OverRange" (142 : Nat) ({ cls := "java/lang/StringBuilder", name := "append", desc := "(Ljava/lang/String;)Ljava/lang/StringBuilder;" } : Jvm.MethodName)) := by decide +kernel
theorem tw_1412 : lw_tbl[1412]? = some (Jvm.Cond.methodLink "FormulaSheet$OverRange" (145 : Nat) ({ cls := "FormulaSheet$Reference", name := "write", desc := "(Ljava/lang/StringBuilder;I)V" } : Jvm.MethodName)) := by decide +kernel
theorem tw_1413 : lw_tbl[1413]? = some (Jvm.Cond.sameMethod "FormulaSheet$Reference" "FormulaSheet$Part" "write" "(Ljava/lang/StringBuilder;I)V") := by decide +kernel
theorem tw_1414 : lw_tbl[1414]? = some (Jvm.Cond.declares ({ cls := "FormulaSheet$Part", name := "write", desc := "(Ljava/lang/StringBuilder;I)V" } : Jvm.MethodName)) := by decide +kernel
theorem tw_1415 : lw_tbl[1415]? = some (Jvm.Cond.selects "FormulaSheet$Reference" ({ cls := "FormulaSheet$Reference", name := "write", desc := "(Ljava/lang/StringBuilder;I)V" } : Jvm.MethodName) ({ cls := "FormulaSheet$Part", name := "write", desc := "(Ljava/lang/StringBuilder;I)V" } : Jvm.MethodName)) := by decide +kernel
theorem tw_1416 : lw_tbl[1416]? = some (Jvm.Cond.selects "FormulaSheet$Pair" ({ cls := "FormulaSheet$Part", name := "writeBare", desc := "(Ljava/lang/StringBuilder;)V" } : Jvm.MethodName) ({ cls := "FormulaSheet$Pair", name := "writeBare", desc := "(Ljava/lang/StringBuilder;)V" } : Jvm.MethodName)) := by decide +kernel
theorem tw_1417 : lw_tbl[1417]? = some (Jvm.Cond.instanceMethod ({ cls := "FormulaSheet$Pair", name := "writeBare", desc := "(Ljava/lang/StringBuilder;)V" } : Jvm.MethodName)) := by decide +kernel
theorem tw_1418 : lw_tbl[1418]? = some (Jvm.Cond.code ({ cls := "FormulaSheet$Pair", name := "writeBare", desc := "(Ljava/lang/StringBuilder;)V" } : Jvm.MethodName) prog_9_method_6_code (3 : Nat) (Option.none : Option Jvm.ClassFile.FieldType)) := by decide +kernel
theorem tw_1419 : lw_tbl[1419]? = some (Jvm.Cond.methodLink "FormulaSheet$Pair" (44 : Nat) ({ cls := "FormulaSheet$Part", name := "write", desc := "(Ljava/lang/StringBuilder;I)V" } : Jvm.MethodName)) := by decide +kernel
theorem tw_1420 : lw_tbl[1420]? = some (Jvm.Cond.methodLink "FormulaSheet$Pair" (48 : Nat) ({ cls := "java/lang/StringBuilder", name := "append", desc := "(C)Ljava/lang/StringBuilder;" } : Jvm.MethodName)) := by decide +kernel
theorem tw_1421 : lw_tbl[1421]? = some (Jvm.Cond.selects "FormulaSheet$Reference" ({ cls := "FormulaSheet$Part", name := "writeBare", desc := "(Ljava/lang/StringBuilder;)V" } : Jvm.MethodName) ({ cls := "FormulaSheet$Reference", name := "writeBare", desc := "(Ljava/lang/StringBuilder;)V" } : Jvm.MethodName)) := by decide +kernel
theorem tw_1422 : lw_tbl[1422]? = some (Jvm.Cond.instanceMethod ({ cls := "FormulaSheet$Reference", name := "writeBare", desc := "(Ljava/lang/StringBuilder;)V" } : Jvm.MethodName)) := by decide +kernel
theorem tw_1423 : lw_tbl[1423]? = some (Jvm.Cond.code ({ cls := "FormulaSheet$Reference", name := "writeBare", desc := "(Ljava/lang/StringBuilder;)V" } : Jvm.MethodName) prog_11_method_11_code (2 : Nat) (Option.none : Option Jvm.ClassFile.FieldType)) := by decide +kernel
theorem tw_1424 : lw_tbl[1424]? = some (Jvm.Cond.methodLink "FormulaSheet$Reference" (61 : Nat) ({ cls := "java/lang/StringBuilder", name := "append", desc := "(C)Ljava/lang/StringBuilder;" } : Jvm.MethodName)) := by decide +kernel
theorem tw_1425 : lw_tbl[1425]? = some (Jvm.Cond.methodLink "FormulaSheet$Reference" (67 : Nat) ({ cls := "java/lang/StringBuilder", name := "append", desc := "(I)Ljava/lang/StringBuilder;" } : Jvm.MethodName)) := by decide +kernel
theorem tw_1426 : lw_tbl[1426]? = some (Jvm.Cond.selects "FormulaSheet$Single" ({ cls := "FormulaSheet$Part", name := "writeBare", desc := "(Ljava/lang/StringBuilder;)V" } : Jvm.MethodName) ({ cls := "FormulaSheet$Single", name := "writeBare", desc := "(Ljava/lang/StringBuilder;)V" } : Jvm.MethodName)) := by decide +kernel
theorem tw_1427 : lw_tbl[1427]? = some (Jvm.Cond.instanceMethod ({ cls := "FormulaSheet$Single", name := "writeBare", desc := "(Ljava/lang/StringBuilder;)V" } : Jvm.MethodName)) := by decide +kernel
theorem tw_1428 : lw_tbl[1428]? = some (Jvm.Cond.code ({ cls := "FormulaSheet$Single", name := "writeBare", desc := "(Ljava/lang/StringBuilder;)V" } : Jvm.MethodName) prog_12_method_5_code (2 : Nat) (Option.none : Option Jvm.ClassFile.FieldType)) := by decide +kernel
theorem tw_1429 : lw_tbl[1429]? = some (Jvm.Cond.methodLink "FormulaSheet$Single" (35 : Nat) ({ cls := "java/lang/StringBuilder", name := "append", desc := "(C)Ljava/lang/StringBuilder;" } : Jvm.MethodName)) := by decide +kernel
theorem tw_1430 : lw_tbl[1430]? = some (Jvm.Cond.methodLink "FormulaSheet$Single" (41 : Nat) ({ cls := "FormulaSheet$Part", name := "write", desc := "(Ljava/lang/StringBuilder;I)V" } : Jvm.MethodName)) := by decide +kernel
theorem tw_1884 : lw_tbl[1884]? = some (Jvm.Cond.fieldLink "FormulaSheet$Call" (46 : Nat) "FormulaSheet$Name" "opening" "Ljava/lang/String;") := by decide +kernel
theorem tw_1885 : lw_tbl[1885]? = some (Jvm.Cond.fieldLink "FormulaSheet$OverRange" (138 : Nat) "FormulaSheet$Name" "opening" "Ljava/lang/String;") := by decide +kernel
def w_PT_write_J25 (self : Nat → Nat → fs_E → fs_Hp → Nat → Nat → fs_Ps → Prop) (E : fs_E) (Post : fs_Ps) (z0 : Nat) (z1 : Nat) (z3 : Int32) (bc bs : Nat) (h1 : fs_Hp) : Prop := ∃ c101 s102 : Nat, c101 ≤ bc ∧ s102 ≤ bs ∧ (self c101 s102 E h1 z0 z1 (fs_kv (fun h103 => (if z3 = 0 then Post (.inl none) h103 else ∃ c105 s106 : Nat, c105 ≤ (bc - c101) ∧ s106 ≤ (bs - s102) ∧ (fs_isc h103 z1 11 ∧ (w_SB_append_882 c105 s106 E h103 z1 41 (fs_kr (fun a108 h107 => Post (.inl none) h107) (fun C_ h_ => Post (.inr C_) h_)))))) (fun C_ h_ => Post (.inr C_) h_)))
def w_PT_write_J13 (self : Nat → Nat → fs_E → fs_Hp → Nat → Nat → fs_Ps → Prop) (E : fs_E) (Post : fs_Ps) (z0 : Nat) (z1 : Nat) (w0 : Int32) (bc bs : Nat) (h1 : fs_Hp) : Prop := (if w0 = 0 then w_PT_write_J25 self E Post z0 z1 w0 bc bs h1 else ∃ c110 s111 : Nat, c110 ≤ bc ∧ s111 ≤ bs ∧ (fs_isc h1 z1 11 ∧ (w_SB_append_882 c110 s111 E h1 z1 40 (fs_kr (fun a113 h112 => w_PT_write_J25 self E Post z0 z1 w0 (bc - c110) (bs - s111) h112) (fun C_ h_ => Post (.inr C_) h_)))))
def w_PT_write (self : Nat → Nat → fs_E → fs_Hp → Nat → Nat → fs_Ps → Prop) (mc ms : Nat) (E : fs_E) (h : fs_Hp) (a0 : Nat) (x1 : Nat) (x2 : Int32) (Post : fs_Ps) : Prop := w_V_rule E h a0 (fs_ki (fun x115 h114 => (if x2 ≤ x115 then w_PT_write_J13 self E Post a0 x1 0 mc ms h114 else w_PT_write_J13 self E Post a0 x1 1 mc ms h114)) (fun C_ h_ => Post (.inr C_) h_))
set_option maxHeartbeats 4000000 in
set_option maxRecDepth 100000 in
theorem kw_PT_write {l : Launch} {s00 : State} {E : fs_E} (hE : fs_SE l s00 E) {self : Nat → Nat → fs_E → fs_Hp → Nat → Nat → fs_Ps → Prop} {fn ln : Nat} (hself : ∀ {c9 s9 : Nat} {h9 : fs_Hp} {q0 : Nat} {q1 : Nat} {P9 : fs_Ps}, self c9 s9 E h9 q0 q1 P9 → fs_CtV l s00 E.1 y_PT_writeBare { frames := fn, cells := c9, slots := s9, locals := ln } q0 [.ref q1] h9 P9 7) {mc ms : Nat} {h : fs_Hp} {a0 : Nat} {x1 : Nat} {x2 : Int32} {Post : fs_Ps} (hq : w_PT_write self mc ms E h a0 x1 x2 Post) : fs_Ct l s00 E.1 y_PT_write (.code y_PT_write b_PT_write 4 none) { frames := fn + 6, cells := mc, slots := ms, locals := ln + 88 } [.ref a0, .ref x1, .int x2] h Post := by
  refine fs_Ct.ofR hE.1 (by decide) ?_
  intro p e R s m below meth c hRf hRl hRc hRs B hout hP
  skip
  obtain ⟨hx, hb, hr, hml, hown, hts, hlocks, hname, hK, hw, htr⟩ := id B
  have hown : s.vm.findClass "FormulaSheet$Part" = some m.cls := hown
  have hS := hw.S
  have hJ25 : ∀ (z0 : Nat) (z1 : Nat) (z3 : Int32) (bc bs uc us : Nat) (h1 : fs_Hp) (H : Heap) (locs : List Loc) (ls : Array Slot), w_PT_write_J25 self E Post z0 z1 z3 bc bs h1 → fs_P E.1.1 fs_cl (fs_A s00) h1 H → va_S (fs_A s00) s00.heap H locs → uc + bc ≤ mc → us + bs ≤ ms → lv_has ls 4 [(0, .ref z0), (1, .ref z1), (3, .int z3)] → W p l e R s m ([.ref a0, .ref x1, .int x2] : List Value).toArray below meth c H locs uc us (fx_MQ below (fs_Qc s00 E.1 Post) ([.ref a0, .ref x1, .int x2] : List Value).toArray s mc ms (fs_A s00)) (F0 m 25 ls ([])) := by
    intro z0 z1 z3 bc bs uc us h1 H locs ls hq hP hS hu1 hu2 hl
    unfold w_PT_write_J25 at hq
    refine lv_aload_n hx hb d_PT_write_25 rfl (lv_at hl 0 rfl) ?_
    refine lv_aload_n hx hb d_PT_write_26 rfl (lv_at hl 1 rfl) ?_
    obtain ⟨c101, s102, hc_, hs_, hq⟩ := hq
    refine fs_cVV (owner := "FormulaSheet$Part") B hl.1 hP hS (hself hq) (fs_tb_at 1392 tw_1392 rfl) (fs_tb_at 1394 tw_1394 rfl) (fs_dclA (fs_tb_at 1393 tw_1393 rfl)) (by decide) (show (parseMethodDescriptor y_PT_writeBare.desc).map (fun d => d.parameters.length) = some 1 by decide +kernel) rfl d_PT_write_27 (fs_rm (k := 0) (by omega) (by omega) (by omega) (by omega) rfl) (fun v_ h103 H locs hq hP hS => ?_) (fun C_ a_ h_ H locs hq hP hS hX => fs_out (hout _) hlocks hw hP hS hX (show (uc + c101) ≤ mc by omega) (show (us + s102) ≤ ms by omega) hq)
    refine fs_cs (k := (uc + c101)) (n := (us + s102)) rfl rfl ?_
    replace hq := fs_kv_some hq
    obtain ⟨rfl, hq⟩ := hq
    refine W.eq (g2 := F0 m 30 ls ([])) rfl ?_
    refine lv_iload_n hx hb d_PT_write_30 rfl (lv_at hl 2 rfl) ?_
    refine lv_if_eq (tgt := 41) hx hb d_PT_write_31 (by decide) (fun c_104 => ?_) (fun c_104 => ?_)
    · have hq := fs_wifp c_104 hq
      exact fs_vret hx hb hr hlocks hw hP hS (by omega) (by omega) hq d_PT_write_41
    · have hq := fs_wifn c_104 hq
      refine lv_aload_n hx hb d_PT_write_34 rfl (lv_at hl 1 rfl) ?_
      refine lv_bipush (v := 41) hx hb d_PT_write_35 (by decide) ?_
      obtain ⟨c105, s106, hc_, hs_, hq⟩ := hq
      obtain ⟨hi_, hq⟩ := hq
      obtain ⟨fs_, he_⟩ := fs_isc_some hi_
      refine fs_cV B hl.1 hP hS (kw_SB_append_882 hE hq) (fs_tb_at 1379 tw_1379 rfl) he_ rfl (fs_tb_at 1380 tw_1380 rfl) (fs_tb_at 1381 tw_1381 rfl) (fs_tb_at 93 tw_93 rfl) (fs_tb_at 1382 tw_1382 rfl) (by decide) (show (parseMethodDescriptor y_SB_append_882.desc).map (fun d => d.parameters.length) = some 1 by decide +kernel) rfl d_PT_write_37 (fs_rm (k := 0) (by omega) (by omega) (by omega) (by omega) rfl) (fun v_ h107 H locs hq hP hS => ?_) (fun C_ a_ h_ H locs hq hP hS hX => fs_out (hout _) hlocks hw hP hS hX (show ((uc + c101) + c105) ≤ mc by omega) (show ((us + s102) + s106) ≤ ms by omega) hq)
      refine fs_cs (k := ((uc + c101) + c105)) (n := ((us + s102) + s106)) rfl rfl ?_
      replace hq := fs_kr_some hq
      obtain ⟨a108, rfl, hq⟩ := hq
      refine W.eq (g2 := F0 m 40 ls (.ref a108 :: [])) rfl ?_
      refine lv_pop hx hb d_PT_write_40 rfl ?_
      exact fs_vret hx hb hr hlocks hw hP hS (by omega) (by omega) hq d_PT_write_41
  have hJ13 : ∀ (z0 : Nat) (z1 : Nat) (w0 : Int32) (bc bs uc us : Nat) (h1 : fs_Hp) (H : Heap) (locs : List Loc) (ls : Array Slot), w_PT_write_J13 self E Post z0 z1 w0 bc bs h1 → fs_P E.1.1 fs_cl (fs_A s00) h1 H → va_S (fs_A s00) s00.heap H locs → uc + bc ≤ mc → us + bs ≤ ms → lv_has ls 4 [(0, .ref z0), (1, .ref z1)] → W p l e R s m ([.ref a0, .ref x1, .int x2] : List Value).toArray below meth c H locs uc us (fx_MQ below (fs_Qc s00 E.1 Post) ([.ref a0, .ref x1, .int x2] : List Value).toArray s mc ms (fs_A s00)) (F0 m 13 ls (.int w0 :: [])) := by
    intro z0 z1 w0 bc bs uc us h1 H locs ls hq hP hS hu1 hu2 hl
    unfold w_PT_write_J13 at hq
    refine lv_istore_n (lv' := [(3, .int w0), (0, .ref z0), (1, .ref z1)]) hx hb d_PT_write_13 rfl hl (by decide) rfl (fun ls hl => ?_)
    refine lv_iload_n hx hb d_PT_write_14 rfl (lv_at hl 0 rfl) ?_
    refine lv_if_eq (tgt := 25) hx hb d_PT_write_15 (by decide) (fun c_109 => ?_) (fun c_109 => ?_)
    · have hq := fs_wifp c_109 hq
      exact hJ25 z0 z1 w0 bc bs uc us _ _ _ _ hq hP hS (by omega) (by omega) (show lv_has ls 4 [(0, .ref z0), (1, .ref z1), (3, .int w0)] from lv_sub hl [1, 2, 0] rfl)
    · have hq := fs_wifn c_109 hq
      refine lv_aload_n hx hb d_PT_write_18 rfl (lv_at hl 2 rfl) ?_
      refine lv_bipush (v := 40) hx hb d_PT_write_19 (by decide) ?_
      obtain ⟨c110, s111, hc_, hs_, hq⟩ := hq
      obtain ⟨hi_, hq⟩ := hq
      obtain ⟨fs_, he_⟩ := fs_isc_some hi_
      refine fs_cV B hl.1 hP hS (kw_SB_append_882 hE hq) (fs_tb_at 1379 tw_1379 rfl) he_ rfl (fs_tb_at 1380 tw_1380 rfl) (fs_tb_at 1381 tw_1381 rfl) (fs_tb_at 93 tw_93 rfl) (fs_tb_at 1382 tw_1382 rfl) (by decide) (show (parseMethodDescriptor y_SB_append_882.desc).map (fun d => d.parameters.length) = some 1 by decide +kernel) rfl d_PT_write_21 (fs_rm (k := 0) (by omega) (by omega) (by omega) (by omega) rfl) (fun v_ h112 H locs hq hP hS => ?_) (fun C_ a_ h_ H locs hq hP hS hX => fs_out (hout _) hlocks hw hP hS hX (show (uc + c110) ≤ mc by omega) (show (us + s111) ≤ ms by omega) hq)
      refine fs_cs (k := (uc + c110)) (n := (us + s111)) rfl rfl ?_
      replace hq := fs_kr_some hq
      obtain ⟨a113, rfl, hq⟩ := hq
      refine W.eq (g2 := F0 m 24 ls (.ref a113 :: [])) rfl ?_
      refine lv_pop hx hb d_PT_write_24 rfl ?_
      exact hJ25 z0 z1 w0 (bc - c110) (bs - s111) (uc + c110) (us + s111) _ _ _ _ hq hP hS (by omega) (by omega) (show lv_has ls 4 [(0, .ref z0), (1, .ref z1), (3, .int w0)] from lv_sub hl [1, 2, 0] rfl)
  have hl := lv_entry ([.ref a0, .ref x1, .int x2]) (n := 4) (Nat.le_of_ble_eq_true rfl)
  rw [lg_entry_eq]
  generalize (lg_sl ([.ref a0, .ref x1, .int x2]) ++ List.replicate (4 - (lg_sl ([.ref a0, .ref x1, .int x2])).length) Slot.unset).toArray = ls at hl ⊢
  have hl : lv_has ls 4 [(0, .ref a0), (1, .ref x1), (2, .int x2)] := hl
  unfold w_PT_write at hq
  refine lv_aload_n hx hb d_PT_write_0 rfl (lv_at hl 0 rfl) ?_
  refine fs_cVV (owner := "FormulaSheet$Part") B hl.1 hP hS (kw_V_rule hE hq) (fs_tb_at 1360 tw_1360 rfl) (fs_tb_at 1362 tw_1362 rfl) (fs_dclA (fs_tb_at 1361 tw_1361 rfl)) (by decide) (show (parseMethodDescriptor y_PT_rule.desc).map (fun d => d.parameters.length) = some 0 by decide +kernel) rfl d_PT_write_1 (fs_rm (k := 0) (by omega) (by omega) (by omega) (by omega) rfl) (fun v_ h114 H locs hq hP hS => ?_) (fun C_ a_ h_ H locs hq hP hS hX => fs_out (hout _) hlocks hw hP hS hX (show 0 ≤ mc by omega) (show 0 ≤ ms by omega) hq)
  refine fs_cs (k := 0) (n := 0) rfl rfl ?_
  replace hq := fs_ki_some hq
  obtain ⟨x115, rfl, hq⟩ := hq
  refine W.eq (g2 := F0 m 4 ls (.int x115 :: [])) rfl ?_
  refine lv_iload_n hx hb d_PT_write_4 rfl (lv_at hl 2 rfl) ?_
  refine lv_icmp_ge (tgt := 12) hx hb d_PT_write_5 (by decide) (fun c_116 => ?_) (fun c_116 => ?_)
  · have hq := fs_wifp c_116 hq
    refine lv_iconst (v := 0) hx hb d_PT_write_12 (by decide) ?_
    exact hJ13 a0 x1 0 mc ms 0 0 _ _ _ _ hq hP hS (by omega) (by omega) (show lv_has ls 4 [(0, .ref a0), (1, .ref x1)] from lv_sub hl [0, 1] rfl)
  · have hq := fs_wifn c_116 hq
    refine lv_iconst (v := 1) hx hb d_PT_write_8 (by decide) ?_
    refine lv_goto (tgt := 13) hx hb d_PT_write_9 (by decide) ?_
    exact hJ13 a0 x1 1 mc ms 0 0 _ _ _ _ hq hP hS (by omega) (by omega) (show lv_has ls 4 [(0, .ref a0), (1, .ref x1)] from lv_sub hl [0, 1] rfl)
def w_V_write (self : Nat → Nat → fs_E → fs_Hp → Nat → Nat → fs_Ps → Prop) (mc ms : Nat) (E : fs_E) (h : fs_Hp) (x0 : Nat) (x1 : Nat) (x2 : Int32) (Post : fs_Ps) : Prop := (fs_isc h x0 4 ∧ w_PT_write self mc ms E h x0 x1 x2 Post) ∨ (fs_isc h x0 5 ∧ w_PT_write self mc ms E h x0 x1 x2 Post) ∨ (fs_isc h x0 6 ∧ w_PT_write self mc ms E h x0 x1 x2 Post) ∨ (fs_isc h x0 7 ∧ w_PT_write self mc ms E h x0 x1 x2 Post) ∨ (fs_isc h x0 8 ∧ w_PT_write self mc ms E h x0 x1 x2 Post) ∨ (fs_isc h x0 9 ∧ w_PT_write self mc ms E h x0 x1 x2 Post)
theorem kw_V_write {l : Launch} {s00 : State} {E : fs_E} (hE : fs_SE l s00 E) {self : Nat → Nat → fs_E → fs_Hp → Nat → Nat → fs_Ps → Prop} {fn ln : Nat} (hself : ∀ {c9 s9 : Nat} {h9 : fs_Hp} {q0 : Nat} {q1 : Nat} {P9 : fs_Ps}, self c9 s9 E h9 q0 q1 P9 → fs_CtV l s00 E.1 y_PT_writeBare { frames := fn, cells := c9, slots := s9, locals := ln } q0 [.ref q1] h9 P9 7) {mc ms : Nat} {h : fs_Hp} {x0 : Nat} {x1 : Nat} {x2 : Int32} {Post : fs_Ps} (hq : w_V_write self mc ms E h x0 x1 x2 Post) : fs_CtV l s00 E.1 y_PT_write { frames := fn + 6, cells := mc, slots := ms, locals := ln + 88 } x0 [.ref x1, .int x2] h Post 4 := by
  rcases hq with ⟨hi, hq⟩ | ⟨hi, hq⟩ | ⟨hi, hq⟩ | ⟨hi, hq⟩ | ⟨hi, hq⟩ | ⟨hi, hq⟩
  · obtain ⟨fs_, he_⟩ := fs_isc_some hi
    exact ⟨y_PT_write, b_PT_write, 4, none, 4, fs_, _, _, _, he_, rfl, (fs_tb_at 1354 tw_1354 rfl), (fs_tb_at 1351 tw_1351 rfl), (fs_tb_at 103 tw_103 rfl), (fs_tb_at 1359 tw_1359 rfl), by decide, kw_PT_write hE hself hq⟩
  · obtain ⟨fs_, he_⟩ := fs_isc_some hi
    exact ⟨y_PT_write, b_PT_write, 4, none, 5, fs_, _, _, _, he_, rfl, (fs_tb_at 1357 tw_1357 rfl), (fs_tb_at 1351 tw_1351 rfl), (fs_tb_at 103 tw_103 rfl), (fs_tb_at 1359 tw_1359 rfl), by decide, kw_PT_write hE hself hq⟩
  · obtain ⟨fs_, he_⟩ := fs_isc_some hi
    exact ⟨y_PT_write, b_PT_write, 4, none, 6, fs_, _, _, _, he_, rfl, (fs_tb_at 1358 tw_1358 rfl), (fs_tb_at 1351 tw_1351 rfl), (fs_tb_at 103 tw_103 rfl), (fs_tb_at 1359 tw_1359 rfl), by decide, kw_PT_write hE hself hq⟩
  · obtain ⟨fs_, he_⟩ := fs_isc_some hi
    exact ⟨y_PT_write, b_PT_write, 4, none, 7, fs_, _, _, _, he_, rfl, (fs_tb_at 1356 tw_1356 rfl), (fs_tb_at 1351 tw_1351 rfl), (fs_tb_at 103 tw_103 rfl), (fs_tb_at 1359 tw_1359 rfl), by decide, kw_PT_write hE hself hq⟩
  · obtain ⟨fs_, he_⟩ := fs_isc_some hi
    exact ⟨y_PT_write, b_PT_write, 4, none, 8, fs_, _, _, _, he_, rfl, (fs_tb_at 1353 tw_1353 rfl), (fs_tb_at 1351 tw_1351 rfl), (fs_tb_at 103 tw_103 rfl), (fs_tb_at 1359 tw_1359 rfl), by decide, kw_PT_write hE hself hq⟩
  · obtain ⟨fs_, he_⟩ := fs_isc_some hi
    exact ⟨y_PT_write, b_PT_write, 4, none, 9, fs_, _, _, _, he_, rfl, (fs_tb_at 1355 tw_1355 rfl), (fs_tb_at 1351 tw_1351 rfl), (fs_tb_at 103 tw_103 rfl), (fs_tb_at 1359 tw_1359 rfl), by decide, kw_PT_write hE hself hq⟩
def w_VR_write (self : Nat → Nat → fs_E → fs_Hp → Nat → Nat → fs_Ps → Prop) (mc ms : Nat) (E : fs_E) (h : fs_Hp) (x0 : Nat) (x1 : Nat) (x2 : Int32) (Post : fs_Ps) : Prop := fs_isc h x0 5 ∧ w_PT_write self mc ms E h x0 x1 x2 Post
theorem kw_VR_write {l : Launch} {s00 : State} {E : fs_E} (hE : fs_SE l s00 E) {self : Nat → Nat → fs_E → fs_Hp → Nat → Nat → fs_Ps → Prop} {fn ln : Nat} (hself : ∀ {c9 s9 : Nat} {h9 : fs_Hp} {q0 : Nat} {q1 : Nat} {P9 : fs_Ps}, self c9 s9 E h9 q0 q1 P9 → fs_CtV l s00 E.1 y_PT_writeBare { frames := fn, cells := c9, slots := s9, locals := ln } q0 [.ref q1] h9 P9 7) {mc ms : Nat} {h : fs_Hp} {x0 : Nat} {x1 : Nat} {x2 : Int32} {Post : fs_Ps} (hq : w_VR_write self mc ms E h x0 x1 x2 Post) : fs_CtV l s00 E.1 y_RE_write { frames := fn + 6, cells := mc, slots := ms, locals := ln + 88 } x0 [.ref x1, .int x2] h Post 4 := by
  obtain ⟨fs_, he_⟩ := fs_isc_some hq.1
  exact ⟨y_PT_write, b_PT_write, 4, none, 5, fs_, _, _, _, he_, rfl, (fs_tb_at 1415 tw_1415 rfl), (fs_tb_at 1351 tw_1351 rfl), (fs_tb_at 103 tw_103 rfl), (fs_tb_at 1359 tw_1359 rfl), by decide, kw_PT_write hE hself hq.2⟩
def w_NU_writeBare_L42 (self : Nat → Nat → fs_E → fs_Hp → Nat → Nat → fs_Ps → Prop) (E : fs_E) (K : Nat → Nat → fs_Hp → Prop) (Post : fs_Ps) : Nat → Nat → Nat → Int64 → Int64 → Int32 → Nat → Nat → fs_Hp → Prop
  | 0 => fun _ _ _ _ _ _ _ _ => False
  | n + 1 => fun z0 z1 z2 z4 z6 bc bs h1 => fs_gi h1 z0 4 1 (fun x102 => (if x102 ≤ z6 then K bc bs h1 else ¬ (z2 : Int64) = 0 ∧ (∃ c104 s105 : Nat, c104 ≤ bc ∧ s105 ≤ bs ∧ (fs_isc h1 z1 11 ∧ (w_SB_append_882 c104 s105 E h1 z1 ((Int32.toUInt32 (Int64.toInt32 (48 + ((z4 * 10) / z2))) % 65536).toInt32) (fs_kr (fun a107 h106 => ¬ (z2 : Int64) = 0 ∧ ((w_NU_writeBare_L42 self E K Post n) z0 z1 z2 ((z4 * 10) - (z4 * 10) / z2 * z2) (z6 + 1) (bc - c104) (bs - s105) h106)) (fun C_ h_ => Post (.inr C_) h_)))))))
def w_NU_writeBare_J31 (self : Nat → Nat → fs_E → fs_Hp → Nat → Nat → fs_Ps → Prop) (E : fs_E) (Post : fs_Ps) (z0 : Nat) (z1 : Nat) (z2 : Int64) (bc bs : Nat) (h1 : fs_Hp) : Prop := fs_gl h1 z0 4 0 (fun x101 => ¬ (z2 : Int64) = 0 ∧ ((∃ n113 : Nat, w_NU_writeBare_L42 self E (fun bc109 bs110 h108 => Post (.inl none) h108) Post n113 z0 z1 z2 (x101 - x101 / z2 * z2) 0 bc bs h1)))
def w_NU_writeBare (self : Nat → Nat → fs_E → fs_Hp → Nat → Nat → fs_Ps → Prop) (mc ms : Nat) (E : fs_E) (h : fs_Hp) (a0 : Nat) (x1 : Nat) (Post : fs_Ps) : Prop := fs_isc h a0 4 ∧ (w_NU_scale E h a0 (fs_kl (fun x115 h114 => fs_gl h114 a0 4 0 (fun x116 => ¬ (x115 : Int64) = 0 ∧ (∃ c117 s118 : Nat, c117 ≤ mc ∧ s118 ≤ ms ∧ (fs_isc h114 x1 11 ∧ (w_SB_append_7d3 c117 s118 E h114 x1 (Int64.toInt32 (x116 / x115)) (fs_kr (fun a120 h119 => fs_gi h119 a0 4 1 (fun x121 => (if x121 ≤ 0 then w_NU_writeBare_J31 self E Post a0 x1 x115 (mc - c117) (ms - s118) h119 else ∃ c123 s124 : Nat, c123 ≤ (mc - c117) ∧ s124 ≤ (ms - s118) ∧ (fs_isc h119 x1 11 ∧ (w_SB_append_882 c123 s124 E h119 x1 46 (fs_kr (fun a126 h125 => w_NU_writeBare_J31 self E Post a0 x1 x115 ((mc - c117) - c123) ((ms - s118) - s124) h125) (fun C_ h_ => Post (.inr C_) h_))))))) (fun C_ h_ => Post (.inr C_) h_))))))) (fun C_ h_ => Post (.inr C_) h_)))
set_option maxHeartbeats 4000000 in
set_option maxRecDepth 100000 in
theorem lw_w_NU_writeBare_42 {p : Program} {l : Launch} {e : Env} {R : Room} {s : State} {m : MethodId} {args : Array Value} {below : List Frame} {meth : Method} {c : Code} {s00 : State} {E : fs_E} {Post : fs_Ps} {mc ms : Nat} (hE : fs_SE l s00 E) {self : Nat → Nat → fs_E → fs_Hp → Nat → Nat → fs_Ps → Prop} {fn ln : Nat} (hself : ∀ {c9 s9 : Nat} {h9 : fs_Hp} {q0 : Nat} {q1 : Nat} {P9 : fs_Ps}, self c9 s9 E h9 q0 q1 P9 → fs_CtV l s00 E.1 y_PT_writeBare { frames := fn, cells := c9, slots := s9, locals := ln } q0 [.ref q1] h9 P9 7) (B : fs_B p l e s m args meth c s00 E.1 y_NU_writeBare b_NU_writeBare 7 none) (hout : ∀ pc, ∀ x ∈ c.exceptionTable.toList, covers x pc = false) (hRf : fn + 7 ≤ R.frames) (hRl : ln + 103 ≤ R.locals) (hRc : mc ≤ R.cells) (hRs : ms ≤ R.slots) (K : Nat → Nat → fs_Hp → Prop) : ∀ (n : Nat) (z0 : Nat) (z1 : Nat) (z2 : Int64) (z4 : Int64) (z6 : Int32) (bc bs uc us : Nat) (h1 : fs_Hp) (H : Heap) (locs : List Loc) (ls : Array Slot), w_NU_writeBare_L42 self E K Post n z0 z1 z2 z4 z6 bc bs h1 → fs_P E.1.1 fs_cl (fs_A s00) h1 H → va_S (fs_A s00) s00.heap H locs → uc + bc ≤ mc → us + bs ≤ ms → lv_has ls 7 [(0, .ref z0), (1, .ref z1), (2, .long z2), (4, .long z4), (6, .int z6)] → (∀  (bc bs uc us : Nat) (h' : fs_Hp) (H : Heap) (locs : List Loc) (ls : Array Slot), K  bc bs h' → fs_P E.1.1 fs_cl (fs_A s00) h' H → va_S (fs_A s00) s00.heap H locs → uc + bc ≤ mc → us + bs ≤ ms → lv_has ls 7 [(0, .ref z0), (1, .ref z1), (2, .long z2)] → W p l e R s m args below meth c H locs uc us (fx_MQ below (fs_Qc s00 E.1 Post) args s mc ms (fs_A s00)) (F0 m 86 ls [])) → W p l e R s m args below meth c H locs uc us (fx_MQ below (fs_Qc s00 E.1 Post) args s mc ms (fs_A s00)) (F0 m 42 ls []) := by
  obtain ⟨hx, hb, hr, hml, hown, hts, hlocks, hname, hK, hw, htr⟩ := id B
  have hown : s.vm.findClass "FormulaSheet$Numeral" = some m.cls := hown
  intro n
  induction n with
  | zero => intro z0 z1 z2 z4 z6 bc bs uc us h1 H locs ls hq; exact False.elim hq
  | succ n ih =>
    intro z0 z1 z2 z4 z6 bc bs uc us h1 H locs ls hq hP hS hu1 hu2 hl kk
    rw [w_NU_writeBare_L42] at hq
    refine lv_iload hx hb d_NU_writeBare_42 (lv_at hl 4 rfl) ?_
    refine lv_aload_n hx hb d_NU_writeBare_44 rfl (lv_at hl 0 rfl) ?_
    obtain ⟨fs_, x102, he_, hv_, hq⟩ := fs_gi_some hq
    refine fs_get hx hb hts hown hK c_NU hP he_ 1 (by decide) (hts _ (fs_tb_at 672 tw_672 rfl)) (fun _ h9 => h9) hv_ d_NU_writeBare_45 ?_
    refine lv_icmp_ge (tgt := 86) hx hb d_NU_writeBare_48 (by decide) (fun c_103 => ?_) (fun c_103 => ?_)
    · have hq := fs_wifp c_103 hq
      exact kk  bc bs uc us _ _ _ _ hq hP hS (by omega) (by omega) (show lv_has ls 7 [(0, .ref z0), (1, .ref z1), (2, .long z2)] from lv_sub hl [0, 1, 2] rfl)
    · have hq := fs_wifn c_103 hq
      refine lv_lload hx hb d_NU_writeBare_51 (lv_at hl 3 rfl) ?_
      refine lv_ldc2 (v := 10) hx hb hown (hts _ (fs_tb_at 390 tw_390 rfl)) d_NU_writeBare_53 ?_
      refine lv_lmul hx hb d_NU_writeBare_56 ?_
      refine lv_lstore (lv' := [(4, .long (z4 * 10)), (0, .ref z0), (1, .ref z1), (2, .long z2), (6, .int z6)]) hx hb d_NU_writeBare_57 hl (by decide) rfl (fun ls hl => ?_)
      refine lv_aload_n hx hb d_NU_writeBare_59 rfl (lv_at hl 2 rfl) ?_
      refine lv_ldc2 (v := 48) hx hb hown (hts _ (fs_tb_at 1406 tw_1406 rfl)) d_NU_writeBare_60 ?_
      refine lv_lload hx hb d_NU_writeBare_63 (lv_at hl 0 rfl) ?_
      refine lv_lload_n hx hb d_NU_writeBare_65 rfl (lv_at hl 3 rfl) ?_
      obtain ⟨hk_, hq⟩ := hq
      refine lv_ldiv hx hb d_NU_writeBare_66 hk_ ?_
      refine lv_ladd hx hb d_NU_writeBare_67 ?_
      refine lv_l2i hx hb d_NU_writeBare_68 rfl ?_
      refine lv_i2c hx hb d_NU_writeBare_69 rfl ?_
      obtain ⟨c104, s105, hc_, hs_, hq⟩ := hq
      obtain ⟨hi_, hq⟩ := hq
      obtain ⟨fs_, he_⟩ := fs_isc_some hi_
      refine fs_cV B hl.1 hP hS (kw_SB_append_882 hE hq) (fs_tb_at 1405 tw_1405 rfl) he_ rfl (fs_tb_at 1380 tw_1380 rfl) (fs_tb_at 1381 tw_1381 rfl) (fs_tb_at 93 tw_93 rfl) (fs_tb_at 1382 tw_1382 rfl) (by decide) (show (parseMethodDescriptor y_SB_append_882.desc).map (fun d => d.parameters.length) = some 1 by decide +kernel) rfl d_NU_writeBare_70 (fs_rm (k := 0) (by omega) (by omega) (by omega) (by omega) rfl) (fun v_ h106 H locs hq hP hS => ?_) (fun C_ a_ h_ H locs hq hP hS hX => fs_out (hout _) hlocks hw hP hS hX (show (uc + c104) ≤ mc by omega) (show (us + s105) ≤ ms by omega) hq)
      refine fs_cs (k := (uc + c104)) (n := (us + s105)) rfl rfl ?_
      replace hq := fs_kr_some hq
      obtain ⟨a107, rfl, hq⟩ := hq
      refine W.eq (g2 := F0 m 73 ls (.ref a107 :: [])) rfl ?_
      refine lv_pop hx hb d_NU_writeBare_73 rfl ?_
      refine lv_lload hx hb d_NU_writeBare_74 (lv_at hl 0 rfl) ?_
      refine lv_lload_n hx hb d_NU_writeBare_76 rfl (lv_at hl 3 rfl) ?_
      obtain ⟨hk_, hq⟩ := hq
      refine lv_lrem hx hb d_NU_writeBare_77 hk_ ?_
      refine lv_lstore (lv' := [(4, .long ((z4 * 10) - (z4 * 10) / z2 * z2)), (0, .ref z0), (1, .ref z1), (2, .long z2), (6, .int z6)]) hx hb d_NU_writeBare_78 hl (by decide) rfl (fun ls hl => ?_)
      refine lv_iinc (v := z6 + 1) (lv' := [(6, .int (z6 + 1)), (4, .long ((z4 * 10) - (z4 * 10) / z2 * z2)), (0, .ref z0), (1, .ref z1), (2, .long z2)]) hx hb d_NU_writeBare_80 hl (k := 4) rfl rfl (by decide) rfl (fun ls hl => ?_)
      refine lv_goto (tgt := 42) hx hb d_NU_writeBare_83 (by decide) ?_
      exact ih z0 z1 z2 ((z4 * 10) - (z4 * 10) / z2 * z2) (z6 + 1) (bc - c104) (bs - s105) (uc + c104) (us + s105) _ _ _ _ hq hP hS (by omega) (by omega) (show lv_has ls 7 [(0, .ref z0), (1, .ref z1), (2, .long z2), (4, .long ((z4 * 10) - (z4 * 10) / z2 * z2)), (6, .int (z6 + 1))] from lv_sub hl [2, 3, 4, 1, 0] rfl) kk
set_option maxHeartbeats 4000000 in
set_option maxRecDepth 100000 in
theorem kw_NU_writeBare {l : Launch} {s00 : State} {E : fs_E} (hE : fs_SE l s00 E) {self : Nat → Nat → fs_E → fs_Hp → Nat → Nat → fs_Ps → Prop} {fn ln : Nat} (hself : ∀ {c9 s9 : Nat} {h9 : fs_Hp} {q0 : Nat} {q1 : Nat} {P9 : fs_Ps}, self c9 s9 E h9 q0 q1 P9 → fs_CtV l s00 E.1 y_PT_writeBare { frames := fn, cells := c9, slots := s9, locals := ln } q0 [.ref q1] h9 P9 7) {mc ms : Nat} {h : fs_Hp} {a0 : Nat} {x1 : Nat} {Post : fs_Ps} (hq : w_NU_writeBare self mc ms E h a0 x1 Post) : fs_Ct l s00 E.1 y_NU_writeBare (.code y_NU_writeBare b_NU_writeBare 7 none) { frames := fn + 7, cells := mc, slots := ms, locals := ln + 103 } [.ref a0, .ref x1] h Post := by
  refine fs_Ct.ofR hE.1 (by decide) ?_
  intro p e R s m below meth c hRf hRl hRc hRs B hout hP
  skip
  obtain ⟨hx, hb, hr, hml, hown, hts, hlocks, hname, hK, hw, htr⟩ := id B
  have hown : s.vm.findClass "FormulaSheet$Numeral" = some m.cls := hown
  have hS := hw.S
  have hJ31 : ∀ (z0 : Nat) (z1 : Nat) (z2 : Int64) (bc bs uc us : Nat) (h1 : fs_Hp) (H : Heap) (locs : List Loc) (ls : Array Slot), w_NU_writeBare_J31 self E Post z0 z1 z2 bc bs h1 → fs_P E.1.1 fs_cl (fs_A s00) h1 H → va_S (fs_A s00) s00.heap H locs → uc + bc ≤ mc → us + bs ≤ ms → lv_has ls 7 [(0, .ref z0), (1, .ref z1), (2, .long z2)] → W p l e R s m ([.ref a0, .ref x1] : List Value).toArray below meth c H locs uc us (fx_MQ below (fs_Qc s00 E.1 Post) ([.ref a0, .ref x1] : List Value).toArray s mc ms (fs_A s00)) (F0 m 31 ls ([])) := by
    intro z0 z1 z2 bc bs uc us h1 H locs ls hq hP hS hu1 hu2 hl
    unfold w_NU_writeBare_J31 at hq
    refine lv_aload_n hx hb d_NU_writeBare_31 rfl (lv_at hl 0 rfl) ?_
    obtain ⟨fs_, x101, he_, hv_, hq⟩ := fs_gl_some hq
    refine fs_get hx hb hts hown hK c_NU hP he_ 0 (by decide) (hts _ (fs_tb_at 671 tw_671 rfl)) (fun _ h9 => h9) hv_ d_NU_writeBare_32 ?_
    refine lv_lload_n hx hb d_NU_writeBare_35 rfl (lv_at hl 2 rfl) ?_
    obtain ⟨hk_, hq⟩ := hq
    refine lv_lrem hx hb d_NU_writeBare_36 hk_ ?_
    refine lv_lstore (lv' := [(4, .long (x101 - x101 / z2 * z2)), (0, .ref z0), (1, .ref z1), (2, .long z2)]) hx hb d_NU_writeBare_37 hl (by decide) rfl (fun ls hl => ?_)
    refine lv_iconst (v := 0) hx hb d_NU_writeBare_39 (by decide) ?_
    refine lv_istore (lv' := [(6, .int 0), (4, .long (x101 - x101 / z2 * z2)), (0, .ref z0), (1, .ref z1), (2, .long z2)]) hx hb d_NU_writeBare_40 hl (by decide) rfl (fun ls hl => ?_)
    obtain ⟨n113, hq⟩ := hq
    refine lw_w_NU_writeBare_42 hE hself B hout (by omega) (by omega) hRc hRs _ n113 z0 z1 z2 (x101 - x101 / z2 * z2) 0 bc bs uc us _ _ _ _ hq hP hS (by omega) (by omega) (show lv_has ls 7 [(0, .ref z0), (1, .ref z1), (2, .long z2), (4, .long (x101 - x101 / z2 * z2)), (6, .int 0)] from lv_sub hl [2, 3, 4, 1, 0] rfl) (fun  bc109 bs110 uc111 us112 h108 H locs ls hq hP hS hu1 hu2 hl => ?_)
    exact fs_vret hx hb hr hlocks hw hP hS (by omega) (by omega) hq d_NU_writeBare_86
  have hl := lv_entry ([.ref a0, .ref x1]) (n := 7) (Nat.le_of_ble_eq_true rfl)
  rw [lg_entry_eq]
  generalize (lg_sl ([.ref a0, .ref x1]) ++ List.replicate (7 - (lg_sl ([.ref a0, .ref x1])).length) Slot.unset).toArray = ls at hl ⊢
  have hl : lv_has ls 7 [(0, .ref a0), (1, .ref x1)] := hl
  unfold w_NU_writeBare at hq
  refine lv_aload_n hx hb d_NU_writeBare_0 rfl (lv_at hl 0 rfl) ?_
  obtain ⟨hi_, hq⟩ := hq
  obtain ⟨fs_, he_⟩ := fs_isc_some hi_
  refine fs_cV B hl.1 hP hS (kw_NU_scale hE hq) (fs_tb_at 385 tw_385 rfl) he_ rfl (fs_tb_at 387 tw_387 rfl) (fs_tb_at 10 tw_10 rfl) (fs_tb_at 104 tw_104 rfl) (fs_tb_at 389 tw_389 rfl) (by decide) (show (parseMethodDescriptor y_NU_scale.desc).map (fun d => d.parameters.length) = some 0 by decide +kernel) rfl d_NU_writeBare_1 (fs_rm (k := 0) (by omega) (by omega) (by omega) (by omega) rfl) (fun v_ h114 H locs hq hP hS => ?_) (fun C_ a_ h_ H locs hq hP hS hX => fs_out (hout _) hlocks hw hP hS hX (show 0 ≤ mc by omega) (show 0 ≤ ms by omega) hq)
  refine fs_cs (k := 0) (n := 0) rfl rfl ?_
  replace hq := fs_kl_some hq
  obtain ⟨x115, rfl, hq⟩ := hq
  refine W.eq (g2 := F0 m 4 ls (.long x115 :: [])) rfl ?_
  refine lv_lstore_n (lv' := [(2, .long x115), (0, .ref a0), (1, .ref x1)]) hx hb d_NU_writeBare_4 rfl hl (by decide) rfl (fun ls hl => ?_)
  refine lv_aload_n hx hb d_NU_writeBare_5 rfl (lv_at hl 2 rfl) ?_
  refine lv_aload_n hx hb d_NU_writeBare_6 rfl (lv_at hl 1 rfl) ?_
  obtain ⟨fs_, x116, he_, hv_, hq⟩ := fs_gl_some hq
  refine fs_get hx hb hts hown hK c_NU hP he_ 0 (by decide) (hts _ (fs_tb_at 671 tw_671 rfl)) (fun _ h9 => h9) hv_ d_NU_writeBare_7 ?_
  refine lv_lload_n hx hb d_NU_writeBare_10 rfl (lv_at hl 0 rfl) ?_
  obtain ⟨hk_, hq⟩ := hq
  refine lv_ldiv hx hb d_NU_writeBare_11 hk_ ?_
  refine lv_l2i hx hb d_NU_writeBare_12 rfl ?_
  obtain ⟨c117, s118, hc_, hs_, hq⟩ := hq
  obtain ⟨hi_, hq⟩ := hq
  obtain ⟨fs_, he_⟩ := fs_isc_some hi_
  refine fs_cV B hl.1 hP hS (kw_SB_append_7d3 hE hq) (fs_tb_at 1404 tw_1404 rfl) he_ rfl (fs_tb_at 1204 tw_1204 rfl) (fs_tb_at 1205 tw_1205 rfl) (fs_tb_at 93 tw_93 rfl) (fs_tb_at 1206 tw_1206 rfl) (by decide) (show (parseMethodDescriptor y_SB_append_7d3.desc).map (fun d => d.parameters.length) = some 1 by decide +kernel) rfl d_NU_writeBare_13 (fs_rm (k := 0) (by omega) (by omega) (by omega) (by omega) rfl) (fun v_ h119 H locs hq hP hS => ?_) (fun C_ a_ h_ H locs hq hP hS hX => fs_out (hout _) hlocks hw hP hS hX (show (0 + c117) ≤ mc by omega) (show (0 + s118) ≤ ms by omega) hq)
  refine fs_cs (k := (0 + c117)) (n := (0 + s118)) rfl rfl ?_
  replace hq := fs_kr_some hq
  obtain ⟨a120, rfl, hq⟩ := hq
  refine W.eq (g2 := F0 m 16 ls (.ref a120 :: [])) rfl ?_
  refine lv_pop hx hb d_NU_writeBare_16 rfl ?_
  refine lv_aload_n hx hb d_NU_writeBare_17 rfl (lv_at hl 1 rfl) ?_
  obtain ⟨fs_, x121, he_, hv_, hq⟩ := fs_gi_some hq
  refine fs_get hx hb hts hown hK c_NU hP he_ 1 (by decide) (hts _ (fs_tb_at 672 tw_672 rfl)) (fun _ h9 => h9) hv_ d_NU_writeBare_18 ?_
  refine lv_if_le (tgt := 31) hx hb d_NU_writeBare_21 (by decide) (fun c_122 => ?_) (fun c_122 => ?_)
  · have hq := fs_wifp c_122 hq
    exact hJ31 a0 x1 x115 (mc - c117) (ms - s118) (0 + c117) (0 + s118) _ _ _ _ hq hP hS (by omega) (by omega) (show lv_has ls 7 [(0, .ref a0), (1, .ref x1), (2, .long x115)] from lv_sub hl [1, 2, 0] rfl)
  · have hq := fs_wifn c_122 hq
    refine lv_aload_n hx hb d_NU_writeBare_24 rfl (lv_at hl 2 rfl) ?_
    refine lv_bipush (v := 46) hx hb d_NU_writeBare_25 (by decide) ?_
    obtain ⟨c123, s124, hc_, hs_, hq⟩ := hq
    obtain ⟨hi_, hq⟩ := hq
    obtain ⟨fs_, he_⟩ := fs_isc_some hi_
    refine fs_cV B hl.1 hP hS (kw_SB_append_882 hE hq) (fs_tb_at 1405 tw_1405 rfl) he_ rfl (fs_tb_at 1380 tw_1380 rfl) (fs_tb_at 1381 tw_1381 rfl) (fs_tb_at 93 tw_93 rfl) (fs_tb_at 1382 tw_1382 rfl) (by decide) (show (parseMethodDescriptor y_SB_append_882.desc).map (fun d => d.parameters.length) = some 1 by decide +kernel) rfl d_NU_writeBare_27 (fs_rm (k := 0) (by omega) (by omega) (by omega) (by omega) rfl) (fun v_ h125 H locs hq hP hS => ?_) (fun C_ a_ h_ H locs hq hP hS hX => fs_out (hout _) hlocks hw hP hS hX (show ((0 + c117) + c123) ≤ mc by omega) (show ((0 + s118) + s124) ≤ ms by omega) hq)
    refine fs_cs (k := ((0 + c117) + c123)) (n := ((0 + s118) + s124)) rfl rfl ?_
    replace hq := fs_kr_some hq
    obtain ⟨a126, rfl, hq⟩ := hq
    refine W.eq (g2 := F0 m 30 ls (.ref a126 :: [])) rfl ?_
    refine lv_pop hx hb d_NU_writeBare_30 rfl ?_
    exact hJ31 a0 x1 x115 ((mc - c117) - c123) ((ms - s118) - s124) ((0 + c117) + c123) ((0 + s118) + s124) _ _ _ _ hq hP hS (by omega) (by omega) (show lv_has ls 7 [(0, .ref a0), (1, .ref x1), (2, .long x115)] from lv_sub hl [1, 2, 0] rfl)
def w_RE_writeBare_J56 (self : Nat → Nat → fs_E → fs_Hp → Nat → Nat → fs_Ps → Prop) (E : fs_E) (Post : fs_Ps) (z0 : Nat) (z1 : Nat) (bc bs : Nat) (h1 : fs_Hp) : Prop := fs_gi h1 z0 5 3 (fun x101 => ∃ c102 s103 : Nat, c102 ≤ bc ∧ s103 ≤ bs ∧ (fs_isc h1 z1 11 ∧ (w_SB_append_7d3 c102 s103 E h1 z1 (x101 + 1) (fs_kr (fun a105 h104 => Post (.inl none) h104) (fun C_ h_ => Post (.inr C_) h_)))))
def w_RE_writeBare_J29 (self : Nat → Nat → fs_E → fs_Hp → Nat → Nat → fs_Ps → Prop) (E : fs_E) (Post : fs_Ps) (z0 : Nat) (z1 : Nat) (bc bs : Nat) (h1 : fs_Hp) : Prop := fs_gi h1 z0 5 2 (fun x106 => ∃ c107 s108 : Nat, c107 ≤ bc ∧ s108 ≤ bs ∧ (fs_isc h1 z1 11 ∧ (w_SB_append_882 c107 s108 E h1 z1 ((Int32.toUInt32 (97 + x106) % 65536).toInt32) (fs_kr (fun a110 h109 => fs_gi h109 z0 5 1 (fun x111 => (if x111 = 0 then w_RE_writeBare_J56 self E Post z0 z1 (bc - c107) (bs - s108) h109 else ∃ c113 s114 : Nat, c113 ≤ (bc - c107) ∧ s114 ≤ (bs - s108) ∧ (fs_isc h109 z1 11 ∧ (w_SB_append_882 c113 s114 E h109 z1 36 (fs_kr (fun a116 h115 => w_RE_writeBare_J56 self E Post z0 z1 ((bc - c107) - c113) ((bs - s108) - s114) h115) (fun C_ h_ => Post (.inr C_) h_))))))) (fun C_ h_ => Post (.inr C_) h_)))))
def w_RE_writeBare (self : Nat → Nat → fs_E → fs_Hp → Nat → Nat → fs_Ps → Prop) (mc ms : Nat) (E : fs_E) (h : fs_Hp) (a0 : Nat) (x1 : Nat) (Post : fs_Ps) : Prop := fs_gi h a0 5 4 (fun x117 => (if x117 = 0 then fs_gi h a0 5 0 (fun x119 => (if x119 = 0 then w_RE_writeBare_J29 self E Post a0 x1 mc ms h else ∃ c121 s122 : Nat, c121 ≤ mc ∧ s122 ≤ ms ∧ (fs_isc h x1 11 ∧ (w_SB_append_882 c121 s122 E h x1 36 (fs_kr (fun a124 h123 => w_RE_writeBare_J29 self E Post a0 x1 (mc - c121) (ms - s122) h123) (fun C_ h_ => Post (.inr C_) h_)))))) else ∃ c125 s126 : Nat, c125 ≤ mc ∧ s126 ≤ ms ∧ (fs_isc h x1 11 ∧ (w_SB_append_882 c125 s126 E h x1 126 (fs_kr (fun a128 h127 => Post (.inl none) h127) (fun C_ h_ => Post (.inr C_) h_))))))
set_option maxHeartbeats 4000000 in
set_option maxRecDepth 100000 in
theorem kw_RE_writeBare {l : Launch} {s00 : State} {E : fs_E} (hE : fs_SE l s00 E) {self : Nat → Nat → fs_E → fs_Hp → Nat → Nat → fs_Ps → Prop} {fn ln : Nat} (hself : ∀ {c9 s9 : Nat} {h9 : fs_Hp} {q0 : Nat} {q1 : Nat} {P9 : fs_Ps}, self c9 s9 E h9 q0 q1 P9 → fs_CtV l s00 E.1 y_PT_writeBare { frames := fn, cells := c9, slots := s9, locals := ln } q0 [.ref q1] h9 P9 7) {mc ms : Nat} {h : fs_Hp} {a0 : Nat} {x1 : Nat} {Post : fs_Ps} (hq : w_RE_writeBare self mc ms E h a0 x1 Post) : fs_Ct l s00 E.1 y_RE_writeBare (.code y_RE_writeBare b_RE_writeBare 2 none) { frames := fn + 7, cells := mc, slots := ms, locals := ln + 103 } [.ref a0, .ref x1] h Post := by
  refine fs_Ct.ofR hE.1 (by decide) ?_
  intro p e R s m below meth c hRf hRl hRc hRs B hout hP
  skip
  obtain ⟨hx, hb, hr, hml, hown, hts, hlocks, hname, hK, hw, htr⟩ := id B
  have hown : s.vm.findClass "FormulaSheet$Reference" = some m.cls := hown
  have hS := hw.S
  have hJ56 : ∀ (z0 : Nat) (z1 : Nat) (bc bs uc us : Nat) (h1 : fs_Hp) (H : Heap) (locs : List Loc) (ls : Array Slot), w_RE_writeBare_J56 self E Post z0 z1 bc bs h1 → fs_P E.1.1 fs_cl (fs_A s00) h1 H → va_S (fs_A s00) s00.heap H locs → uc + bc ≤ mc → us + bs ≤ ms → lv_has ls 2 [(0, .ref z0), (1, .ref z1)] → W p l e R s m ([.ref a0, .ref x1] : List Value).toArray below meth c H locs uc us (fx_MQ below (fs_Qc s00 E.1 Post) ([.ref a0, .ref x1] : List Value).toArray s mc ms (fs_A s00)) (F0 m 56 ls ([])) := by
    intro z0 z1 bc bs uc us h1 H locs ls hq hP hS hu1 hu2 hl
    unfold w_RE_writeBare_J56 at hq
    refine lv_aload_n hx hb d_RE_writeBare_56 rfl (lv_at hl 1 rfl) ?_
    refine lv_aload_n hx hb d_RE_writeBare_57 rfl (lv_at hl 0 rfl) ?_
    obtain ⟨fs_, x101, he_, hv_, hq⟩ := fs_gi_some hq
    refine fs_get hx hb hts hown hK c_RE hP he_ 3 (by decide) (hts _ (fs_tb_at 705 tw_705 rfl)) (fun _ h9 => h9) hv_ d_RE_writeBare_58 ?_
    refine lv_iconst (v := 1) hx hb d_RE_writeBare_61 (by decide) ?_
    refine lv_iadd hx hb d_RE_writeBare_62 ?_
    obtain ⟨c102, s103, hc_, hs_, hq⟩ := hq
    obtain ⟨hi_, hq⟩ := hq
    obtain ⟨fs_, he_⟩ := fs_isc_some hi_
    refine fs_cV B hl.1 hP hS (kw_SB_append_7d3 hE hq) (fs_tb_at 1425 tw_1425 rfl) he_ rfl (fs_tb_at 1204 tw_1204 rfl) (fs_tb_at 1205 tw_1205 rfl) (fs_tb_at 93 tw_93 rfl) (fs_tb_at 1206 tw_1206 rfl) (by decide) (show (parseMethodDescriptor y_SB_append_7d3.desc).map (fun d => d.parameters.length) = some 1 by decide +kernel) rfl d_RE_writeBare_63 (fs_rm (k := 0) (by omega) (by omega) (by omega) (by omega) rfl) (fun v_ h104 H locs hq hP hS => ?_) (fun C_ a_ h_ H locs hq hP hS hX => fs_out (hout _) hlocks hw hP hS hX (show (uc + c102) ≤ mc by omega) (show (us + s103) ≤ ms by omega) hq)
    refine fs_cs (k := (uc + c102)) (n := (us + s103)) rfl rfl ?_
    replace hq := fs_kr_some hq
    obtain ⟨a105, rfl, hq⟩ := hq
    refine W.eq (g2 := F0 m 66 ls (.ref a105 :: [])) rfl ?_
    refine lv_pop hx hb d_RE_writeBare_66 rfl ?_
    exact fs_vret hx hb hr hlocks hw hP hS (by omega) (by omega) hq d_RE_writeBare_67
  have hJ29 : ∀ (z0 : Nat) (z1 : Nat) (bc bs uc us : Nat) (h1 : fs_Hp) (H : Heap) (locs : List Loc) (ls : Array Slot), w_RE_writeBare_J29 self E Post z0 z1 bc bs h1 → fs_P E.1.1 fs_cl (fs_A s00) h1 H → va_S (fs_A s00) s00.heap H locs → uc + bc ≤ mc → us + bs ≤ ms → lv_has ls 2 [(0, .ref z0), (1, .ref z1)] → W p l e R s m ([.ref a0, .ref x1] : List Value).toArray below meth c H locs uc us (fx_MQ below (fs_Qc s00 E.1 Post) ([.ref a0, .ref x1] : List Value).toArray s mc ms (fs_A s00)) (F0 m 29 ls ([])) := by
    intro z0 z1 bc bs uc us h1 H locs ls hq hP hS hu1 hu2 hl
    unfold w_RE_writeBare_J29 at hq
    refine lv_aload_n hx hb d_RE_writeBare_29 rfl (lv_at hl 1 rfl) ?_
    refine lv_bipush (v := 97) hx hb d_RE_writeBare_30 (by decide) ?_
    refine lv_aload_n hx hb d_RE_writeBare_32 rfl (lv_at hl 0 rfl) ?_
    obtain ⟨fs_, x106, he_, hv_, hq⟩ := fs_gi_some hq
    refine fs_get hx hb hts hown hK c_RE hP he_ 2 (by decide) (hts _ (fs_tb_at 703 tw_703 rfl)) (fun _ h9 => h9) hv_ d_RE_writeBare_33 ?_
    refine lv_iadd hx hb d_RE_writeBare_36 ?_
    refine lv_i2c hx hb d_RE_writeBare_37 rfl ?_
    obtain ⟨c107, s108, hc_, hs_, hq⟩ := hq
    obtain ⟨hi_, hq⟩ := hq
    obtain ⟨fs_, he_⟩ := fs_isc_some hi_
    refine fs_cV B hl.1 hP hS (kw_SB_append_882 hE hq) (fs_tb_at 1424 tw_1424 rfl) he_ rfl (fs_tb_at 1380 tw_1380 rfl) (fs_tb_at 1381 tw_1381 rfl) (fs_tb_at 93 tw_93 rfl) (fs_tb_at 1382 tw_1382 rfl) (by decide) (show (parseMethodDescriptor y_SB_append_882.desc).map (fun d => d.parameters.length) = some 1 by decide +kernel) rfl d_RE_writeBare_38 (fs_rm (k := 0) (by omega) (by omega) (by omega) (by omega) rfl) (fun v_ h109 H locs hq hP hS => ?_) (fun C_ a_ h_ H locs hq hP hS hX => fs_out (hout _) hlocks hw hP hS hX (show (uc + c107) ≤ mc by omega) (show (us + s108) ≤ ms by omega) hq)
    refine fs_cs (k := (uc + c107)) (n := (us + s108)) rfl rfl ?_
    replace hq := fs_kr_some hq
    obtain ⟨a110, rfl, hq⟩ := hq
    refine W.eq (g2 := F0 m 41 ls (.ref a110 :: [])) rfl ?_
    refine lv_pop hx hb d_RE_writeBare_41 rfl ?_
    refine lv_aload_n hx hb d_RE_writeBare_42 rfl (lv_at hl 0 rfl) ?_
    obtain ⟨fs_, x111, he_, hv_, hq⟩ := fs_gi_some hq
    refine fs_get hx hb hts hown hK c_RE hP he_ 1 (by decide) (hts _ (fs_tb_at 702 tw_702 rfl)) (fun _ h9 => h9) hv_ d_RE_writeBare_43 ?_
    refine lv_if_eq (tgt := 56) hx hb d_RE_writeBare_46 (by decide) (fun c_112 => ?_) (fun c_112 => ?_)
    · have hq := fs_wifp c_112 hq
      exact hJ56 z0 z1 (bc - c107) (bs - s108) (uc + c107) (us + s108) _ _ _ _ hq hP hS (by omega) (by omega) (show lv_has ls 2 [(0, .ref z0), (1, .ref z1)] from lv_sub hl [0, 1] rfl)
    · have hq := fs_wifn c_112 hq
      refine lv_aload_n hx hb d_RE_writeBare_49 rfl (lv_at hl 1 rfl) ?_
      refine lv_bipush (v := 36) hx hb d_RE_writeBare_50 (by decide) ?_
      obtain ⟨c113, s114, hc_, hs_, hq⟩ := hq
      obtain ⟨hi_, hq⟩ := hq
      obtain ⟨fs_, he_⟩ := fs_isc_some hi_
      refine fs_cV B hl.1 hP hS (kw_SB_append_882 hE hq) (fs_tb_at 1424 tw_1424 rfl) he_ rfl (fs_tb_at 1380 tw_1380 rfl) (fs_tb_at 1381 tw_1381 rfl) (fs_tb_at 93 tw_93 rfl) (fs_tb_at 1382 tw_1382 rfl) (by decide) (show (parseMethodDescriptor y_SB_append_882.desc).map (fun d => d.parameters.length) = some 1 by decide +kernel) rfl d_RE_writeBare_52 (fs_rm (k := 0) (by omega) (by omega) (by omega) (by omega) rfl) (fun v_ h115 H locs hq hP hS => ?_) (fun C_ a_ h_ H locs hq hP hS hX => fs_out (hout _) hlocks hw hP hS hX (show ((uc + c107) + c113) ≤ mc by omega) (show ((us + s108) + s114) ≤ ms by omega) hq)
      refine fs_cs (k := ((uc + c107) + c113)) (n := ((us + s108) + s114)) rfl rfl ?_
      replace hq := fs_kr_some hq
      obtain ⟨a116, rfl, hq⟩ := hq
      refine W.eq (g2 := F0 m 55 ls (.ref a116 :: [])) rfl ?_
      refine lv_pop hx hb d_RE_writeBare_55 rfl ?_
      exact hJ56 z0 z1 ((bc - c107) - c113) ((bs - s108) - s114) ((uc + c107) + c113) ((us + s108) + s114) _ _ _ _ hq hP hS (by omega) (by omega) (show lv_has ls 2 [(0, .ref z0), (1, .ref z1)] from lv_sub hl [0, 1] rfl)
  have hl := lv_entry ([.ref a0, .ref x1]) (n := 2) (Nat.le_of_ble_eq_true rfl)
  rw [lg_entry_eq]
  generalize (lg_sl ([.ref a0, .ref x1]) ++ List.replicate (2 - (lg_sl ([.ref a0, .ref x1])).length) Slot.unset).toArray = ls at hl ⊢
  have hl : lv_has ls 2 [(0, .ref a0), (1, .ref x1)] := hl
  unfold w_RE_writeBare at hq
  refine lv_aload_n hx hb d_RE_writeBare_0 rfl (lv_at hl 0 rfl) ?_
  obtain ⟨fs_, x117, he_, hv_, hq⟩ := fs_gi_some hq
  refine fs_get hx hb hts hown hK c_RE hP he_ 4 (by decide) (hts _ (fs_tb_at 708 tw_708 rfl)) (fun _ h9 => h9) hv_ d_RE_writeBare_1 ?_
  refine lv_if_eq (tgt := 15) hx hb d_RE_writeBare_4 (by decide) (fun c_118 => ?_) (fun c_118 => ?_)
  · have hq := fs_wifp c_118 hq
    refine lv_aload_n hx hb d_RE_writeBare_15 rfl (lv_at hl 0 rfl) ?_
    obtain ⟨fs_, x119, he_, hv_, hq⟩ := fs_gi_some hq
    refine fs_get hx hb hts hown hK c_RE hP he_ 0 (by decide) (hts _ (fs_tb_at 701 tw_701 rfl)) (fun _ h9 => h9) hv_ d_RE_writeBare_16 ?_
    refine lv_if_eq (tgt := 29) hx hb d_RE_writeBare_19 (by decide) (fun c_120 => ?_) (fun c_120 => ?_)
    · have hq := fs_wifp c_120 hq
      exact hJ29 a0 x1 mc ms 0 0 _ _ _ _ hq hP hS (by omega) (by omega) (show lv_has ls 2 [(0, .ref a0), (1, .ref x1)] from lv_sub hl [0, 1] rfl)
    · have hq := fs_wifn c_120 hq
      refine lv_aload_n hx hb d_RE_writeBare_22 rfl (lv_at hl 1 rfl) ?_
      refine lv_bipush (v := 36) hx hb d_RE_writeBare_23 (by decide) ?_
      obtain ⟨c121, s122, hc_, hs_, hq⟩ := hq
      obtain ⟨hi_, hq⟩ := hq
      obtain ⟨fs_, he_⟩ := fs_isc_some hi_
      refine fs_cV B hl.1 hP hS (kw_SB_append_882 hE hq) (fs_tb_at 1424 tw_1424 rfl) he_ rfl (fs_tb_at 1380 tw_1380 rfl) (fs_tb_at 1381 tw_1381 rfl) (fs_tb_at 93 tw_93 rfl) (fs_tb_at 1382 tw_1382 rfl) (by decide) (show (parseMethodDescriptor y_SB_append_882.desc).map (fun d => d.parameters.length) = some 1 by decide +kernel) rfl d_RE_writeBare_25 (fs_rm (k := 0) (by omega) (by omega) (by omega) (by omega) rfl) (fun v_ h123 H locs hq hP hS => ?_) (fun C_ a_ h_ H locs hq hP hS hX => fs_out (hout _) hlocks hw hP hS hX (show (0 + c121) ≤ mc by omega) (show (0 + s122) ≤ ms by omega) hq)
      refine fs_cs (k := (0 + c121)) (n := (0 + s122)) rfl rfl ?_
      replace hq := fs_kr_some hq
      obtain ⟨a124, rfl, hq⟩ := hq
      refine W.eq (g2 := F0 m 28 ls (.ref a124 :: [])) rfl ?_
      refine lv_pop hx hb d_RE_writeBare_28 rfl ?_
      exact hJ29 a0 x1 (mc - c121) (ms - s122) (0 + c121) (0 + s122) _ _ _ _ hq hP hS (by omega) (by omega) (show lv_has ls 2 [(0, .ref a0), (1, .ref x1)] from lv_sub hl [0, 1] rfl)
  · have hq := fs_wifn c_118 hq
    refine lv_aload_n hx hb d_RE_writeBare_7 rfl (lv_at hl 1 rfl) ?_
    refine lv_bipush (v := 126) hx hb d_RE_writeBare_8 (by decide) ?_
    obtain ⟨c125, s126, hc_, hs_, hq⟩ := hq
    obtain ⟨hi_, hq⟩ := hq
    obtain ⟨fs_, he_⟩ := fs_isc_some hi_
    refine fs_cV B hl.1 hP hS (kw_SB_append_882 hE hq) (fs_tb_at 1424 tw_1424 rfl) he_ rfl (fs_tb_at 1380 tw_1380 rfl) (fs_tb_at 1381 tw_1381 rfl) (fs_tb_at 93 tw_93 rfl) (fs_tb_at 1382 tw_1382 rfl) (by decide) (show (parseMethodDescriptor y_SB_append_882.desc).map (fun d => d.parameters.length) = some 1 by decide +kernel) rfl d_RE_writeBare_10 (fs_rm (k := 0) (by omega) (by omega) (by omega) (by omega) rfl) (fun v_ h127 H locs hq hP hS => ?_) (fun C_ a_ h_ H locs hq hP hS hX => fs_out (hout _) hlocks hw hP hS hX (show (0 + c125) ≤ mc by omega) (show (0 + s126) ≤ ms by omega) hq)
    refine fs_cs (k := (0 + c125)) (n := (0 + s126)) rfl rfl ?_
    replace hq := fs_kr_some hq
    obtain ⟨a128, rfl, hq⟩ := hq
    refine W.eq (g2 := F0 m 13 ls (.ref a128 :: [])) rfl ?_
    refine lv_pop hx hb d_RE_writeBare_13 rfl ?_
    exact fs_vret hx hb hr hlocks hw hP hS (by omega) (by omega) hq d_RE_writeBare_14
def w_SI_writeBare (self : Nat → Nat → fs_E → fs_Hp → Nat → Nat → fs_Ps → Prop) (mc ms : Nat) (E : fs_E) (h : fs_Hp) (a0 : Nat) (x1 : Nat) (Post : fs_Ps) : Prop := fs_gi h a0 6 0 (fun x101 => ∃ c102 s103 : Nat, c102 ≤ mc ∧ s103 ≤ ms ∧ (fs_isc h x1 11 ∧ (w_SB_append_882 c102 s103 E h x1 x101 (fs_kr (fun a105 h104 => fs_gr h104 a0 6 1 (fun a106 => fs_aq h104 a106 (E.1.2 6) 0 (fun o9 => match o9 with | none => fs_gi h104 a0 6 0 (fun x109 => (if x109 = 45 then False else False)) | some a111 => fs_gi h104 a0 6 0 (fun x112 => (if x112 = 45 then ∃ c117 s118 : Nat, c117 ≤ (mc - c102) ∧ s118 ≤ (ms - s103) ∧ (w_V_write self c117 s118 E h104 a111 x1 5 (fs_kv (fun h119 => Post (.inl none) h119) (fun C_ h_ => Post (.inr C_) h_))) else ∃ c114 s115 : Nat, c114 ≤ (mc - c102) ∧ s115 ≤ (ms - s103) ∧ (w_V_write self c114 s115 E h104 a111 x1 2 (fs_kv (fun h116 => Post (.inl none) h116) (fun C_ h_ => Post (.inr C_) h_)))))))) (fun C_ h_ => Post (.inr C_) h_)))))
set_option maxHeartbeats 4000000 in
set_option maxRecDepth 100000 in
theorem kw_SI_writeBare {l : Launch} {s00 : State} {E : fs_E} (hE : fs_SE l s00 E) {self : Nat → Nat → fs_E → fs_Hp → Nat → Nat → fs_Ps → Prop} {fn ln : Nat} (hself : ∀ {c9 s9 : Nat} {h9 : fs_Hp} {q0 : Nat} {q1 : Nat} {P9 : fs_Ps}, self c9 s9 E h9 q0 q1 P9 → fs_CtV l s00 E.1 y_PT_writeBare { frames := fn, cells := c9, slots := s9, locals := ln } q0 [.ref q1] h9 P9 7) {mc ms : Nat} {h : fs_Hp} {a0 : Nat} {x1 : Nat} {Post : fs_Ps} (hq : w_SI_writeBare self mc ms E h a0 x1 Post) : fs_Ct l s00 E.1 y_SI_writeBare (.code y_SI_writeBare b_SI_writeBare 2 none) { frames := fn + 7, cells := mc, slots := ms, locals := ln + 103 } [.ref a0, .ref x1] h Post := by
  refine fs_Ct.ofR hE.1 (by decide) ?_
  intro p e R s m below meth c hRf hRl hRc hRs B hout hP
  skip
  obtain ⟨hx, hb, hr, hml, hown, hts, hlocks, hname, hK, hw, htr⟩ := id B
  have hown : s.vm.findClass "FormulaSheet$Single" = some m.cls := hown
  have hS := hw.S
  have hl := lv_entry ([.ref a0, .ref x1]) (n := 2) (Nat.le_of_ble_eq_true rfl)
  rw [lg_entry_eq]
  generalize (lg_sl ([.ref a0, .ref x1]) ++ List.replicate (2 - (lg_sl ([.ref a0, .ref x1])).length) Slot.unset).toArray = ls at hl ⊢
  have hl : lv_has ls 2 [(0, .ref a0), (1, .ref x1)] := hl
  unfold w_SI_writeBare at hq
  refine lv_aload_n hx hb d_SI_writeBare_0 rfl (lv_at hl 1 rfl) ?_
  refine lv_aload_n hx hb d_SI_writeBare_1 rfl (lv_at hl 0 rfl) ?_
  obtain ⟨fs_, x101, he_, hv_, hq⟩ := fs_gi_some hq
  refine fs_get hx hb hts hown hK c_SI hP he_ 0 (by decide) (hts _ (fs_tb_at 834 tw_834 rfl)) (fun _ h9 => h9) hv_ d_SI_writeBare_2 ?_
  obtain ⟨c102, s103, hc_, hs_, hq⟩ := hq
  obtain ⟨hi_, hq⟩ := hq
  obtain ⟨fs_, he_⟩ := fs_isc_some hi_
  refine fs_cV B hl.1 hP hS (kw_SB_append_882 hE hq) (fs_tb_at 1429 tw_1429 rfl) he_ rfl (fs_tb_at 1380 tw_1380 rfl) (fs_tb_at 1381 tw_1381 rfl) (fs_tb_at 93 tw_93 rfl) (fs_tb_at 1382 tw_1382 rfl) (by decide) (show (parseMethodDescriptor y_SB_append_882.desc).map (fun d => d.parameters.length) = some 1 by decide +kernel) rfl d_SI_writeBare_5 (fs_rm (k := 0) (by omega) (by omega) (by omega) (by omega) rfl) (fun v_ h104 H locs hq hP hS => ?_) (fun C_ a_ h_ H locs hq hP hS hX => fs_out (hout _) hlocks hw hP hS hX (show (0 + c102) ≤ mc by omega) (show (0 + s103) ≤ ms by omega) hq)
  refine fs_cs (k := (0 + c102)) (n := (0 + s103)) rfl rfl ?_
  replace hq := fs_kr_some hq
  obtain ⟨a105, rfl, hq⟩ := hq
  refine W.eq (g2 := F0 m 8 ls (.ref a105 :: [])) rfl ?_
  refine lv_pop hx hb d_SI_writeBare_8 rfl ?_
  refine lv_aload_n hx hb d_SI_writeBare_9 rfl (lv_at hl 0 rfl) ?_
  obtain ⟨fs_, a106, he_, hv_, hq⟩ := fs_gr_some hq
  refine fs_get hx hb hts hown hK c_SI hP he_ 1 (by decide) (hts _ (fs_tb_at 678 tw_678 rfl)) (fun x9 h9 => u_same (hts _ (fs_tb_at 679 tw_679 rfl)) x9 h9) hv_ d_SI_writeBare_10 ?_
  refine lv_iconst (v := 0) hx hb d_SI_writeBare_13 (by decide) ?_
  obtain ⟨n_, f_, o107, e_, hi_, ex_, hq⟩ := fs_aq_some hq
  refine fs_aald hx hb hK hP 6 e_ rfl hi_ d_SI_writeBare_14 ?_
  rw [← ex_]
  cases o107 with
  | none =>
    refine W.eq (g2 := F0 m 15 ls (.null :: [])) rfl ?_
    refine lv_aload_n hx hb d_SI_writeBare_15 rfl (lv_at hl 1 rfl) ?_
    refine lv_aload_n hx hb d_SI_writeBare_16 rfl (lv_at hl 0 rfl) ?_
    obtain ⟨fs_, x109, he_, hv_, hq⟩ := fs_gi_some hq
    refine fs_get hx hb hts hown hK c_SI hP he_ 0 (by decide) (hts _ (fs_tb_at 834 tw_834 rfl)) (fun _ h9 => h9) hv_ d_SI_writeBare_17 ?_
    refine lv_bipush (v := 45) hx hb d_SI_writeBare_20 (by decide) ?_
    refine lv_icmp_ne (tgt := 29) hx hb d_SI_writeBare_22 (by decide) (fun c_110 => ?_) (fun c_110 => ?_)
    · have hq := fs_wifn c_110 hq
      refine lv_iconst (v := 2) hx hb d_SI_writeBare_29 (by decide) ?_
      exact False.elim hq
    · have hq := fs_wifp c_110 hq
      refine lv_iconst (v := 5) hx hb d_SI_writeBare_25 (by decide) ?_
      refine lv_goto (tgt := 30) hx hb d_SI_writeBare_26 (by decide) ?_
      exact False.elim hq
  | some a111 =>
    refine W.eq (g2 := F0 m 15 ls (.ref a111 :: [])) rfl ?_
    refine lv_aload_n hx hb d_SI_writeBare_15 rfl (lv_at hl 1 rfl) ?_
    refine lv_aload_n hx hb d_SI_writeBare_16 rfl (lv_at hl 0 rfl) ?_
    obtain ⟨fs_, x112, he_, hv_, hq⟩ := fs_gi_some hq
    refine fs_get hx hb hts hown hK c_SI hP he_ 0 (by decide) (hts _ (fs_tb_at 834 tw_834 rfl)) (fun _ h9 => h9) hv_ d_SI_writeBare_17 ?_
    refine lv_bipush (v := 45) hx hb d_SI_writeBare_20 (by decide) ?_
    refine lv_icmp_ne (tgt := 29) hx hb d_SI_writeBare_22 (by decide) (fun c_113 => ?_) (fun c_113 => ?_)
    · have hq := fs_wifn c_113 hq
      refine lv_iconst (v := 2) hx hb d_SI_writeBare_29 (by decide) ?_
      obtain ⟨c114, s115, hc_, hs_, hq⟩ := hq
      refine fs_cVV (owner := "FormulaSheet$Part") B hl.1 hP hS (kw_V_write hE hself hq) (fs_tb_at 1430 tw_1430 rfl) (fs_tb_at 1352 tw_1352 rfl) (fs_dclA (fs_tb_at 1414 tw_1414 rfl)) (by decide) (show (parseMethodDescriptor y_PT_write.desc).map (fun d => d.parameters.length) = some 2 by decide +kernel) rfl d_SI_writeBare_30 (fs_rm (k := 0) (by omega) (by omega) (by omega) (by omega) rfl) (fun v_ h116 H locs hq hP hS => ?_) (fun C_ a_ h_ H locs hq hP hS hX => fs_out (hout _) hlocks hw hP hS hX (show ((0 + c102) + c114) ≤ mc by omega) (show ((0 + s103) + s115) ≤ ms by omega) hq)
      refine fs_cs (k := ((0 + c102) + c114)) (n := ((0 + s103) + s115)) rfl rfl ?_
      replace hq := fs_kv_some hq
      obtain ⟨rfl, hq⟩ := hq
      refine W.eq (g2 := F0 m 33 ls ([])) rfl ?_
      exact fs_vret hx hb hr hlocks hw hP hS (by omega) (by omega) hq d_SI_writeBare_33
    · have hq := fs_wifp c_113 hq
      refine lv_iconst (v := 5) hx hb d_SI_writeBare_25 (by decide) ?_
      refine lv_goto (tgt := 30) hx hb d_SI_writeBare_26 (by decide) ?_
      obtain ⟨c117, s118, hc_, hs_, hq⟩ := hq
      refine fs_cVV (owner := "FormulaSheet$Part") B hl.1 hP hS (kw_V_write hE hself hq) (fs_tb_at 1430 tw_1430 rfl) (fs_tb_at 1352 tw_1352 rfl) (fs_dclA (fs_tb_at 1414 tw_1414 rfl)) (by decide) (show (parseMethodDescriptor y_PT_write.desc).map (fun d => d.parameters.length) = some 2 by decide +kernel) rfl d_SI_writeBare_30 (fs_rm (k := 0) (by omega) (by omega) (by omega) (by omega) rfl) (fun v_ h119 H locs hq hP hS => ?_) (fun C_ a_ h_ H locs hq hP hS hX => fs_out (hout _) hlocks hw hP hS hX (show ((0 + c102) + c117) ≤ mc by omega) (show ((0 + s103) + s118) ≤ ms by omega) hq)
      refine fs_cs (k := ((0 + c102) + c117)) (n := ((0 + s103) + s118)) rfl rfl ?_
      replace hq := fs_kv_some hq
      obtain ⟨rfl, hq⟩ := hq
      refine W.eq (g2 := F0 m 33 ls ([])) rfl ?_
      exact fs_vret hx hb hr hlocks hw hP hS (by omega) (by omega) hq d_SI_writeBare_33
def w_PA_writeBare_J22 (self : Nat → Nat → fs_E → fs_Hp → Nat → Nat → fs_Ps → Prop) (E : fs_E) (Post : fs_Ps) (z0 : Nat) (z1 : Nat) (z2 : Int32) (w0 : Int32) (w1 : Nat) (w2 : Option Nat) (bc bs : Nat) (h1 : fs_Hp) : Prop := (match w2 with | none => False | some a102 => ∃ c103 s104 : Nat, c103 ≤ bc ∧ s104 ≤ bs ∧ (w_V_write self c103 s104 E h1 a102 w1 w0 (fs_kv (fun h105 => fs_gi h105 z0 7 0 (fun x106 => ∃ c107 s108 : Nat, c107 ≤ (bc - c103) ∧ s108 ≤ (bs - s104) ∧ (fs_isc h105 z1 11 ∧ (w_SB_append_882 c107 s108 E h105 z1 x106 (fs_kr (fun a110 h109 => fs_gr h109 z0 7 1 (fun a111 => fs_aq h109 a111 (E.1.2 6) 1 (fun o9 => match o9 with | none => False | some a114 => ∃ c115 s116 : Nat, c115 ≤ ((bc - c103) - c107) ∧ s116 ≤ ((bs - s104) - s108) ∧ (w_V_write self c115 s116 E h109 a114 z1 (z2 + 1) (fs_kv (fun h117 => Post (.inl none) h117) (fun C_ h_ => Post (.inr C_) h_)))))) (fun C_ h_ => Post (.inr C_) h_)))))) (fun C_ h_ => Post (.inr C_) h_))))
def w_PA_writeBare (self : Nat → Nat → fs_E → fs_Hp → Nat → Nat → fs_Ps → Prop) (mc ms : Nat) (E : fs_E) (h : fs_Hp) (a0 : Nat) (x1 : Nat) (Post : fs_Ps) : Prop := fs_isc h a0 7 ∧ (w_PA_rule E h a0 (fs_ki (fun x119 h118 => fs_gr h118 a0 7 1 (fun a120 => fs_aq h118 a120 (E.1.2 6) 0 (fun o9 => match o9 with | none => (if x119 = 1 then w_PA_writeBare_J22 self E Post a0 x1 x119 2 x1 none mc ms h118 else w_PA_writeBare_J22 self E Post a0 x1 x119 x119 x1 none mc ms h118) | some a124 => (if x119 = 1 then w_PA_writeBare_J22 self E Post a0 x1 x119 2 x1 (some a124) mc ms h118 else w_PA_writeBare_J22 self E Post a0 x1 x119 x119 x1 (some a124) mc ms h118)))) (fun C_ h_ => Post (.inr C_) h_)))
set_option maxHeartbeats 4000000 in
set_option maxRecDepth 100000 in
theorem kw_PA_writeBare {l : Launch} {s00 : State} {E : fs_E} (hE : fs_SE l s00 E) {self : Nat → Nat → fs_E → fs_Hp → Nat → Nat → fs_Ps → Prop} {fn ln : Nat} (hself : ∀ {c9 s9 : Nat} {h9 : fs_Hp} {q0 : Nat} {q1 : Nat} {P9 : fs_Ps}, self c9 s9 E h9 q0 q1 P9 → fs_CtV l s00 E.1 y_PT_writeBare { frames := fn, cells := c9, slots := s9, locals := ln } q0 [.ref q1] h9 P9 7) {mc ms : Nat} {h : fs_Hp} {a0 : Nat} {x1 : Nat} {Post : fs_Ps} (hq : w_PA_writeBare self mc ms E h a0 x1 Post) : fs_Ct l s00 E.1 y_PA_writeBare (.code y_PA_writeBare b_PA_writeBare 3 none) { frames := fn + 7, cells := mc, slots := ms, locals := ln + 103 } [.ref a0, .ref x1] h Post := by
  refine fs_Ct.ofR hE.1 (by decide) ?_
  intro p e R s m below meth c hRf hRl hRc hRs B hout hP
  skip
  obtain ⟨hx, hb, hr, hml, hown, hts, hlocks, hname, hK, hw, htr⟩ := id B
  have hown : s.vm.findClass "FormulaSheet$Pair" = some m.cls := hown
  have hS := hw.S
  have hJ22 : ∀ (z0 : Nat) (z1 : Nat) (z2 : Int32) (w0 : Int32) (w1 : Nat) (w2 : Option Nat) (bc bs uc us : Nat) (h1 : fs_Hp) (H : Heap) (locs : List Loc) (ls : Array Slot), w_PA_writeBare_J22 self E Post z0 z1 z2 w0 w1 w2 bc bs h1 → fs_P E.1.1 fs_cl (fs_A s00) h1 H → va_S (fs_A s00) s00.heap H locs → uc + bc ≤ mc → us + bs ≤ ms → lv_has ls 3 [(0, .ref z0), (1, .ref z1), (2, .int z2)] → W p l e R s m ([.ref a0, .ref x1] : List Value).toArray below meth c H locs uc us (fx_MQ below (fs_Qc s00 E.1 Post) ([.ref a0, .ref x1] : List Value).toArray s mc ms (fs_A s00)) (F0 m 22 ls (.int w0 :: .ref w1 :: va_rf w2 :: [])) := by
    intro z0 z1 z2 w0 w1 w2 bc bs uc us h1 H locs ls hq hP hS hu1 hu2 hl
    unfold w_PA_writeBare_J22 at hq
    cases w2 with
    | none =>
      have hl : lv_has ls 3 [(0, .ref z0), (1, .ref z1), (2, .int z2)] := hl
      refine W.eq (g2 := F0 m 22 ls (.int w0 :: .ref w1 :: .null :: [])) rfl ?_
      exact False.elim hq
    | some a102 =>
      have hl : lv_has ls 3 [(0, .ref z0), (1, .ref z1), (2, .int z2)] := hl
      refine W.eq (g2 := F0 m 22 ls (.int w0 :: .ref w1 :: .ref a102 :: [])) rfl ?_
      obtain ⟨c103, s104, hc_, hs_, hq⟩ := hq
      refine fs_cVV (owner := "FormulaSheet$Part") B hl.1 hP hS (kw_V_write hE hself hq) (fs_tb_at 1419 tw_1419 rfl) (fs_tb_at 1352 tw_1352 rfl) (fs_dclA (fs_tb_at 1414 tw_1414 rfl)) (by decide) (show (parseMethodDescriptor y_PT_write.desc).map (fun d => d.parameters.length) = some 2 by decide +kernel) rfl d_PA_writeBare_22 (fs_rm (k := 0) (by omega) (by omega) (by omega) (by omega) rfl) (fun v_ h105 H locs hq hP hS => ?_) (fun C_ a_ h_ H locs hq hP hS hX => fs_out (hout _) hlocks hw hP hS hX (show (uc + c103) ≤ mc by omega) (show (us + s104) ≤ ms by omega) hq)
      refine fs_cs (k := (uc + c103)) (n := (us + s104)) rfl rfl ?_
      replace hq := fs_kv_some hq
      obtain ⟨rfl, hq⟩ := hq
      refine W.eq (g2 := F0 m 25 ls ([])) rfl ?_
      refine lv_aload_n hx hb d_PA_writeBare_25 rfl (lv_at hl 1 rfl) ?_
      refine lv_aload_n hx hb d_PA_writeBare_26 rfl (lv_at hl 0 rfl) ?_
      obtain ⟨fs_, x106, he_, hv_, hq⟩ := fs_gi_some hq
      refine fs_get hx hb hts hown hK c_PA hP he_ 0 (by decide) (hts _ (fs_tb_at 852 tw_852 rfl)) (fun _ h9 => h9) hv_ d_PA_writeBare_27 ?_
      obtain ⟨c107, s108, hc_, hs_, hq⟩ := hq
      obtain ⟨hi_, hq⟩ := hq
      obtain ⟨fs_, he_⟩ := fs_isc_some hi_
      refine fs_cV B hl.1 hP hS (kw_SB_append_882 hE hq) (fs_tb_at 1420 tw_1420 rfl) he_ rfl (fs_tb_at 1380 tw_1380 rfl) (fs_tb_at 1381 tw_1381 rfl) (fs_tb_at 93 tw_93 rfl) (fs_tb_at 1382 tw_1382 rfl) (by decide) (show (parseMethodDescriptor y_SB_append_882.desc).map (fun d => d.parameters.length) = some 1 by decide +kernel) rfl d_PA_writeBare_30 (fs_rm (k := 0) (by omega) (by omega) (by omega) (by omega) rfl) (fun v_ h109 H locs hq hP hS => ?_) (fun C_ a_ h_ H locs hq hP hS hX => fs_out (hout _) hlocks hw hP hS hX (show ((uc + c103) + c107) ≤ mc by omega) (show ((us + s104) + s108) ≤ ms by omega) hq)
      refine fs_cs (k := ((uc + c103) + c107)) (n := ((us + s104) + s108)) rfl rfl ?_
      replace hq := fs_kr_some hq
      obtain ⟨a110, rfl, hq⟩ := hq
      refine W.eq (g2 := F0 m 33 ls (.ref a110 :: [])) rfl ?_
      refine lv_pop hx hb d_PA_writeBare_33 rfl ?_
      refine lv_aload_n hx hb d_PA_writeBare_34 rfl (lv_at hl 0 rfl) ?_
      obtain ⟨fs_, a111, he_, hv_, hq⟩ := fs_gr_some hq
      refine fs_get hx hb hts hown hK c_PA hP he_ 1 (by decide) (hts _ (fs_tb_at 676 tw_676 rfl)) (fun x9 h9 => u_same (hts _ (fs_tb_at 677 tw_677 rfl)) x9 h9) hv_ d_PA_writeBare_35 ?_
      refine lv_iconst (v := 1) hx hb d_PA_writeBare_38 (by decide) ?_
      obtain ⟨n_, f_, o112, e_, hi_, ex_, hq⟩ := fs_aq_some hq
      refine fs_aald hx hb hK hP 6 e_ rfl hi_ d_PA_writeBare_39 ?_
      rw [← ex_]
      cases o112 with
      | none =>
        refine W.eq (g2 := F0 m 40 ls (.null :: [])) rfl ?_
        refine lv_aload_n hx hb d_PA_writeBare_40 rfl (lv_at hl 1 rfl) ?_
        refine lv_iload_n hx hb d_PA_writeBare_41 rfl (lv_at hl 2 rfl) ?_
        refine lv_iconst (v := 1) hx hb d_PA_writeBare_42 (by decide) ?_
        refine lv_iadd hx hb d_PA_writeBare_43 ?_
        exact False.elim hq
      | some a114 =>
        refine W.eq (g2 := F0 m 40 ls (.ref a114 :: [])) rfl ?_
        refine lv_aload_n hx hb d_PA_writeBare_40 rfl (lv_at hl 1 rfl) ?_
        refine lv_iload_n hx hb d_PA_writeBare_41 rfl (lv_at hl 2 rfl) ?_
        refine lv_iconst (v := 1) hx hb d_PA_writeBare_42 (by decide) ?_
        refine lv_iadd hx hb d_PA_writeBare_43 ?_
        obtain ⟨c115, s116, hc_, hs_, hq⟩ := hq
        refine fs_cVV (owner := "FormulaSheet$Part") B hl.1 hP hS (kw_V_write hE hself hq) (fs_tb_at 1419 tw_1419 rfl) (fs_tb_at 1352 tw_1352 rfl) (fs_dclA (fs_tb_at 1414 tw_1414 rfl)) (by decide) (show (parseMethodDescriptor y_PT_write.desc).map (fun d => d.parameters.length) = some 2 by decide +kernel) rfl d_PA_writeBare_44 (fs_rm (k := 0) (by omega) (by omega) (by omega) (by omega) rfl) (fun v_ h117 H locs hq hP hS => ?_) (fun C_ a_ h_ H locs hq hP hS hX => fs_out (hout _) hlocks hw hP hS hX (show (((uc + c103) + c107) + c115) ≤ mc by omega) (show (((us + s104) + s108) + s116) ≤ ms by omega) hq)
        refine fs_cs (k := (((uc + c103) + c107) + c115)) (n := (((us + s104) + s108) + s116)) rfl rfl ?_
        replace hq := fs_kv_some hq
        obtain ⟨rfl, hq⟩ := hq
        refine W.eq (g2 := F0 m 47 ls ([])) rfl ?_
        exact fs_vret hx hb hr hlocks hw hP hS (by omega) (by omega) hq d_PA_writeBare_47
  have hl := lv_entry ([.ref a0, .ref x1]) (n := 3) (Nat.le_of_ble_eq_true rfl)
  rw [lg_entry_eq]
  generalize (lg_sl ([.ref a0, .ref x1]) ++ List.replicate (3 - (lg_sl ([.ref a0, .ref x1])).length) Slot.unset).toArray = ls at hl ⊢
  have hl : lv_has ls 3 [(0, .ref a0), (1, .ref x1)] := hl
  unfold w_PA_writeBare at hq
  refine lv_aload_n hx hb d_PA_writeBare_0 rfl (lv_at hl 0 rfl) ?_
  obtain ⟨hi_, hq⟩ := hq
  obtain ⟨fs_, he_⟩ := fs_isc_some hi_
  refine fs_cV B hl.1 hP hS (kw_PA_rule hE hq) (fs_tb_at 438 tw_438 rfl) he_ rfl (fs_tb_at 439 tw_439 rfl) (fs_tb_at 440 tw_440 rfl) (fs_tb_at 112 tw_112 rfl) (fs_tb_at 441 tw_441 rfl) (by decide) (show (parseMethodDescriptor y_PA_rule.desc).map (fun d => d.parameters.length) = some 0 by decide +kernel) rfl d_PA_writeBare_1 (fs_rm (k := 0) (by omega) (by omega) (by omega) (by omega) rfl) (fun v_ h118 H locs hq hP hS => ?_) (fun C_ a_ h_ H locs hq hP hS hX => fs_out (hout _) hlocks hw hP hS hX (show 0 ≤ mc by omega) (show 0 ≤ ms by omega) hq)
  refine fs_cs (k := 0) (n := 0) rfl rfl ?_
  replace hq := fs_ki_some hq
  obtain ⟨x119, rfl, hq⟩ := hq
  refine W.eq (g2 := F0 m 4 ls (.int x119 :: [])) rfl ?_
  refine lv_istore_n (lv' := [(2, .int x119), (0, .ref a0), (1, .ref x1)]) hx hb d_PA_writeBare_4 rfl hl (by decide) rfl (fun ls hl => ?_)
  refine lv_aload_n hx hb d_PA_writeBare_5 rfl (lv_at hl 1 rfl) ?_
  obtain ⟨fs_, a120, he_, hv_, hq⟩ := fs_gr_some hq
  refine fs_get hx hb hts hown hK c_PA hP he_ 1 (by decide) (hts _ (fs_tb_at 676 tw_676 rfl)) (fun x9 h9 => u_same (hts _ (fs_tb_at 677 tw_677 rfl)) x9 h9) hv_ d_PA_writeBare_6 ?_
  refine lv_iconst (v := 0) hx hb d_PA_writeBare_9 (by decide) ?_
  obtain ⟨n_, f_, o121, e_, hi_, ex_, hq⟩ := fs_aq_some hq
  refine fs_aald hx hb hK hP 6 e_ rfl hi_ d_PA_writeBare_10 ?_
  rw [← ex_]
  cases o121 with
  | none =>
    refine W.eq (g2 := F0 m 11 ls (.null :: [])) rfl ?_
    refine lv_aload_n hx hb d_PA_writeBare_11 rfl (lv_at hl 2 rfl) ?_
    refine lv_iload_n hx hb d_PA_writeBare_12 rfl (lv_at hl 0 rfl) ?_
    refine lv_iconst (v := 1) hx hb d_PA_writeBare_13 (by decide) ?_
    refine lv_icmp_ne (tgt := 21) hx hb d_PA_writeBare_14 (by decide) (fun c_123 => ?_) (fun c_123 => ?_)
    · have hq := fs_wifn c_123 hq
      refine lv_iload_n hx hb d_PA_writeBare_21 rfl (lv_at hl 0 rfl) ?_
      exact hJ22 a0 x1 x119 x119 x1 none mc ms 0 0 _ _ _ _ hq hP hS (by omega) (by omega) (show lv_has ls 3 [(0, .ref a0), (1, .ref x1), (2, .int x119)] from lv_sub hl [1, 2, 0] rfl)
    · have hq := fs_wifp c_123 hq
      refine lv_iconst (v := 2) hx hb d_PA_writeBare_17 (by decide) ?_
      refine lv_goto (tgt := 22) hx hb d_PA_writeBare_18 (by decide) ?_
      exact hJ22 a0 x1 x119 2 x1 none mc ms 0 0 _ _ _ _ hq hP hS (by omega) (by omega) (show lv_has ls 3 [(0, .ref a0), (1, .ref x1), (2, .int x119)] from lv_sub hl [1, 2, 0] rfl)
  | some a124 =>
    refine W.eq (g2 := F0 m 11 ls (.ref a124 :: [])) rfl ?_
    refine lv_aload_n hx hb d_PA_writeBare_11 rfl (lv_at hl 2 rfl) ?_
    refine lv_iload_n hx hb d_PA_writeBare_12 rfl (lv_at hl 0 rfl) ?_
    refine lv_iconst (v := 1) hx hb d_PA_writeBare_13 (by decide) ?_
    refine lv_icmp_ne (tgt := 21) hx hb d_PA_writeBare_14 (by decide) (fun c_125 => ?_) (fun c_125 => ?_)
    · have hq := fs_wifn c_125 hq
      refine lv_iload_n hx hb d_PA_writeBare_21 rfl (lv_at hl 0 rfl) ?_
      exact hJ22 a0 x1 x119 x119 x1 (some a124) mc ms 0 0 _ _ _ _ hq hP hS (by omega) (by omega) (show lv_has ls 3 [(0, .ref a0), (1, .ref x1), (2, .int x119)] from lv_sub hl [1, 2, 0] rfl)
    · have hq := fs_wifp c_125 hq
      refine lv_iconst (v := 2) hx hb d_PA_writeBare_17 (by decide) ?_
      refine lv_goto (tgt := 22) hx hb d_PA_writeBare_18 (by decide) ?_
      exact hJ22 a0 x1 x119 2 x1 (some a124) mc ms 0 0 _ _ _ _ hq hP hS (by omega) (by omega) (show lv_has ls 3 [(0, .ref a0), (1, .ref x1), (2, .int x119)] from lv_sub hl [1, 2, 0] rfl)
def w_CA_writeBare_L21_J41 (self : Nat → Nat → fs_E → fs_Hp → Nat → Nat → fs_Ps → Prop) (self1 : Nat → Nat → Int32 → Nat → Nat → fs_Hp → Prop) (E : fs_E) (K : Nat → Nat → fs_Hp → Prop) (Post : fs_Ps) (z0 : Nat) (z1 : Nat) (z2 : Int32) (bc bs : Nat) (h1 : fs_Hp) : Prop := fs_gr h1 z0 8 1 (fun a111 => fs_aq h1 a111 (E.1.2 6) z2 (fun o9 => match o9 with | none => False | some a114 => ∃ c115 s116 : Nat, c115 ≤ bc ∧ s116 ≤ bs ∧ (w_V_write self c115 s116 E h1 a114 z1 0 (fs_kv (fun h117 => self1 z0 z1 (z2 + 1) (bc - c115) (bs - s116) h117) (fun C_ h_ => Post (.inr C_) h_)))))
def w_CA_writeBare_L21 (self : Nat → Nat → fs_E → fs_Hp → Nat → Nat → fs_Ps → Prop) (E : fs_E) (K : Nat → Nat → fs_Hp → Prop) (Post : fs_Ps) : Nat → Nat → Nat → Int32 → Nat → Nat → fs_Hp → Prop
  | 0 => fun _ _ _ _ _ _ => False
  | n + 1 => fun z0 z1 z2 bc bs h1 => fs_gr h1 z0 8 1 (fun a118 => fs_an h1 a118 (E.1.2 6) (fun n119 => (if (Int32.ofNat n119) ≤ z2 then K bc bs h1 else (if z2 ≤ 0 then w_CA_writeBare_L21_J41 self (w_CA_writeBare_L21 self E K Post n) E K Post z0 z1 z2 bc bs h1 else ∃ c122 s123 : Nat, c122 ≤ bc ∧ s123 ≤ bs ∧ (fs_isc h1 z1 11 ∧ (w_SB_append_882 c122 s123 E h1 z1 44 (fs_kr (fun a125 h124 => w_CA_writeBare_L21_J41 self (w_CA_writeBare_L21 self E K Post n) E K Post z0 z1 z2 (bc - c122) (bs - s123) h124) (fun C_ h_ => Post (.inr C_) h_))))))))
def w_CA_writeBare (self : Nat → Nat → fs_E → fs_Hp → Nat → Nat → fs_Ps → Prop) (mc ms : Nat) (E : fs_E) (h : fs_Hp) (a0 : Nat) (x1 : Nat) (Post : fs_Ps) : Prop := ∃ c101 s102 : Nat, c101 ≤ mc ∧ s102 ≤ ms ∧ (fs_isc h x1 11 ∧ (w_SB_append_882 c101 s102 E h x1 64 (fs_kr (fun a104 h103 => fs_gr h103 a0 8 0 (fun a105 => (∃ j106 : Nat, j106 < 8 ∧ a105 = E.2 j106 ∧ ∃ c107 s108 : Nat, c107 ≤ (mc - c101) ∧ s108 ≤ (ms - s102) ∧ (fs_isc h103 x1 11 ∧ (w_SB_append_59e c107 s108 E h103 x1 j106 (fs_kr (fun a110 h109 => (∃ n131 : Nat, w_CA_writeBare_L21 self E (fun bc127 bs128 h126 => ∃ c132 s133 : Nat, c132 ≤ bc127 ∧ s133 ≤ bs128 ∧ (fs_isc h126 x1 11 ∧ (w_SB_append_882 c132 s133 E h126 x1 41 (fs_kr (fun a135 h134 => Post (.inl none) h134) (fun C_ h_ => Post (.inr C_) h_))))) Post n131 a0 x1 0 ((mc - c101) - c107) ((ms - s102) - s108) h109)) (fun C_ h_ => Post (.inr C_) h_))))))) (fun C_ h_ => Post (.inr C_) h_))))
set_option maxHeartbeats 4000000 in
set_option maxRecDepth 100000 in
theorem lw_w_CA_writeBare_21 {p : Program} {l : Launch} {e : Env} {R : Room} {s : State} {m : MethodId} {args : Array Value} {below : List Frame} {meth : Method} {c : Code} {s00 : State} {E : fs_E} {Post : fs_Ps} {mc ms : Nat} (hE : fs_SE l s00 E) {self : Nat → Nat → fs_E → fs_Hp → Nat → Nat → fs_Ps → Prop} {fn ln : Nat} (hself : ∀ {c9 s9 : Nat} {h9 : fs_Hp} {q0 : Nat} {q1 : Nat} {P9 : fs_Ps}, self c9 s9 E h9 q0 q1 P9 → fs_CtV l s00 E.1 y_PT_writeBare { frames := fn, cells := c9, slots := s9, locals := ln } q0 [.ref q1] h9 P9 7) (B : fs_B p l e s m args meth c s00 E.1 y_CA_writeBare b_CA_writeBare 3 none) (hout : ∀ pc, ∀ x ∈ c.exceptionTable.toList, covers x pc = false) (hRf : fn + 7 ≤ R.frames) (hRl : ln + 103 ≤ R.locals) (hRc : mc ≤ R.cells) (hRs : ms ≤ R.slots) (K : Nat → Nat → fs_Hp → Prop) : ∀ (n : Nat) (z0 : Nat) (z1 : Nat) (z2 : Int32) (bc bs uc us : Nat) (h1 : fs_Hp) (H : Heap) (locs : List Loc) (ls : Array Slot), w_CA_writeBare_L21 self E K Post n z0 z1 z2 bc bs h1 → fs_P E.1.1 fs_cl (fs_A s00) h1 H → va_S (fs_A s00) s00.heap H locs → uc + bc ≤ mc → us + bs ≤ ms → lv_has ls 3 [(0, .ref z0), (1, .ref z1), (2, .int z2)] → (∀  (bc bs uc us : Nat) (h' : fs_Hp) (H : Heap) (locs : List Loc) (ls : Array Slot), K  bc bs h' → fs_P E.1.1 fs_cl (fs_A s00) h' H → va_S (fs_A s00) s00.heap H locs → uc + bc ≤ mc → us + bs ≤ ms → lv_has ls 3 [(0, .ref z0), (1, .ref z1)] → W p l e R s m args below meth c H locs uc us (fx_MQ below (fs_Qc s00 E.1 Post) args s mc ms (fs_A s00)) (F0 m 58 ls [])) → W p l e R s m args below meth c H locs uc us (fx_MQ below (fs_Qc s00 E.1 Post) args s mc ms (fs_A s00)) (F0 m 21 ls []) := by
  obtain ⟨hx, hb, hr, hml, hown, hts, hlocks, hname, hK, hw, htr⟩ := id B
  have hown : s.vm.findClass "FormulaSheet$Call" = some m.cls := hown
  intro n
  induction n with
  | zero => intro z0 z1 z2 bc bs uc us h1 H locs ls hq; exact False.elim hq
  | succ n ih =>
    intro z0 z1 z2 bc bs uc us h1 H locs ls hq hP hS hu1 hu2 hl kk
    rw [w_CA_writeBare_L21] at hq
    have hJ41 : ∀ (z2 : Int32) (bc bs uc us : Nat) (h1 : fs_Hp) (H : Heap) (locs : List Loc) (ls : Array Slot), w_CA_writeBare_L21_J41 self (w_CA_writeBare_L21 self E K Post n) E K Post z0 z1 z2 bc bs h1 → fs_P E.1.1 fs_cl (fs_A s00) h1 H → va_S (fs_A s00) s00.heap H locs → uc + bc ≤ mc → us + bs ≤ ms → lv_has ls 3 [(0, .ref z0), (1, .ref z1), (2, .int z2)] → W p l e R s m args below meth c H locs uc us (fx_MQ below (fs_Qc s00 E.1 Post) args s mc ms (fs_A s00)) (F0 m 41 ls ([])) := by
      intro z2 bc bs uc us h1 H locs ls hq hP hS hu1 hu2 hl
      unfold w_CA_writeBare_L21_J41 at hq
      refine lv_aload_n hx hb d_CA_writeBare_41 rfl (lv_at hl 0 rfl) ?_
      obtain ⟨fs_, a111, he_, hv_, hq⟩ := fs_gr_some hq
      refine fs_get hx hb hts hown hK c_CA hP he_ 1 (by decide) (hts _ (fs_tb_at 674 tw_674 rfl)) (fun x9 h9 => u_same (hts _ (fs_tb_at 675 tw_675 rfl)) x9 h9) hv_ d_CA_writeBare_42 ?_
      refine lv_iload_n hx hb d_CA_writeBare_45 rfl (lv_at hl 2 rfl) ?_
      obtain ⟨n_, f_, o112, e_, hi_, ex_, hq⟩ := fs_aq_some hq
      refine fs_aald hx hb hK hP 6 e_ rfl hi_ d_CA_writeBare_46 ?_
      rw [← ex_]
      cases o112 with
      | none =>
        refine W.eq (g2 := F0 m 47 ls (.null :: [])) rfl ?_
        refine lv_aload_n hx hb d_CA_writeBare_47 rfl (lv_at hl 1 rfl) ?_
        refine lv_iconst (v := 0) hx hb d_CA_writeBare_48 (by decide) ?_
        exact False.elim hq
      | some a114 =>
        refine W.eq (g2 := F0 m 47 ls (.ref a114 :: [])) rfl ?_
        refine lv_aload_n hx hb d_CA_writeBare_47 rfl (lv_at hl 1 rfl) ?_
        refine lv_iconst (v := 0) hx hb d_CA_writeBare_48 (by decide) ?_
        obtain ⟨c115, s116, hc_, hs_, hq⟩ := hq
        refine fs_cVV (owner := "FormulaSheet$Part") B hl.1 hP hS (kw_V_write hE hself hq) (fs_tb_at 1400 tw_1400 rfl) (fs_tb_at 1352 tw_1352 rfl) (fs_dclA (fs_tb_at 1414 tw_1414 rfl)) (by decide) (show (parseMethodDescriptor y_PT_write.desc).map (fun d => d.parameters.length) = some 2 by decide +kernel) rfl d_CA_writeBare_49 (fs_rm (k := 0) (by omega) (by omega) (by omega) (by omega) rfl) (fun v_ h117 H locs hq hP hS => ?_) (fun C_ a_ h_ H locs hq hP hS hX => fs_out (hout _) hlocks hw hP hS hX (show (uc + c115) ≤ mc by omega) (show (us + s116) ≤ ms by omega) hq)
        refine fs_cs (k := (uc + c115)) (n := (us + s116)) rfl rfl ?_
        replace hq := fs_kv_some hq
        obtain ⟨rfl, hq⟩ := hq
        refine W.eq (g2 := F0 m 52 ls ([])) rfl ?_
        refine lv_iinc (v := z2 + 1) (lv' := [(2, .int (z2 + 1)), (0, .ref z0), (1, .ref z1)]) hx hb d_CA_writeBare_52 hl (k := 2) rfl rfl (by decide) rfl (fun ls hl => ?_)
        refine lv_goto (tgt := 21) hx hb d_CA_writeBare_55 (by decide) ?_
        exact ih z0 z1 (z2 + 1) (bc - c115) (bs - s116) (uc + c115) (us + s116) _ _ _ _ hq hP hS (by omega) (by omega) (show lv_has ls 3 [(0, .ref z0), (1, .ref z1), (2, .int (z2 + 1))] from lv_sub hl [1, 2, 0] rfl) kk
    refine lv_iload_n hx hb d_CA_writeBare_21 rfl (lv_at hl 2 rfl) ?_
    refine lv_aload_n hx hb d_CA_writeBare_22 rfl (lv_at hl 0 rfl) ?_
    obtain ⟨fs_, a118, he_, hv_, hq⟩ := fs_gr_some hq
    refine fs_get hx hb hts hown hK c_CA hP he_ 1 (by decide) (hts _ (fs_tb_at 674 tw_674 rfl)) (fun x9 h9 => u_same (hts _ (fs_tb_at 675 tw_675 rfl)) x9 h9) hv_ d_CA_writeBare_23 ?_
    obtain ⟨x_, n119, en_, e_, hq⟩ := fs_an_some hq
    refine fs_alen hx hb hK hP 6 e_ rfl rfl d_CA_writeBare_26 ?_
    rw [← en_]
    refine lv_icmp_ge (tgt := 58) hx hb d_CA_writeBare_27 (by decide) (fun c_120 => ?_) (fun c_120 => ?_)
    · have hq := fs_wifp c_120 hq
      exact kk  bc bs uc us _ _ _ _ hq hP hS (by omega) (by omega) (show lv_has ls 3 [(0, .ref z0), (1, .ref z1)] from lv_sub hl [0, 1] rfl)
    · have hq := fs_wifn c_120 hq
      refine lv_iload_n hx hb d_CA_writeBare_30 rfl (lv_at hl 2 rfl) ?_
      refine lv_if_le (tgt := 41) hx hb d_CA_writeBare_31 (by decide) (fun c_121 => ?_) (fun c_121 => ?_)
      · have hq := fs_wifp c_121 hq
        exact hJ41 z2 bc bs uc us _ _ _ _ hq hP hS (by omega) (by omega) (show lv_has ls 3 [(0, .ref z0), (1, .ref z1), (2, .int z2)] from lv_sub hl [0, 1, 2] rfl)
      · have hq := fs_wifn c_121 hq
        refine lv_aload_n hx hb d_CA_writeBare_34 rfl (lv_at hl 1 rfl) ?_
        refine lv_bipush (v := 44) hx hb d_CA_writeBare_35 (by decide) ?_
        obtain ⟨c122, s123, hc_, hs_, hq⟩ := hq
        obtain ⟨hi_, hq⟩ := hq
        obtain ⟨fs_, he_⟩ := fs_isc_some hi_
        refine fs_cV B hl.1 hP hS (kw_SB_append_882 hE hq) (fs_tb_at 1398 tw_1398 rfl) he_ rfl (fs_tb_at 1380 tw_1380 rfl) (fs_tb_at 1381 tw_1381 rfl) (fs_tb_at 93 tw_93 rfl) (fs_tb_at 1382 tw_1382 rfl) (by decide) (show (parseMethodDescriptor y_SB_append_882.desc).map (fun d => d.parameters.length) = some 1 by decide +kernel) rfl d_CA_writeBare_37 (fs_rm (k := 0) (by omega) (by omega) (by omega) (by omega) rfl) (fun v_ h124 H locs hq hP hS => ?_) (fun C_ a_ h_ H locs hq hP hS hX => fs_out (hout _) hlocks hw hP hS hX (show (uc + c122) ≤ mc by omega) (show (us + s123) ≤ ms by omega) hq)
        refine fs_cs (k := (uc + c122)) (n := (us + s123)) rfl rfl ?_
        replace hq := fs_kr_some hq
        obtain ⟨a125, rfl, hq⟩ := hq
        refine W.eq (g2 := F0 m 40 ls (.ref a125 :: [])) rfl ?_
        refine lv_pop hx hb d_CA_writeBare_40 rfl ?_
        exact hJ41 z2 (bc - c122) (bs - s123) (uc + c122) (us + s123) _ _ _ _ hq hP hS (by omega) (by omega) (show lv_has ls 3 [(0, .ref z0), (1, .ref z1), (2, .int z2)] from lv_sub hl [0, 1, 2] rfl)
set_option maxHeartbeats 4000000 in
set_option maxRecDepth 100000 in
theorem kw_CA_writeBare {l : Launch} {s00 : State} {E : fs_E} (hE : fs_SE l s00 E) {self : Nat → Nat → fs_E → fs_Hp → Nat → Nat → fs_Ps → Prop} {fn ln : Nat} (hself : ∀ {c9 s9 : Nat} {h9 : fs_Hp} {q0 : Nat} {q1 : Nat} {P9 : fs_Ps}, self c9 s9 E h9 q0 q1 P9 → fs_CtV l s00 E.1 y_PT_writeBare { frames := fn, cells := c9, slots := s9, locals := ln } q0 [.ref q1] h9 P9 7) {mc ms : Nat} {h : fs_Hp} {a0 : Nat} {x1 : Nat} {Post : fs_Ps} (hq : w_CA_writeBare self mc ms E h a0 x1 Post) : fs_Ct l s00 E.1 y_CA_writeBare (.code y_CA_writeBare b_CA_writeBare 3 none) { frames := fn + 7, cells := mc, slots := ms, locals := ln + 103 } [.ref a0, .ref x1] h Post := by
  refine fs_Ct.ofR hE.1 (by decide) ?_
  intro p e R s m below meth c hRf hRl hRc hRs B hout hP
  skip
  obtain ⟨hx, hb, hr, hml, hown, hts, hlocks, hname, hK, hw, htr⟩ := id B
  have hown : s.vm.findClass "FormulaSheet$Call" = some m.cls := hown
  have hS := hw.S
  have hl := lv_entry ([.ref a0, .ref x1]) (n := 3) (Nat.le_of_ble_eq_true rfl)
  rw [lg_entry_eq]
  generalize (lg_sl ([.ref a0, .ref x1]) ++ List.replicate (3 - (lg_sl ([.ref a0, .ref x1])).length) Slot.unset).toArray = ls at hl ⊢
  have hl : lv_has ls 3 [(0, .ref a0), (1, .ref x1)] := hl
  unfold w_CA_writeBare at hq
  refine lv_aload_n hx hb d_CA_writeBare_0 rfl (lv_at hl 1 rfl) ?_
  refine lv_bipush (v := 64) hx hb d_CA_writeBare_1 (by decide) ?_
  obtain ⟨c101, s102, hc_, hs_, hq⟩ := hq
  obtain ⟨hi_, hq⟩ := hq
  obtain ⟨fs_, he_⟩ := fs_isc_some hi_
  refine fs_cV B hl.1 hP hS (kw_SB_append_882 hE hq) (fs_tb_at 1398 tw_1398 rfl) he_ rfl (fs_tb_at 1380 tw_1380 rfl) (fs_tb_at 1381 tw_1381 rfl) (fs_tb_at 93 tw_93 rfl) (fs_tb_at 1382 tw_1382 rfl) (by decide) (show (parseMethodDescriptor y_SB_append_882.desc).map (fun d => d.parameters.length) = some 1 by decide +kernel) rfl d_CA_writeBare_3 (fs_rm (k := 0) (by omega) (by omega) (by omega) (by omega) rfl) (fun v_ h103 H locs hq hP hS => ?_) (fun C_ a_ h_ H locs hq hP hS hX => fs_out (hout _) hlocks hw hP hS hX (show (0 + c101) ≤ mc by omega) (show (0 + s102) ≤ ms by omega) hq)
  refine fs_cs (k := (0 + c101)) (n := (0 + s102)) rfl rfl ?_
  replace hq := fs_kr_some hq
  obtain ⟨a104, rfl, hq⟩ := hq
  refine W.eq (g2 := F0 m 6 ls (.ref a104 :: [])) rfl ?_
  refine lv_pop hx hb d_CA_writeBare_6 rfl ?_
  refine lv_aload_n hx hb d_CA_writeBare_7 rfl (lv_at hl 1 rfl) ?_
  refine lv_aload_n hx hb d_CA_writeBare_8 rfl (lv_at hl 0 rfl) ?_
  obtain ⟨fs_, a105, he_, hv_, hq⟩ := fs_gr_some hq
  refine fs_get hx hb hts hown hK c_CA hP he_ 0 (by decide) (hts _ (fs_tb_at 819 tw_819 rfl)) (fun _ h9 => h9) hv_ d_CA_writeBare_9 ?_
  obtain ⟨j106, hj_, ej_, hq⟩ := hq
  refine fs_xgetE ej_ hx hb (fs_open hE j106 hj_).1 hw hS hown (hts _ (fs_tb_at 1884 tw_1884 rfl)) d_CA_writeBare_12 ?_
  obtain ⟨c107, s108, hc_, hs_, hq⟩ := hq
  obtain ⟨hi_, hq⟩ := hq
  obtain ⟨fs_, he_⟩ := fs_isc_some hi_
  refine fs_cV B hl.1 hP hS (kw_SB_append_59e hE hq) (fs_tb_at 1399 tw_1399 rfl) he_ rfl (fs_tb_at 1107 tw_1107 rfl) (fs_tb_at 1108 tw_1108 rfl) (fs_tb_at 93 tw_93 rfl) (fs_tb_at 1109 tw_1109 rfl) (by decide) (show (parseMethodDescriptor y_SB_append_59e.desc).map (fun d => d.parameters.length) = some 1 by decide +kernel) rfl d_CA_writeBare_15 (fs_rm (k := 0) (by omega) (by omega) (by omega) (by omega) rfl) (fun v_ h109 H locs hq hP hS => ?_) (fun C_ a_ h_ H locs hq hP hS hX => fs_out (hout _) hlocks hw hP hS hX (show ((0 + c101) + c107) ≤ mc by omega) (show ((0 + s102) + s108) ≤ ms by omega) hq)
  refine fs_cs (k := ((0 + c101) + c107)) (n := ((0 + s102) + s108)) rfl rfl ?_
  replace hq := fs_kr_some hq
  obtain ⟨a110, rfl, hq⟩ := hq
  refine W.eq (g2 := F0 m 18 ls (.ref a110 :: [])) rfl ?_
  refine lv_pop hx hb d_CA_writeBare_18 rfl ?_
  refine lv_iconst (v := 0) hx hb d_CA_writeBare_19 (by decide) ?_
  refine lv_istore_n (lv' := [(2, .int 0), (0, .ref a0), (1, .ref x1)]) hx hb d_CA_writeBare_20 rfl hl (by decide) rfl (fun ls hl => ?_)
  obtain ⟨n131, hq⟩ := hq
  refine lw_w_CA_writeBare_21 hE hself B hout (by omega) (by omega) hRc hRs _ n131 a0 x1 0 ((mc - c101) - c107) ((ms - s102) - s108) ((0 + c101) + c107) ((0 + s102) + s108) _ _ _ _ hq hP hS (by omega) (by omega) (show lv_has ls 3 [(0, .ref a0), (1, .ref x1), (2, .int 0)] from lv_sub hl [1, 2, 0] rfl) (fun  bc127 bs128 uc129 us130 h126 H locs ls hq hP hS hu1 hu2 hl => ?_)
  refine lv_aload_n hx hb d_CA_writeBare_58 rfl (lv_at hl 1 rfl) ?_
  refine lv_bipush (v := 41) hx hb d_CA_writeBare_59 (by decide) ?_
  obtain ⟨c132, s133, hc_, hs_, hq⟩ := hq
  obtain ⟨hi_, hq⟩ := hq
  obtain ⟨fs_, he_⟩ := fs_isc_some hi_
  refine fs_cV B hl.1 hP hS (kw_SB_append_882 hE hq) (fs_tb_at 1398 tw_1398 rfl) he_ rfl (fs_tb_at 1380 tw_1380 rfl) (fs_tb_at 1381 tw_1381 rfl) (fs_tb_at 93 tw_93 rfl) (fs_tb_at 1382 tw_1382 rfl) (by decide) (show (parseMethodDescriptor y_SB_append_882.desc).map (fun d => d.parameters.length) = some 1 by decide +kernel) rfl d_CA_writeBare_61 (fs_rm (k := 0) (by omega) (by omega) (by omega) (by omega) rfl) (fun v_ h134 H locs hq hP hS => ?_) (fun C_ a_ h_ H locs hq hP hS hX => fs_out (hout _) hlocks hw hP hS hX (show (uc129 + c132) ≤ mc by omega) (show (us130 + s133) ≤ ms by omega) hq)
  refine fs_cs (k := (uc129 + c132)) (n := (us130 + s133)) rfl rfl ?_
  replace hq := fs_kr_some hq
  obtain ⟨a135, rfl, hq⟩ := hq
  refine W.eq (g2 := F0 m 64 ls (.ref a135 :: [])) rfl ?_
  refine lv_pop hx hb d_CA_writeBare_64 rfl ?_
  exact fs_vret hx hb hr hlocks hw hP hS (by omega) (by omega) hq d_CA_writeBare_65
def w_OV_writeBare (self : Nat → Nat → fs_E → fs_Hp → Nat → Nat → fs_Ps → Prop) (mc ms : Nat) (E : fs_E) (h : fs_Hp) (a0 : Nat) (x1 : Nat) (Post : fs_Ps) : Prop := ∃ c101 s102 : Nat, c101 ≤ mc ∧ s102 ≤ ms ∧ (fs_isc h x1 11 ∧ (w_SB_append_882 c101 s102 E h x1 64 (fs_kr (fun a104 h103 => fs_gr h103 a0 9 0 (fun a105 => (∃ j106 : Nat, j106 < 8 ∧ a105 = E.2 j106 ∧ ∃ c107 s108 : Nat, c107 ≤ (mc - c101) ∧ s108 ≤ (ms - s102) ∧ (fs_isc h103 x1 11 ∧ (w_SB_append_59e c107 s108 E h103 x1 j106 (fs_kr (fun a110 h109 => fs_gr h109 a0 9 1 (fun a111 => ∃ c112 s113 : Nat, c112 ≤ ((mc - c101) - c107) ∧ s113 ≤ ((ms - s102) - s108) ∧ (w_VR_write self c112 s113 E h109 a111 x1 5 (fs_kv (fun h114 => ∃ c115 s116 : Nat, c115 ≤ (((mc - c101) - c107) - c112) ∧ s116 ≤ (((ms - s102) - s108) - s113) ∧ (fs_isc h114 x1 11 ∧ (w_SB_append_882 c115 s116 E h114 x1 58 (fs_kr (fun a118 h117 => fs_gr h117 a0 9 2 (fun a119 => ∃ c120 s121 : Nat, c120 ≤ ((((mc - c101) - c107) - c112) - c115) ∧ s121 ≤ ((((ms - s102) - s108) - s113) - s116) ∧ (w_VR_write self c120 s121 E h117 a119 x1 5 (fs_kv (fun h122 => ∃ c123 s124 : Nat, c123 ≤ (((((mc - c101) - c107) - c112) - c115) - c120) ∧ s124 ≤ (((((ms - s102) - s108) - s113) - s116) - s121) ∧ (fs_isc h122 x1 11 ∧ (w_SB_append_882 c123 s124 E h122 x1 41 (fs_kr (fun a126 h125 => Post (.inl none) h125) (fun C_ h_ => Post (.inr C_) h_))))) (fun C_ h_ => Post (.inr C_) h_))))) (fun C_ h_ => Post (.inr C_) h_))))) (fun C_ h_ => Post (.inr C_) h_))))) (fun C_ h_ => Post (.inr C_) h_))))))) (fun C_ h_ => Post (.inr C_) h_))))
set_option maxHeartbeats 4000000 in
set_option maxRecDepth 100000 in
theorem kw_OV_writeBare {l : Launch} {s00 : State} {E : fs_E} (hE : fs_SE l s00 E) {self : Nat → Nat → fs_E → fs_Hp → Nat → Nat → fs_Ps → Prop} {fn ln : Nat} (hself : ∀ {c9 s9 : Nat} {h9 : fs_Hp} {q0 : Nat} {q1 : Nat} {P9 : fs_Ps}, self c9 s9 E h9 q0 q1 P9 → fs_CtV l s00 E.1 y_PT_writeBare { frames := fn, cells := c9, slots := s9, locals := ln } q0 [.ref q1] h9 P9 7) {mc ms : Nat} {h : fs_Hp} {a0 : Nat} {x1 : Nat} {Post : fs_Ps} (hq : w_OV_writeBare self mc ms E h a0 x1 Post) : fs_Ct l s00 E.1 y_OV_writeBare (.code y_OV_writeBare b_OV_writeBare 2 none) { frames := fn + 7, cells := mc, slots := ms, locals := ln + 103 } [.ref a0, .ref x1] h Post := by
  refine fs_Ct.ofR hE.1 (by decide) ?_
  intro p e R s m below meth c hRf hRl hRc hRs B hout hP
  skip
  obtain ⟨hx, hb, hr, hml, hown, hts, hlocks, hname, hK, hw, htr⟩ := id B
  have hown : s.vm.findClass "FormulaSheet$OverRange" = some m.cls := hown
  have hS := hw.S
  have hl := lv_entry ([.ref a0, .ref x1]) (n := 2) (Nat.le_of_ble_eq_true rfl)
  rw [lg_entry_eq]
  generalize (lg_sl ([.ref a0, .ref x1]) ++ List.replicate (2 - (lg_sl ([.ref a0, .ref x1])).length) Slot.unset).toArray = ls at hl ⊢
  have hl : lv_has ls 2 [(0, .ref a0), (1, .ref x1)] := hl
  unfold w_OV_writeBare at hq
  refine lv_aload_n hx hb d_OV_writeBare_0 rfl (lv_at hl 1 rfl) ?_
  refine lv_bipush (v := 64) hx hb d_OV_writeBare_1 (by decide) ?_
  obtain ⟨c101, s102, hc_, hs_, hq⟩ := hq
  obtain ⟨hi_, hq⟩ := hq
  obtain ⟨fs_, he_⟩ := fs_isc_some hi_
  refine fs_cV B hl.1 hP hS (kw_SB_append_882 hE hq) (fs_tb_at 1410 tw_1410 rfl) he_ rfl (fs_tb_at 1380 tw_1380 rfl) (fs_tb_at 1381 tw_1381 rfl) (fs_tb_at 93 tw_93 rfl) (fs_tb_at 1382 tw_1382 rfl) (by decide) (show (parseMethodDescriptor y_SB_append_882.desc).map (fun d => d.parameters.length) = some 1 by decide +kernel) rfl d_OV_writeBare_3 (fs_rm (k := 0) (by omega) (by omega) (by omega) (by omega) rfl) (fun v_ h103 H locs hq hP hS => ?_) (fun C_ a_ h_ H locs hq hP hS hX => fs_out (hout _) hlocks hw hP hS hX (show (0 + c101) ≤ mc by omega) (show (0 + s102) ≤ ms by omega) hq)
  refine fs_cs (k := (0 + c101)) (n := (0 + s102)) rfl rfl ?_
  replace hq := fs_kr_some hq
  obtain ⟨a104, rfl, hq⟩ := hq
  refine W.eq (g2 := F0 m 6 ls (.ref a104 :: [])) rfl ?_
  refine lv_pop hx hb d_OV_writeBare_6 rfl ?_
  refine lv_aload_n hx hb d_OV_writeBare_7 rfl (lv_at hl 1 rfl) ?_
  refine lv_aload_n hx hb d_OV_writeBare_8 rfl (lv_at hl 0 rfl) ?_
  obtain ⟨fs_, a105, he_, hv_, hq⟩ := fs_gr_some hq
  refine fs_get hx hb hts hown hK c_OV hP he_ 0 (by decide) (hts _ (fs_tb_at 797 tw_797 rfl)) (fun _ h9 => h9) hv_ d_OV_writeBare_9 ?_
  obtain ⟨j106, hj_, ej_, hq⟩ := hq
  refine fs_xgetE ej_ hx hb (fs_open hE j106 hj_).1 hw hS hown (hts _ (fs_tb_at 1885 tw_1885 rfl)) d_OV_writeBare_12 ?_
  obtain ⟨c107, s108, hc_, hs_, hq⟩ := hq
  obtain ⟨hi_, hq⟩ := hq
  obtain ⟨fs_, he_⟩ := fs_isc_some hi_
  refine fs_cV B hl.1 hP hS (kw_SB_append_59e hE hq) (fs_tb_at 1411 tw_1411 rfl) he_ rfl (fs_tb_at 1107 tw_1107 rfl) (fs_tb_at 1108 tw_1108 rfl) (fs_tb_at 93 tw_93 rfl) (fs_tb_at 1109 tw_1109 rfl) (by decide) (show (parseMethodDescriptor y_SB_append_59e.desc).map (fun d => d.parameters.length) = some 1 by decide +kernel) rfl d_OV_writeBare_15 (fs_rm (k := 0) (by omega) (by omega) (by omega) (by omega) rfl) (fun v_ h109 H locs hq hP hS => ?_) (fun C_ a_ h_ H locs hq hP hS hX => fs_out (hout _) hlocks hw hP hS hX (show ((0 + c101) + c107) ≤ mc by omega) (show ((0 + s102) + s108) ≤ ms by omega) hq)
  refine fs_cs (k := ((0 + c101) + c107)) (n := ((0 + s102) + s108)) rfl rfl ?_
  replace hq := fs_kr_some hq
  obtain ⟨a110, rfl, hq⟩ := hq
  refine W.eq (g2 := F0 m 18 ls (.ref a110 :: [])) rfl ?_
  refine lv_pop hx hb d_OV_writeBare_18 rfl ?_
  refine lv_aload_n hx hb d_OV_writeBare_19 rfl (lv_at hl 0 rfl) ?_
  obtain ⟨fs_, a111, he_, hv_, hq⟩ := fs_gr_some hq
  refine fs_get hx hb hts hown hK c_OV hP he_ 1 (by decide) (hts _ (fs_tb_at 798 tw_798 rfl)) (fun _ h9 => h9) hv_ d_OV_writeBare_20 ?_
  refine lv_aload_n hx hb d_OV_writeBare_23 rfl (lv_at hl 1 rfl) ?_
  refine lv_iconst (v := 5) hx hb d_OV_writeBare_24 (by decide) ?_
  obtain ⟨c112, s113, hc_, hs_, hq⟩ := hq
  refine fs_cVV (owner := "FormulaSheet$Part") B hl.1 hP hS (kw_VR_write hE hself hq) (fs_tb_at 1412 tw_1412 rfl) (fs_tb_at 1413 tw_1413 rfl) (fs_dclA (fs_tb_at 1414 tw_1414 rfl)) (by decide) (show (parseMethodDescriptor y_RE_write.desc).map (fun d => d.parameters.length) = some 2 by decide +kernel) rfl d_OV_writeBare_25 (fs_rm (k := 0) (by omega) (by omega) (by omega) (by omega) rfl) (fun v_ h114 H locs hq hP hS => ?_) (fun C_ a_ h_ H locs hq hP hS hX => fs_out (hout _) hlocks hw hP hS hX (show (((0 + c101) + c107) + c112) ≤ mc by omega) (show (((0 + s102) + s108) + s113) ≤ ms by omega) hq)
  refine fs_cs (k := (((0 + c101) + c107) + c112)) (n := (((0 + s102) + s108) + s113)) rfl rfl ?_
  replace hq := fs_kv_some hq
  obtain ⟨rfl, hq⟩ := hq
  refine W.eq (g2 := F0 m 28 ls ([])) rfl ?_
  refine lv_aload_n hx hb d_OV_writeBare_28 rfl (lv_at hl 1 rfl) ?_
  refine lv_bipush (v := 58) hx hb d_OV_writeBare_29 (by decide) ?_
  obtain ⟨c115, s116, hc_, hs_, hq⟩ := hq
  obtain ⟨hi_, hq⟩ := hq
  obtain ⟨fs_, he_⟩ := fs_isc_some hi_
  refine fs_cV B hl.1 hP hS (kw_SB_append_882 hE hq) (fs_tb_at 1410 tw_1410 rfl) he_ rfl (fs_tb_at 1380 tw_1380 rfl) (fs_tb_at 1381 tw_1381 rfl) (fs_tb_at 93 tw_93 rfl) (fs_tb_at 1382 tw_1382 rfl) (by decide) (show (parseMethodDescriptor y_SB_append_882.desc).map (fun d => d.parameters.length) = some 1 by decide +kernel) rfl d_OV_writeBare_31 (fs_rm (k := 0) (by omega) (by omega) (by omega) (by omega) rfl) (fun v_ h117 H locs hq hP hS => ?_) (fun C_ a_ h_ H locs hq hP hS hX => fs_out (hout _) hlocks hw hP hS hX (show ((((0 + c101) + c107) + c112) + c115) ≤ mc by omega) (show ((((0 + s102) + s108) + s113) + s116) ≤ ms by omega) hq)
  refine fs_cs (k := ((((0 + c101) + c107) + c112) + c115)) (n := ((((0 + s102) + s108) + s113) + s116)) rfl rfl ?_
  replace hq := fs_kr_some hq
  obtain ⟨a118, rfl, hq⟩ := hq
  refine W.eq (g2 := F0 m 34 ls (.ref a118 :: [])) rfl ?_
  refine lv_pop hx hb d_OV_writeBare_34 rfl ?_
  refine lv_aload_n hx hb d_OV_writeBare_35 rfl (lv_at hl 0 rfl) ?_
  obtain ⟨fs_, a119, he_, hv_, hq⟩ := fs_gr_some hq
  refine fs_get hx hb hts hown hK c_OV hP he_ 2 (by decide) (hts _ (fs_tb_at 799 tw_799 rfl)) (fun _ h9 => h9) hv_ d_OV_writeBare_36 ?_
  refine lv_aload_n hx hb d_OV_writeBare_39 rfl (lv_at hl 1 rfl) ?_
  refine lv_iconst (v := 5) hx hb d_OV_writeBare_40 (by decide) ?_
  obtain ⟨c120, s121, hc_, hs_, hq⟩ := hq
  refine fs_cVV (owner := "FormulaSheet$Part") B hl.1 hP hS (kw_VR_write hE hself hq) (fs_tb_at 1412 tw_1412 rfl) (fs_tb_at 1413 tw_1413 rfl) (fs_dclA (fs_tb_at 1414 tw_1414 rfl)) (by decide) (show (parseMethodDescriptor y_RE_write.desc).map (fun d => d.parameters.length) = some 2 by decide +kernel) rfl d_OV_writeBare_41 (fs_rm (k := 0) (by omega) (by omega) (by omega) (by omega) rfl) (fun v_ h122 H locs hq hP hS => ?_) (fun C_ a_ h_ H locs hq hP hS hX => fs_out (hout _) hlocks hw hP hS hX (show (((((0 + c101) + c107) + c112) + c115) + c120) ≤ mc by omega) (show (((((0 + s102) + s108) + s113) + s116) + s121) ≤ ms by omega) hq)
  refine fs_cs (k := (((((0 + c101) + c107) + c112) + c115) + c120)) (n := (((((0 + s102) + s108) + s113) + s116) + s121)) rfl rfl ?_
  replace hq := fs_kv_some hq
  obtain ⟨rfl, hq⟩ := hq
  refine W.eq (g2 := F0 m 44 ls ([])) rfl ?_
  refine lv_aload_n hx hb d_OV_writeBare_44 rfl (lv_at hl 1 rfl) ?_
  refine lv_bipush (v := 41) hx hb d_OV_writeBare_45 (by decide) ?_
  obtain ⟨c123, s124, hc_, hs_, hq⟩ := hq
  obtain ⟨hi_, hq⟩ := hq
  obtain ⟨fs_, he_⟩ := fs_isc_some hi_
  refine fs_cV B hl.1 hP hS (kw_SB_append_882 hE hq) (fs_tb_at 1410 tw_1410 rfl) he_ rfl (fs_tb_at 1380 tw_1380 rfl) (fs_tb_at 1381 tw_1381 rfl) (fs_tb_at 93 tw_93 rfl) (fs_tb_at 1382 tw_1382 rfl) (by decide) (show (parseMethodDescriptor y_SB_append_882.desc).map (fun d => d.parameters.length) = some 1 by decide +kernel) rfl d_OV_writeBare_47 (fs_rm (k := 0) (by omega) (by omega) (by omega) (by omega) rfl) (fun v_ h125 H locs hq hP hS => ?_) (fun C_ a_ h_ H locs hq hP hS hX => fs_out (hout _) hlocks hw hP hS hX (show ((((((0 + c101) + c107) + c112) + c115) + c120) + c123) ≤ mc by omega) (show ((((((0 + s102) + s108) + s113) + s116) + s121) + s124) ≤ ms by omega) hq)
  refine fs_cs (k := ((((((0 + c101) + c107) + c112) + c115) + c120) + c123)) (n := ((((((0 + s102) + s108) + s113) + s116) + s121) + s124)) rfl rfl ?_
  replace hq := fs_kr_some hq
  obtain ⟨a126, rfl, hq⟩ := hq
  refine W.eq (g2 := F0 m 50 ls (.ref a126 :: [])) rfl ?_
  refine lv_pop hx hb d_OV_writeBare_50 rfl ?_
  exact fs_vret hx hb hr hlocks hw hP hS (by omega) (by omega) hq d_OV_writeBare_51
def w_V_writeBare (self : Nat → Nat → fs_E → fs_Hp → Nat → Nat → fs_Ps → Prop) (mc ms : Nat) (E : fs_E) (h : fs_Hp) (x0 : Nat) (x1 : Nat) (Post : fs_Ps) : Prop := (fs_isc h x0 4 ∧ w_NU_writeBare self mc ms E h x0 x1 Post) ∨ (fs_isc h x0 5 ∧ w_RE_writeBare self mc ms E h x0 x1 Post) ∨ (fs_isc h x0 6 ∧ w_SI_writeBare self mc ms E h x0 x1 Post) ∨ (fs_isc h x0 7 ∧ w_PA_writeBare self mc ms E h x0 x1 Post) ∨ (fs_isc h x0 8 ∧ w_CA_writeBare self mc ms E h x0 x1 Post) ∨ (fs_isc h x0 9 ∧ w_OV_writeBare self mc ms E h x0 x1 Post)
theorem kw_V_writeBare {l : Launch} {s00 : State} {E : fs_E} (hE : fs_SE l s00 E) {self : Nat → Nat → fs_E → fs_Hp → Nat → Nat → fs_Ps → Prop} {fn ln : Nat} (hself : ∀ {c9 s9 : Nat} {h9 : fs_Hp} {q0 : Nat} {q1 : Nat} {P9 : fs_Ps}, self c9 s9 E h9 q0 q1 P9 → fs_CtV l s00 E.1 y_PT_writeBare { frames := fn, cells := c9, slots := s9, locals := ln } q0 [.ref q1] h9 P9 7) {mc ms : Nat} {h : fs_Hp} {x0 : Nat} {x1 : Nat} {Post : fs_Ps} (hq : w_V_writeBare self mc ms E h x0 x1 Post) : fs_CtV l s00 E.1 y_PT_writeBare { frames := fn + 7, cells := mc, slots := ms, locals := ln + 103 } x0 [.ref x1] h Post 7 := by
  rcases hq with ⟨hi, hq⟩ | ⟨hi, hq⟩ | ⟨hi, hq⟩ | ⟨hi, hq⟩ | ⟨hi, hq⟩ | ⟨hi, hq⟩
  · obtain ⟨fs_, he_⟩ := fs_isc_some hi
    exact ⟨y_NU_writeBare, b_NU_writeBare, 7, none, 4, fs_, _, _, _, he_, rfl, (fs_tb_at 1401 tw_1401 rfl), (fs_tb_at 1402 tw_1402 rfl), (fs_tb_at 104 tw_104 rfl), (fs_tb_at 1403 tw_1403 rfl), by decide, kw_NU_writeBare hE hself hq⟩
  · obtain ⟨fs_, he_⟩ := fs_isc_some hi
    exact ⟨y_RE_writeBare, b_RE_writeBare, 2, none, 5, fs_, _, _, _, he_, rfl, (fs_tb_at 1421 tw_1421 rfl), (fs_tb_at 1422 tw_1422 rfl), (fs_tb_at 105 tw_105 rfl), (fs_tb_at 1423 tw_1423 rfl), by decide, kw_RE_writeBare hE hself hq⟩
  · obtain ⟨fs_, he_⟩ := fs_isc_some hi
    exact ⟨y_SI_writeBare, b_SI_writeBare, 2, none, 6, fs_, _, _, _, he_, rfl, (fs_tb_at 1426 tw_1426 rfl), (fs_tb_at 1427 tw_1427 rfl), (fs_tb_at 111 tw_111 rfl), (fs_tb_at 1428 tw_1428 rfl), by decide, kw_SI_writeBare hE hself hq⟩
  · obtain ⟨fs_, he_⟩ := fs_isc_some hi
    exact ⟨y_PA_writeBare, b_PA_writeBare, 3, none, 7, fs_, _, _, _, he_, rfl, (fs_tb_at 1416 tw_1416 rfl), (fs_tb_at 1417 tw_1417 rfl), (fs_tb_at 112 tw_112 rfl), (fs_tb_at 1418 tw_1418 rfl), by decide, kw_PA_writeBare hE hself hq⟩
  · obtain ⟨fs_, he_⟩ := fs_isc_some hi
    exact ⟨y_CA_writeBare, b_CA_writeBare, 3, none, 8, fs_, _, _, _, he_, rfl, (fs_tb_at 1395 tw_1395 rfl), (fs_tb_at 1396 tw_1396 rfl), (fs_tb_at 110 tw_110 rfl), (fs_tb_at 1397 tw_1397 rfl), by decide, kw_CA_writeBare hE hself hq⟩
  · obtain ⟨fs_, he_⟩ := fs_isc_some hi
    exact ⟨y_OV_writeBare, b_OV_writeBare, 2, none, 9, fs_, _, _, _, he_, rfl, (fs_tb_at 1407 tw_1407 rfl), (fs_tb_at 1408 tw_1408 rfl), (fs_tb_at 109 tw_109 rfl), (fs_tb_at 1409 tw_1409 rfl), by decide, kw_OV_writeBare hE hself hq⟩
def w_N_writeBare : Nat → Nat → Nat → fs_E → fs_Hp → Nat → Nat → fs_Ps → Prop
  | 0 => fun _ _ _ _ _ _ _ => False
  | n + 1 => w_V_writeBare (w_N_writeBare n)
theorem kN_writeBare {l : Launch} {s00 : State} {E : fs_E} (hE : fs_SE l s00 E) : ∀ {n : Nat} {mc ms : Nat} {h : fs_Hp} {x0 : Nat} {x1 : Nat} {Post : fs_Ps}, w_N_writeBare n mc ms E h x0 x1 Post → fs_CtV l s00 E.1 y_PT_writeBare { frames := 7 * n, cells := mc, slots := ms, locals := 103 * n } x0 [.ref x1] h Post 7 := by
  intro n
  induction n with
  | zero => intro mc ms h x0 x1 Post hq; exact False.elim hq
  | succ n ih => intro mc ms h x0 x1 Post hq; exact kw_V_writeBare hE ih hq
