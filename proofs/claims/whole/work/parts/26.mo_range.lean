/-! The reference: ranges. -/
abbrev b_MO_referRange : ByteArray := prog_14_method_34_code
def y_MO_referRange : MethodName := ⟨"FormulaSheetModel", "referRange", "(III)V"⟩
theorem d_MO_referRange_0 : decode b_MO_referRange 0 = .ok (.iload_n 2, 1) := by decide +kernel
theorem d_MO_referRange_1 : decode b_MO_referRange 1 = .ok (.invokestatic 200, 3) := by decide +kernel
theorem d_MO_referRange_4 : decode b_MO_referRange 4 = .ok (.iload_n 3, 1) := by decide +kernel
theorem d_MO_referRange_5 : decode b_MO_referRange 5 = .ok (.invokestatic 200, 3) := by decide +kernel
theorem d_MO_referRange_8 : decode b_MO_referRange 8 = .ok (.invokestatic 203, 3) := by decide +kernel
theorem d_MO_referRange_11 : decode b_MO_referRange 11 = .ok (.istore 4, 2) := by decide +kernel
theorem d_MO_referRange_13 : decode b_MO_referRange 13 = .ok (.iload 4, 2) := by decide +kernel
theorem d_MO_referRange_15 : decode b_MO_referRange 15 = .ok (.iload_n 2, 1) := by decide +kernel
theorem d_MO_referRange_16 : decode b_MO_referRange 16 = .ok (.invokestatic 200, 3) := by decide +kernel
theorem d_MO_referRange_19 : decode b_MO_referRange 19 = .ok (.iload_n 3, 1) := by decide +kernel
theorem d_MO_referRange_20 : decode b_MO_referRange 20 = .ok (.invokestatic 200, 3) := by decide +kernel
theorem d_MO_referRange_23 : decode b_MO_referRange 23 = .ok (.invokestatic 206, 3) := by decide +kernel
theorem d_MO_referRange_26 : decode b_MO_referRange 26 = .ok (.if_icmp .gt 57, 3) := by decide +kernel
theorem d_MO_referRange_29 : decode b_MO_referRange 29 = .ok (.iload_n 2, 1) := by decide +kernel
theorem d_MO_referRange_30 : decode b_MO_referRange 30 = .ok (.invokestatic 209, 3) := by decide +kernel
theorem d_MO_referRange_33 : decode b_MO_referRange 33 = .ok (.iload_n 3, 1) := by decide +kernel
theorem d_MO_referRange_34 : decode b_MO_referRange 34 = .ok (.invokestatic 209, 3) := by decide +kernel
theorem d_MO_referRange_37 : decode b_MO_referRange 37 = .ok (.invokestatic 203, 3) := by decide +kernel
theorem d_MO_referRange_40 : decode b_MO_referRange 40 = .ok (.istore 5, 2) := by decide +kernel
theorem d_MO_referRange_42 : decode b_MO_referRange 42 = .ok (.iload 5, 2) := by decide +kernel
theorem d_MO_referRange_44 : decode b_MO_referRange 44 = .ok (.iload_n 2, 1) := by decide +kernel
theorem d_MO_referRange_45 : decode b_MO_referRange 45 = .ok (.invokestatic 209, 3) := by decide +kernel
theorem d_MO_referRange_48 : decode b_MO_referRange 48 = .ok (.iload_n 3, 1) := by decide +kernel
theorem d_MO_referRange_49 : decode b_MO_referRange 49 = .ok (.invokestatic 209, 3) := by decide +kernel
theorem d_MO_referRange_52 : decode b_MO_referRange 52 = .ok (.invokestatic 206, 3) := by decide +kernel
theorem d_MO_referRange_55 : decode b_MO_referRange 55 = .ok (.if_icmp .gt 22, 3) := by decide +kernel
theorem d_MO_referRange_58 : decode b_MO_referRange 58 = .ok (.aload_n 0, 1) := by decide +kernel
theorem d_MO_referRange_59 : decode b_MO_referRange 59 = .ok (.iload_n 1, 1) := by decide +kernel
theorem d_MO_referRange_60 : decode b_MO_referRange 60 = .ok (.bipush 10, 2) := by decide +kernel
theorem d_MO_referRange_62 : decode b_MO_referRange 62 = .ok (.iload 4, 2) := by decide +kernel
theorem d_MO_referRange_64 : decode b_MO_referRange 64 = .ok (.imul, 1) := by decide +kernel
theorem d_MO_referRange_65 : decode b_MO_referRange 65 = .ok (.iload 5, 2) := by decide +kernel
theorem d_MO_referRange_67 : decode b_MO_referRange 67 = .ok (.iadd, 1) := by decide +kernel
theorem d_MO_referRange_68 : decode b_MO_referRange 68 = .ok (.invokevirtual 212, 3) := by decide +kernel
theorem d_MO_referRange_71 : decode b_MO_referRange 71 = .ok (.iinc 5 1, 3) := by decide +kernel
theorem d_MO_referRange_74 : decode b_MO_referRange 74 = .ok (.goto (-32), 3) := by decide +kernel
theorem d_MO_referRange_77 : decode b_MO_referRange 77 = .ok (.iinc 4 1, 3) := by decide +kernel
theorem d_MO_referRange_80 : decode b_MO_referRange 80 = .ok (.goto (-67), 3) := by decide +kernel
theorem d_MO_referRange_83 : decode b_MO_referRange 83 = .ok (.return_, 1) := by decide +kernel
abbrev b_MO_shiftRange : ByteArray := prog_14_method_55_code
def y_MO_shiftRange : MethodName := ⟨"FormulaSheetModel", "shiftRange", "(III)V"⟩
theorem d_MO_shiftRange_0 : decode b_MO_shiftRange 0 = .ok (.aload_n 0, 1) := by decide +kernel
theorem d_MO_shiftRange_1 : decode b_MO_shiftRange 1 = .ok (.getfield 23, 3) := by decide +kernel
theorem d_MO_shiftRange_4 : decode b_MO_shiftRange 4 = .ok (.iload_n 1, 1) := by decide +kernel
theorem d_MO_shiftRange_5 : decode b_MO_shiftRange 5 = .ok (.iaload, 1) := by decide +kernel
theorem d_MO_shiftRange_6 : decode b_MO_shiftRange 6 = .ok (.istore 4, 2) := by decide +kernel
theorem d_MO_shiftRange_8 : decode b_MO_shiftRange 8 = .ok (.aload_n 0, 1) := by decide +kernel
theorem d_MO_shiftRange_9 : decode b_MO_shiftRange 9 = .ok (.getfield 26, 3) := by decide +kernel
theorem d_MO_shiftRange_12 : decode b_MO_shiftRange 12 = .ok (.iload_n 1, 1) := by decide +kernel
theorem d_MO_shiftRange_13 : decode b_MO_shiftRange 13 = .ok (.iaload, 1) := by decide +kernel
theorem d_MO_shiftRange_14 : decode b_MO_shiftRange 14 = .ok (.istore 5, 2) := by decide +kernel
theorem d_MO_shiftRange_16 : decode b_MO_shiftRange 16 = .ok (.iload 4, 2) := by decide +kernel
theorem d_MO_shiftRange_18 : decode b_MO_shiftRange 18 = .ok (.invokestatic 215, 3) := by decide +kernel
theorem d_MO_shiftRange_21 : decode b_MO_shiftRange 21 = .ok (.ifCond .ne 11, 3) := by decide +kernel
theorem d_MO_shiftRange_24 : decode b_MO_shiftRange 24 = .ok (.iload 5, 2) := by decide +kernel
theorem d_MO_shiftRange_26 : decode b_MO_shiftRange 26 = .ok (.invokestatic 215, 3) := by decide +kernel
theorem d_MO_shiftRange_29 : decode b_MO_shiftRange 29 = .ok (.ifCond .eq 32, 3) := by decide +kernel
theorem d_MO_shiftRange_32 : decode b_MO_shiftRange 32 = .ok (.aload_n 0, 1) := by decide +kernel
theorem d_MO_shiftRange_33 : decode b_MO_shiftRange 33 = .ok (.getfield 23, 3) := by decide +kernel
theorem d_MO_shiftRange_36 : decode b_MO_shiftRange 36 = .ok (.iload_n 1, 1) := by decide +kernel
theorem d_MO_shiftRange_37 : decode b_MO_shiftRange 37 = .ok (.iload 4, 2) := by decide +kernel
theorem d_MO_shiftRange_39 : decode b_MO_shiftRange 39 = .ok (.iload_n 2, 1) := by decide +kernel
theorem d_MO_shiftRange_40 : decode b_MO_shiftRange 40 = .ok (.iload_n 3, 1) := by decide +kernel
theorem d_MO_shiftRange_41 : decode b_MO_shiftRange 41 = .ok (.iconst 0, 1) := by decide +kernel
theorem d_MO_shiftRange_42 : decode b_MO_shiftRange 42 = .ok (.invokestatic 278, 3) := by decide +kernel
theorem d_MO_shiftRange_45 : decode b_MO_shiftRange 45 = .ok (.iastore, 1) := by decide +kernel
theorem d_MO_shiftRange_46 : decode b_MO_shiftRange 46 = .ok (.aload_n 0, 1) := by decide +kernel
theorem d_MO_shiftRange_47 : decode b_MO_shiftRange 47 = .ok (.getfield 26, 3) := by decide +kernel
theorem d_MO_shiftRange_50 : decode b_MO_shiftRange 50 = .ok (.iload_n 1, 1) := by decide +kernel
theorem d_MO_shiftRange_51 : decode b_MO_shiftRange 51 = .ok (.iload 5, 2) := by decide +kernel
theorem d_MO_shiftRange_53 : decode b_MO_shiftRange 53 = .ok (.iload_n 2, 1) := by decide +kernel
theorem d_MO_shiftRange_54 : decode b_MO_shiftRange 54 = .ok (.iload_n 3, 1) := by decide +kernel
theorem d_MO_shiftRange_55 : decode b_MO_shiftRange 55 = .ok (.iconst 0, 1) := by decide +kernel
theorem d_MO_shiftRange_56 : decode b_MO_shiftRange 56 = .ok (.invokestatic 278, 3) := by decide +kernel
theorem d_MO_shiftRange_59 : decode b_MO_shiftRange 59 = .ok (.iastore, 1) := by decide +kernel
theorem d_MO_shiftRange_60 : decode b_MO_shiftRange 60 = .ok (.return_, 1) := by decide +kernel
theorem d_MO_shiftRange_61 : decode b_MO_shiftRange 61 = .ok (.iload 4, 2) := by decide +kernel
theorem d_MO_shiftRange_63 : decode b_MO_shiftRange 63 = .ok (.invokestatic 209, 3) := by decide +kernel
theorem d_MO_shiftRange_66 : decode b_MO_shiftRange 66 = .ok (.iload 5, 2) := by decide +kernel
theorem d_MO_shiftRange_68 : decode b_MO_shiftRange 68 = .ok (.invokestatic 209, 3) := by decide +kernel
theorem d_MO_shiftRange_71 : decode b_MO_shiftRange 71 = .ok (.if_icmp .le 7, 3) := by decide +kernel
theorem d_MO_shiftRange_74 : decode b_MO_shiftRange 74 = .ok (.iconst 1, 1) := by decide +kernel
theorem d_MO_shiftRange_75 : decode b_MO_shiftRange 75 = .ok (.goto 4, 3) := by decide +kernel
theorem d_MO_shiftRange_78 : decode b_MO_shiftRange 78 = .ok (.iconst 0, 1) := by decide +kernel
theorem d_MO_shiftRange_79 : decode b_MO_shiftRange 79 = .ok (.istore 6, 2) := by decide +kernel
theorem d_MO_shiftRange_81 : decode b_MO_shiftRange 81 = .ok (.iload_n 3, 1) := by decide +kernel
theorem d_MO_shiftRange_82 : decode b_MO_shiftRange 82 = .ok (.ifCond .le 52, 3) := by decide +kernel
theorem d_MO_shiftRange_85 : decode b_MO_shiftRange 85 = .ok (.aload_n 0, 1) := by decide +kernel
theorem d_MO_shiftRange_86 : decode b_MO_shiftRange 86 = .ok (.getfield 23, 3) := by decide +kernel
theorem d_MO_shiftRange_89 : decode b_MO_shiftRange 89 = .ok (.iload_n 1, 1) := by decide +kernel
theorem d_MO_shiftRange_90 : decode b_MO_shiftRange 90 = .ok (.iload 4, 2) := by decide +kernel
theorem d_MO_shiftRange_92 : decode b_MO_shiftRange 92 = .ok (.iload_n 2, 1) := by decide +kernel
theorem d_MO_shiftRange_93 : decode b_MO_shiftRange 93 = .ok (.iload_n 3, 1) := by decide +kernel
theorem d_MO_shiftRange_94 : decode b_MO_shiftRange 94 = .ok (.iload 6, 2) := by decide +kernel
theorem d_MO_shiftRange_96 : decode b_MO_shiftRange 96 = .ok (.ifCond .eq 7, 3) := by decide +kernel
theorem d_MO_shiftRange_99 : decode b_MO_shiftRange 99 = .ok (.iconst 1, 1) := by decide +kernel
theorem d_MO_shiftRange_100 : decode b_MO_shiftRange 100 = .ok (.goto 4, 3) := by decide +kernel
theorem d_MO_shiftRange_103 : decode b_MO_shiftRange 103 = .ok (.iconst 0, 1) := by decide +kernel
theorem d_MO_shiftRange_104 : decode b_MO_shiftRange 104 = .ok (.invokestatic 278, 3) := by decide +kernel
theorem d_MO_shiftRange_107 : decode b_MO_shiftRange 107 = .ok (.iastore, 1) := by decide +kernel
theorem d_MO_shiftRange_108 : decode b_MO_shiftRange 108 = .ok (.aload_n 0, 1) := by decide +kernel
theorem d_MO_shiftRange_109 : decode b_MO_shiftRange 109 = .ok (.getfield 26, 3) := by decide +kernel
theorem d_MO_shiftRange_112 : decode b_MO_shiftRange 112 = .ok (.iload_n 1, 1) := by decide +kernel
theorem d_MO_shiftRange_113 : decode b_MO_shiftRange 113 = .ok (.iload 5, 2) := by decide +kernel
theorem d_MO_shiftRange_115 : decode b_MO_shiftRange 115 = .ok (.iload_n 2, 1) := by decide +kernel
theorem d_MO_shiftRange_116 : decode b_MO_shiftRange 116 = .ok (.iload_n 3, 1) := by decide +kernel
theorem d_MO_shiftRange_117 : decode b_MO_shiftRange 117 = .ok (.iload 6, 2) := by decide +kernel
theorem d_MO_shiftRange_119 : decode b_MO_shiftRange 119 = .ok (.ifCond .eq 7, 3) := by decide +kernel
theorem d_MO_shiftRange_122 : decode b_MO_shiftRange 122 = .ok (.iconst 0, 1) := by decide +kernel
theorem d_MO_shiftRange_123 : decode b_MO_shiftRange 123 = .ok (.goto 4, 3) := by decide +kernel
theorem d_MO_shiftRange_126 : decode b_MO_shiftRange 126 = .ok (.iconst 1, 1) := by decide +kernel
theorem d_MO_shiftRange_127 : decode b_MO_shiftRange 127 = .ok (.invokestatic 278, 3) := by decide +kernel
theorem d_MO_shiftRange_130 : decode b_MO_shiftRange 130 = .ok (.iastore, 1) := by decide +kernel
theorem d_MO_shiftRange_131 : decode b_MO_shiftRange 131 = .ok (.goto 93, 3) := by decide +kernel
theorem d_MO_shiftRange_134 : decode b_MO_shiftRange 134 = .ok (.iload 4, 2) := by decide +kernel
theorem d_MO_shiftRange_136 : decode b_MO_shiftRange 136 = .ok (.invokestatic 209, 3) := by decide +kernel
theorem d_MO_shiftRange_139 : decode b_MO_shiftRange 139 = .ok (.iload 5, 2) := by decide +kernel
theorem d_MO_shiftRange_141 : decode b_MO_shiftRange 141 = .ok (.invokestatic 209, 3) := by decide +kernel
theorem d_MO_shiftRange_144 : decode b_MO_shiftRange 144 = .ok (.if_icmp .ne 34, 3) := by decide +kernel
theorem d_MO_shiftRange_147 : decode b_MO_shiftRange 147 = .ok (.aload_n 0, 1) := by decide +kernel
theorem d_MO_shiftRange_148 : decode b_MO_shiftRange 148 = .ok (.getfield 23, 3) := by decide +kernel
theorem d_MO_shiftRange_151 : decode b_MO_shiftRange 151 = .ok (.iload_n 1, 1) := by decide +kernel
theorem d_MO_shiftRange_152 : decode b_MO_shiftRange 152 = .ok (.iload 4, 2) := by decide +kernel
theorem d_MO_shiftRange_154 : decode b_MO_shiftRange 154 = .ok (.iload_n 2, 1) := by decide +kernel
theorem d_MO_shiftRange_155 : decode b_MO_shiftRange 155 = .ok (.iload_n 3, 1) := by decide +kernel
theorem d_MO_shiftRange_156 : decode b_MO_shiftRange 156 = .ok (.iconst 0, 1) := by decide +kernel
theorem d_MO_shiftRange_157 : decode b_MO_shiftRange 157 = .ok (.invokestatic 278, 3) := by decide +kernel
theorem d_MO_shiftRange_160 : decode b_MO_shiftRange 160 = .ok (.iastore, 1) := by decide +kernel
theorem d_MO_shiftRange_161 : decode b_MO_shiftRange 161 = .ok (.aload_n 0, 1) := by decide +kernel
theorem d_MO_shiftRange_162 : decode b_MO_shiftRange 162 = .ok (.getfield 26, 3) := by decide +kernel
theorem d_MO_shiftRange_165 : decode b_MO_shiftRange 165 = .ok (.iload_n 1, 1) := by decide +kernel
theorem d_MO_shiftRange_166 : decode b_MO_shiftRange 166 = .ok (.iload 5, 2) := by decide +kernel
theorem d_MO_shiftRange_168 : decode b_MO_shiftRange 168 = .ok (.iload_n 2, 1) := by decide +kernel
theorem d_MO_shiftRange_169 : decode b_MO_shiftRange 169 = .ok (.iload_n 3, 1) := by decide +kernel
theorem d_MO_shiftRange_170 : decode b_MO_shiftRange 170 = .ok (.iconst 0, 1) := by decide +kernel
theorem d_MO_shiftRange_171 : decode b_MO_shiftRange 171 = .ok (.invokestatic 278, 3) := by decide +kernel
theorem d_MO_shiftRange_174 : decode b_MO_shiftRange 174 = .ok (.iastore, 1) := by decide +kernel
theorem d_MO_shiftRange_175 : decode b_MO_shiftRange 175 = .ok (.goto 49, 3) := by decide +kernel
theorem d_MO_shiftRange_178 : decode b_MO_shiftRange 178 = .ok (.aload_n 0, 1) := by decide +kernel
theorem d_MO_shiftRange_179 : decode b_MO_shiftRange 179 = .ok (.getfield 23, 3) := by decide +kernel
theorem d_MO_shiftRange_182 : decode b_MO_shiftRange 182 = .ok (.iload_n 1, 1) := by decide +kernel
theorem d_MO_shiftRange_183 : decode b_MO_shiftRange 183 = .ok (.iload 4, 2) := by decide +kernel
theorem d_MO_shiftRange_185 : decode b_MO_shiftRange 185 = .ok (.iload_n 2, 1) := by decide +kernel
theorem d_MO_shiftRange_186 : decode b_MO_shiftRange 186 = .ok (.iload_n 3, 1) := by decide +kernel
theorem d_MO_shiftRange_187 : decode b_MO_shiftRange 187 = .ok (.iload 6, 2) := by decide +kernel
theorem d_MO_shiftRange_189 : decode b_MO_shiftRange 189 = .ok (.ifCond .eq 7, 3) := by decide +kernel
theorem d_MO_shiftRange_192 : decode b_MO_shiftRange 192 = .ok (.iconst 2, 1) := by decide +kernel
theorem d_MO_shiftRange_193 : decode b_MO_shiftRange 193 = .ok (.goto 4, 3) := by decide +kernel
theorem d_MO_shiftRange_196 : decode b_MO_shiftRange 196 = .ok (.iconst 1, 1) := by decide +kernel
theorem d_MO_shiftRange_197 : decode b_MO_shiftRange 197 = .ok (.invokestatic 278, 3) := by decide +kernel
theorem d_MO_shiftRange_200 : decode b_MO_shiftRange 200 = .ok (.iastore, 1) := by decide +kernel
theorem d_MO_shiftRange_201 : decode b_MO_shiftRange 201 = .ok (.aload_n 0, 1) := by decide +kernel
theorem d_MO_shiftRange_202 : decode b_MO_shiftRange 202 = .ok (.getfield 26, 3) := by decide +kernel
theorem d_MO_shiftRange_205 : decode b_MO_shiftRange 205 = .ok (.iload_n 1, 1) := by decide +kernel
theorem d_MO_shiftRange_206 : decode b_MO_shiftRange 206 = .ok (.iload 5, 2) := by decide +kernel
theorem d_MO_shiftRange_208 : decode b_MO_shiftRange 208 = .ok (.iload_n 2, 1) := by decide +kernel
theorem d_MO_shiftRange_209 : decode b_MO_shiftRange 209 = .ok (.iload_n 3, 1) := by decide +kernel
theorem d_MO_shiftRange_210 : decode b_MO_shiftRange 210 = .ok (.iload 6, 2) := by decide +kernel
theorem d_MO_shiftRange_212 : decode b_MO_shiftRange 212 = .ok (.ifCond .eq 7, 3) := by decide +kernel
theorem d_MO_shiftRange_215 : decode b_MO_shiftRange 215 = .ok (.iconst 1, 1) := by decide +kernel
theorem d_MO_shiftRange_216 : decode b_MO_shiftRange 216 = .ok (.goto 4, 3) := by decide +kernel
theorem d_MO_shiftRange_219 : decode b_MO_shiftRange 219 = .ok (.iconst 2, 1) := by decide +kernel
theorem d_MO_shiftRange_220 : decode b_MO_shiftRange 220 = .ok (.invokestatic 278, 3) := by decide +kernel
theorem d_MO_shiftRange_223 : decode b_MO_shiftRange 223 = .ok (.iastore, 1) := by decide +kernel
theorem d_MO_shiftRange_224 : decode b_MO_shiftRange 224 = .ok (.return_, 1) := by decide +kernel
theorem tw_60 : lw_tbl[60]? = some (Cond.selects "FormulaSheetModel" ⟨"FormulaSheetModel", "refer", "(II)V"⟩ ⟨"FormulaSheetModel", "refer", "(II)V"⟩) := by decide +kernel
theorem tw_1678 : lw_tbl[1678]? = some (Jvm.Cond.methodLink "FormulaSheetModel" (212 : Nat) ({ cls := "FormulaSheetModel", name := "refer", desc := "(II)V" } : Jvm.MethodName)) := by decide +kernel
theorem tw_1680 : lw_tbl[1680]? = some (Jvm.Cond.instanceMethod ({ cls := "FormulaSheetModel", name := "refer", desc := "(II)V" } : Jvm.MethodName)) := by decide +kernel
theorem tw_1681 : lw_tbl[1681]? = some (Jvm.Cond.code ({ cls := "FormulaSheetModel", name := "refer", desc := "(II)V" } : Jvm.MethodName) prog_14_method_31_code (3 : Nat) (Option.none : Option Jvm.ClassFile.FieldType)) := by decide +kernel
theorem tw_1689 : lw_tbl[1689]? = some (Jvm.Cond.methodLink "FormulaSheetModel" (203 : Nat) ({ cls := "FormulaSheetModel", name := "least", desc := "(II)I" } : Jvm.MethodName)) := by decide +kernel
theorem tw_1690 : lw_tbl[1690]? = some (Jvm.Cond.static ({ cls := "FormulaSheetModel", name := "least", desc := "(II)I" } : Jvm.MethodName)) := by decide +kernel
theorem tw_1691 : lw_tbl[1691]? = some (Jvm.Cond.code ({ cls := "FormulaSheetModel", name := "least", desc := "(II)I" } : Jvm.MethodName) prog_14_method_32_code (2 : Nat) (Option.some Jvm.ClassFile.FieldType.int)) := by decide +kernel
theorem tw_1692 : lw_tbl[1692]? = some (Jvm.Cond.methodLink "FormulaSheetModel" (206 : Nat) ({ cls := "FormulaSheetModel", name := "most", desc := "(II)I" } : Jvm.MethodName)) := by decide +kernel
theorem tw_1693 : lw_tbl[1693]? = some (Jvm.Cond.static ({ cls := "FormulaSheetModel", name := "most", desc := "(II)I" } : Jvm.MethodName)) := by decide +kernel
theorem tw_1694 : lw_tbl[1694]? = some (Jvm.Cond.code ({ cls := "FormulaSheetModel", name := "most", desc := "(II)I" } : Jvm.MethodName) prog_14_method_33_code (2 : Nat) (Option.some Jvm.ClassFile.FieldType.int)) := by decide +kernel
theorem tw_1774 : lw_tbl[1774]? = some (Jvm.Cond.methodLink "FormulaSheetModel" (278 : Nat) ({ cls := "FormulaSheetModel", name := "shifted", desc := "(IIII)I" } : Jvm.MethodName)) := by decide +kernel
theorem tw_1775 : lw_tbl[1775]? = some (Jvm.Cond.static ({ cls := "FormulaSheetModel", name := "shifted", desc := "(IIII)I" } : Jvm.MethodName)) := by decide +kernel
theorem tw_1776 : lw_tbl[1776]? = some (Jvm.Cond.code ({ cls := "FormulaSheetModel", name := "shifted", desc := "(IIII)I" } : Jvm.MethodName) prog_14_method_54_code (5 : Nat) (Option.some Jvm.ClassFile.FieldType.int)) := by decide +kernel
def p_MO_referRange_L42 : Nat → Int32 → Int32 → Int32 → Int32 → Int32 → mo_S → Int32 × mo_S
  | 0, z1, z2, z3, z4, z5, M1 => (z5, M1)
  | n + 1, z1, z2, z3, z4, z5, M1 => (if (p_MO_most (p_MO_row z2) (p_MO_row z3)) < z5 then (z5, M1) else p_MO_referRange_L42 n z1 z2 z3 z4 (z5 + 1) (p_MO_refer M1 z1 ((10 * z4) + z5)))
def p_MO_referRange_L13 : Nat → Int32 → Int32 → Int32 → Int32 → mo_S → Int32 × mo_S
  | 0, z1, z2, z3, z4, M1 => (z4, M1)
  | n + 1, z1, z2, z3, z4, M1 => (if (p_MO_most (p_MO_column z2) (p_MO_column z3)) < z4 then (z4, M1) else (match p_MO_referRange_L42 (17) z1 z2 z3 z4 (p_MO_least (p_MO_row z2) (p_MO_row z3)) M1 with | (y267, M268) => p_MO_referRange_L13 n z1 z2 z3 (z4 + 1) M268))
def p_MO_referRange (M : mo_S) (x1 : Int32) (x2 : Int32) (x3 : Int32) : mo_S := (match p_MO_referRange_L13 (9) x1 x2 x3 (p_MO_least (p_MO_column x2) (p_MO_column x3)) M with | (y270, M271) => M271)
set_option maxHeartbeats 4000000 in
set_option maxRecDepth 100000 in
theorem l_MO_referRange_42 {p : Program} {l : Launch} {e : Env} {R : Room} {s : State} {m : MethodId} {args : Array Value} {below : List Frame} {meth : Method} {c : Code} {Q : State → Prop} {s00 : State} {G : fs_G} (hSt : fs_St l s00 G) (B : fs_B p l e s m args meth c s00 G y_MO_referRange b_MO_referRange 6 none) {h : fs_Hp} {a : Nat} {ad : Nat → Nat} (hR : 1 ≤ R.frames ∧ 14 ≤ R.locals) : ∀ (n : Nat) (z1 : Int32) (z2 : Int32) (z3 : Int32) (z4 : Int32) (z5 : Int32) (M1 : mo_S) (h1 : fs_Hp) (H : Heap) (locs : List Loc) (ls : Array Slot), (16 - (Int32.toInt z5)).toNat < n → (0 ≤ (Int32.toInt z5)) ∧ ((Int32.toInt z5) ≤ 16) ∧ (0 ≤ (Int32.toInt z4)) ∧ ((Int32.toInt z4) ≤ 7) ∧ (0 ≤ (Int32.toInt z1)) ∧ ((Int32.toInt z1) < 80) → fs_P G.1 fs_cl (fs_A s00) h1 H → va_S (fs_A s00) s00.heap H locs → mo_at G h1 a ad M1 → mo_fr a ad h h1 → lv_has ls 6 [(0, .ref a), (1, .int z1), (2, .int z2), (3, .int z3), (4, .int z4), (5, .int z5)] → (∀ (z5' : Int32) (M' : mo_S) (h' : fs_Hp) (H : Heap) (locs : List Loc) (ls : Array Slot), p_MO_referRange_L42 n z1 z2 z3 z4 z5 M1 = (z5', M') → (0 ≤ (Int32.toInt z5')) ∧ ((Int32.toInt z5') ≤ 16) ∧ (0 ≤ (Int32.toInt z4)) ∧ ((Int32.toInt z4) ≤ 7) ∧ (0 ≤ (Int32.toInt z1)) ∧ ((Int32.toInt z1) < 80) → fs_P G.1 fs_cl (fs_A s00) h' H → va_S (fs_A s00) s00.heap H locs → mo_at G h' a ad M' → mo_fr a ad h h' → lv_has ls 6 [(0, .ref a), (1, .int z1), (2, .int z2), (3, .int z3), (4, .int z4), (5, .int z5')] → W p l e R s m args below meth c H locs 0 0 Q (F0 m 77 ls [])) → W p l e R s m args below meth c H locs 0 0 Q (F0 m 42 ls []) := by
  obtain ⟨hx, hb, hr, hml, hown, hts, hlocks, hname, hK, hw, htr⟩ := id B
  have hown : s.vm.findClass "FormulaSheetModel" = some m.cls := hown
  intro n
  induction n with
  | zero => intro z1 z2 z3 z4 z5 M1 h1 H locs ls hn; exact absurd hn (Nat.not_lt_zero _)
  | succ n ih =>
    intro z1 z2 z3 z4 z5 M1 h1 H locs ls hn hI hP hS hM hf hl kk
    refine lv_iload hx hb d_MO_referRange_42 (lv_at hl 5 rfl) ?_
    refine lv_iload_n hx hb d_MO_referRange_44 rfl (lv_at hl 2 rfl) ?_
    refine fs_cS B hl.1 hP hS (k_MO_row hSt z2 ) (fs_tb_at 1675 tw_1675 rfl) (fs_tb_at 1676 tw_1676 rfl) (fs_tb_at 96 tw_96 rfl) (fs_tb_at 1677 tw_1677 rfl) (by decide) (show (parseMethodDescriptor y_MO_row.desc).map (fun d => d.parameters.length) = some 1 by decide +kernel) rfl d_MO_referRange_45 ⟨Nat.le_trans (Nat.le_of_ble_eq_true rfl) hR.1, Nat.le_trans (Nat.le_of_ble_eq_true rfl) hR.2, Nat.zero_le _, Nat.zero_le _⟩ (fun v_ h_ H locs hq hP hS => ?_) (fun C_ a_ h_ H locs hq => absurd hq.1 (fun h9 => by cases h9))
    obtain ⟨ev, eh⟩ := hq
    cases ev
    rw [eh] at hP
    have pf261 : (0 ≤ (Int32.toInt (p_MO_row z2))) ∧ ((Int32.toInt (p_MO_row z2)) ≤ 15) := po_MO_row  z2 
    refine W.widen (k := 0) (n := 0) (Nat.le_of_ble_eq_true rfl) (Nat.le_of_ble_eq_true rfl) ?_
    refine W.eq (g2 := F0 m 48 ls (.int (p_MO_row z2) :: .int z5 :: [])) rfl ?_
    refine lv_iload_n hx hb d_MO_referRange_48 rfl (lv_at hl 3 rfl) ?_
    refine fs_cS B hl.1 hP hS (k_MO_row hSt z3 ) (fs_tb_at 1675 tw_1675 rfl) (fs_tb_at 1676 tw_1676 rfl) (fs_tb_at 96 tw_96 rfl) (fs_tb_at 1677 tw_1677 rfl) (by decide) (show (parseMethodDescriptor y_MO_row.desc).map (fun d => d.parameters.length) = some 1 by decide +kernel) rfl d_MO_referRange_49 ⟨Nat.le_trans (Nat.le_of_ble_eq_true rfl) hR.1, Nat.le_trans (Nat.le_of_ble_eq_true rfl) hR.2, Nat.zero_le _, Nat.zero_le _⟩ (fun v_ h_ H locs hq hP hS => ?_) (fun C_ a_ h_ H locs hq => absurd hq.1 (fun h9 => by cases h9))
    obtain ⟨ev, eh⟩ := hq
    cases ev
    rw [eh] at hP
    have pf262 : (0 ≤ (Int32.toInt (p_MO_row z3))) ∧ ((Int32.toInt (p_MO_row z3)) ≤ 15) := po_MO_row  z3 
    refine W.widen (k := 0) (n := 0) (Nat.le_of_ble_eq_true rfl) (Nat.le_of_ble_eq_true rfl) ?_
    refine W.eq (g2 := F0 m 52 ls (.int (p_MO_row z3) :: .int (p_MO_row z2) :: .int z5 :: [])) rfl ?_
    refine fs_cS B hl.1 hP hS (k_MO_most hSt (p_MO_row z2) (p_MO_row z3) ) (fs_tb_at 1692 tw_1692 rfl) (fs_tb_at 1693 tw_1693 rfl) (fs_tb_at 96 tw_96 rfl) (fs_tb_at 1694 tw_1694 rfl) (by decide) (show (parseMethodDescriptor y_MO_most.desc).map (fun d => d.parameters.length) = some 2 by decide +kernel) rfl d_MO_referRange_52 ⟨Nat.le_trans (Nat.le_of_ble_eq_true rfl) hR.1, Nat.le_trans (Nat.le_of_ble_eq_true rfl) hR.2, Nat.zero_le _, Nat.zero_le _⟩ (fun v_ h_ H locs hq hP hS => ?_) (fun C_ a_ h_ H locs hq => absurd hq.1 (fun h9 => by cases h9))
    obtain ⟨ev, eh⟩ := hq
    cases ev
    rw [eh] at hP
    have pf263 : ((Int32.toInt (p_MO_row z2)) ≤ (Int32.toInt (p_MO_most (p_MO_row z2) (p_MO_row z3)))) ∧ ((Int32.toInt (p_MO_row z3)) ≤ (Int32.toInt (p_MO_most (p_MO_row z2) (p_MO_row z3)))) ∧ (((Int32.toInt (p_MO_most (p_MO_row z2) (p_MO_row z3))) = (Int32.toInt (p_MO_row z2)) ∨ (Int32.toInt (p_MO_most (p_MO_row z2) (p_MO_row z3))) = (Int32.toInt (p_MO_row z3)))) := po_MO_most  (p_MO_row z2) (p_MO_row z3) 
    refine W.widen (k := 0) (n := 0) (Nat.le_of_ble_eq_true rfl) (Nat.le_of_ble_eq_true rfl) ?_
    refine W.eq (g2 := F0 m 55 ls (.int (p_MO_most (p_MO_row z2) (p_MO_row z3)) :: .int z5 :: [])) rfl ?_
    refine lv_icmp_gt (tgt := 77) hx hb d_MO_referRange_55 (by decide) (fun c_264 => ?_) (fun c_264 => ?_)
    · have e_ : p_MO_referRange_L42 (n + 1) z1 z2 z3 z4 z5 M1 = (z5, M1) := by rw [p_MO_referRange_L42, if_pos c_264]
      exact kk _ _ _ _ _ _ e_ (⟨(by   have k0 := c_264; (try simp only [Int32.lt_iff_toInt_lt, Int32.le_iff_toInt_le, ← Int32.toInt_inj, i32_0, i32_1, i32_2, i32_3, i32_4, i32_5, i32_6, i32_7, i32_8, i32_9, i32_10, i32_11, i32_12, i32_16, i32_24, i32_39, i32_40, i32_41, i32_43, i32_44, i32_48, i32_49, i32_57, i32_64, i32_80, i32_81, i32_100, i32_101, i32_121, i32_127, i32_128, i32_256, i32_384, i32_400, i32_512, i32_3199, i32_3200, i32_3239, i32_3240, i32_m1] at k0);  show 0 ≤ (Int32.toInt z5); omega), (by   have k0 := c_264; (try simp only [Int32.lt_iff_toInt_lt, Int32.le_iff_toInt_le, ← Int32.toInt_inj, i32_0, i32_1, i32_2, i32_3, i32_4, i32_5, i32_6, i32_7, i32_8, i32_9, i32_10, i32_11, i32_12, i32_16, i32_24, i32_39, i32_40, i32_41, i32_43, i32_44, i32_48, i32_49, i32_57, i32_64, i32_80, i32_81, i32_100, i32_101, i32_121, i32_127, i32_128, i32_256, i32_384, i32_400, i32_512, i32_3199, i32_3200, i32_3239, i32_3240, i32_m1] at k0);  show (Int32.toInt z5) ≤ 16; omega), (by   have k0 := c_264; (try simp only [Int32.lt_iff_toInt_lt, Int32.le_iff_toInt_le, ← Int32.toInt_inj, i32_0, i32_1, i32_2, i32_3, i32_4, i32_5, i32_6, i32_7, i32_8, i32_9, i32_10, i32_11, i32_12, i32_16, i32_24, i32_39, i32_40, i32_41, i32_43, i32_44, i32_48, i32_49, i32_57, i32_64, i32_80, i32_81, i32_100, i32_101, i32_121, i32_127, i32_128, i32_256, i32_384, i32_400, i32_512, i32_3199, i32_3200, i32_3239, i32_3240, i32_m1] at k0);  show 0 ≤ (Int32.toInt z4); omega), (by   have k0 := c_264; (try simp only [Int32.lt_iff_toInt_lt, Int32.le_iff_toInt_le, ← Int32.toInt_inj, i32_0, i32_1, i32_2, i32_3, i32_4, i32_5, i32_6, i32_7, i32_8, i32_9, i32_10, i32_11, i32_12, i32_16, i32_24, i32_39, i32_40, i32_41, i32_43, i32_44, i32_48, i32_49, i32_57, i32_64, i32_80, i32_81, i32_100, i32_101, i32_121, i32_127, i32_128, i32_256, i32_384, i32_400, i32_512, i32_3199, i32_3200, i32_3239, i32_3240, i32_m1] at k0);  show (Int32.toInt z4) ≤ 7; omega), (by   have k0 := c_264; (try simp only [Int32.lt_iff_toInt_lt, Int32.le_iff_toInt_le, ← Int32.toInt_inj, i32_0, i32_1, i32_2, i32_3, i32_4, i32_5, i32_6, i32_7, i32_8, i32_9, i32_10, i32_11, i32_12, i32_16, i32_24, i32_39, i32_40, i32_41, i32_43, i32_44, i32_48, i32_49, i32_57, i32_64, i32_80, i32_81, i32_100, i32_101, i32_121, i32_127, i32_128, i32_256, i32_384, i32_400, i32_512, i32_3199, i32_3200, i32_3239, i32_3240, i32_m1] at k0);  show 0 ≤ (Int32.toInt z1); omega), (by   have k0 := c_264; (try simp only [Int32.lt_iff_toInt_lt, Int32.le_iff_toInt_le, ← Int32.toInt_inj, i32_0, i32_1, i32_2, i32_3, i32_4, i32_5, i32_6, i32_7, i32_8, i32_9, i32_10, i32_11, i32_12, i32_16, i32_24, i32_39, i32_40, i32_41, i32_43, i32_44, i32_48, i32_49, i32_57, i32_64, i32_80, i32_81, i32_100, i32_101, i32_121, i32_127, i32_128, i32_256, i32_384, i32_400, i32_512, i32_3199, i32_3200, i32_3239, i32_3240, i32_m1] at k0);  show (Int32.toInt z1) < 80; omega)⟩) hP hS hM hf (lv_sub hl [0, 1, 2, 3, 4, 5] rfl)
    · refine lv_aload_n hx hb d_MO_referRange_58 rfl (lv_at hl 0 rfl) ?_
      refine lv_iload_n hx hb d_MO_referRange_59 rfl (lv_at hl 1 rfl) ?_
      refine lv_bipush (v := 10) hx hb d_MO_referRange_60 (by decide) ?_
      refine lv_iload hx hb d_MO_referRange_62 (lv_at hl 4 rfl) ?_
      refine lv_imul hx hb d_MO_referRange_64 ?_
      refine lv_iload hx hb d_MO_referRange_65 (lv_at hl 5 rfl) ?_
      refine lv_iadd hx hb d_MO_referRange_67 ?_
      refine fs_cV B hl.1 hP hS (k_MO_refer hSt hM z1 ((10 * z4) + z5) (by   have k0 := c_264; (try simp only [Int32.lt_iff_toInt_lt, Int32.le_iff_toInt_le, ← Int32.toInt_inj, i32_0, i32_1, i32_2, i32_3, i32_4, i32_5, i32_6, i32_7, i32_8, i32_9, i32_10, i32_11, i32_12, i32_16, i32_24, i32_39, i32_40, i32_41, i32_43, i32_44, i32_48, i32_49, i32_57, i32_64, i32_80, i32_81, i32_100, i32_101, i32_121, i32_127, i32_128, i32_256, i32_384, i32_400, i32_512, i32_3199, i32_3200, i32_3239, i32_3240, i32_m1] at k0);  show 0 ≤ (Int32.toInt z1); omega) (by   have k0 := c_264; (try simp only [Int32.lt_iff_toInt_lt, Int32.le_iff_toInt_le, ← Int32.toInt_inj, i32_0, i32_1, i32_2, i32_3, i32_4, i32_5, i32_6, i32_7, i32_8, i32_9, i32_10, i32_11, i32_12, i32_16, i32_24, i32_39, i32_40, i32_41, i32_43, i32_44, i32_48, i32_49, i32_57, i32_64, i32_80, i32_81, i32_100, i32_101, i32_121, i32_127, i32_128, i32_256, i32_384, i32_400, i32_512, i32_3199, i32_3200, i32_3239, i32_3240, i32_m1] at k0);  show (Int32.toInt z1) < 80; omega)) (fs_tb_at 1678 tw_1678 rfl) hM.1 rfl (fs_tb_at 1680 tw_1680 rfl) (fs_tb_at 60 tw_60 rfl) (fs_tb_at 96 tw_96 rfl) (fs_tb_at 1681 tw_1681 rfl) (by decide) (show (parseMethodDescriptor y_MO_refer.desc).map (fun d => d.parameters.length) = some 2 by decide +kernel) rfl d_MO_referRange_68 ⟨Nat.le_trans (Nat.le_of_ble_eq_true rfl) hR.1, Nat.le_trans (Nat.le_of_ble_eq_true rfl) hR.2, Nat.zero_le _, Nat.zero_le _⟩ (fun v_ h_ H locs hq hP hS => ?_) (fun C_ a_ h_ H locs hq => absurd hq.1 (fun h9 => by cases h9))
      obtain ⟨ev, hM, hf2⟩ := hq
      cases ev
      have hf := hf.trans hf2
      obtain ⟨R265, eR265⟩ : ∃ x, x = p_MO_refer M1 z1 ((10 * z4) + z5) := ⟨_, rfl⟩
      rw [← eR265] at hM
      have pf266 : ((Int32.toInt (R265.1 9)) = (Int32.toInt (M1.1 9))) ∧ ((Int32.toInt (R265.1 10)) = (Int32.toInt (M1.1 10))) ∧ ((Int32.toInt (R265.1 11)) = (Int32.toInt (M1.1 11))) ∧ ((Int32.toInt (R265.1 12)) = (Int32.toInt (M1.1 12))) ∧ ((Int32.toInt (R265.1 22)) = (Int32.toInt (M1.1 22))) ∧ ((Int32.toInt (R265.1 23)) = (Int32.toInt (M1.1 23))) ∧ ((Int32.toInt (R265.1 24)) = (Int32.toInt (M1.1 24))) ∧ ((Int32.toInt (R265.1 29)) = (Int32.toInt (M1.1 29))) ∧ ((Int32.toInt (R265.1 30)) = (Int32.toInt (M1.1 30))) ∧ ((Int32.toInt (R265.1 34)) = (Int32.toInt (M1.1 34))) ∧ ((Int32.toInt (R265.1 35)) = (Int32.toInt (M1.1 35))) := by rw [eR265]; exact po_MO_refer M1 z1 ((10 * z4) + z5) (by   have k0 := c_264; (try simp only [Int32.lt_iff_toInt_lt, Int32.le_iff_toInt_le, ← Int32.toInt_inj, i32_0, i32_1, i32_2, i32_3, i32_4, i32_5, i32_6, i32_7, i32_8, i32_9, i32_10, i32_11, i32_12, i32_16, i32_24, i32_39, i32_40, i32_41, i32_43, i32_44, i32_48, i32_49, i32_57, i32_64, i32_80, i32_81, i32_100, i32_101, i32_121, i32_127, i32_128, i32_256, i32_384, i32_400, i32_512, i32_3199, i32_3200, i32_3239, i32_3240, i32_m1] at k0);  show 0 ≤ (Int32.toInt z1); omega) (by   have k0 := c_264; (try simp only [Int32.lt_iff_toInt_lt, Int32.le_iff_toInt_le, ← Int32.toInt_inj, i32_0, i32_1, i32_2, i32_3, i32_4, i32_5, i32_6, i32_7, i32_8, i32_9, i32_10, i32_11, i32_12, i32_16, i32_24, i32_39, i32_40, i32_41, i32_43, i32_44, i32_48, i32_49, i32_57, i32_64, i32_80, i32_81, i32_100, i32_101, i32_121, i32_127, i32_128, i32_256, i32_384, i32_400, i32_512, i32_3199, i32_3200, i32_3239, i32_3240, i32_m1] at k0);  show (Int32.toInt z1) < 80; omega)
      refine W.widen (k := 0) (n := 0) (Nat.le_of_ble_eq_true rfl) (Nat.le_of_ble_eq_true rfl) ?_
      refine W.eq (g2 := F0 m 71 ls ([])) rfl ?_
      refine lv_iinc (v := z5 + 1) (lv' := [(5, .int (z5 + 1)), (0, .ref a), (1, .int z1), (2, .int z2), (3, .int z3), (4, .int z4)]) hx hb d_MO_referRange_71 hl (k := 5) rfl rfl (by decide) rfl (fun ls hl => ?_)
      refine lv_goto (tgt := 42) hx hb d_MO_referRange_74 (by decide) ?_
      have e_ : p_MO_referRange_L42 (n + 1) z1 z2 z3 z4 z5 M1 = p_MO_referRange_L42 n z1 z2 z3 z4 (z5 + 1) R265 := by rw [p_MO_referRange_L42, if_neg c_264, ← eR265]
      exact ih z1 z2 z3 z4 (z5 + 1) R265 _ _ _ _ (by   have k0 := c_264; (try simp only [Int32.lt_iff_toInt_lt, Int32.le_iff_toInt_le, ← Int32.toInt_inj, i32_0, i32_1, i32_2, i32_3, i32_4, i32_5, i32_6, i32_7, i32_8, i32_9, i32_10, i32_11, i32_12, i32_16, i32_24, i32_39, i32_40, i32_41, i32_43, i32_44, i32_48, i32_49, i32_57, i32_64, i32_80, i32_81, i32_100, i32_101, i32_121, i32_127, i32_128, i32_256, i32_384, i32_400, i32_512, i32_3199, i32_3200, i32_3239, i32_3240, i32_m1] at k0); have tt1 : Int32.toInt (z5 + 1) = (Int32.toInt z5) + 1 := (by rw [i32_add (by rw [i32_1]; omega), i32_1]); show (16 - (Int32.toInt (z5 + 1))).toNat < n; omega) (⟨(by   have k0 := c_264; (try simp only [Int32.lt_iff_toInt_lt, Int32.le_iff_toInt_le, ← Int32.toInt_inj, i32_0, i32_1, i32_2, i32_3, i32_4, i32_5, i32_6, i32_7, i32_8, i32_9, i32_10, i32_11, i32_12, i32_16, i32_24, i32_39, i32_40, i32_41, i32_43, i32_44, i32_48, i32_49, i32_57, i32_64, i32_80, i32_81, i32_100, i32_101, i32_121, i32_127, i32_128, i32_256, i32_384, i32_400, i32_512, i32_3199, i32_3200, i32_3239, i32_3240, i32_m1] at k0); have tt1 : Int32.toInt (z5 + 1) = (Int32.toInt z5) + 1 := (by rw [i32_add (by rw [i32_1]; omega), i32_1]); show 0 ≤ (Int32.toInt (z5 + 1)); omega), (by   have k0 := c_264; (try simp only [Int32.lt_iff_toInt_lt, Int32.le_iff_toInt_le, ← Int32.toInt_inj, i32_0, i32_1, i32_2, i32_3, i32_4, i32_5, i32_6, i32_7, i32_8, i32_9, i32_10, i32_11, i32_12, i32_16, i32_24, i32_39, i32_40, i32_41, i32_43, i32_44, i32_48, i32_49, i32_57, i32_64, i32_80, i32_81, i32_100, i32_101, i32_121, i32_127, i32_128, i32_256, i32_384, i32_400, i32_512, i32_3199, i32_3200, i32_3239, i32_3240, i32_m1] at k0); have tt1 : Int32.toInt (z5 + 1) = (Int32.toInt z5) + 1 := (by rw [i32_add (by rw [i32_1]; omega), i32_1]); show (Int32.toInt (z5 + 1)) ≤ 16; omega), (by   have k0 := c_264; (try simp only [Int32.lt_iff_toInt_lt, Int32.le_iff_toInt_le, ← Int32.toInt_inj, i32_0, i32_1, i32_2, i32_3, i32_4, i32_5, i32_6, i32_7, i32_8, i32_9, i32_10, i32_11, i32_12, i32_16, i32_24, i32_39, i32_40, i32_41, i32_43, i32_44, i32_48, i32_49, i32_57, i32_64, i32_80, i32_81, i32_100, i32_101, i32_121, i32_127, i32_128, i32_256, i32_384, i32_400, i32_512, i32_3199, i32_3200, i32_3239, i32_3240, i32_m1] at k0);  show 0 ≤ (Int32.toInt z4); omega), (by   have k0 := c_264; (try simp only [Int32.lt_iff_toInt_lt, Int32.le_iff_toInt_le, ← Int32.toInt_inj, i32_0, i32_1, i32_2, i32_3, i32_4, i32_5, i32_6, i32_7, i32_8, i32_9, i32_10, i32_11, i32_12, i32_16, i32_24, i32_39, i32_40, i32_41, i32_43, i32_44, i32_48, i32_49, i32_57, i32_64, i32_80, i32_81, i32_100, i32_101, i32_121, i32_127, i32_128, i32_256, i32_384, i32_400, i32_512, i32_3199, i32_3200, i32_3239, i32_3240, i32_m1] at k0);  show (Int32.toInt z4) ≤ 7; omega), (by   have k0 := c_264; (try simp only [Int32.lt_iff_toInt_lt, Int32.le_iff_toInt_le, ← Int32.toInt_inj, i32_0, i32_1, i32_2, i32_3, i32_4, i32_5, i32_6, i32_7, i32_8, i32_9, i32_10, i32_11, i32_12, i32_16, i32_24, i32_39, i32_40, i32_41, i32_43, i32_44, i32_48, i32_49, i32_57, i32_64, i32_80, i32_81, i32_100, i32_101, i32_121, i32_127, i32_128, i32_256, i32_384, i32_400, i32_512, i32_3199, i32_3200, i32_3239, i32_3240, i32_m1] at k0);  show 0 ≤ (Int32.toInt z1); omega), (by   have k0 := c_264; (try simp only [Int32.lt_iff_toInt_lt, Int32.le_iff_toInt_le, ← Int32.toInt_inj, i32_0, i32_1, i32_2, i32_3, i32_4, i32_5, i32_6, i32_7, i32_8, i32_9, i32_10, i32_11, i32_12, i32_16, i32_24, i32_39, i32_40, i32_41, i32_43, i32_44, i32_48, i32_49, i32_57, i32_64, i32_80, i32_81, i32_100, i32_101, i32_121, i32_127, i32_128, i32_256, i32_384, i32_400, i32_512, i32_3199, i32_3200, i32_3239, i32_3240, i32_m1] at k0);  show (Int32.toInt z1) < 80; omega)⟩) hP hS hM hf (lv_sub hl [1, 2, 3, 4, 5, 0] rfl) (fun y0_ M_ h_ H locs ls h9 => kk y0_ M_ h_ H locs ls (e_.trans h9))
set_option maxHeartbeats 4000000 in
set_option maxRecDepth 100000 in
theorem l_MO_referRange_13 {p : Program} {l : Launch} {e : Env} {R : Room} {s : State} {m : MethodId} {args : Array Value} {below : List Frame} {meth : Method} {c : Code} {Q : State → Prop} {s00 : State} {G : fs_G} (hSt : fs_St l s00 G) (B : fs_B p l e s m args meth c s00 G y_MO_referRange b_MO_referRange 6 none) {h : fs_Hp} {a : Nat} {ad : Nat → Nat} (hR : 1 ≤ R.frames ∧ 14 ≤ R.locals) : ∀ (n : Nat) (z1 : Int32) (z2 : Int32) (z3 : Int32) (z4 : Int32) (M1 : mo_S) (h1 : fs_Hp) (H : Heap) (locs : List Loc) (ls : Array Slot), (8 - (Int32.toInt z4)).toNat < n → (0 ≤ (Int32.toInt z4)) ∧ ((Int32.toInt z4) ≤ 8) ∧ (0 ≤ (Int32.toInt z1)) ∧ ((Int32.toInt z1) < 80) → fs_P G.1 fs_cl (fs_A s00) h1 H → va_S (fs_A s00) s00.heap H locs → mo_at G h1 a ad M1 → mo_fr a ad h h1 → lv_has ls 6 [(0, .ref a), (1, .int z1), (2, .int z2), (3, .int z3), (4, .int z4)] → (∀ (z4' : Int32) (M' : mo_S) (h' : fs_Hp) (H : Heap) (locs : List Loc) (ls : Array Slot), p_MO_referRange_L13 n z1 z2 z3 z4 M1 = (z4', M') → (0 ≤ (Int32.toInt z4')) ∧ ((Int32.toInt z4') ≤ 8) ∧ (0 ≤ (Int32.toInt z1)) ∧ ((Int32.toInt z1) < 80) → fs_P G.1 fs_cl (fs_A s00) h' H → va_S (fs_A s00) s00.heap H locs → mo_at G h' a ad M' → mo_fr a ad h h' → lv_has ls 6 [(0, .ref a), (1, .int z1), (2, .int z2), (3, .int z3), (4, .int z4')] → W p l e R s m args below meth c H locs 0 0 Q (F0 m 83 ls [])) → W p l e R s m args below meth c H locs 0 0 Q (F0 m 13 ls []) := by
  obtain ⟨hx, hb, hr, hml, hown, hts, hlocks, hname, hK, hw, htr⟩ := id B
  have hown : s.vm.findClass "FormulaSheetModel" = some m.cls := hown
  intro n
  induction n with
  | zero => intro z1 z2 z3 z4 M1 h1 H locs ls hn; exact absurd hn (Nat.not_lt_zero _)
  | succ n ih =>
    intro z1 z2 z3 z4 M1 h1 H locs ls hn hI hP hS hM hf hl kk
    refine lv_iload hx hb d_MO_referRange_13 (lv_at hl 4 rfl) ?_
    refine lv_iload_n hx hb d_MO_referRange_15 rfl (lv_at hl 2 rfl) ?_
    refine fs_cS B hl.1 hP hS (k_MO_column hSt z2 ) (fs_tb_at 1672 tw_1672 rfl) (fs_tb_at 1673 tw_1673 rfl) (fs_tb_at 96 tw_96 rfl) (fs_tb_at 1674 tw_1674 rfl) (by decide) (show (parseMethodDescriptor y_MO_column.desc).map (fun d => d.parameters.length) = some 1 by decide +kernel) rfl d_MO_referRange_16 ⟨Nat.le_trans (Nat.le_of_ble_eq_true rfl) hR.1, Nat.le_trans (Nat.le_of_ble_eq_true rfl) hR.2, Nat.zero_le _, Nat.zero_le _⟩ (fun v_ h_ H locs hq hP hS => ?_) (fun C_ a_ h_ H locs hq => absurd hq.1 (fun h9 => by cases h9))
    obtain ⟨ev, eh⟩ := hq
    cases ev
    rw [eh] at hP
    have pf254 : (0 ≤ (Int32.toInt (p_MO_column z2))) ∧ ((Int32.toInt (p_MO_column z2)) ≤ 7) := po_MO_column  z2 
    refine W.widen (k := 0) (n := 0) (Nat.le_of_ble_eq_true rfl) (Nat.le_of_ble_eq_true rfl) ?_
    refine W.eq (g2 := F0 m 19 ls (.int (p_MO_column z2) :: .int z4 :: [])) rfl ?_
    refine lv_iload_n hx hb d_MO_referRange_19 rfl (lv_at hl 3 rfl) ?_
    refine fs_cS B hl.1 hP hS (k_MO_column hSt z3 ) (fs_tb_at 1672 tw_1672 rfl) (fs_tb_at 1673 tw_1673 rfl) (fs_tb_at 96 tw_96 rfl) (fs_tb_at 1674 tw_1674 rfl) (by decide) (show (parseMethodDescriptor y_MO_column.desc).map (fun d => d.parameters.length) = some 1 by decide +kernel) rfl d_MO_referRange_20 ⟨Nat.le_trans (Nat.le_of_ble_eq_true rfl) hR.1, Nat.le_trans (Nat.le_of_ble_eq_true rfl) hR.2, Nat.zero_le _, Nat.zero_le _⟩ (fun v_ h_ H locs hq hP hS => ?_) (fun C_ a_ h_ H locs hq => absurd hq.1 (fun h9 => by cases h9))
    obtain ⟨ev, eh⟩ := hq
    cases ev
    rw [eh] at hP
    have pf255 : (0 ≤ (Int32.toInt (p_MO_column z3))) ∧ ((Int32.toInt (p_MO_column z3)) ≤ 7) := po_MO_column  z3 
    refine W.widen (k := 0) (n := 0) (Nat.le_of_ble_eq_true rfl) (Nat.le_of_ble_eq_true rfl) ?_
    refine W.eq (g2 := F0 m 23 ls (.int (p_MO_column z3) :: .int (p_MO_column z2) :: .int z4 :: [])) rfl ?_
    refine fs_cS B hl.1 hP hS (k_MO_most hSt (p_MO_column z2) (p_MO_column z3) ) (fs_tb_at 1692 tw_1692 rfl) (fs_tb_at 1693 tw_1693 rfl) (fs_tb_at 96 tw_96 rfl) (fs_tb_at 1694 tw_1694 rfl) (by decide) (show (parseMethodDescriptor y_MO_most.desc).map (fun d => d.parameters.length) = some 2 by decide +kernel) rfl d_MO_referRange_23 ⟨Nat.le_trans (Nat.le_of_ble_eq_true rfl) hR.1, Nat.le_trans (Nat.le_of_ble_eq_true rfl) hR.2, Nat.zero_le _, Nat.zero_le _⟩ (fun v_ h_ H locs hq hP hS => ?_) (fun C_ a_ h_ H locs hq => absurd hq.1 (fun h9 => by cases h9))
    obtain ⟨ev, eh⟩ := hq
    cases ev
    rw [eh] at hP
    have pf256 : ((Int32.toInt (p_MO_column z2)) ≤ (Int32.toInt (p_MO_most (p_MO_column z2) (p_MO_column z3)))) ∧ ((Int32.toInt (p_MO_column z3)) ≤ (Int32.toInt (p_MO_most (p_MO_column z2) (p_MO_column z3)))) ∧ (((Int32.toInt (p_MO_most (p_MO_column z2) (p_MO_column z3))) = (Int32.toInt (p_MO_column z2)) ∨ (Int32.toInt (p_MO_most (p_MO_column z2) (p_MO_column z3))) = (Int32.toInt (p_MO_column z3)))) := po_MO_most  (p_MO_column z2) (p_MO_column z3) 
    refine W.widen (k := 0) (n := 0) (Nat.le_of_ble_eq_true rfl) (Nat.le_of_ble_eq_true rfl) ?_
    refine W.eq (g2 := F0 m 26 ls (.int (p_MO_most (p_MO_column z2) (p_MO_column z3)) :: .int z4 :: [])) rfl ?_
    refine lv_icmp_gt (tgt := 83) hx hb d_MO_referRange_26 (by decide) (fun c_257 => ?_) (fun c_257 => ?_)
    · have e_ : p_MO_referRange_L13 (n + 1) z1 z2 z3 z4 M1 = (z4, M1) := by rw [p_MO_referRange_L13, if_pos c_257]
      exact kk _ _ _ _ _ _ e_ (⟨(by   have k0 := c_257; (try simp only [Int32.lt_iff_toInt_lt, Int32.le_iff_toInt_le, ← Int32.toInt_inj, i32_0, i32_1, i32_2, i32_3, i32_4, i32_5, i32_6, i32_7, i32_8, i32_9, i32_10, i32_11, i32_12, i32_16, i32_24, i32_39, i32_40, i32_41, i32_43, i32_44, i32_48, i32_49, i32_57, i32_64, i32_80, i32_81, i32_100, i32_101, i32_121, i32_127, i32_128, i32_256, i32_384, i32_400, i32_512, i32_3199, i32_3200, i32_3239, i32_3240, i32_m1] at k0);  show 0 ≤ (Int32.toInt z4); omega), (by   have k0 := c_257; (try simp only [Int32.lt_iff_toInt_lt, Int32.le_iff_toInt_le, ← Int32.toInt_inj, i32_0, i32_1, i32_2, i32_3, i32_4, i32_5, i32_6, i32_7, i32_8, i32_9, i32_10, i32_11, i32_12, i32_16, i32_24, i32_39, i32_40, i32_41, i32_43, i32_44, i32_48, i32_49, i32_57, i32_64, i32_80, i32_81, i32_100, i32_101, i32_121, i32_127, i32_128, i32_256, i32_384, i32_400, i32_512, i32_3199, i32_3200, i32_3239, i32_3240, i32_m1] at k0);  show (Int32.toInt z4) ≤ 8; omega), (by   have k0 := c_257; (try simp only [Int32.lt_iff_toInt_lt, Int32.le_iff_toInt_le, ← Int32.toInt_inj, i32_0, i32_1, i32_2, i32_3, i32_4, i32_5, i32_6, i32_7, i32_8, i32_9, i32_10, i32_11, i32_12, i32_16, i32_24, i32_39, i32_40, i32_41, i32_43, i32_44, i32_48, i32_49, i32_57, i32_64, i32_80, i32_81, i32_100, i32_101, i32_121, i32_127, i32_128, i32_256, i32_384, i32_400, i32_512, i32_3199, i32_3200, i32_3239, i32_3240, i32_m1] at k0);  show 0 ≤ (Int32.toInt z1); omega), (by   have k0 := c_257; (try simp only [Int32.lt_iff_toInt_lt, Int32.le_iff_toInt_le, ← Int32.toInt_inj, i32_0, i32_1, i32_2, i32_3, i32_4, i32_5, i32_6, i32_7, i32_8, i32_9, i32_10, i32_11, i32_12, i32_16, i32_24, i32_39, i32_40, i32_41, i32_43, i32_44, i32_48, i32_49, i32_57, i32_64, i32_80, i32_81, i32_100, i32_101, i32_121, i32_127, i32_128, i32_256, i32_384, i32_400, i32_512, i32_3199, i32_3200, i32_3239, i32_3240, i32_m1] at k0);  show (Int32.toInt z1) < 80; omega)⟩) hP hS hM hf (lv_sub hl [0, 1, 2, 3, 4] rfl)
    · refine lv_iload_n hx hb d_MO_referRange_29 rfl (lv_at hl 2 rfl) ?_
      refine fs_cS B hl.1 hP hS (k_MO_row hSt z2 ) (fs_tb_at 1675 tw_1675 rfl) (fs_tb_at 1676 tw_1676 rfl) (fs_tb_at 96 tw_96 rfl) (fs_tb_at 1677 tw_1677 rfl) (by decide) (show (parseMethodDescriptor y_MO_row.desc).map (fun d => d.parameters.length) = some 1 by decide +kernel) rfl d_MO_referRange_30 ⟨Nat.le_trans (Nat.le_of_ble_eq_true rfl) hR.1, Nat.le_trans (Nat.le_of_ble_eq_true rfl) hR.2, Nat.zero_le _, Nat.zero_le _⟩ (fun v_ h_ H locs hq hP hS => ?_) (fun C_ a_ h_ H locs hq => absurd hq.1 (fun h9 => by cases h9))
      obtain ⟨ev, eh⟩ := hq
      cases ev
      rw [eh] at hP
      have pf258 : (0 ≤ (Int32.toInt (p_MO_row z2))) ∧ ((Int32.toInt (p_MO_row z2)) ≤ 15) := po_MO_row  z2 
      refine W.widen (k := 0) (n := 0) (Nat.le_of_ble_eq_true rfl) (Nat.le_of_ble_eq_true rfl) ?_
      refine W.eq (g2 := F0 m 33 ls (.int (p_MO_row z2) :: [])) rfl ?_
      refine lv_iload_n hx hb d_MO_referRange_33 rfl (lv_at hl 3 rfl) ?_
      refine fs_cS B hl.1 hP hS (k_MO_row hSt z3 ) (fs_tb_at 1675 tw_1675 rfl) (fs_tb_at 1676 tw_1676 rfl) (fs_tb_at 96 tw_96 rfl) (fs_tb_at 1677 tw_1677 rfl) (by decide) (show (parseMethodDescriptor y_MO_row.desc).map (fun d => d.parameters.length) = some 1 by decide +kernel) rfl d_MO_referRange_34 ⟨Nat.le_trans (Nat.le_of_ble_eq_true rfl) hR.1, Nat.le_trans (Nat.le_of_ble_eq_true rfl) hR.2, Nat.zero_le _, Nat.zero_le _⟩ (fun v_ h_ H locs hq hP hS => ?_) (fun C_ a_ h_ H locs hq => absurd hq.1 (fun h9 => by cases h9))
      obtain ⟨ev, eh⟩ := hq
      cases ev
      rw [eh] at hP
      have pf259 : (0 ≤ (Int32.toInt (p_MO_row z3))) ∧ ((Int32.toInt (p_MO_row z3)) ≤ 15) := po_MO_row  z3 
      refine W.widen (k := 0) (n := 0) (Nat.le_of_ble_eq_true rfl) (Nat.le_of_ble_eq_true rfl) ?_
      refine W.eq (g2 := F0 m 37 ls (.int (p_MO_row z3) :: .int (p_MO_row z2) :: [])) rfl ?_
      refine fs_cS B hl.1 hP hS (k_MO_least hSt (p_MO_row z2) (p_MO_row z3) ) (fs_tb_at 1689 tw_1689 rfl) (fs_tb_at 1690 tw_1690 rfl) (fs_tb_at 96 tw_96 rfl) (fs_tb_at 1691 tw_1691 rfl) (by decide) (show (parseMethodDescriptor y_MO_least.desc).map (fun d => d.parameters.length) = some 2 by decide +kernel) rfl d_MO_referRange_37 ⟨Nat.le_trans (Nat.le_of_ble_eq_true rfl) hR.1, Nat.le_trans (Nat.le_of_ble_eq_true rfl) hR.2, Nat.zero_le _, Nat.zero_le _⟩ (fun v_ h_ H locs hq hP hS => ?_) (fun C_ a_ h_ H locs hq => absurd hq.1 (fun h9 => by cases h9))
      obtain ⟨ev, eh⟩ := hq
      cases ev
      rw [eh] at hP
      have pf260 : ((Int32.toInt (p_MO_least (p_MO_row z2) (p_MO_row z3))) ≤ (Int32.toInt (p_MO_row z2))) ∧ ((Int32.toInt (p_MO_least (p_MO_row z2) (p_MO_row z3))) ≤ (Int32.toInt (p_MO_row z3))) ∧ (((Int32.toInt (p_MO_least (p_MO_row z2) (p_MO_row z3))) = (Int32.toInt (p_MO_row z2)) ∨ (Int32.toInt (p_MO_least (p_MO_row z2) (p_MO_row z3))) = (Int32.toInt (p_MO_row z3)))) := po_MO_least  (p_MO_row z2) (p_MO_row z3) 
      refine W.widen (k := 0) (n := 0) (Nat.le_of_ble_eq_true rfl) (Nat.le_of_ble_eq_true rfl) ?_
      refine W.eq (g2 := F0 m 40 ls (.int (p_MO_least (p_MO_row z2) (p_MO_row z3)) :: [])) rfl ?_
      refine lv_istore (lv' := [(5, .int (p_MO_least (p_MO_row z2) (p_MO_row z3))), (0, .ref a), (1, .int z1), (2, .int z2), (3, .int z3), (4, .int z4)]) hx hb d_MO_referRange_40 hl (by decide) rfl (fun ls hl => ?_)
      refine l_MO_referRange_42 hSt B ⟨Nat.le_trans (Nat.le_of_ble_eq_true rfl) hR.1, Nat.le_trans (Nat.le_of_ble_eq_true rfl) hR.2⟩ (17) z1 z2 z3 z4 (p_MO_least (p_MO_row z2) (p_MO_row z3)) M1 _ _ _ _ (by   have k0 := c_257; (try simp only [Int32.lt_iff_toInt_lt, Int32.le_iff_toInt_le, ← Int32.toInt_inj, i32_0, i32_1, i32_2, i32_3, i32_4, i32_5, i32_6, i32_7, i32_8, i32_9, i32_10, i32_11, i32_12, i32_16, i32_24, i32_39, i32_40, i32_41, i32_43, i32_44, i32_48, i32_49, i32_57, i32_64, i32_80, i32_81, i32_100, i32_101, i32_121, i32_127, i32_128, i32_256, i32_384, i32_400, i32_512, i32_3199, i32_3200, i32_3239, i32_3240, i32_m1] at k0);  show (16 - (Int32.toInt (p_MO_least (p_MO_row z2) (p_MO_row z3)))).toNat < 17; omega) (⟨(by   have k0 := c_257; (try simp only [Int32.lt_iff_toInt_lt, Int32.le_iff_toInt_le, ← Int32.toInt_inj, i32_0, i32_1, i32_2, i32_3, i32_4, i32_5, i32_6, i32_7, i32_8, i32_9, i32_10, i32_11, i32_12, i32_16, i32_24, i32_39, i32_40, i32_41, i32_43, i32_44, i32_48, i32_49, i32_57, i32_64, i32_80, i32_81, i32_100, i32_101, i32_121, i32_127, i32_128, i32_256, i32_384, i32_400, i32_512, i32_3199, i32_3200, i32_3239, i32_3240, i32_m1] at k0);  show 0 ≤ (Int32.toInt (p_MO_least (p_MO_row z2) (p_MO_row z3))); omega), (by   have k0 := c_257; (try simp only [Int32.lt_iff_toInt_lt, Int32.le_iff_toInt_le, ← Int32.toInt_inj, i32_0, i32_1, i32_2, i32_3, i32_4, i32_5, i32_6, i32_7, i32_8, i32_9, i32_10, i32_11, i32_12, i32_16, i32_24, i32_39, i32_40, i32_41, i32_43, i32_44, i32_48, i32_49, i32_57, i32_64, i32_80, i32_81, i32_100, i32_101, i32_121, i32_127, i32_128, i32_256, i32_384, i32_400, i32_512, i32_3199, i32_3200, i32_3239, i32_3240, i32_m1] at k0);  show (Int32.toInt (p_MO_least (p_MO_row z2) (p_MO_row z3))) ≤ 16; omega), (by   have k0 := c_257; (try simp only [Int32.lt_iff_toInt_lt, Int32.le_iff_toInt_le, ← Int32.toInt_inj, i32_0, i32_1, i32_2, i32_3, i32_4, i32_5, i32_6, i32_7, i32_8, i32_9, i32_10, i32_11, i32_12, i32_16, i32_24, i32_39, i32_40, i32_41, i32_43, i32_44, i32_48, i32_49, i32_57, i32_64, i32_80, i32_81, i32_100, i32_101, i32_121, i32_127, i32_128, i32_256, i32_384, i32_400, i32_512, i32_3199, i32_3200, i32_3239, i32_3240, i32_m1] at k0);  show 0 ≤ (Int32.toInt z4); omega), (by   have k0 := c_257; (try simp only [Int32.lt_iff_toInt_lt, Int32.le_iff_toInt_le, ← Int32.toInt_inj, i32_0, i32_1, i32_2, i32_3, i32_4, i32_5, i32_6, i32_7, i32_8, i32_9, i32_10, i32_11, i32_12, i32_16, i32_24, i32_39, i32_40, i32_41, i32_43, i32_44, i32_48, i32_49, i32_57, i32_64, i32_80, i32_81, i32_100, i32_101, i32_121, i32_127, i32_128, i32_256, i32_384, i32_400, i32_512, i32_3199, i32_3200, i32_3239, i32_3240, i32_m1] at k0);  show (Int32.toInt z4) ≤ 7; omega), (by   have k0 := c_257; (try simp only [Int32.lt_iff_toInt_lt, Int32.le_iff_toInt_le, ← Int32.toInt_inj, i32_0, i32_1, i32_2, i32_3, i32_4, i32_5, i32_6, i32_7, i32_8, i32_9, i32_10, i32_11, i32_12, i32_16, i32_24, i32_39, i32_40, i32_41, i32_43, i32_44, i32_48, i32_49, i32_57, i32_64, i32_80, i32_81, i32_100, i32_101, i32_121, i32_127, i32_128, i32_256, i32_384, i32_400, i32_512, i32_3199, i32_3200, i32_3239, i32_3240, i32_m1] at k0);  show 0 ≤ (Int32.toInt z1); omega), (by   have k0 := c_257; (try simp only [Int32.lt_iff_toInt_lt, Int32.le_iff_toInt_le, ← Int32.toInt_inj, i32_0, i32_1, i32_2, i32_3, i32_4, i32_5, i32_6, i32_7, i32_8, i32_9, i32_10, i32_11, i32_12, i32_16, i32_24, i32_39, i32_40, i32_41, i32_43, i32_44, i32_48, i32_49, i32_57, i32_64, i32_80, i32_81, i32_100, i32_101, i32_121, i32_127, i32_128, i32_256, i32_384, i32_400, i32_512, i32_3199, i32_3200, i32_3239, i32_3240, i32_m1] at k0);  show (Int32.toInt z1) < 80; omega)⟩) hP hS hM hf (lv_sub hl [1, 2, 3, 4, 5, 0] rfl) (fun y267 M268 h_ H locs ls he_269 hI hP hS hM hf hl => ?_)
      refine lv_iinc (v := z4 + 1) (lv' := [(4, .int (z4 + 1)), (0, .ref a), (1, .int z1), (2, .int z2), (3, .int z3), (5, .int y267)]) hx hb d_MO_referRange_77 hl (k := 4) rfl rfl (by decide) rfl (fun ls hl => ?_)
      refine lv_goto (tgt := 13) hx hb d_MO_referRange_80 (by decide) ?_
      have e_ : p_MO_referRange_L13 (n + 1) z1 z2 z3 z4 M1 = p_MO_referRange_L13 n z1 z2 z3 (z4 + 1) M268 := by rw [p_MO_referRange_L13, if_neg c_257, he_269]
      exact ih z1 z2 z3 (z4 + 1) M268 _ _ _ _ (by   have k0 := c_257; (try simp only [Int32.lt_iff_toInt_lt, Int32.le_iff_toInt_le, ← Int32.toInt_inj, i32_0, i32_1, i32_2, i32_3, i32_4, i32_5, i32_6, i32_7, i32_8, i32_9, i32_10, i32_11, i32_12, i32_16, i32_24, i32_39, i32_40, i32_41, i32_43, i32_44, i32_48, i32_49, i32_57, i32_64, i32_80, i32_81, i32_100, i32_101, i32_121, i32_127, i32_128, i32_256, i32_384, i32_400, i32_512, i32_3199, i32_3200, i32_3239, i32_3240, i32_m1] at k0); have tt1 : Int32.toInt (z4 + 1) = (Int32.toInt z4) + 1 := (by rw [i32_add (by rw [i32_1]; omega), i32_1]); show (8 - (Int32.toInt (z4 + 1))).toNat < n; omega) (⟨(by   have k0 := c_257; (try simp only [Int32.lt_iff_toInt_lt, Int32.le_iff_toInt_le, ← Int32.toInt_inj, i32_0, i32_1, i32_2, i32_3, i32_4, i32_5, i32_6, i32_7, i32_8, i32_9, i32_10, i32_11, i32_12, i32_16, i32_24, i32_39, i32_40, i32_41, i32_43, i32_44, i32_48, i32_49, i32_57, i32_64, i32_80, i32_81, i32_100, i32_101, i32_121, i32_127, i32_128, i32_256, i32_384, i32_400, i32_512, i32_3199, i32_3200, i32_3239, i32_3240, i32_m1] at k0); have tt1 : Int32.toInt (z4 + 1) = (Int32.toInt z4) + 1 := (by rw [i32_add (by rw [i32_1]; omega), i32_1]); show 0 ≤ (Int32.toInt (z4 + 1)); omega), (by   have k0 := c_257; (try simp only [Int32.lt_iff_toInt_lt, Int32.le_iff_toInt_le, ← Int32.toInt_inj, i32_0, i32_1, i32_2, i32_3, i32_4, i32_5, i32_6, i32_7, i32_8, i32_9, i32_10, i32_11, i32_12, i32_16, i32_24, i32_39, i32_40, i32_41, i32_43, i32_44, i32_48, i32_49, i32_57, i32_64, i32_80, i32_81, i32_100, i32_101, i32_121, i32_127, i32_128, i32_256, i32_384, i32_400, i32_512, i32_3199, i32_3200, i32_3239, i32_3240, i32_m1] at k0); have tt1 : Int32.toInt (z4 + 1) = (Int32.toInt z4) + 1 := (by rw [i32_add (by rw [i32_1]; omega), i32_1]); show (Int32.toInt (z4 + 1)) ≤ 8; omega), (by   have k0 := c_257; (try simp only [Int32.lt_iff_toInt_lt, Int32.le_iff_toInt_le, ← Int32.toInt_inj, i32_0, i32_1, i32_2, i32_3, i32_4, i32_5, i32_6, i32_7, i32_8, i32_9, i32_10, i32_11, i32_12, i32_16, i32_24, i32_39, i32_40, i32_41, i32_43, i32_44, i32_48, i32_49, i32_57, i32_64, i32_80, i32_81, i32_100, i32_101, i32_121, i32_127, i32_128, i32_256, i32_384, i32_400, i32_512, i32_3199, i32_3200, i32_3239, i32_3240, i32_m1] at k0);  show 0 ≤ (Int32.toInt z1); omega), (by   have k0 := c_257; (try simp only [Int32.lt_iff_toInt_lt, Int32.le_iff_toInt_le, ← Int32.toInt_inj, i32_0, i32_1, i32_2, i32_3, i32_4, i32_5, i32_6, i32_7, i32_8, i32_9, i32_10, i32_11, i32_12, i32_16, i32_24, i32_39, i32_40, i32_41, i32_43, i32_44, i32_48, i32_49, i32_57, i32_64, i32_80, i32_81, i32_100, i32_101, i32_121, i32_127, i32_128, i32_256, i32_384, i32_400, i32_512, i32_3199, i32_3200, i32_3239, i32_3240, i32_m1] at k0);  show (Int32.toInt z1) < 80; omega)⟩) hP hS hM hf (lv_sub hl [1, 2, 3, 4, 0] rfl) (fun y0_ M_ h_ H locs ls h9 => kk y0_ M_ h_ H locs ls (e_.trans h9))
set_option maxHeartbeats 4000000 in
set_option maxRecDepth 100000 in
theorem k_MO_referRange {l : Launch} {s00 : State} {G : fs_G} (hSt : fs_St l s00 G) {h : fs_Hp} {a : Nat} {ad : Nat → Nat} {M : mo_S} (hM : mo_at G h a ad M) (x1 : Int32) (x2 : Int32) (x3 : Int32) (b1 : 0 ≤ (Int32.toInt x1)) (b2 : (Int32.toInt x1) < 80)  : fs_Ct l s00 G y_MO_referRange (.code y_MO_referRange b_MO_referRange 6 none) { frames := 1, cells := 0, slots := 0, locals := 14 } [.ref a, .int x1, .int x2, .int x3] h (fun o h' => o = .inl none ∧ mo_at G h' a ad (p_MO_referRange M x1 x2 x3) ∧ mo_fr a ad h h') := by
  refine fs_Ct.ofW hSt (by decide) ?_
  intro p e s m below meth c B hout hP
  obtain ⟨hx, hb, hr, hml, hown, hts, hlocks, hname, hK, hw, htr⟩ := id B
  have hown : s.vm.findClass "FormulaSheetModel" = some m.cls := hown
  have hS := hw.S
  have hA : ∀ q : Nat, s00.heap.size ≤ q → fs_A s00 q := fun _ h9 => h9
  generalize hH : s.heap = H at hP hS ⊢
  have hH0 : s.heap.size ≤ H.size := by rw [hH]; exact Nat.le_refl _
  have hl := lv_entry ([.ref a, .int x1, .int x2, .int x3]) (n := 6) (Nat.le_of_ble_eq_true rfl)
  rw [lg_entry_eq]
  generalize (lg_sl ([.ref a, .int x1, .int x2, .int x3]) ++ List.replicate (6 - (lg_sl ([.ref a, .int x1, .int x2, .int x3])).length) Slot.unset).toArray = ls at hl ⊢
  have hl : lv_has ls 6 [(0, .ref a), (1, .int x1), (2, .int x2), (3, .int x3)] := hl
  have hf : mo_fr a ad h h := mo_fr.rf
  refine lv_iload_n hx hb d_MO_referRange_0 rfl (lv_at hl 2 rfl) ?_
  refine fs_cS B hl.1 hP hS (k_MO_column hSt x2 ) (fs_tb_at 1672 tw_1672 rfl) (fs_tb_at 1673 tw_1673 rfl) (fs_tb_at 96 tw_96 rfl) (fs_tb_at 1674 tw_1674 rfl) (by decide) (show (parseMethodDescriptor y_MO_column.desc).map (fun d => d.parameters.length) = some 1 by decide +kernel) rfl d_MO_referRange_1 ⟨Nat.le_of_ble_eq_true rfl, Nat.le_of_ble_eq_true rfl, Nat.le_of_ble_eq_true rfl, Nat.le_of_ble_eq_true rfl⟩ (fun v_ h_ H locs hq hP hS => ?_) (fun C_ a_ h_ H locs hq => absurd hq.1 (fun h9 => by cases h9))
  obtain ⟨ev, eh⟩ := hq
  cases ev
  rw [eh] at hP
  have pf251 : (0 ≤ (Int32.toInt (p_MO_column x2))) ∧ ((Int32.toInt (p_MO_column x2)) ≤ 7) := po_MO_column  x2 
  refine W.widen (k := 0) (n := 0) (Nat.le_of_ble_eq_true rfl) (Nat.le_of_ble_eq_true rfl) ?_
  refine W.eq (g2 := F0 m 4 ls (.int (p_MO_column x2) :: [])) rfl ?_
  refine lv_iload_n hx hb d_MO_referRange_4 rfl (lv_at hl 3 rfl) ?_
  refine fs_cS B hl.1 hP hS (k_MO_column hSt x3 ) (fs_tb_at 1672 tw_1672 rfl) (fs_tb_at 1673 tw_1673 rfl) (fs_tb_at 96 tw_96 rfl) (fs_tb_at 1674 tw_1674 rfl) (by decide) (show (parseMethodDescriptor y_MO_column.desc).map (fun d => d.parameters.length) = some 1 by decide +kernel) rfl d_MO_referRange_5 ⟨Nat.le_of_ble_eq_true rfl, Nat.le_of_ble_eq_true rfl, Nat.le_of_ble_eq_true rfl, Nat.le_of_ble_eq_true rfl⟩ (fun v_ h_ H locs hq hP hS => ?_) (fun C_ a_ h_ H locs hq => absurd hq.1 (fun h9 => by cases h9))
  obtain ⟨ev, eh⟩ := hq
  cases ev
  rw [eh] at hP
  have pf252 : (0 ≤ (Int32.toInt (p_MO_column x3))) ∧ ((Int32.toInt (p_MO_column x3)) ≤ 7) := po_MO_column  x3 
  refine W.widen (k := 0) (n := 0) (Nat.le_of_ble_eq_true rfl) (Nat.le_of_ble_eq_true rfl) ?_
  refine W.eq (g2 := F0 m 8 ls (.int (p_MO_column x3) :: .int (p_MO_column x2) :: [])) rfl ?_
  refine fs_cS B hl.1 hP hS (k_MO_least hSt (p_MO_column x2) (p_MO_column x3) ) (fs_tb_at 1689 tw_1689 rfl) (fs_tb_at 1690 tw_1690 rfl) (fs_tb_at 96 tw_96 rfl) (fs_tb_at 1691 tw_1691 rfl) (by decide) (show (parseMethodDescriptor y_MO_least.desc).map (fun d => d.parameters.length) = some 2 by decide +kernel) rfl d_MO_referRange_8 ⟨Nat.le_of_ble_eq_true rfl, Nat.le_of_ble_eq_true rfl, Nat.le_of_ble_eq_true rfl, Nat.le_of_ble_eq_true rfl⟩ (fun v_ h_ H locs hq hP hS => ?_) (fun C_ a_ h_ H locs hq => absurd hq.1 (fun h9 => by cases h9))
  obtain ⟨ev, eh⟩ := hq
  cases ev
  rw [eh] at hP
  have pf253 : ((Int32.toInt (p_MO_least (p_MO_column x2) (p_MO_column x3))) ≤ (Int32.toInt (p_MO_column x2))) ∧ ((Int32.toInt (p_MO_least (p_MO_column x2) (p_MO_column x3))) ≤ (Int32.toInt (p_MO_column x3))) ∧ (((Int32.toInt (p_MO_least (p_MO_column x2) (p_MO_column x3))) = (Int32.toInt (p_MO_column x2)) ∨ (Int32.toInt (p_MO_least (p_MO_column x2) (p_MO_column x3))) = (Int32.toInt (p_MO_column x3)))) := po_MO_least  (p_MO_column x2) (p_MO_column x3) 
  refine W.widen (k := 0) (n := 0) (Nat.le_of_ble_eq_true rfl) (Nat.le_of_ble_eq_true rfl) ?_
  refine W.eq (g2 := F0 m 11 ls (.int (p_MO_least (p_MO_column x2) (p_MO_column x3)) :: [])) rfl ?_
  refine lv_istore (lv' := [(4, .int (p_MO_least (p_MO_column x2) (p_MO_column x3))), (0, .ref a), (1, .int x1), (2, .int x2), (3, .int x3)]) hx hb d_MO_referRange_11 hl (by decide) rfl (fun ls hl => ?_)
  refine l_MO_referRange_13 hSt B (by exact ⟨Nat.le_of_ble_eq_true rfl, Nat.le_of_ble_eq_true rfl⟩) (9) x1 x2 x3 (p_MO_least (p_MO_column x2) (p_MO_column x3)) M _ _ _ _ (by     show (8 - (Int32.toInt (p_MO_least (p_MO_column x2) (p_MO_column x3)))).toNat < 9; omega) (⟨(by     show 0 ≤ (Int32.toInt (p_MO_least (p_MO_column x2) (p_MO_column x3))); omega), (by     show (Int32.toInt (p_MO_least (p_MO_column x2) (p_MO_column x3))) ≤ 8; omega), (by     show 0 ≤ (Int32.toInt x1); omega), (by     show (Int32.toInt x1) < 80; omega)⟩) hP hS hM hf (lv_sub hl [1, 2, 3, 4, 0] rfl) (fun y270 M271 h_ H locs ls he_272 hI hP hS hM hf hl => ?_)
  have e_ : p_MO_referRange M x1 x2 x3 = M271 := by rw [p_MO_referRange, he_272]
  exact fs_vret hx hb hr hlocks hw hP hS  (by omega) (by omega) (⟨rfl, by rw [e_]; exact hM, hf⟩) d_MO_referRange_83
def p_MO_shiftRange (M : mo_S) (x1 : Int32) (x2 : Int32) (x3 : Int32) : mo_S := (if (p_MO_lost (M.2.1 4 (Int32.toNatClampNeg x1))) = 0 then (if (p_MO_lost (M.2.1 5 (Int32.toNatClampNeg x1))) = 0 then (if (p_MO_row (M.2.1 4 (Int32.toNatClampNeg x1))) ≤ (p_MO_row (M.2.1 5 (Int32.toNatClampNeg x1))) then (if x3 ≤ 0 then (if (p_MO_row (M.2.1 4 (Int32.toNatClampNeg x1))) = (p_MO_row (M.2.1 5 (Int32.toNatClampNeg x1))) then (mo_i (mo_i M 4 (Int32.toNatClampNeg x1) (p_MO_shifted (M.2.1 4 (Int32.toNatClampNeg x1)) x2 x3 0)) 5 (Int32.toNatClampNeg x1) (p_MO_shifted (M.2.1 5 (Int32.toNatClampNeg x1)) x2 x3 0)) else (mo_i (mo_i M 4 (Int32.toNatClampNeg x1) (p_MO_shifted (M.2.1 4 (Int32.toNatClampNeg x1)) x2 x3 1)) 5 (Int32.toNatClampNeg x1) (p_MO_shifted (M.2.1 5 (Int32.toNatClampNeg x1)) x2 x3 2))) else (mo_i (mo_i M 4 (Int32.toNatClampNeg x1) (p_MO_shifted (M.2.1 4 (Int32.toNatClampNeg x1)) x2 x3 0)) 5 (Int32.toNatClampNeg x1) (p_MO_shifted (M.2.1 5 (Int32.toNatClampNeg x1)) x2 x3 1))) else (if x3 ≤ 0 then (if (p_MO_row (M.2.1 4 (Int32.toNatClampNeg x1))) = (p_MO_row (M.2.1 5 (Int32.toNatClampNeg x1))) then (mo_i (mo_i M 4 (Int32.toNatClampNeg x1) (p_MO_shifted (M.2.1 4 (Int32.toNatClampNeg x1)) x2 x3 0)) 5 (Int32.toNatClampNeg x1) (p_MO_shifted (M.2.1 5 (Int32.toNatClampNeg x1)) x2 x3 0)) else (mo_i (mo_i M 4 (Int32.toNatClampNeg x1) (p_MO_shifted (M.2.1 4 (Int32.toNatClampNeg x1)) x2 x3 2)) 5 (Int32.toNatClampNeg x1) (p_MO_shifted (M.2.1 5 (Int32.toNatClampNeg x1)) x2 x3 1))) else (mo_i (mo_i M 4 (Int32.toNatClampNeg x1) (p_MO_shifted (M.2.1 4 (Int32.toNatClampNeg x1)) x2 x3 1)) 5 (Int32.toNatClampNeg x1) (p_MO_shifted (M.2.1 5 (Int32.toNatClampNeg x1)) x2 x3 0)))) else (mo_i (mo_i M 4 (Int32.toNatClampNeg x1) (p_MO_shifted (M.2.1 4 (Int32.toNatClampNeg x1)) x2 x3 0)) 5 (Int32.toNatClampNeg x1) (p_MO_shifted (M.2.1 5 (Int32.toNatClampNeg x1)) x2 x3 0))) else (mo_i (mo_i M 4 (Int32.toNatClampNeg x1) (p_MO_shifted (M.2.1 4 (Int32.toNatClampNeg x1)) x2 x3 0)) 5 (Int32.toNatClampNeg x1) (p_MO_shifted (M.2.1 5 (Int32.toNatClampNeg x1)) x2 x3 0)))
set_option maxHeartbeats 4000000 in
set_option maxRecDepth 100000 in
theorem k_MO_shiftRange {l : Launch} {s00 : State} {G : fs_G} (hSt : fs_St l s00 G) {h : fs_Hp} {a : Nat} {ad : Nat → Nat} {M : mo_S} (hM : mo_at G h a ad M) (x1 : Int32) (x2 : Int32) (x3 : Int32) (b1 : 0 ≤ (Int32.toInt x1)) (b2 : (Int32.toInt x1) < 3240)  : fs_Ct l s00 G y_MO_shiftRange (.code y_MO_shiftRange b_MO_shiftRange 7 none) { frames := 2, cells := 0, slots := 0, locals := 31 } [.ref a, .int x1, .int x2, .int x3] h (fun o h' => o = .inl none ∧ mo_at G h' a ad (p_MO_shiftRange M x1 x2 x3) ∧ mo_fr a ad h h') := by
  refine fs_Ct.ofW hSt (by decide) ?_
  intro p e s m below meth c B hout hP
  obtain ⟨hx, hb, hr, hml, hown, hts, hlocks, hname, hK, hw, htr⟩ := id B
  have hown : s.vm.findClass "FormulaSheetModel" = some m.cls := hown
  have hS := hw.S
  have hA : ∀ q : Nat, s00.heap.size ≤ q → fs_A s00 q := fun _ h9 => h9
  generalize hH : s.heap = H at hP hS ⊢
  have hH0 : s.heap.size ≤ H.size := by rw [hH]; exact Nat.le_refl _
  have hl := lv_entry ([.ref a, .int x1, .int x2, .int x3]) (n := 7) (Nat.le_of_ble_eq_true rfl)
  rw [lg_entry_eq]
  generalize (lg_sl ([.ref a, .int x1, .int x2, .int x3]) ++ List.replicate (7 - (lg_sl ([.ref a, .int x1, .int x2, .int x3])).length) Slot.unset).toArray = ls at hl ⊢
  have hl : lv_has ls 7 [(0, .ref a), (1, .int x1), (2, .int x2), (3, .int x3)] := hl
  have hf : mo_fr a ad h h := mo_fr.rf
  refine lv_aload_n hx hb d_MO_shiftRange_0 rfl (lv_at hl 0 rfl) ?_
  refine fs_get (v := .ref (ad 4)) hx hb hts hown hK c_MO hP hM.1 4 (by decide) (hts _ (fs_tb_at 1460 tw_1460 rfl)) (fun _ h9 => h9) rfl d_MO_shiftRange_1 ?_
  refine lv_iload_n hx hb d_MO_shiftRange_4 rfl (lv_at hl 1 rfl) ?_
  have hi_ : vp_in x1 3240 := (by     rw [vp_in_iff]; omega)
  refine fs_iald (f := M.2.1 4) hx hb hK hP 0 (hM.2.1 4 0 3240 rfl) rfl hi_ d_MO_shiftRange_5 ?_
  refine lv_istore (lv' := [(4, .int (M.2.1 4 (Int32.toNatClampNeg x1))), (0, .ref a), (1, .int x1), (2, .int x2), (3, .int x3)]) hx hb d_MO_shiftRange_6 hl (by decide) rfl (fun ls hl => ?_)
  refine lv_aload_n hx hb d_MO_shiftRange_8 rfl (lv_at hl 1 rfl) ?_
  refine fs_get (v := .ref (ad 5)) hx hb hts hown hK c_MO hP hM.1 5 (by decide) (hts _ (fs_tb_at 1461 tw_1461 rfl)) (fun _ h9 => h9) rfl d_MO_shiftRange_9 ?_
  refine lv_iload_n hx hb d_MO_shiftRange_12 rfl (lv_at hl 2 rfl) ?_
  have hi_ : vp_in x1 3240 := (by     rw [vp_in_iff]; omega)
  refine fs_iald (f := M.2.1 5) hx hb hK hP 0 (hM.2.1 5 0 3240 rfl) rfl hi_ d_MO_shiftRange_13 ?_
  refine lv_istore (lv' := [(5, .int (M.2.1 5 (Int32.toNatClampNeg x1))), (4, .int (M.2.1 4 (Int32.toNatClampNeg x1))), (0, .ref a), (1, .int x1), (2, .int x2), (3, .int x3)]) hx hb d_MO_shiftRange_14 hl (by decide) rfl (fun ls hl => ?_)
  refine lv_iload hx hb d_MO_shiftRange_16 (lv_at hl 1 rfl) ?_
  refine fs_cS B hl.1 hP hS (k_MO_lost hSt (M.2.1 4 (Int32.toNatClampNeg x1)) ) (fs_tb_at 1669 tw_1669 rfl) (fs_tb_at 1670 tw_1670 rfl) (fs_tb_at 96 tw_96 rfl) (fs_tb_at 1671 tw_1671 rfl) (by decide) (show (parseMethodDescriptor y_MO_lost.desc).map (fun d => d.parameters.length) = some 1 by decide +kernel) rfl d_MO_shiftRange_18 ⟨Nat.le_of_ble_eq_true rfl, Nat.le_of_ble_eq_true rfl, Nat.le_of_ble_eq_true rfl, Nat.le_of_ble_eq_true rfl⟩ (fun v_ h_ H locs hq hP hS => ?_) (fun C_ a_ h_ H locs hq => absurd hq.1 (fun h9 => by cases h9))
  obtain ⟨ev, eh⟩ := hq
  cases ev
  rw [eh] at hP
  refine W.widen (k := 0) (n := 0) (Nat.le_of_ble_eq_true rfl) (Nat.le_of_ble_eq_true rfl) ?_
  refine W.eq (g2 := F0 m 21 ls (.int (p_MO_lost (M.2.1 4 (Int32.toNatClampNeg x1))) :: [])) rfl ?_
  refine lv_if_ne (tgt := 32) hx hb d_MO_shiftRange_21 (by decide) (fun c_273 => ?_) (fun c_273 => ?_)
  · refine lv_aload_n hx hb d_MO_shiftRange_32 rfl (lv_at hl 2 rfl) ?_
    refine fs_get (v := .ref (ad 4)) hx hb hts hown hK c_MO hP hM.1 4 (by decide) (hts _ (fs_tb_at 1460 tw_1460 rfl)) (fun _ h9 => h9) rfl d_MO_shiftRange_33 ?_
    refine lv_iload_n hx hb d_MO_shiftRange_36 rfl (lv_at hl 3 rfl) ?_
    refine lv_iload hx hb d_MO_shiftRange_37 (lv_at hl 1 rfl) ?_
    refine lv_iload_n hx hb d_MO_shiftRange_39 rfl (lv_at hl 4 rfl) ?_
    refine lv_iload_n hx hb d_MO_shiftRange_40 rfl (lv_at hl 5 rfl) ?_
    refine lv_iconst (v := 0) hx hb d_MO_shiftRange_41 (by decide) ?_
    refine fs_cS B hl.1 hP hS (k_MO_shifted hSt (M.2.1 4 (Int32.toNatClampNeg x1)) x2 x3 0 ) (fs_tb_at 1774 tw_1774 rfl) (fs_tb_at 1775 tw_1775 rfl) (fs_tb_at 96 tw_96 rfl) (fs_tb_at 1776 tw_1776 rfl) (by decide) (show (parseMethodDescriptor y_MO_shifted.desc).map (fun d => d.parameters.length) = some 4 by decide +kernel) rfl d_MO_shiftRange_42 ⟨Nat.le_of_ble_eq_true rfl, Nat.le_of_ble_eq_true rfl, Nat.le_of_ble_eq_true rfl, Nat.le_of_ble_eq_true rfl⟩ (fun v_ h_ H locs hq hP hS => ?_) (fun C_ a_ h_ H locs hq => absurd hq.1 (fun h9 => by cases h9))
    obtain ⟨ev, eh⟩ := hq
    cases ev
    rw [eh] at hP
    refine W.widen (k := 0) (n := 0) (Nat.le_of_ble_eq_true rfl) (Nat.le_of_ble_eq_true rfl) ?_
    refine W.eq (g2 := F0 m 45 ls (.int (p_MO_shifted (M.2.1 4 (Int32.toNatClampNeg x1)) x2 x3 0) :: .int x1 :: .ref (ad 4) :: [])) rfl ?_
    have hi_ : vp_in x1 3240 := (by     rw [vp_in_iff]; omega)
    refine fs_iast hx hb hK hP hS 0 (hM.2.1 4 0 3240 rfl) rfl hi_ d_MO_shiftRange_45 (fun H locs hP hS => ?_)
    obtain ⟨h274, hP, hM, hf⟩ : ∃ x, fs_P G.1 fs_cl (fs_A s00) x H ∧ mo_at G x a ad (mo_i M 4 (Int32.toNatClampNeg x1) (p_MO_shifted (M.2.1 4 (Int32.toNatClampNeg x1)) x2 x3 0)) ∧ mo_fr a ad h x := ⟨_, hP, hM.I (j := 4) (k := (Int32.toNatClampNeg x1)) (x := (p_MO_shifted (M.2.1 4 (Int32.toNatClampNeg x1)) x2 x3 0)) rfl (fun _ => rfl), hf.arr (j := 4) (by decide)⟩
    refine lv_aload_n hx hb d_MO_shiftRange_46 rfl (lv_at hl 2 rfl) ?_
    refine fs_get (v := .ref (ad 5)) hx hb hts hown hK c_MO hP hM.1 5 (by decide) (hts _ (fs_tb_at 1461 tw_1461 rfl)) (fun _ h9 => h9) rfl d_MO_shiftRange_47 ?_
    refine lv_iload_n hx hb d_MO_shiftRange_50 rfl (lv_at hl 3 rfl) ?_
    refine lv_iload hx hb d_MO_shiftRange_51 (lv_at hl 0 rfl) ?_
    refine lv_iload_n hx hb d_MO_shiftRange_53 rfl (lv_at hl 4 rfl) ?_
    refine lv_iload_n hx hb d_MO_shiftRange_54 rfl (lv_at hl 5 rfl) ?_
    refine lv_iconst (v := 0) hx hb d_MO_shiftRange_55 (by decide) ?_
    refine fs_cS B hl.1 hP hS (k_MO_shifted hSt (M.2.1 5 (Int32.toNatClampNeg x1)) x2 x3 0 ) (fs_tb_at 1774 tw_1774 rfl) (fs_tb_at 1775 tw_1775 rfl) (fs_tb_at 96 tw_96 rfl) (fs_tb_at 1776 tw_1776 rfl) (by decide) (show (parseMethodDescriptor y_MO_shifted.desc).map (fun d => d.parameters.length) = some 4 by decide +kernel) rfl d_MO_shiftRange_56 ⟨Nat.le_of_ble_eq_true rfl, Nat.le_of_ble_eq_true rfl, Nat.le_of_ble_eq_true rfl, Nat.le_of_ble_eq_true rfl⟩ (fun v_ h_ H locs hq hP hS => ?_) (fun C_ a_ h_ H locs hq => absurd hq.1 (fun h9 => by cases h9))
    obtain ⟨ev, eh⟩ := hq
    cases ev
    rw [eh] at hP
    refine W.widen (k := 0) (n := 0) (Nat.le_of_ble_eq_true rfl) (Nat.le_of_ble_eq_true rfl) ?_
    refine W.eq (g2 := F0 m 59 ls (.int (p_MO_shifted (M.2.1 5 (Int32.toNatClampNeg x1)) x2 x3 0) :: .int x1 :: .ref (ad 5) :: [])) rfl ?_
    have hi_ : vp_in x1 3240 := (by     rw [vp_in_iff]; omega)
    refine fs_iast hx hb hK hP hS 0 (hM.2.1 5 0 3240 rfl) rfl hi_ d_MO_shiftRange_59 (fun H locs hP hS => ?_)
    obtain ⟨h275, hP, hM, hf⟩ : ∃ x, fs_P G.1 fs_cl (fs_A s00) x H ∧ mo_at G x a ad (mo_i (mo_i M 4 (Int32.toNatClampNeg x1) (p_MO_shifted (M.2.1 4 (Int32.toNatClampNeg x1)) x2 x3 0)) 5 (Int32.toNatClampNeg x1) (p_MO_shifted (M.2.1 5 (Int32.toNatClampNeg x1)) x2 x3 0)) ∧ mo_fr a ad h x := ⟨_, hP, hM.I (j := 5) (k := (Int32.toNatClampNeg x1)) (x := (p_MO_shifted (M.2.1 5 (Int32.toNatClampNeg x1)) x2 x3 0)) rfl (fun _ => rfl), hf.arr (j := 5) (by decide)⟩
    have e_ : p_MO_shiftRange M x1 x2 x3 = (mo_i (mo_i M 4 (Int32.toNatClampNeg x1) (p_MO_shifted (M.2.1 4 (Int32.toNatClampNeg x1)) x2 x3 0)) 5 (Int32.toNatClampNeg x1) (p_MO_shifted (M.2.1 5 (Int32.toNatClampNeg x1)) x2 x3 0)) := by rw [p_MO_shiftRange, if_neg c_273]
    exact fs_vret hx hb hr hlocks hw hP hS  (by omega) (by omega) (⟨rfl, by rw [e_]; exact hM, hf⟩) d_MO_shiftRange_60
  · refine lv_iload hx hb d_MO_shiftRange_24 (lv_at hl 0 rfl) ?_
    refine fs_cS B hl.1 hP hS (k_MO_lost hSt (M.2.1 5 (Int32.toNatClampNeg x1)) ) (fs_tb_at 1669 tw_1669 rfl) (fs_tb_at 1670 tw_1670 rfl) (fs_tb_at 96 tw_96 rfl) (fs_tb_at 1671 tw_1671 rfl) (by decide) (show (parseMethodDescriptor y_MO_lost.desc).map (fun d => d.parameters.length) = some 1 by decide +kernel) rfl d_MO_shiftRange_26 ⟨Nat.le_of_ble_eq_true rfl, Nat.le_of_ble_eq_true rfl, Nat.le_of_ble_eq_true rfl, Nat.le_of_ble_eq_true rfl⟩ (fun v_ h_ H locs hq hP hS => ?_) (fun C_ a_ h_ H locs hq => absurd hq.1 (fun h9 => by cases h9))
    obtain ⟨ev, eh⟩ := hq
    cases ev
    rw [eh] at hP
    refine W.widen (k := 0) (n := 0) (Nat.le_of_ble_eq_true rfl) (Nat.le_of_ble_eq_true rfl) ?_
    refine W.eq (g2 := F0 m 29 ls (.int (p_MO_lost (M.2.1 5 (Int32.toNatClampNeg x1))) :: [])) rfl ?_
    refine lv_if_eq (tgt := 61) hx hb d_MO_shiftRange_29 (by decide) (fun c_276 => ?_) (fun c_276 => ?_)
    · refine lv_iload hx hb d_MO_shiftRange_61 (lv_at hl 1 rfl) ?_
      refine fs_cS B hl.1 hP hS (k_MO_row hSt (M.2.1 4 (Int32.toNatClampNeg x1)) ) (fs_tb_at 1675 tw_1675 rfl) (fs_tb_at 1676 tw_1676 rfl) (fs_tb_at 96 tw_96 rfl) (fs_tb_at 1677 tw_1677 rfl) (by decide) (show (parseMethodDescriptor y_MO_row.desc).map (fun d => d.parameters.length) = some 1 by decide +kernel) rfl d_MO_shiftRange_63 ⟨Nat.le_of_ble_eq_true rfl, Nat.le_of_ble_eq_true rfl, Nat.le_of_ble_eq_true rfl, Nat.le_of_ble_eq_true rfl⟩ (fun v_ h_ H locs hq hP hS => ?_) (fun C_ a_ h_ H locs hq => absurd hq.1 (fun h9 => by cases h9))
      obtain ⟨ev, eh⟩ := hq
      cases ev
      rw [eh] at hP
      have pf277 : (0 ≤ (Int32.toInt (p_MO_row (M.2.1 4 (Int32.toNatClampNeg x1))))) ∧ ((Int32.toInt (p_MO_row (M.2.1 4 (Int32.toNatClampNeg x1)))) ≤ 15) := po_MO_row  (M.2.1 4 (Int32.toNatClampNeg x1)) 
      refine W.widen (k := 0) (n := 0) (Nat.le_of_ble_eq_true rfl) (Nat.le_of_ble_eq_true rfl) ?_
      refine W.eq (g2 := F0 m 66 ls (.int (p_MO_row (M.2.1 4 (Int32.toNatClampNeg x1))) :: [])) rfl ?_
      refine lv_iload hx hb d_MO_shiftRange_66 (lv_at hl 0 rfl) ?_
      refine fs_cS B hl.1 hP hS (k_MO_row hSt (M.2.1 5 (Int32.toNatClampNeg x1)) ) (fs_tb_at 1675 tw_1675 rfl) (fs_tb_at 1676 tw_1676 rfl) (fs_tb_at 96 tw_96 rfl) (fs_tb_at 1677 tw_1677 rfl) (by decide) (show (parseMethodDescriptor y_MO_row.desc).map (fun d => d.parameters.length) = some 1 by decide +kernel) rfl d_MO_shiftRange_68 ⟨Nat.le_of_ble_eq_true rfl, Nat.le_of_ble_eq_true rfl, Nat.le_of_ble_eq_true rfl, Nat.le_of_ble_eq_true rfl⟩ (fun v_ h_ H locs hq hP hS => ?_) (fun C_ a_ h_ H locs hq => absurd hq.1 (fun h9 => by cases h9))
      obtain ⟨ev, eh⟩ := hq
      cases ev
      rw [eh] at hP
      have pf278 : (0 ≤ (Int32.toInt (p_MO_row (M.2.1 5 (Int32.toNatClampNeg x1))))) ∧ ((Int32.toInt (p_MO_row (M.2.1 5 (Int32.toNatClampNeg x1)))) ≤ 15) := po_MO_row  (M.2.1 5 (Int32.toNatClampNeg x1)) 
      refine W.widen (k := 0) (n := 0) (Nat.le_of_ble_eq_true rfl) (Nat.le_of_ble_eq_true rfl) ?_
      refine W.eq (g2 := F0 m 71 ls (.int (p_MO_row (M.2.1 5 (Int32.toNatClampNeg x1))) :: .int (p_MO_row (M.2.1 4 (Int32.toNatClampNeg x1))) :: [])) rfl ?_
      refine lv_icmp_le (tgt := 78) hx hb d_MO_shiftRange_71 (by decide) (fun c_279 => ?_) (fun c_279 => ?_)
      · refine lv_iconst (v := 0) hx hb d_MO_shiftRange_78 (by decide) ?_
        refine lv_istore (lv' := [(6, .int 0), (5, .int (M.2.1 5 (Int32.toNatClampNeg x1))), (4, .int (M.2.1 4 (Int32.toNatClampNeg x1))), (0, .ref a), (1, .int x1), (2, .int x2), (3, .int x3)]) hx hb d_MO_shiftRange_79 hl (by decide) rfl (fun ls hl => ?_)
        refine lv_iload_n hx hb d_MO_shiftRange_81 rfl (lv_at hl 6 rfl) ?_
        refine lv_if_le (tgt := 134) hx hb d_MO_shiftRange_82 (by decide) (fun c_280 => ?_) (fun c_280 => ?_)
        · refine lv_iload hx hb d_MO_shiftRange_134 (lv_at hl 2 rfl) ?_
          refine fs_cS B hl.1 hP hS (k_MO_row hSt (M.2.1 4 (Int32.toNatClampNeg x1)) ) (fs_tb_at 1675 tw_1675 rfl) (fs_tb_at 1676 tw_1676 rfl) (fs_tb_at 96 tw_96 rfl) (fs_tb_at 1677 tw_1677 rfl) (by decide) (show (parseMethodDescriptor y_MO_row.desc).map (fun d => d.parameters.length) = some 1 by decide +kernel) rfl d_MO_shiftRange_136 ⟨Nat.le_of_ble_eq_true rfl, Nat.le_of_ble_eq_true rfl, Nat.le_of_ble_eq_true rfl, Nat.le_of_ble_eq_true rfl⟩ (fun v_ h_ H locs hq hP hS => ?_) (fun C_ a_ h_ H locs hq => absurd hq.1 (fun h9 => by cases h9))
          obtain ⟨ev, eh⟩ := hq
          cases ev
          rw [eh] at hP
          have pf281 : (0 ≤ (Int32.toInt (p_MO_row (M.2.1 4 (Int32.toNatClampNeg x1))))) ∧ ((Int32.toInt (p_MO_row (M.2.1 4 (Int32.toNatClampNeg x1)))) ≤ 15) := po_MO_row  (M.2.1 4 (Int32.toNatClampNeg x1)) 
          refine W.widen (k := 0) (n := 0) (Nat.le_of_ble_eq_true rfl) (Nat.le_of_ble_eq_true rfl) ?_
          refine W.eq (g2 := F0 m 139 ls (.int (p_MO_row (M.2.1 4 (Int32.toNatClampNeg x1))) :: [])) rfl ?_
          refine lv_iload hx hb d_MO_shiftRange_139 (lv_at hl 1 rfl) ?_
          refine fs_cS B hl.1 hP hS (k_MO_row hSt (M.2.1 5 (Int32.toNatClampNeg x1)) ) (fs_tb_at 1675 tw_1675 rfl) (fs_tb_at 1676 tw_1676 rfl) (fs_tb_at 96 tw_96 rfl) (fs_tb_at 1677 tw_1677 rfl) (by decide) (show (parseMethodDescriptor y_MO_row.desc).map (fun d => d.parameters.length) = some 1 by decide +kernel) rfl d_MO_shiftRange_141 ⟨Nat.le_of_ble_eq_true rfl, Nat.le_of_ble_eq_true rfl, Nat.le_of_ble_eq_true rfl, Nat.le_of_ble_eq_true rfl⟩ (fun v_ h_ H locs hq hP hS => ?_) (fun C_ a_ h_ H locs hq => absurd hq.1 (fun h9 => by cases h9))
          obtain ⟨ev, eh⟩ := hq
          cases ev
          rw [eh] at hP
          have pf282 : (0 ≤ (Int32.toInt (p_MO_row (M.2.1 5 (Int32.toNatClampNeg x1))))) ∧ ((Int32.toInt (p_MO_row (M.2.1 5 (Int32.toNatClampNeg x1)))) ≤ 15) := po_MO_row  (M.2.1 5 (Int32.toNatClampNeg x1)) 
          refine W.widen (k := 0) (n := 0) (Nat.le_of_ble_eq_true rfl) (Nat.le_of_ble_eq_true rfl) ?_
          refine W.eq (g2 := F0 m 144 ls (.int (p_MO_row (M.2.1 5 (Int32.toNatClampNeg x1))) :: .int (p_MO_row (M.2.1 4 (Int32.toNatClampNeg x1))) :: [])) rfl ?_
          refine lv_icmp_ne (tgt := 178) hx hb d_MO_shiftRange_144 (by decide) (fun c_283 => ?_) (fun c_283 => ?_)
          · refine lv_aload_n hx hb d_MO_shiftRange_178 rfl (lv_at hl 3 rfl) ?_
            refine fs_get (v := .ref (ad 4)) hx hb hts hown hK c_MO hP hM.1 4 (by decide) (hts _ (fs_tb_at 1460 tw_1460 rfl)) (fun _ h9 => h9) rfl d_MO_shiftRange_179 ?_
            refine lv_iload_n hx hb d_MO_shiftRange_182 rfl (lv_at hl 4 rfl) ?_
            refine lv_iload hx hb d_MO_shiftRange_183 (lv_at hl 2 rfl) ?_
            refine lv_iload_n hx hb d_MO_shiftRange_185 rfl (lv_at hl 5 rfl) ?_
            refine lv_iload_n hx hb d_MO_shiftRange_186 rfl (lv_at hl 6 rfl) ?_
            refine lv_iload hx hb d_MO_shiftRange_187 (lv_at hl 0 rfl) ?_
            refine lv_if_eq (tgt := 196) hx hb d_MO_shiftRange_189 (by decide) (fun c_284 => ?_) (fun c_284 => ?_)
            · refine lv_iconst (v := 1) hx hb d_MO_shiftRange_196 (by decide) ?_
              refine fs_cS B hl.1 hP hS (k_MO_shifted hSt (M.2.1 4 (Int32.toNatClampNeg x1)) x2 x3 1 ) (fs_tb_at 1774 tw_1774 rfl) (fs_tb_at 1775 tw_1775 rfl) (fs_tb_at 96 tw_96 rfl) (fs_tb_at 1776 tw_1776 rfl) (by decide) (show (parseMethodDescriptor y_MO_shifted.desc).map (fun d => d.parameters.length) = some 4 by decide +kernel) rfl d_MO_shiftRange_197 ⟨Nat.le_of_ble_eq_true rfl, Nat.le_of_ble_eq_true rfl, Nat.le_of_ble_eq_true rfl, Nat.le_of_ble_eq_true rfl⟩ (fun v_ h_ H locs hq hP hS => ?_) (fun C_ a_ h_ H locs hq => absurd hq.1 (fun h9 => by cases h9))
              obtain ⟨ev, eh⟩ := hq
              cases ev
              rw [eh] at hP
              refine W.widen (k := 0) (n := 0) (Nat.le_of_ble_eq_true rfl) (Nat.le_of_ble_eq_true rfl) ?_
              refine W.eq (g2 := F0 m 200 ls (.int (p_MO_shifted (M.2.1 4 (Int32.toNatClampNeg x1)) x2 x3 1) :: .int x1 :: .ref (ad 4) :: [])) rfl ?_
              have hi_ : vp_in x1 3240 := (by   have k3 := c_280; (try simp only [Int32.lt_iff_toInt_lt, Int32.le_iff_toInt_le, ← Int32.toInt_inj, i32_0, i32_1, i32_2, i32_3, i32_4, i32_5, i32_6, i32_7, i32_8, i32_9, i32_10, i32_11, i32_12, i32_16, i32_24, i32_39, i32_40, i32_41, i32_43, i32_44, i32_48, i32_49, i32_57, i32_64, i32_80, i32_81, i32_100, i32_101, i32_121, i32_127, i32_128, i32_256, i32_384, i32_400, i32_512, i32_3199, i32_3200, i32_3239, i32_3240, i32_m1] at k3);  rw [vp_in_iff]; omega)
              refine fs_iast hx hb hK hP hS 0 (hM.2.1 4 0 3240 rfl) rfl hi_ d_MO_shiftRange_200 (fun H locs hP hS => ?_)
              obtain ⟨h285, hP, hM, hf⟩ : ∃ x, fs_P G.1 fs_cl (fs_A s00) x H ∧ mo_at G x a ad (mo_i M 4 (Int32.toNatClampNeg x1) (p_MO_shifted (M.2.1 4 (Int32.toNatClampNeg x1)) x2 x3 1)) ∧ mo_fr a ad h x := ⟨_, hP, hM.I (j := 4) (k := (Int32.toNatClampNeg x1)) (x := (p_MO_shifted (M.2.1 4 (Int32.toNatClampNeg x1)) x2 x3 1)) rfl (fun _ => rfl), hf.arr (j := 4) (by decide)⟩
              refine lv_aload_n hx hb d_MO_shiftRange_201 rfl (lv_at hl 3 rfl) ?_
              refine fs_get (v := .ref (ad 5)) hx hb hts hown hK c_MO hP hM.1 5 (by decide) (hts _ (fs_tb_at 1461 tw_1461 rfl)) (fun _ h9 => h9) rfl d_MO_shiftRange_202 ?_
              refine lv_iload_n hx hb d_MO_shiftRange_205 rfl (lv_at hl 4 rfl) ?_
              refine lv_iload hx hb d_MO_shiftRange_206 (lv_at hl 1 rfl) ?_
              refine lv_iload_n hx hb d_MO_shiftRange_208 rfl (lv_at hl 5 rfl) ?_
              refine lv_iload_n hx hb d_MO_shiftRange_209 rfl (lv_at hl 6 rfl) ?_
              refine lv_iload hx hb d_MO_shiftRange_210 (lv_at hl 0 rfl) ?_
              refine lv_if_eq (tgt := 219) hx hb d_MO_shiftRange_212 (by decide) (fun c_286 => ?_) (fun c_286 => ?_)
              · refine lv_iconst (v := 2) hx hb d_MO_shiftRange_219 (by decide) ?_
                refine fs_cS B hl.1 hP hS (k_MO_shifted hSt (M.2.1 5 (Int32.toNatClampNeg x1)) x2 x3 2 ) (fs_tb_at 1774 tw_1774 rfl) (fs_tb_at 1775 tw_1775 rfl) (fs_tb_at 96 tw_96 rfl) (fs_tb_at 1776 tw_1776 rfl) (by decide) (show (parseMethodDescriptor y_MO_shifted.desc).map (fun d => d.parameters.length) = some 4 by decide +kernel) rfl d_MO_shiftRange_220 ⟨Nat.le_of_ble_eq_true rfl, Nat.le_of_ble_eq_true rfl, Nat.le_of_ble_eq_true rfl, Nat.le_of_ble_eq_true rfl⟩ (fun v_ h_ H locs hq hP hS => ?_) (fun C_ a_ h_ H locs hq => absurd hq.1 (fun h9 => by cases h9))
                obtain ⟨ev, eh⟩ := hq
                cases ev
                rw [eh] at hP
                refine W.widen (k := 0) (n := 0) (Nat.le_of_ble_eq_true rfl) (Nat.le_of_ble_eq_true rfl) ?_
                refine W.eq (g2 := F0 m 223 ls (.int (p_MO_shifted (M.2.1 5 (Int32.toNatClampNeg x1)) x2 x3 2) :: .int x1 :: .ref (ad 5) :: [])) rfl ?_
                have hi_ : vp_in x1 3240 := (by   have k3 := c_280; (try simp only [Int32.lt_iff_toInt_lt, Int32.le_iff_toInt_le, ← Int32.toInt_inj, i32_0, i32_1, i32_2, i32_3, i32_4, i32_5, i32_6, i32_7, i32_8, i32_9, i32_10, i32_11, i32_12, i32_16, i32_24, i32_39, i32_40, i32_41, i32_43, i32_44, i32_48, i32_49, i32_57, i32_64, i32_80, i32_81, i32_100, i32_101, i32_121, i32_127, i32_128, i32_256, i32_384, i32_400, i32_512, i32_3199, i32_3200, i32_3239, i32_3240, i32_m1] at k3);  rw [vp_in_iff]; omega)
                refine fs_iast hx hb hK hP hS 0 (hM.2.1 5 0 3240 rfl) rfl hi_ d_MO_shiftRange_223 (fun H locs hP hS => ?_)
                obtain ⟨h287, hP, hM, hf⟩ : ∃ x, fs_P G.1 fs_cl (fs_A s00) x H ∧ mo_at G x a ad (mo_i (mo_i M 4 (Int32.toNatClampNeg x1) (p_MO_shifted (M.2.1 4 (Int32.toNatClampNeg x1)) x2 x3 1)) 5 (Int32.toNatClampNeg x1) (p_MO_shifted (M.2.1 5 (Int32.toNatClampNeg x1)) x2 x3 2)) ∧ mo_fr a ad h x := ⟨_, hP, hM.I (j := 5) (k := (Int32.toNatClampNeg x1)) (x := (p_MO_shifted (M.2.1 5 (Int32.toNatClampNeg x1)) x2 x3 2)) rfl (fun _ => rfl), hf.arr (j := 5) (by decide)⟩
                have e_ : p_MO_shiftRange M x1 x2 x3 = (mo_i (mo_i M 4 (Int32.toNatClampNeg x1) (p_MO_shifted (M.2.1 4 (Int32.toNatClampNeg x1)) x2 x3 1)) 5 (Int32.toNatClampNeg x1) (p_MO_shifted (M.2.1 5 (Int32.toNatClampNeg x1)) x2 x3 2)) := by rw [p_MO_shiftRange, if_pos c_273, if_pos c_276, if_pos c_279, if_pos c_280, if_neg c_283]
                exact fs_vret hx hb hr hlocks hw hP hS  (by omega) (by omega) (⟨rfl, by rw [e_]; exact hM, hf⟩) d_MO_shiftRange_224
              · exact absurd c_286 (by decide)
            · exact absurd c_284 (by decide)
          · refine lv_aload_n hx hb d_MO_shiftRange_147 rfl (lv_at hl 3 rfl) ?_
            refine fs_get (v := .ref (ad 4)) hx hb hts hown hK c_MO hP hM.1 4 (by decide) (hts _ (fs_tb_at 1460 tw_1460 rfl)) (fun _ h9 => h9) rfl d_MO_shiftRange_148 ?_
            refine lv_iload_n hx hb d_MO_shiftRange_151 rfl (lv_at hl 4 rfl) ?_
            refine lv_iload hx hb d_MO_shiftRange_152 (lv_at hl 2 rfl) ?_
            refine lv_iload_n hx hb d_MO_shiftRange_154 rfl (lv_at hl 5 rfl) ?_
            refine lv_iload_n hx hb d_MO_shiftRange_155 rfl (lv_at hl 6 rfl) ?_
            refine lv_iconst (v := 0) hx hb d_MO_shiftRange_156 (by decide) ?_
            refine fs_cS B hl.1 hP hS (k_MO_shifted hSt (M.2.1 4 (Int32.toNatClampNeg x1)) x2 x3 0 ) (fs_tb_at 1774 tw_1774 rfl) (fs_tb_at 1775 tw_1775 rfl) (fs_tb_at 96 tw_96 rfl) (fs_tb_at 1776 tw_1776 rfl) (by decide) (show (parseMethodDescriptor y_MO_shifted.desc).map (fun d => d.parameters.length) = some 4 by decide +kernel) rfl d_MO_shiftRange_157 ⟨Nat.le_of_ble_eq_true rfl, Nat.le_of_ble_eq_true rfl, Nat.le_of_ble_eq_true rfl, Nat.le_of_ble_eq_true rfl⟩ (fun v_ h_ H locs hq hP hS => ?_) (fun C_ a_ h_ H locs hq => absurd hq.1 (fun h9 => by cases h9))
            obtain ⟨ev, eh⟩ := hq
            cases ev
            rw [eh] at hP
            refine W.widen (k := 0) (n := 0) (Nat.le_of_ble_eq_true rfl) (Nat.le_of_ble_eq_true rfl) ?_
            refine W.eq (g2 := F0 m 160 ls (.int (p_MO_shifted (M.2.1 4 (Int32.toNatClampNeg x1)) x2 x3 0) :: .int x1 :: .ref (ad 4) :: [])) rfl ?_
            have hi_ : vp_in x1 3240 := (by   have k3 := c_280; (try simp only [Int32.lt_iff_toInt_lt, Int32.le_iff_toInt_le, ← Int32.toInt_inj, i32_0, i32_1, i32_2, i32_3, i32_4, i32_5, i32_6, i32_7, i32_8, i32_9, i32_10, i32_11, i32_12, i32_16, i32_24, i32_39, i32_40, i32_41, i32_43, i32_44, i32_48, i32_49, i32_57, i32_64, i32_80, i32_81, i32_100, i32_101, i32_121, i32_127, i32_128, i32_256, i32_384, i32_400, i32_512, i32_3199, i32_3200, i32_3239, i32_3240, i32_m1] at k3);  rw [vp_in_iff]; omega)
            refine fs_iast hx hb hK hP hS 0 (hM.2.1 4 0 3240 rfl) rfl hi_ d_MO_shiftRange_160 (fun H locs hP hS => ?_)
            obtain ⟨h288, hP, hM, hf⟩ : ∃ x, fs_P G.1 fs_cl (fs_A s00) x H ∧ mo_at G x a ad (mo_i M 4 (Int32.toNatClampNeg x1) (p_MO_shifted (M.2.1 4 (Int32.toNatClampNeg x1)) x2 x3 0)) ∧ mo_fr a ad h x := ⟨_, hP, hM.I (j := 4) (k := (Int32.toNatClampNeg x1)) (x := (p_MO_shifted (M.2.1 4 (Int32.toNatClampNeg x1)) x2 x3 0)) rfl (fun _ => rfl), hf.arr (j := 4) (by decide)⟩
            refine lv_aload_n hx hb d_MO_shiftRange_161 rfl (lv_at hl 3 rfl) ?_
            refine fs_get (v := .ref (ad 5)) hx hb hts hown hK c_MO hP hM.1 5 (by decide) (hts _ (fs_tb_at 1461 tw_1461 rfl)) (fun _ h9 => h9) rfl d_MO_shiftRange_162 ?_
            refine lv_iload_n hx hb d_MO_shiftRange_165 rfl (lv_at hl 4 rfl) ?_
            refine lv_iload hx hb d_MO_shiftRange_166 (lv_at hl 1 rfl) ?_
            refine lv_iload_n hx hb d_MO_shiftRange_168 rfl (lv_at hl 5 rfl) ?_
            refine lv_iload_n hx hb d_MO_shiftRange_169 rfl (lv_at hl 6 rfl) ?_
            refine lv_iconst (v := 0) hx hb d_MO_shiftRange_170 (by decide) ?_
            refine fs_cS B hl.1 hP hS (k_MO_shifted hSt (M.2.1 5 (Int32.toNatClampNeg x1)) x2 x3 0 ) (fs_tb_at 1774 tw_1774 rfl) (fs_tb_at 1775 tw_1775 rfl) (fs_tb_at 96 tw_96 rfl) (fs_tb_at 1776 tw_1776 rfl) (by decide) (show (parseMethodDescriptor y_MO_shifted.desc).map (fun d => d.parameters.length) = some 4 by decide +kernel) rfl d_MO_shiftRange_171 ⟨Nat.le_of_ble_eq_true rfl, Nat.le_of_ble_eq_true rfl, Nat.le_of_ble_eq_true rfl, Nat.le_of_ble_eq_true rfl⟩ (fun v_ h_ H locs hq hP hS => ?_) (fun C_ a_ h_ H locs hq => absurd hq.1 (fun h9 => by cases h9))
            obtain ⟨ev, eh⟩ := hq
            cases ev
            rw [eh] at hP
            refine W.widen (k := 0) (n := 0) (Nat.le_of_ble_eq_true rfl) (Nat.le_of_ble_eq_true rfl) ?_
            refine W.eq (g2 := F0 m 174 ls (.int (p_MO_shifted (M.2.1 5 (Int32.toNatClampNeg x1)) x2 x3 0) :: .int x1 :: .ref (ad 5) :: [])) rfl ?_
            have hi_ : vp_in x1 3240 := (by   have k3 := c_280; (try simp only [Int32.lt_iff_toInt_lt, Int32.le_iff_toInt_le, ← Int32.toInt_inj, i32_0, i32_1, i32_2, i32_3, i32_4, i32_5, i32_6, i32_7, i32_8, i32_9, i32_10, i32_11, i32_12, i32_16, i32_24, i32_39, i32_40, i32_41, i32_43, i32_44, i32_48, i32_49, i32_57, i32_64, i32_80, i32_81, i32_100, i32_101, i32_121, i32_127, i32_128, i32_256, i32_384, i32_400, i32_512, i32_3199, i32_3200, i32_3239, i32_3240, i32_m1] at k3);  rw [vp_in_iff]; omega)
            refine fs_iast hx hb hK hP hS 0 (hM.2.1 5 0 3240 rfl) rfl hi_ d_MO_shiftRange_174 (fun H locs hP hS => ?_)
            obtain ⟨h289, hP, hM, hf⟩ : ∃ x, fs_P G.1 fs_cl (fs_A s00) x H ∧ mo_at G x a ad (mo_i (mo_i M 4 (Int32.toNatClampNeg x1) (p_MO_shifted (M.2.1 4 (Int32.toNatClampNeg x1)) x2 x3 0)) 5 (Int32.toNatClampNeg x1) (p_MO_shifted (M.2.1 5 (Int32.toNatClampNeg x1)) x2 x3 0)) ∧ mo_fr a ad h x := ⟨_, hP, hM.I (j := 5) (k := (Int32.toNatClampNeg x1)) (x := (p_MO_shifted (M.2.1 5 (Int32.toNatClampNeg x1)) x2 x3 0)) rfl (fun _ => rfl), hf.arr (j := 5) (by decide)⟩
            refine lv_goto (tgt := 224) hx hb d_MO_shiftRange_175 (by decide) ?_
            have e_ : p_MO_shiftRange M x1 x2 x3 = (mo_i (mo_i M 4 (Int32.toNatClampNeg x1) (p_MO_shifted (M.2.1 4 (Int32.toNatClampNeg x1)) x2 x3 0)) 5 (Int32.toNatClampNeg x1) (p_MO_shifted (M.2.1 5 (Int32.toNatClampNeg x1)) x2 x3 0)) := by rw [p_MO_shiftRange, if_pos c_273, if_pos c_276, if_pos c_279, if_pos c_280, if_pos c_283]
            exact fs_vret hx hb hr hlocks hw hP hS  (by omega) (by omega) (⟨rfl, by rw [e_]; exact hM, hf⟩) d_MO_shiftRange_224
        · refine lv_aload_n hx hb d_MO_shiftRange_85 rfl (lv_at hl 3 rfl) ?_
          refine fs_get (v := .ref (ad 4)) hx hb hts hown hK c_MO hP hM.1 4 (by decide) (hts _ (fs_tb_at 1460 tw_1460 rfl)) (fun _ h9 => h9) rfl d_MO_shiftRange_86 ?_
          refine lv_iload_n hx hb d_MO_shiftRange_89 rfl (lv_at hl 4 rfl) ?_
          refine lv_iload hx hb d_MO_shiftRange_90 (lv_at hl 2 rfl) ?_
          refine lv_iload_n hx hb d_MO_shiftRange_92 rfl (lv_at hl 5 rfl) ?_
          refine lv_iload_n hx hb d_MO_shiftRange_93 rfl (lv_at hl 6 rfl) ?_
          refine lv_iload hx hb d_MO_shiftRange_94 (lv_at hl 0 rfl) ?_
          refine lv_if_eq (tgt := 103) hx hb d_MO_shiftRange_96 (by decide) (fun c_290 => ?_) (fun c_290 => ?_)
          · refine lv_iconst (v := 0) hx hb d_MO_shiftRange_103 (by decide) ?_
            refine fs_cS B hl.1 hP hS (k_MO_shifted hSt (M.2.1 4 (Int32.toNatClampNeg x1)) x2 x3 0 ) (fs_tb_at 1774 tw_1774 rfl) (fs_tb_at 1775 tw_1775 rfl) (fs_tb_at 96 tw_96 rfl) (fs_tb_at 1776 tw_1776 rfl) (by decide) (show (parseMethodDescriptor y_MO_shifted.desc).map (fun d => d.parameters.length) = some 4 by decide +kernel) rfl d_MO_shiftRange_104 ⟨Nat.le_of_ble_eq_true rfl, Nat.le_of_ble_eq_true rfl, Nat.le_of_ble_eq_true rfl, Nat.le_of_ble_eq_true rfl⟩ (fun v_ h_ H locs hq hP hS => ?_) (fun C_ a_ h_ H locs hq => absurd hq.1 (fun h9 => by cases h9))
            obtain ⟨ev, eh⟩ := hq
            cases ev
            rw [eh] at hP
            refine W.widen (k := 0) (n := 0) (Nat.le_of_ble_eq_true rfl) (Nat.le_of_ble_eq_true rfl) ?_
            refine W.eq (g2 := F0 m 107 ls (.int (p_MO_shifted (M.2.1 4 (Int32.toNatClampNeg x1)) x2 x3 0) :: .int x1 :: .ref (ad 4) :: [])) rfl ?_
            have hi_ : vp_in x1 3240 := (by   have k3 := c_280; (try simp only [Int32.lt_iff_toInt_lt, Int32.le_iff_toInt_le, ← Int32.toInt_inj, i32_0, i32_1, i32_2, i32_3, i32_4, i32_5, i32_6, i32_7, i32_8, i32_9, i32_10, i32_11, i32_12, i32_16, i32_24, i32_39, i32_40, i32_41, i32_43, i32_44, i32_48, i32_49, i32_57, i32_64, i32_80, i32_81, i32_100, i32_101, i32_121, i32_127, i32_128, i32_256, i32_384, i32_400, i32_512, i32_3199, i32_3200, i32_3239, i32_3240, i32_m1] at k3);  rw [vp_in_iff]; omega)
            refine fs_iast hx hb hK hP hS 0 (hM.2.1 4 0 3240 rfl) rfl hi_ d_MO_shiftRange_107 (fun H locs hP hS => ?_)
            obtain ⟨h291, hP, hM, hf⟩ : ∃ x, fs_P G.1 fs_cl (fs_A s00) x H ∧ mo_at G x a ad (mo_i M 4 (Int32.toNatClampNeg x1) (p_MO_shifted (M.2.1 4 (Int32.toNatClampNeg x1)) x2 x3 0)) ∧ mo_fr a ad h x := ⟨_, hP, hM.I (j := 4) (k := (Int32.toNatClampNeg x1)) (x := (p_MO_shifted (M.2.1 4 (Int32.toNatClampNeg x1)) x2 x3 0)) rfl (fun _ => rfl), hf.arr (j := 4) (by decide)⟩
            refine lv_aload_n hx hb d_MO_shiftRange_108 rfl (lv_at hl 3 rfl) ?_
            refine fs_get (v := .ref (ad 5)) hx hb hts hown hK c_MO hP hM.1 5 (by decide) (hts _ (fs_tb_at 1461 tw_1461 rfl)) (fun _ h9 => h9) rfl d_MO_shiftRange_109 ?_
            refine lv_iload_n hx hb d_MO_shiftRange_112 rfl (lv_at hl 4 rfl) ?_
            refine lv_iload hx hb d_MO_shiftRange_113 (lv_at hl 1 rfl) ?_
            refine lv_iload_n hx hb d_MO_shiftRange_115 rfl (lv_at hl 5 rfl) ?_
            refine lv_iload_n hx hb d_MO_shiftRange_116 rfl (lv_at hl 6 rfl) ?_
            refine lv_iload hx hb d_MO_shiftRange_117 (lv_at hl 0 rfl) ?_
            refine lv_if_eq (tgt := 126) hx hb d_MO_shiftRange_119 (by decide) (fun c_292 => ?_) (fun c_292 => ?_)
            · refine lv_iconst (v := 1) hx hb d_MO_shiftRange_126 (by decide) ?_
              refine fs_cS B hl.1 hP hS (k_MO_shifted hSt (M.2.1 5 (Int32.toNatClampNeg x1)) x2 x3 1 ) (fs_tb_at 1774 tw_1774 rfl) (fs_tb_at 1775 tw_1775 rfl) (fs_tb_at 96 tw_96 rfl) (fs_tb_at 1776 tw_1776 rfl) (by decide) (show (parseMethodDescriptor y_MO_shifted.desc).map (fun d => d.parameters.length) = some 4 by decide +kernel) rfl d_MO_shiftRange_127 ⟨Nat.le_of_ble_eq_true rfl, Nat.le_of_ble_eq_true rfl, Nat.le_of_ble_eq_true rfl, Nat.le_of_ble_eq_true rfl⟩ (fun v_ h_ H locs hq hP hS => ?_) (fun C_ a_ h_ H locs hq => absurd hq.1 (fun h9 => by cases h9))
              obtain ⟨ev, eh⟩ := hq
              cases ev
              rw [eh] at hP
              refine W.widen (k := 0) (n := 0) (Nat.le_of_ble_eq_true rfl) (Nat.le_of_ble_eq_true rfl) ?_
              refine W.eq (g2 := F0 m 130 ls (.int (p_MO_shifted (M.2.1 5 (Int32.toNatClampNeg x1)) x2 x3 1) :: .int x1 :: .ref (ad 5) :: [])) rfl ?_
              have hi_ : vp_in x1 3240 := (by   have k3 := c_280; (try simp only [Int32.lt_iff_toInt_lt, Int32.le_iff_toInt_le, ← Int32.toInt_inj, i32_0, i32_1, i32_2, i32_3, i32_4, i32_5, i32_6, i32_7, i32_8, i32_9, i32_10, i32_11, i32_12, i32_16, i32_24, i32_39, i32_40, i32_41, i32_43, i32_44, i32_48, i32_49, i32_57, i32_64, i32_80, i32_81, i32_100, i32_101, i32_121, i32_127, i32_128, i32_256, i32_384, i32_400, i32_512, i32_3199, i32_3200, i32_3239, i32_3240, i32_m1] at k3);  rw [vp_in_iff]; omega)
              refine fs_iast hx hb hK hP hS 0 (hM.2.1 5 0 3240 rfl) rfl hi_ d_MO_shiftRange_130 (fun H locs hP hS => ?_)
              obtain ⟨h293, hP, hM, hf⟩ : ∃ x, fs_P G.1 fs_cl (fs_A s00) x H ∧ mo_at G x a ad (mo_i (mo_i M 4 (Int32.toNatClampNeg x1) (p_MO_shifted (M.2.1 4 (Int32.toNatClampNeg x1)) x2 x3 0)) 5 (Int32.toNatClampNeg x1) (p_MO_shifted (M.2.1 5 (Int32.toNatClampNeg x1)) x2 x3 1)) ∧ mo_fr a ad h x := ⟨_, hP, hM.I (j := 5) (k := (Int32.toNatClampNeg x1)) (x := (p_MO_shifted (M.2.1 5 (Int32.toNatClampNeg x1)) x2 x3 1)) rfl (fun _ => rfl), hf.arr (j := 5) (by decide)⟩
              refine lv_goto (tgt := 224) hx hb d_MO_shiftRange_131 (by decide) ?_
              have e_ : p_MO_shiftRange M x1 x2 x3 = (mo_i (mo_i M 4 (Int32.toNatClampNeg x1) (p_MO_shifted (M.2.1 4 (Int32.toNatClampNeg x1)) x2 x3 0)) 5 (Int32.toNatClampNeg x1) (p_MO_shifted (M.2.1 5 (Int32.toNatClampNeg x1)) x2 x3 1)) := by rw [p_MO_shiftRange, if_pos c_273, if_pos c_276, if_pos c_279, if_neg c_280]
              exact fs_vret hx hb hr hlocks hw hP hS  (by omega) (by omega) (⟨rfl, by rw [e_]; exact hM, hf⟩) d_MO_shiftRange_224
            · exact absurd c_292 (by decide)
          · exact absurd c_290 (by decide)
      · refine lv_iconst (v := 1) hx hb d_MO_shiftRange_74 (by decide) ?_
        refine lv_goto (tgt := 79) hx hb d_MO_shiftRange_75 (by decide) ?_
        refine lv_istore (lv' := [(6, .int 1), (5, .int (M.2.1 5 (Int32.toNatClampNeg x1))), (4, .int (M.2.1 4 (Int32.toNatClampNeg x1))), (0, .ref a), (1, .int x1), (2, .int x2), (3, .int x3)]) hx hb d_MO_shiftRange_79 hl (by decide) rfl (fun ls hl => ?_)
        refine lv_iload_n hx hb d_MO_shiftRange_81 rfl (lv_at hl 6 rfl) ?_
        refine lv_if_le (tgt := 134) hx hb d_MO_shiftRange_82 (by decide) (fun c_294 => ?_) (fun c_294 => ?_)
        · refine lv_iload hx hb d_MO_shiftRange_134 (lv_at hl 2 rfl) ?_
          refine fs_cS B hl.1 hP hS (k_MO_row hSt (M.2.1 4 (Int32.toNatClampNeg x1)) ) (fs_tb_at 1675 tw_1675 rfl) (fs_tb_at 1676 tw_1676 rfl) (fs_tb_at 96 tw_96 rfl) (fs_tb_at 1677 tw_1677 rfl) (by decide) (show (parseMethodDescriptor y_MO_row.desc).map (fun d => d.parameters.length) = some 1 by decide +kernel) rfl d_MO_shiftRange_136 ⟨Nat.le_of_ble_eq_true rfl, Nat.le_of_ble_eq_true rfl, Nat.le_of_ble_eq_true rfl, Nat.le_of_ble_eq_true rfl⟩ (fun v_ h_ H locs hq hP hS => ?_) (fun C_ a_ h_ H locs hq => absurd hq.1 (fun h9 => by cases h9))
          obtain ⟨ev, eh⟩ := hq
          cases ev
          rw [eh] at hP
          have pf295 : (0 ≤ (Int32.toInt (p_MO_row (M.2.1 4 (Int32.toNatClampNeg x1))))) ∧ ((Int32.toInt (p_MO_row (M.2.1 4 (Int32.toNatClampNeg x1)))) ≤ 15) := po_MO_row  (M.2.1 4 (Int32.toNatClampNeg x1)) 
          refine W.widen (k := 0) (n := 0) (Nat.le_of_ble_eq_true rfl) (Nat.le_of_ble_eq_true rfl) ?_
          refine W.eq (g2 := F0 m 139 ls (.int (p_MO_row (M.2.1 4 (Int32.toNatClampNeg x1))) :: [])) rfl ?_
          refine lv_iload hx hb d_MO_shiftRange_139 (lv_at hl 1 rfl) ?_
          refine fs_cS B hl.1 hP hS (k_MO_row hSt (M.2.1 5 (Int32.toNatClampNeg x1)) ) (fs_tb_at 1675 tw_1675 rfl) (fs_tb_at 1676 tw_1676 rfl) (fs_tb_at 96 tw_96 rfl) (fs_tb_at 1677 tw_1677 rfl) (by decide) (show (parseMethodDescriptor y_MO_row.desc).map (fun d => d.parameters.length) = some 1 by decide +kernel) rfl d_MO_shiftRange_141 ⟨Nat.le_of_ble_eq_true rfl, Nat.le_of_ble_eq_true rfl, Nat.le_of_ble_eq_true rfl, Nat.le_of_ble_eq_true rfl⟩ (fun v_ h_ H locs hq hP hS => ?_) (fun C_ a_ h_ H locs hq => absurd hq.1 (fun h9 => by cases h9))
          obtain ⟨ev, eh⟩ := hq
          cases ev
          rw [eh] at hP
          have pf296 : (0 ≤ (Int32.toInt (p_MO_row (M.2.1 5 (Int32.toNatClampNeg x1))))) ∧ ((Int32.toInt (p_MO_row (M.2.1 5 (Int32.toNatClampNeg x1)))) ≤ 15) := po_MO_row  (M.2.1 5 (Int32.toNatClampNeg x1)) 
          refine W.widen (k := 0) (n := 0) (Nat.le_of_ble_eq_true rfl) (Nat.le_of_ble_eq_true rfl) ?_
          refine W.eq (g2 := F0 m 144 ls (.int (p_MO_row (M.2.1 5 (Int32.toNatClampNeg x1))) :: .int (p_MO_row (M.2.1 4 (Int32.toNatClampNeg x1))) :: [])) rfl ?_
          refine lv_icmp_ne (tgt := 178) hx hb d_MO_shiftRange_144 (by decide) (fun c_297 => ?_) (fun c_297 => ?_)
          · refine lv_aload_n hx hb d_MO_shiftRange_178 rfl (lv_at hl 3 rfl) ?_
            refine fs_get (v := .ref (ad 4)) hx hb hts hown hK c_MO hP hM.1 4 (by decide) (hts _ (fs_tb_at 1460 tw_1460 rfl)) (fun _ h9 => h9) rfl d_MO_shiftRange_179 ?_
            refine lv_iload_n hx hb d_MO_shiftRange_182 rfl (lv_at hl 4 rfl) ?_
            refine lv_iload hx hb d_MO_shiftRange_183 (lv_at hl 2 rfl) ?_
            refine lv_iload_n hx hb d_MO_shiftRange_185 rfl (lv_at hl 5 rfl) ?_
            refine lv_iload_n hx hb d_MO_shiftRange_186 rfl (lv_at hl 6 rfl) ?_
            refine lv_iload hx hb d_MO_shiftRange_187 (lv_at hl 0 rfl) ?_
            refine lv_if_eq (tgt := 196) hx hb d_MO_shiftRange_189 (by decide) (fun c_298 => ?_) (fun c_298 => ?_)
            · exact absurd c_298 (by decide)
            · refine lv_iconst (v := 2) hx hb d_MO_shiftRange_192 (by decide) ?_
              refine lv_goto (tgt := 197) hx hb d_MO_shiftRange_193 (by decide) ?_
              refine fs_cS B hl.1 hP hS (k_MO_shifted hSt (M.2.1 4 (Int32.toNatClampNeg x1)) x2 x3 2 ) (fs_tb_at 1774 tw_1774 rfl) (fs_tb_at 1775 tw_1775 rfl) (fs_tb_at 96 tw_96 rfl) (fs_tb_at 1776 tw_1776 rfl) (by decide) (show (parseMethodDescriptor y_MO_shifted.desc).map (fun d => d.parameters.length) = some 4 by decide +kernel) rfl d_MO_shiftRange_197 ⟨Nat.le_of_ble_eq_true rfl, Nat.le_of_ble_eq_true rfl, Nat.le_of_ble_eq_true rfl, Nat.le_of_ble_eq_true rfl⟩ (fun v_ h_ H locs hq hP hS => ?_) (fun C_ a_ h_ H locs hq => absurd hq.1 (fun h9 => by cases h9))
              obtain ⟨ev, eh⟩ := hq
              cases ev
              rw [eh] at hP
              refine W.widen (k := 0) (n := 0) (Nat.le_of_ble_eq_true rfl) (Nat.le_of_ble_eq_true rfl) ?_
              refine W.eq (g2 := F0 m 200 ls (.int (p_MO_shifted (M.2.1 4 (Int32.toNatClampNeg x1)) x2 x3 2) :: .int x1 :: .ref (ad 4) :: [])) rfl ?_
              have hi_ : vp_in x1 3240 := (by   have k3 := c_294; (try simp only [Int32.lt_iff_toInt_lt, Int32.le_iff_toInt_le, ← Int32.toInt_inj, i32_0, i32_1, i32_2, i32_3, i32_4, i32_5, i32_6, i32_7, i32_8, i32_9, i32_10, i32_11, i32_12, i32_16, i32_24, i32_39, i32_40, i32_41, i32_43, i32_44, i32_48, i32_49, i32_57, i32_64, i32_80, i32_81, i32_100, i32_101, i32_121, i32_127, i32_128, i32_256, i32_384, i32_400, i32_512, i32_3199, i32_3200, i32_3239, i32_3240, i32_m1] at k3);  rw [vp_in_iff]; omega)
              refine fs_iast hx hb hK hP hS 0 (hM.2.1 4 0 3240 rfl) rfl hi_ d_MO_shiftRange_200 (fun H locs hP hS => ?_)
              obtain ⟨h299, hP, hM, hf⟩ : ∃ x, fs_P G.1 fs_cl (fs_A s00) x H ∧ mo_at G x a ad (mo_i M 4 (Int32.toNatClampNeg x1) (p_MO_shifted (M.2.1 4 (Int32.toNatClampNeg x1)) x2 x3 2)) ∧ mo_fr a ad h x := ⟨_, hP, hM.I (j := 4) (k := (Int32.toNatClampNeg x1)) (x := (p_MO_shifted (M.2.1 4 (Int32.toNatClampNeg x1)) x2 x3 2)) rfl (fun _ => rfl), hf.arr (j := 4) (by decide)⟩
              refine lv_aload_n hx hb d_MO_shiftRange_201 rfl (lv_at hl 3 rfl) ?_
              refine fs_get (v := .ref (ad 5)) hx hb hts hown hK c_MO hP hM.1 5 (by decide) (hts _ (fs_tb_at 1461 tw_1461 rfl)) (fun _ h9 => h9) rfl d_MO_shiftRange_202 ?_
              refine lv_iload_n hx hb d_MO_shiftRange_205 rfl (lv_at hl 4 rfl) ?_
              refine lv_iload hx hb d_MO_shiftRange_206 (lv_at hl 1 rfl) ?_
              refine lv_iload_n hx hb d_MO_shiftRange_208 rfl (lv_at hl 5 rfl) ?_
              refine lv_iload_n hx hb d_MO_shiftRange_209 rfl (lv_at hl 6 rfl) ?_
              refine lv_iload hx hb d_MO_shiftRange_210 (lv_at hl 0 rfl) ?_
              refine lv_if_eq (tgt := 219) hx hb d_MO_shiftRange_212 (by decide) (fun c_300 => ?_) (fun c_300 => ?_)
              · exact absurd c_300 (by decide)
              · refine lv_iconst (v := 1) hx hb d_MO_shiftRange_215 (by decide) ?_
                refine lv_goto (tgt := 220) hx hb d_MO_shiftRange_216 (by decide) ?_
                refine fs_cS B hl.1 hP hS (k_MO_shifted hSt (M.2.1 5 (Int32.toNatClampNeg x1)) x2 x3 1 ) (fs_tb_at 1774 tw_1774 rfl) (fs_tb_at 1775 tw_1775 rfl) (fs_tb_at 96 tw_96 rfl) (fs_tb_at 1776 tw_1776 rfl) (by decide) (show (parseMethodDescriptor y_MO_shifted.desc).map (fun d => d.parameters.length) = some 4 by decide +kernel) rfl d_MO_shiftRange_220 ⟨Nat.le_of_ble_eq_true rfl, Nat.le_of_ble_eq_true rfl, Nat.le_of_ble_eq_true rfl, Nat.le_of_ble_eq_true rfl⟩ (fun v_ h_ H locs hq hP hS => ?_) (fun C_ a_ h_ H locs hq => absurd hq.1 (fun h9 => by cases h9))
                obtain ⟨ev, eh⟩ := hq
                cases ev
                rw [eh] at hP
                refine W.widen (k := 0) (n := 0) (Nat.le_of_ble_eq_true rfl) (Nat.le_of_ble_eq_true rfl) ?_
                refine W.eq (g2 := F0 m 223 ls (.int (p_MO_shifted (M.2.1 5 (Int32.toNatClampNeg x1)) x2 x3 1) :: .int x1 :: .ref (ad 5) :: [])) rfl ?_
                have hi_ : vp_in x1 3240 := (by   have k3 := c_294; (try simp only [Int32.lt_iff_toInt_lt, Int32.le_iff_toInt_le, ← Int32.toInt_inj, i32_0, i32_1, i32_2, i32_3, i32_4, i32_5, i32_6, i32_7, i32_8, i32_9, i32_10, i32_11, i32_12, i32_16, i32_24, i32_39, i32_40, i32_41, i32_43, i32_44, i32_48, i32_49, i32_57, i32_64, i32_80, i32_81, i32_100, i32_101, i32_121, i32_127, i32_128, i32_256, i32_384, i32_400, i32_512, i32_3199, i32_3200, i32_3239, i32_3240, i32_m1] at k3);  rw [vp_in_iff]; omega)
                refine fs_iast hx hb hK hP hS 0 (hM.2.1 5 0 3240 rfl) rfl hi_ d_MO_shiftRange_223 (fun H locs hP hS => ?_)
                obtain ⟨h301, hP, hM, hf⟩ : ∃ x, fs_P G.1 fs_cl (fs_A s00) x H ∧ mo_at G x a ad (mo_i (mo_i M 4 (Int32.toNatClampNeg x1) (p_MO_shifted (M.2.1 4 (Int32.toNatClampNeg x1)) x2 x3 2)) 5 (Int32.toNatClampNeg x1) (p_MO_shifted (M.2.1 5 (Int32.toNatClampNeg x1)) x2 x3 1)) ∧ mo_fr a ad h x := ⟨_, hP, hM.I (j := 5) (k := (Int32.toNatClampNeg x1)) (x := (p_MO_shifted (M.2.1 5 (Int32.toNatClampNeg x1)) x2 x3 1)) rfl (fun _ => rfl), hf.arr (j := 5) (by decide)⟩
                have e_ : p_MO_shiftRange M x1 x2 x3 = (mo_i (mo_i M 4 (Int32.toNatClampNeg x1) (p_MO_shifted (M.2.1 4 (Int32.toNatClampNeg x1)) x2 x3 2)) 5 (Int32.toNatClampNeg x1) (p_MO_shifted (M.2.1 5 (Int32.toNatClampNeg x1)) x2 x3 1)) := by rw [p_MO_shiftRange, if_pos c_273, if_pos c_276, if_neg c_279, if_pos c_294, if_neg c_297]
                exact fs_vret hx hb hr hlocks hw hP hS  (by omega) (by omega) (⟨rfl, by rw [e_]; exact hM, hf⟩) d_MO_shiftRange_224
          · refine lv_aload_n hx hb d_MO_shiftRange_147 rfl (lv_at hl 3 rfl) ?_
            refine fs_get (v := .ref (ad 4)) hx hb hts hown hK c_MO hP hM.1 4 (by decide) (hts _ (fs_tb_at 1460 tw_1460 rfl)) (fun _ h9 => h9) rfl d_MO_shiftRange_148 ?_
            refine lv_iload_n hx hb d_MO_shiftRange_151 rfl (lv_at hl 4 rfl) ?_
            refine lv_iload hx hb d_MO_shiftRange_152 (lv_at hl 2 rfl) ?_
            refine lv_iload_n hx hb d_MO_shiftRange_154 rfl (lv_at hl 5 rfl) ?_
            refine lv_iload_n hx hb d_MO_shiftRange_155 rfl (lv_at hl 6 rfl) ?_
            refine lv_iconst (v := 0) hx hb d_MO_shiftRange_156 (by decide) ?_
            refine fs_cS B hl.1 hP hS (k_MO_shifted hSt (M.2.1 4 (Int32.toNatClampNeg x1)) x2 x3 0 ) (fs_tb_at 1774 tw_1774 rfl) (fs_tb_at 1775 tw_1775 rfl) (fs_tb_at 96 tw_96 rfl) (fs_tb_at 1776 tw_1776 rfl) (by decide) (show (parseMethodDescriptor y_MO_shifted.desc).map (fun d => d.parameters.length) = some 4 by decide +kernel) rfl d_MO_shiftRange_157 ⟨Nat.le_of_ble_eq_true rfl, Nat.le_of_ble_eq_true rfl, Nat.le_of_ble_eq_true rfl, Nat.le_of_ble_eq_true rfl⟩ (fun v_ h_ H locs hq hP hS => ?_) (fun C_ a_ h_ H locs hq => absurd hq.1 (fun h9 => by cases h9))
            obtain ⟨ev, eh⟩ := hq
            cases ev
            rw [eh] at hP
            refine W.widen (k := 0) (n := 0) (Nat.le_of_ble_eq_true rfl) (Nat.le_of_ble_eq_true rfl) ?_
            refine W.eq (g2 := F0 m 160 ls (.int (p_MO_shifted (M.2.1 4 (Int32.toNatClampNeg x1)) x2 x3 0) :: .int x1 :: .ref (ad 4) :: [])) rfl ?_
            have hi_ : vp_in x1 3240 := (by   have k3 := c_294; (try simp only [Int32.lt_iff_toInt_lt, Int32.le_iff_toInt_le, ← Int32.toInt_inj, i32_0, i32_1, i32_2, i32_3, i32_4, i32_5, i32_6, i32_7, i32_8, i32_9, i32_10, i32_11, i32_12, i32_16, i32_24, i32_39, i32_40, i32_41, i32_43, i32_44, i32_48, i32_49, i32_57, i32_64, i32_80, i32_81, i32_100, i32_101, i32_121, i32_127, i32_128, i32_256, i32_384, i32_400, i32_512, i32_3199, i32_3200, i32_3239, i32_3240, i32_m1] at k3);  rw [vp_in_iff]; omega)
            refine fs_iast hx hb hK hP hS 0 (hM.2.1 4 0 3240 rfl) rfl hi_ d_MO_shiftRange_160 (fun H locs hP hS => ?_)
            obtain ⟨h302, hP, hM, hf⟩ : ∃ x, fs_P G.1 fs_cl (fs_A s00) x H ∧ mo_at G x a ad (mo_i M 4 (Int32.toNatClampNeg x1) (p_MO_shifted (M.2.1 4 (Int32.toNatClampNeg x1)) x2 x3 0)) ∧ mo_fr a ad h x := ⟨_, hP, hM.I (j := 4) (k := (Int32.toNatClampNeg x1)) (x := (p_MO_shifted (M.2.1 4 (Int32.toNatClampNeg x1)) x2 x3 0)) rfl (fun _ => rfl), hf.arr (j := 4) (by decide)⟩
            refine lv_aload_n hx hb d_MO_shiftRange_161 rfl (lv_at hl 3 rfl) ?_
            refine fs_get (v := .ref (ad 5)) hx hb hts hown hK c_MO hP hM.1 5 (by decide) (hts _ (fs_tb_at 1461 tw_1461 rfl)) (fun _ h9 => h9) rfl d_MO_shiftRange_162 ?_
            refine lv_iload_n hx hb d_MO_shiftRange_165 rfl (lv_at hl 4 rfl) ?_
            refine lv_iload hx hb d_MO_shiftRange_166 (lv_at hl 1 rfl) ?_
            refine lv_iload_n hx hb d_MO_shiftRange_168 rfl (lv_at hl 5 rfl) ?_
            refine lv_iload_n hx hb d_MO_shiftRange_169 rfl (lv_at hl 6 rfl) ?_
            refine lv_iconst (v := 0) hx hb d_MO_shiftRange_170 (by decide) ?_
            refine fs_cS B hl.1 hP hS (k_MO_shifted hSt (M.2.1 5 (Int32.toNatClampNeg x1)) x2 x3 0 ) (fs_tb_at 1774 tw_1774 rfl) (fs_tb_at 1775 tw_1775 rfl) (fs_tb_at 96 tw_96 rfl) (fs_tb_at 1776 tw_1776 rfl) (by decide) (show (parseMethodDescriptor y_MO_shifted.desc).map (fun d => d.parameters.length) = some 4 by decide +kernel) rfl d_MO_shiftRange_171 ⟨Nat.le_of_ble_eq_true rfl, Nat.le_of_ble_eq_true rfl, Nat.le_of_ble_eq_true rfl, Nat.le_of_ble_eq_true rfl⟩ (fun v_ h_ H locs hq hP hS => ?_) (fun C_ a_ h_ H locs hq => absurd hq.1 (fun h9 => by cases h9))
            obtain ⟨ev, eh⟩ := hq
            cases ev
            rw [eh] at hP
            refine W.widen (k := 0) (n := 0) (Nat.le_of_ble_eq_true rfl) (Nat.le_of_ble_eq_true rfl) ?_
            refine W.eq (g2 := F0 m 174 ls (.int (p_MO_shifted (M.2.1 5 (Int32.toNatClampNeg x1)) x2 x3 0) :: .int x1 :: .ref (ad 5) :: [])) rfl ?_
            have hi_ : vp_in x1 3240 := (by   have k3 := c_294; (try simp only [Int32.lt_iff_toInt_lt, Int32.le_iff_toInt_le, ← Int32.toInt_inj, i32_0, i32_1, i32_2, i32_3, i32_4, i32_5, i32_6, i32_7, i32_8, i32_9, i32_10, i32_11, i32_12, i32_16, i32_24, i32_39, i32_40, i32_41, i32_43, i32_44, i32_48, i32_49, i32_57, i32_64, i32_80, i32_81, i32_100, i32_101, i32_121, i32_127, i32_128, i32_256, i32_384, i32_400, i32_512, i32_3199, i32_3200, i32_3239, i32_3240, i32_m1] at k3);  rw [vp_in_iff]; omega)
            refine fs_iast hx hb hK hP hS 0 (hM.2.1 5 0 3240 rfl) rfl hi_ d_MO_shiftRange_174 (fun H locs hP hS => ?_)
            obtain ⟨h303, hP, hM, hf⟩ : ∃ x, fs_P G.1 fs_cl (fs_A s00) x H ∧ mo_at G x a ad (mo_i (mo_i M 4 (Int32.toNatClampNeg x1) (p_MO_shifted (M.2.1 4 (Int32.toNatClampNeg x1)) x2 x3 0)) 5 (Int32.toNatClampNeg x1) (p_MO_shifted (M.2.1 5 (Int32.toNatClampNeg x1)) x2 x3 0)) ∧ mo_fr a ad h x := ⟨_, hP, hM.I (j := 5) (k := (Int32.toNatClampNeg x1)) (x := (p_MO_shifted (M.2.1 5 (Int32.toNatClampNeg x1)) x2 x3 0)) rfl (fun _ => rfl), hf.arr (j := 5) (by decide)⟩
            refine lv_goto (tgt := 224) hx hb d_MO_shiftRange_175 (by decide) ?_
            have e_ : p_MO_shiftRange M x1 x2 x3 = (mo_i (mo_i M 4 (Int32.toNatClampNeg x1) (p_MO_shifted (M.2.1 4 (Int32.toNatClampNeg x1)) x2 x3 0)) 5 (Int32.toNatClampNeg x1) (p_MO_shifted (M.2.1 5 (Int32.toNatClampNeg x1)) x2 x3 0)) := by rw [p_MO_shiftRange, if_pos c_273, if_pos c_276, if_neg c_279, if_pos c_294, if_pos c_297]
            exact fs_vret hx hb hr hlocks hw hP hS  (by omega) (by omega) (⟨rfl, by rw [e_]; exact hM, hf⟩) d_MO_shiftRange_224
        · refine lv_aload_n hx hb d_MO_shiftRange_85 rfl (lv_at hl 3 rfl) ?_
          refine fs_get (v := .ref (ad 4)) hx hb hts hown hK c_MO hP hM.1 4 (by decide) (hts _ (fs_tb_at 1460 tw_1460 rfl)) (fun _ h9 => h9) rfl d_MO_shiftRange_86 ?_
          refine lv_iload_n hx hb d_MO_shiftRange_89 rfl (lv_at hl 4 rfl) ?_
          refine lv_iload hx hb d_MO_shiftRange_90 (lv_at hl 2 rfl) ?_
          refine lv_iload_n hx hb d_MO_shiftRange_92 rfl (lv_at hl 5 rfl) ?_
          refine lv_iload_n hx hb d_MO_shiftRange_93 rfl (lv_at hl 6 rfl) ?_
          refine lv_iload hx hb d_MO_shiftRange_94 (lv_at hl 0 rfl) ?_
          refine lv_if_eq (tgt := 103) hx hb d_MO_shiftRange_96 (by decide) (fun c_304 => ?_) (fun c_304 => ?_)
          · exact absurd c_304 (by decide)
          · refine lv_iconst (v := 1) hx hb d_MO_shiftRange_99 (by decide) ?_
            refine lv_goto (tgt := 104) hx hb d_MO_shiftRange_100 (by decide) ?_
            refine fs_cS B hl.1 hP hS (k_MO_shifted hSt (M.2.1 4 (Int32.toNatClampNeg x1)) x2 x3 1 ) (fs_tb_at 1774 tw_1774 rfl) (fs_tb_at 1775 tw_1775 rfl) (fs_tb_at 96 tw_96 rfl) (fs_tb_at 1776 tw_1776 rfl) (by decide) (show (parseMethodDescriptor y_MO_shifted.desc).map (fun d => d.parameters.length) = some 4 by decide +kernel) rfl d_MO_shiftRange_104 ⟨Nat.le_of_ble_eq_true rfl, Nat.le_of_ble_eq_true rfl, Nat.le_of_ble_eq_true rfl, Nat.le_of_ble_eq_true rfl⟩ (fun v_ h_ H locs hq hP hS => ?_) (fun C_ a_ h_ H locs hq => absurd hq.1 (fun h9 => by cases h9))
            obtain ⟨ev, eh⟩ := hq
            cases ev
            rw [eh] at hP
            refine W.widen (k := 0) (n := 0) (Nat.le_of_ble_eq_true rfl) (Nat.le_of_ble_eq_true rfl) ?_
            refine W.eq (g2 := F0 m 107 ls (.int (p_MO_shifted (M.2.1 4 (Int32.toNatClampNeg x1)) x2 x3 1) :: .int x1 :: .ref (ad 4) :: [])) rfl ?_
            have hi_ : vp_in x1 3240 := (by   have k3 := c_294; (try simp only [Int32.lt_iff_toInt_lt, Int32.le_iff_toInt_le, ← Int32.toInt_inj, i32_0, i32_1, i32_2, i32_3, i32_4, i32_5, i32_6, i32_7, i32_8, i32_9, i32_10, i32_11, i32_12, i32_16, i32_24, i32_39, i32_40, i32_41, i32_43, i32_44, i32_48, i32_49, i32_57, i32_64, i32_80, i32_81, i32_100, i32_101, i32_121, i32_127, i32_128, i32_256, i32_384, i32_400, i32_512, i32_3199, i32_3200, i32_3239, i32_3240, i32_m1] at k3);  rw [vp_in_iff]; omega)
            refine fs_iast hx hb hK hP hS 0 (hM.2.1 4 0 3240 rfl) rfl hi_ d_MO_shiftRange_107 (fun H locs hP hS => ?_)
            obtain ⟨h305, hP, hM, hf⟩ : ∃ x, fs_P G.1 fs_cl (fs_A s00) x H ∧ mo_at G x a ad (mo_i M 4 (Int32.toNatClampNeg x1) (p_MO_shifted (M.2.1 4 (Int32.toNatClampNeg x1)) x2 x3 1)) ∧ mo_fr a ad h x := ⟨_, hP, hM.I (j := 4) (k := (Int32.toNatClampNeg x1)) (x := (p_MO_shifted (M.2.1 4 (Int32.toNatClampNeg x1)) x2 x3 1)) rfl (fun _ => rfl), hf.arr (j := 4) (by decide)⟩
            refine lv_aload_n hx hb d_MO_shiftRange_108 rfl (lv_at hl 3 rfl) ?_
            refine fs_get (v := .ref (ad 5)) hx hb hts hown hK c_MO hP hM.1 5 (by decide) (hts _ (fs_tb_at 1461 tw_1461 rfl)) (fun _ h9 => h9) rfl d_MO_shiftRange_109 ?_
            refine lv_iload_n hx hb d_MO_shiftRange_112 rfl (lv_at hl 4 rfl) ?_
            refine lv_iload hx hb d_MO_shiftRange_113 (lv_at hl 1 rfl) ?_
            refine lv_iload_n hx hb d_MO_shiftRange_115 rfl (lv_at hl 5 rfl) ?_
            refine lv_iload_n hx hb d_MO_shiftRange_116 rfl (lv_at hl 6 rfl) ?_
            refine lv_iload hx hb d_MO_shiftRange_117 (lv_at hl 0 rfl) ?_
            refine lv_if_eq (tgt := 126) hx hb d_MO_shiftRange_119 (by decide) (fun c_306 => ?_) (fun c_306 => ?_)
            · exact absurd c_306 (by decide)
            · refine lv_iconst (v := 0) hx hb d_MO_shiftRange_122 (by decide) ?_
              refine lv_goto (tgt := 127) hx hb d_MO_shiftRange_123 (by decide) ?_
              refine fs_cS B hl.1 hP hS (k_MO_shifted hSt (M.2.1 5 (Int32.toNatClampNeg x1)) x2 x3 0 ) (fs_tb_at 1774 tw_1774 rfl) (fs_tb_at 1775 tw_1775 rfl) (fs_tb_at 96 tw_96 rfl) (fs_tb_at 1776 tw_1776 rfl) (by decide) (show (parseMethodDescriptor y_MO_shifted.desc).map (fun d => d.parameters.length) = some 4 by decide +kernel) rfl d_MO_shiftRange_127 ⟨Nat.le_of_ble_eq_true rfl, Nat.le_of_ble_eq_true rfl, Nat.le_of_ble_eq_true rfl, Nat.le_of_ble_eq_true rfl⟩ (fun v_ h_ H locs hq hP hS => ?_) (fun C_ a_ h_ H locs hq => absurd hq.1 (fun h9 => by cases h9))
              obtain ⟨ev, eh⟩ := hq
              cases ev
              rw [eh] at hP
              refine W.widen (k := 0) (n := 0) (Nat.le_of_ble_eq_true rfl) (Nat.le_of_ble_eq_true rfl) ?_
              refine W.eq (g2 := F0 m 130 ls (.int (p_MO_shifted (M.2.1 5 (Int32.toNatClampNeg x1)) x2 x3 0) :: .int x1 :: .ref (ad 5) :: [])) rfl ?_
              have hi_ : vp_in x1 3240 := (by   have k3 := c_294; (try simp only [Int32.lt_iff_toInt_lt, Int32.le_iff_toInt_le, ← Int32.toInt_inj, i32_0, i32_1, i32_2, i32_3, i32_4, i32_5, i32_6, i32_7, i32_8, i32_9, i32_10, i32_11, i32_12, i32_16, i32_24, i32_39, i32_40, i32_41, i32_43, i32_44, i32_48, i32_49, i32_57, i32_64, i32_80, i32_81, i32_100, i32_101, i32_121, i32_127, i32_128, i32_256, i32_384, i32_400, i32_512, i32_3199, i32_3200, i32_3239, i32_3240, i32_m1] at k3);  rw [vp_in_iff]; omega)
              refine fs_iast hx hb hK hP hS 0 (hM.2.1 5 0 3240 rfl) rfl hi_ d_MO_shiftRange_130 (fun H locs hP hS => ?_)
              obtain ⟨h307, hP, hM, hf⟩ : ∃ x, fs_P G.1 fs_cl (fs_A s00) x H ∧ mo_at G x a ad (mo_i (mo_i M 4 (Int32.toNatClampNeg x1) (p_MO_shifted (M.2.1 4 (Int32.toNatClampNeg x1)) x2 x3 1)) 5 (Int32.toNatClampNeg x1) (p_MO_shifted (M.2.1 5 (Int32.toNatClampNeg x1)) x2 x3 0)) ∧ mo_fr a ad h x := ⟨_, hP, hM.I (j := 5) (k := (Int32.toNatClampNeg x1)) (x := (p_MO_shifted (M.2.1 5 (Int32.toNatClampNeg x1)) x2 x3 0)) rfl (fun _ => rfl), hf.arr (j := 5) (by decide)⟩
              refine lv_goto (tgt := 224) hx hb d_MO_shiftRange_131 (by decide) ?_
              have e_ : p_MO_shiftRange M x1 x2 x3 = (mo_i (mo_i M 4 (Int32.toNatClampNeg x1) (p_MO_shifted (M.2.1 4 (Int32.toNatClampNeg x1)) x2 x3 1)) 5 (Int32.toNatClampNeg x1) (p_MO_shifted (M.2.1 5 (Int32.toNatClampNeg x1)) x2 x3 0)) := by rw [p_MO_shiftRange, if_pos c_273, if_pos c_276, if_neg c_279, if_neg c_294]
              exact fs_vret hx hb hr hlocks hw hP hS  (by omega) (by omega) (⟨rfl, by rw [e_]; exact hM, hf⟩) d_MO_shiftRange_224
    · refine lv_aload_n hx hb d_MO_shiftRange_32 rfl (lv_at hl 2 rfl) ?_
      refine fs_get (v := .ref (ad 4)) hx hb hts hown hK c_MO hP hM.1 4 (by decide) (hts _ (fs_tb_at 1460 tw_1460 rfl)) (fun _ h9 => h9) rfl d_MO_shiftRange_33 ?_
      refine lv_iload_n hx hb d_MO_shiftRange_36 rfl (lv_at hl 3 rfl) ?_
      refine lv_iload hx hb d_MO_shiftRange_37 (lv_at hl 1 rfl) ?_
      refine lv_iload_n hx hb d_MO_shiftRange_39 rfl (lv_at hl 4 rfl) ?_
      refine lv_iload_n hx hb d_MO_shiftRange_40 rfl (lv_at hl 5 rfl) ?_
      refine lv_iconst (v := 0) hx hb d_MO_shiftRange_41 (by decide) ?_
      refine fs_cS B hl.1 hP hS (k_MO_shifted hSt (M.2.1 4 (Int32.toNatClampNeg x1)) x2 x3 0 ) (fs_tb_at 1774 tw_1774 rfl) (fs_tb_at 1775 tw_1775 rfl) (fs_tb_at 96 tw_96 rfl) (fs_tb_at 1776 tw_1776 rfl) (by decide) (show (parseMethodDescriptor y_MO_shifted.desc).map (fun d => d.parameters.length) = some 4 by decide +kernel) rfl d_MO_shiftRange_42 ⟨Nat.le_of_ble_eq_true rfl, Nat.le_of_ble_eq_true rfl, Nat.le_of_ble_eq_true rfl, Nat.le_of_ble_eq_true rfl⟩ (fun v_ h_ H locs hq hP hS => ?_) (fun C_ a_ h_ H locs hq => absurd hq.1 (fun h9 => by cases h9))
      obtain ⟨ev, eh⟩ := hq
      cases ev
      rw [eh] at hP
      refine W.widen (k := 0) (n := 0) (Nat.le_of_ble_eq_true rfl) (Nat.le_of_ble_eq_true rfl) ?_
      refine W.eq (g2 := F0 m 45 ls (.int (p_MO_shifted (M.2.1 4 (Int32.toNatClampNeg x1)) x2 x3 0) :: .int x1 :: .ref (ad 4) :: [])) rfl ?_
      have hi_ : vp_in x1 3240 := (by     rw [vp_in_iff]; omega)
      refine fs_iast hx hb hK hP hS 0 (hM.2.1 4 0 3240 rfl) rfl hi_ d_MO_shiftRange_45 (fun H locs hP hS => ?_)
      obtain ⟨h308, hP, hM, hf⟩ : ∃ x, fs_P G.1 fs_cl (fs_A s00) x H ∧ mo_at G x a ad (mo_i M 4 (Int32.toNatClampNeg x1) (p_MO_shifted (M.2.1 4 (Int32.toNatClampNeg x1)) x2 x3 0)) ∧ mo_fr a ad h x := ⟨_, hP, hM.I (j := 4) (k := (Int32.toNatClampNeg x1)) (x := (p_MO_shifted (M.2.1 4 (Int32.toNatClampNeg x1)) x2 x3 0)) rfl (fun _ => rfl), hf.arr (j := 4) (by decide)⟩
      refine lv_aload_n hx hb d_MO_shiftRange_46 rfl (lv_at hl 2 rfl) ?_
      refine fs_get (v := .ref (ad 5)) hx hb hts hown hK c_MO hP hM.1 5 (by decide) (hts _ (fs_tb_at 1461 tw_1461 rfl)) (fun _ h9 => h9) rfl d_MO_shiftRange_47 ?_
      refine lv_iload_n hx hb d_MO_shiftRange_50 rfl (lv_at hl 3 rfl) ?_
      refine lv_iload hx hb d_MO_shiftRange_51 (lv_at hl 0 rfl) ?_
      refine lv_iload_n hx hb d_MO_shiftRange_53 rfl (lv_at hl 4 rfl) ?_
      refine lv_iload_n hx hb d_MO_shiftRange_54 rfl (lv_at hl 5 rfl) ?_
      refine lv_iconst (v := 0) hx hb d_MO_shiftRange_55 (by decide) ?_
      refine fs_cS B hl.1 hP hS (k_MO_shifted hSt (M.2.1 5 (Int32.toNatClampNeg x1)) x2 x3 0 ) (fs_tb_at 1774 tw_1774 rfl) (fs_tb_at 1775 tw_1775 rfl) (fs_tb_at 96 tw_96 rfl) (fs_tb_at 1776 tw_1776 rfl) (by decide) (show (parseMethodDescriptor y_MO_shifted.desc).map (fun d => d.parameters.length) = some 4 by decide +kernel) rfl d_MO_shiftRange_56 ⟨Nat.le_of_ble_eq_true rfl, Nat.le_of_ble_eq_true rfl, Nat.le_of_ble_eq_true rfl, Nat.le_of_ble_eq_true rfl⟩ (fun v_ h_ H locs hq hP hS => ?_) (fun C_ a_ h_ H locs hq => absurd hq.1 (fun h9 => by cases h9))
      obtain ⟨ev, eh⟩ := hq
      cases ev
      rw [eh] at hP
      refine W.widen (k := 0) (n := 0) (Nat.le_of_ble_eq_true rfl) (Nat.le_of_ble_eq_true rfl) ?_
      refine W.eq (g2 := F0 m 59 ls (.int (p_MO_shifted (M.2.1 5 (Int32.toNatClampNeg x1)) x2 x3 0) :: .int x1 :: .ref (ad 5) :: [])) rfl ?_
      have hi_ : vp_in x1 3240 := (by     rw [vp_in_iff]; omega)
      refine fs_iast hx hb hK hP hS 0 (hM.2.1 5 0 3240 rfl) rfl hi_ d_MO_shiftRange_59 (fun H locs hP hS => ?_)
      obtain ⟨h309, hP, hM, hf⟩ : ∃ x, fs_P G.1 fs_cl (fs_A s00) x H ∧ mo_at G x a ad (mo_i (mo_i M 4 (Int32.toNatClampNeg x1) (p_MO_shifted (M.2.1 4 (Int32.toNatClampNeg x1)) x2 x3 0)) 5 (Int32.toNatClampNeg x1) (p_MO_shifted (M.2.1 5 (Int32.toNatClampNeg x1)) x2 x3 0)) ∧ mo_fr a ad h x := ⟨_, hP, hM.I (j := 5) (k := (Int32.toNatClampNeg x1)) (x := (p_MO_shifted (M.2.1 5 (Int32.toNatClampNeg x1)) x2 x3 0)) rfl (fun _ => rfl), hf.arr (j := 5) (by decide)⟩
      have e_ : p_MO_shiftRange M x1 x2 x3 = (mo_i (mo_i M 4 (Int32.toNatClampNeg x1) (p_MO_shifted (M.2.1 4 (Int32.toNatClampNeg x1)) x2 x3 0)) 5 (Int32.toNatClampNeg x1) (p_MO_shifted (M.2.1 5 (Int32.toNatClampNeg x1)) x2 x3 0)) := by rw [p_MO_shiftRange, if_pos c_273, if_neg c_276]
      exact fs_vret hx hb hr hlocks hw hP hS  (by omega) (by omega) (⟨rfl, by rw [e_]; exact hM, hf⟩) d_MO_shiftRange_60
