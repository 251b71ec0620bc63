/-! The reference: values of parts, checked. -/
abbrev b_MO_workReference : ByteArray := prog_14_method_41_code
def y_MO_workReference : MethodName := ⟨"FormulaSheetModel", "workReference", "(II)V"⟩
theorem d_MO_workReference_0 : decode b_MO_workReference 0 = .ok (.bipush 10, 2) := by decide +kernel
theorem d_MO_workReference_2 : decode b_MO_workReference 2 = .ok (.iload_n 1, 1) := by decide +kernel
theorem d_MO_workReference_3 : decode b_MO_workReference 3 = .ok (.invokestatic 200, 3) := by decide +kernel
theorem d_MO_workReference_6 : decode b_MO_workReference 6 = .ok (.imul, 1) := by decide +kernel
theorem d_MO_workReference_7 : decode b_MO_workReference 7 = .ok (.iload_n 1, 1) := by decide +kernel
theorem d_MO_workReference_8 : decode b_MO_workReference 8 = .ok (.invokestatic 209, 3) := by decide +kernel
theorem d_MO_workReference_11 : decode b_MO_workReference 11 = .ok (.iadd, 1) := by decide +kernel
theorem d_MO_workReference_12 : decode b_MO_workReference 12 = .ok (.istore_n 3, 1) := by decide +kernel
theorem d_MO_workReference_13 : decode b_MO_workReference 13 = .ok (.iload_n 1, 1) := by decide +kernel
theorem d_MO_workReference_14 : decode b_MO_workReference 14 = .ok (.invokestatic 215, 3) := by decide +kernel
theorem d_MO_workReference_17 : decode b_MO_workReference 17 = .ok (.ifCond .eq 13, 3) := by decide +kernel
theorem d_MO_workReference_20 : decode b_MO_workReference 20 = .ok (.aload_n 0, 1) := by decide +kernel
theorem d_MO_workReference_21 : decode b_MO_workReference 21 = .ok (.iload_n 2, 1) := by decide +kernel
theorem d_MO_workReference_22 : decode b_MO_workReference 22 = .ok (.dconst 0, 1) := by decide +kernel
theorem d_MO_workReference_23 : decode b_MO_workReference 23 = .ok (.iconst 1, 1) := by decide +kernel
theorem d_MO_workReference_24 : decode b_MO_workReference 24 = .ok (.invokevirtual 233, 3) := by decide +kernel
theorem d_MO_workReference_27 : decode b_MO_workReference 27 = .ok (.goto 50, 3) := by decide +kernel
theorem d_MO_workReference_30 : decode b_MO_workReference 30 = .ok (.aload_n 0, 1) := by decide +kernel
theorem d_MO_workReference_31 : decode b_MO_workReference 31 = .ok (.iload_n 2, 1) := by decide +kernel
theorem d_MO_workReference_32 : decode b_MO_workReference 32 = .ok (.aload_n 0, 1) := by decide +kernel
theorem d_MO_workReference_33 : decode b_MO_workReference 33 = .ok (.getfield 7, 3) := by decide +kernel
theorem d_MO_workReference_36 : decode b_MO_workReference 36 = .ok (.iload_n 3, 1) := by decide +kernel
theorem d_MO_workReference_37 : decode b_MO_workReference 37 = .ok (.iaload, 1) := by decide +kernel
theorem d_MO_workReference_38 : decode b_MO_workReference 38 = .ok (.ifCond .ne 7, 3) := by decide +kernel
theorem d_MO_workReference_41 : decode b_MO_workReference 41 = .ok (.dconst 0, 1) := by decide +kernel
theorem d_MO_workReference_42 : decode b_MO_workReference 42 = .ok (.goto 9, 3) := by decide +kernel
theorem d_MO_workReference_45 : decode b_MO_workReference 45 = .ok (.aload_n 0, 1) := by decide +kernel
theorem d_MO_workReference_46 : decode b_MO_workReference 46 = .ok (.getfield 59, 3) := by decide +kernel
theorem d_MO_workReference_49 : decode b_MO_workReference 49 = .ok (.iload_n 3, 1) := by decide +kernel
theorem d_MO_workReference_50 : decode b_MO_workReference 50 = .ok (.daload, 1) := by decide +kernel
theorem d_MO_workReference_51 : decode b_MO_workReference 51 = .ok (.aload_n 0, 1) := by decide +kernel
theorem d_MO_workReference_52 : decode b_MO_workReference 52 = .ok (.getfield 7, 3) := by decide +kernel
theorem d_MO_workReference_55 : decode b_MO_workReference 55 = .ok (.iload_n 3, 1) := by decide +kernel
theorem d_MO_workReference_56 : decode b_MO_workReference 56 = .ok (.iaload, 1) := by decide +kernel
theorem d_MO_workReference_57 : decode b_MO_workReference 57 = .ok (.ifCond .le 16, 3) := by decide +kernel
theorem d_MO_workReference_60 : decode b_MO_workReference 60 = .ok (.aload_n 0, 1) := by decide +kernel
theorem d_MO_workReference_61 : decode b_MO_workReference 61 = .ok (.getfield 62, 3) := by decide +kernel
theorem d_MO_workReference_64 : decode b_MO_workReference 64 = .ok (.iload_n 3, 1) := by decide +kernel
theorem d_MO_workReference_65 : decode b_MO_workReference 65 = .ok (.baload, 1) := by decide +kernel
theorem d_MO_workReference_66 : decode b_MO_workReference 66 = .ok (.ifCond .eq 7, 3) := by decide +kernel
theorem d_MO_workReference_69 : decode b_MO_workReference 69 = .ok (.iconst 1, 1) := by decide +kernel
theorem d_MO_workReference_70 : decode b_MO_workReference 70 = .ok (.goto 4, 3) := by decide +kernel
theorem d_MO_workReference_73 : decode b_MO_workReference 73 = .ok (.iconst 0, 1) := by decide +kernel
theorem d_MO_workReference_74 : decode b_MO_workReference 74 = .ok (.invokevirtual 233, 3) := by decide +kernel
theorem d_MO_workReference_77 : decode b_MO_workReference 77 = .ok (.return_, 1) := by decide +kernel
abbrev b_MO_workRange : ByteArray := prog_14_method_40_code
def y_MO_workRange : MethodName := ⟨"FormulaSheetModel", "workRange", "(IIII)V"⟩
theorem d_MO_workRange_0 : decode b_MO_workRange 0 = .ok (.iload_n 2, 1) := by decide +kernel
theorem d_MO_workRange_1 : decode b_MO_workRange 1 = .ok (.invokestatic 215, 3) := by decide +kernel
theorem d_MO_workRange_4 : decode b_MO_workRange 4 = .ok (.ifCond .ne 10, 3) := by decide +kernel
theorem d_MO_workRange_7 : decode b_MO_workRange 7 = .ok (.iload_n 3, 1) := by decide +kernel
theorem d_MO_workRange_8 : decode b_MO_workRange 8 = .ok (.invokestatic 215, 3) := by decide +kernel
theorem d_MO_workRange_11 : decode b_MO_workRange 11 = .ok (.ifCond .eq 7, 3) := by decide +kernel
theorem d_MO_workRange_14 : decode b_MO_workRange 14 = .ok (.iconst 1, 1) := by decide +kernel
theorem d_MO_workRange_15 : decode b_MO_workRange 15 = .ok (.goto 4, 3) := by decide +kernel
theorem d_MO_workRange_18 : decode b_MO_workRange 18 = .ok (.iconst 0, 1) := by decide +kernel
theorem d_MO_workRange_19 : decode b_MO_workRange 19 = .ok (.istore 5, 2) := by decide +kernel
theorem d_MO_workRange_21 : decode b_MO_workRange 21 = .ok (.iconst 0, 1) := by decide +kernel
theorem d_MO_workRange_22 : decode b_MO_workRange 22 = .ok (.istore 6, 2) := by decide +kernel
theorem d_MO_workRange_24 : decode b_MO_workRange 24 = .ok (.dconst 0, 1) := by decide +kernel
theorem d_MO_workRange_25 : decode b_MO_workRange 25 = .ok (.dstore 7, 2) := by decide +kernel
theorem d_MO_workRange_27 : decode b_MO_workRange 27 = .ok (.dconst 0, 1) := by decide +kernel
theorem d_MO_workRange_28 : decode b_MO_workRange 28 = .ok (.dstore 9, 2) := by decide +kernel
theorem d_MO_workRange_30 : decode b_MO_workRange 30 = .ok (.iconst 0, 1) := by decide +kernel
theorem d_MO_workRange_31 : decode b_MO_workRange 31 = .ok (.istore 11, 2) := by decide +kernel
theorem d_MO_workRange_33 : decode b_MO_workRange 33 = .ok (.iload_n 2, 1) := by decide +kernel
theorem d_MO_workRange_34 : decode b_MO_workRange 34 = .ok (.invokestatic 200, 3) := by decide +kernel
theorem d_MO_workRange_37 : decode b_MO_workRange 37 = .ok (.iload_n 3, 1) := by decide +kernel
theorem d_MO_workRange_38 : decode b_MO_workRange 38 = .ok (.invokestatic 200, 3) := by decide +kernel
theorem d_MO_workRange_41 : decode b_MO_workRange 41 = .ok (.invokestatic 203, 3) := by decide +kernel
theorem d_MO_workRange_44 : decode b_MO_workRange 44 = .ok (.istore 12, 2) := by decide +kernel
theorem d_MO_workRange_46 : decode b_MO_workRange 46 = .ok (.iload 12, 2) := by decide +kernel
theorem d_MO_workRange_48 : decode b_MO_workRange 48 = .ok (.iload_n 2, 1) := by decide +kernel
theorem d_MO_workRange_49 : decode b_MO_workRange 49 = .ok (.invokestatic 200, 3) := by decide +kernel
theorem d_MO_workRange_52 : decode b_MO_workRange 52 = .ok (.iload_n 3, 1) := by decide +kernel
theorem d_MO_workRange_53 : decode b_MO_workRange 53 = .ok (.invokestatic 200, 3) := by decide +kernel
theorem d_MO_workRange_56 : decode b_MO_workRange 56 = .ok (.invokestatic 206, 3) := by decide +kernel
theorem d_MO_workRange_59 : decode b_MO_workRange 59 = .ok (.if_icmp .gt 170, 3) := by decide +kernel
theorem d_MO_workRange_62 : decode b_MO_workRange 62 = .ok (.iload_n 2, 1) := by decide +kernel
theorem d_MO_workRange_63 : decode b_MO_workRange 63 = .ok (.invokestatic 209, 3) := by decide +kernel
theorem d_MO_workRange_66 : decode b_MO_workRange 66 = .ok (.iload_n 3, 1) := by decide +kernel
theorem d_MO_workRange_67 : decode b_MO_workRange 67 = .ok (.invokestatic 209, 3) := by decide +kernel
theorem d_MO_workRange_70 : decode b_MO_workRange 70 = .ok (.invokestatic 203, 3) := by decide +kernel
theorem d_MO_workRange_73 : decode b_MO_workRange 73 = .ok (.istore 13, 2) := by decide +kernel
theorem d_MO_workRange_75 : decode b_MO_workRange 75 = .ok (.iload 13, 2) := by decide +kernel
theorem d_MO_workRange_77 : decode b_MO_workRange 77 = .ok (.iload_n 2, 1) := by decide +kernel
theorem d_MO_workRange_78 : decode b_MO_workRange 78 = .ok (.invokestatic 209, 3) := by decide +kernel
theorem d_MO_workRange_81 : decode b_MO_workRange 81 = .ok (.iload_n 3, 1) := by decide +kernel
theorem d_MO_workRange_82 : decode b_MO_workRange 82 = .ok (.invokestatic 209, 3) := by decide +kernel
theorem d_MO_workRange_85 : decode b_MO_workRange 85 = .ok (.invokestatic 206, 3) := by decide +kernel
theorem d_MO_workRange_88 : decode b_MO_workRange 88 = .ok (.if_icmp .gt 135, 3) := by decide +kernel
theorem d_MO_workRange_91 : decode b_MO_workRange 91 = .ok (.bipush 10, 2) := by decide +kernel
theorem d_MO_workRange_93 : decode b_MO_workRange 93 = .ok (.iload 12, 2) := by decide +kernel
theorem d_MO_workRange_95 : decode b_MO_workRange 95 = .ok (.imul, 1) := by decide +kernel
theorem d_MO_workRange_96 : decode b_MO_workRange 96 = .ok (.iload 13, 2) := by decide +kernel
theorem d_MO_workRange_98 : decode b_MO_workRange 98 = .ok (.iadd, 1) := by decide +kernel
theorem d_MO_workRange_99 : decode b_MO_workRange 99 = .ok (.istore 14, 2) := by decide +kernel
theorem d_MO_workRange_101 : decode b_MO_workRange 101 = .ok (.aload_n 0, 1) := by decide +kernel
theorem d_MO_workRange_102 : decode b_MO_workRange 102 = .ok (.getfield 7, 3) := by decide +kernel
theorem d_MO_workRange_105 : decode b_MO_workRange 105 = .ok (.iload 14, 2) := by decide +kernel
theorem d_MO_workRange_107 : decode b_MO_workRange 107 = .ok (.iaload, 1) := by decide +kernel
theorem d_MO_workRange_108 : decode b_MO_workRange 108 = .ok (.ifCond .eq 109, 3) := by decide +kernel
theorem d_MO_workRange_111 : decode b_MO_workRange 111 = .ok (.iload 5, 2) := by decide +kernel
theorem d_MO_workRange_113 : decode b_MO_workRange 113 = .ok (.ifCond .eq 6, 3) := by decide +kernel
theorem d_MO_workRange_116 : decode b_MO_workRange 116 = .ok (.goto 101, 3) := by decide +kernel
theorem d_MO_workRange_119 : decode b_MO_workRange 119 = .ok (.aload_n 0, 1) := by decide +kernel
theorem d_MO_workRange_120 : decode b_MO_workRange 120 = .ok (.getfield 62, 3) := by decide +kernel
theorem d_MO_workRange_123 : decode b_MO_workRange 123 = .ok (.iload 14, 2) := by decide +kernel
theorem d_MO_workRange_125 : decode b_MO_workRange 125 = .ok (.baload, 1) := by decide +kernel
theorem d_MO_workRange_126 : decode b_MO_workRange 126 = .ok (.ifCond .eq 6, 3) := by decide +kernel
theorem d_MO_workRange_129 : decode b_MO_workRange 129 = .ok (.iconst 1, 1) := by decide +kernel
theorem d_MO_workRange_130 : decode b_MO_workRange 130 = .ok (.istore 6, 2) := by decide +kernel
theorem d_MO_workRange_132 : decode b_MO_workRange 132 = .ok (.iload 11, 2) := by decide +kernel
theorem d_MO_workRange_134 : decode b_MO_workRange 134 = .ok (.ifCond .eq 37, 3) := by decide +kernel
theorem d_MO_workRange_137 : decode b_MO_workRange 137 = .ok (.iload_n 1, 1) := by decide +kernel
theorem d_MO_workRange_138 : decode b_MO_workRange 138 = .ok (.iconst 3, 1) := by decide +kernel
theorem d_MO_workRange_139 : decode b_MO_workRange 139 = .ok (.if_icmp .ne 19, 3) := by decide +kernel
theorem d_MO_workRange_142 : decode b_MO_workRange 142 = .ok (.aload_n 0, 1) := by decide +kernel
theorem d_MO_workRange_143 : decode b_MO_workRange 143 = .ok (.getfield 59, 3) := by decide +kernel
theorem d_MO_workRange_146 : decode b_MO_workRange 146 = .ok (.iload 14, 2) := by decide +kernel
theorem d_MO_workRange_148 : decode b_MO_workRange 148 = .ok (.daload, 1) := by decide +kernel
theorem d_MO_workRange_149 : decode b_MO_workRange 149 = .ok (.dload 9, 2) := by decide +kernel
theorem d_MO_workRange_151 : decode b_MO_workRange 151 = .ok (.dcmp .g, 1) := by decide +kernel
theorem d_MO_workRange_152 : decode b_MO_workRange 152 = .ok (.ifCond .ge 28, 3) := by decide +kernel
theorem d_MO_workRange_155 : decode b_MO_workRange 155 = .ok (.goto 16, 3) := by decide +kernel
theorem d_MO_workRange_158 : decode b_MO_workRange 158 = .ok (.aload_n 0, 1) := by decide +kernel
theorem d_MO_workRange_159 : decode b_MO_workRange 159 = .ok (.getfield 59, 3) := by decide +kernel
theorem d_MO_workRange_162 : decode b_MO_workRange 162 = .ok (.iload 14, 2) := by decide +kernel
theorem d_MO_workRange_164 : decode b_MO_workRange 164 = .ok (.daload, 1) := by decide +kernel
theorem d_MO_workRange_165 : decode b_MO_workRange 165 = .ok (.dload 9, 2) := by decide +kernel
theorem d_MO_workRange_167 : decode b_MO_workRange 167 = .ok (.dcmp .l, 1) := by decide +kernel
theorem d_MO_workRange_168 : decode b_MO_workRange 168 = .ok (.ifCond .le 12, 3) := by decide +kernel
theorem d_MO_workRange_171 : decode b_MO_workRange 171 = .ok (.aload_n 0, 1) := by decide +kernel
theorem d_MO_workRange_172 : decode b_MO_workRange 172 = .ok (.getfield 59, 3) := by decide +kernel
theorem d_MO_workRange_175 : decode b_MO_workRange 175 = .ok (.iload 14, 2) := by decide +kernel
theorem d_MO_workRange_177 : decode b_MO_workRange 177 = .ok (.daload, 1) := by decide +kernel
theorem d_MO_workRange_178 : decode b_MO_workRange 178 = .ok (.dstore 9, 2) := by decide +kernel
theorem d_MO_workRange_180 : decode b_MO_workRange 180 = .ok (.dload 7, 2) := by decide +kernel
theorem d_MO_workRange_182 : decode b_MO_workRange 182 = .ok (.aload_n 0, 1) := by decide +kernel
theorem d_MO_workRange_183 : decode b_MO_workRange 183 = .ok (.getfield 59, 3) := by decide +kernel
theorem d_MO_workRange_186 : decode b_MO_workRange 186 = .ok (.iload 14, 2) := by decide +kernel
theorem d_MO_workRange_188 : decode b_MO_workRange 188 = .ok (.daload, 1) := by decide +kernel
theorem d_MO_workRange_189 : decode b_MO_workRange 189 = .ok (.dadd, 1) := by decide +kernel
theorem d_MO_workRange_190 : decode b_MO_workRange 190 = .ok (.dstore 7, 2) := by decide +kernel
theorem d_MO_workRange_192 : decode b_MO_workRange 192 = .ok (.dload 7, 2) := by decide +kernel
theorem d_MO_workRange_194 : decode b_MO_workRange 194 = .ok (.invokestatic 229, 3) := by decide +kernel
theorem d_MO_workRange_197 : decode b_MO_workRange 197 = .ok (.ifCond .eq 17, 3) := by decide +kernel
theorem d_MO_workRange_200 : decode b_MO_workRange 200 = .ok (.iload_n 1, 1) := by decide +kernel
theorem d_MO_workRange_201 : decode b_MO_workRange 201 = .ok (.iconst 2, 1) := by decide +kernel
theorem d_MO_workRange_202 : decode b_MO_workRange 202 = .ok (.if_icmp .eq 9, 3) := by decide +kernel
theorem d_MO_workRange_205 : decode b_MO_workRange 205 = .ok (.iload_n 1, 1) := by decide +kernel
theorem d_MO_workRange_206 : decode b_MO_workRange 206 = .ok (.bipush 6, 2) := by decide +kernel
theorem d_MO_workRange_208 : decode b_MO_workRange 208 = .ok (.if_icmp .ne 6, 3) := by decide +kernel
theorem d_MO_workRange_211 : decode b_MO_workRange 211 = .ok (.iconst 1, 1) := by decide +kernel
theorem d_MO_workRange_212 : decode b_MO_workRange 212 = .ok (.istore 6, 2) := by decide +kernel
theorem d_MO_workRange_214 : decode b_MO_workRange 214 = .ok (.iinc 11 1, 3) := by decide +kernel
theorem d_MO_workRange_217 : decode b_MO_workRange 217 = .ok (.iinc 13 1, 3) := by decide +kernel
theorem d_MO_workRange_220 : decode b_MO_workRange 220 = .ok (.goto (-145), 3) := by decide +kernel
theorem d_MO_workRange_223 : decode b_MO_workRange 223 = .ok (.iinc 12 1, 3) := by decide +kernel
theorem d_MO_workRange_226 : decode b_MO_workRange 226 = .ok (.goto (-180), 3) := by decide +kernel
theorem d_MO_workRange_229 : decode b_MO_workRange 229 = .ok (.iload_n 1, 1) := by decide +kernel
theorem d_MO_workRange_230 : decode b_MO_workRange 230 = .ok (.iconst 5, 1) := by decide +kernel
theorem d_MO_workRange_231 : decode b_MO_workRange 231 = .ok (.if_icmp .ne 17, 3) := by decide +kernel
theorem d_MO_workRange_234 : decode b_MO_workRange 234 = .ok (.aload_n 0, 1) := by decide +kernel
theorem d_MO_workRange_235 : decode b_MO_workRange 235 = .ok (.iload 4, 2) := by decide +kernel
theorem d_MO_workRange_237 : decode b_MO_workRange 237 = .ok (.iload 11, 2) := by decide +kernel
theorem d_MO_workRange_239 : decode b_MO_workRange 239 = .ok (.i2d, 1) := by decide +kernel
theorem d_MO_workRange_240 : decode b_MO_workRange 240 = .ok (.iload 5, 2) := by decide +kernel
theorem d_MO_workRange_242 : decode b_MO_workRange 242 = .ok (.invokevirtual 233, 3) := by decide +kernel
theorem d_MO_workRange_245 : decode b_MO_workRange 245 = .ok (.goto 112, 3) := by decide +kernel
theorem d_MO_workRange_248 : decode b_MO_workRange 248 = .ok (.iload_n 1, 1) := by decide +kernel
theorem d_MO_workRange_249 : decode b_MO_workRange 249 = .ok (.iconst 2, 1) := by decide +kernel
theorem d_MO_workRange_250 : decode b_MO_workRange 250 = .ok (.if_icmp .ne 29, 3) := by decide +kernel
theorem d_MO_workRange_253 : decode b_MO_workRange 253 = .ok (.aload_n 0, 1) := by decide +kernel
theorem d_MO_workRange_254 : decode b_MO_workRange 254 = .ok (.iload 4, 2) := by decide +kernel
theorem d_MO_workRange_256 : decode b_MO_workRange 256 = .ok (.dload 7, 2) := by decide +kernel
theorem d_MO_workRange_258 : decode b_MO_workRange 258 = .ok (.iload 5, 2) := by decide +kernel
theorem d_MO_workRange_260 : decode b_MO_workRange 260 = .ok (.ifCond .ne 8, 3) := by decide +kernel
theorem d_MO_workRange_263 : decode b_MO_workRange 263 = .ok (.iload 6, 2) := by decide +kernel
theorem d_MO_workRange_265 : decode b_MO_workRange 265 = .ok (.ifCond .eq 7, 3) := by decide +kernel
theorem d_MO_workRange_268 : decode b_MO_workRange 268 = .ok (.iconst 1, 1) := by decide +kernel
theorem d_MO_workRange_269 : decode b_MO_workRange 269 = .ok (.goto 4, 3) := by decide +kernel
theorem d_MO_workRange_272 : decode b_MO_workRange 272 = .ok (.iconst 0, 1) := by decide +kernel
theorem d_MO_workRange_273 : decode b_MO_workRange 273 = .ok (.invokevirtual 233, 3) := by decide +kernel
theorem d_MO_workRange_276 : decode b_MO_workRange 276 = .ok (.goto 81, 3) := by decide +kernel
theorem d_MO_workRange_279 : decode b_MO_workRange 279 = .ok (.iload_n 1, 1) := by decide +kernel
theorem d_MO_workRange_280 : decode b_MO_workRange 280 = .ok (.bipush 6, 2) := by decide +kernel
theorem d_MO_workRange_282 : decode b_MO_workRange 282 = .ok (.if_icmp .ne 47, 3) := by decide +kernel
theorem d_MO_workRange_285 : decode b_MO_workRange 285 = .ok (.aload_n 0, 1) := by decide +kernel
theorem d_MO_workRange_286 : decode b_MO_workRange 286 = .ok (.iload 4, 2) := by decide +kernel
theorem d_MO_workRange_288 : decode b_MO_workRange 288 = .ok (.iload 11, 2) := by decide +kernel
theorem d_MO_workRange_290 : decode b_MO_workRange 290 = .ok (.ifCond .ne 7, 3) := by decide +kernel
theorem d_MO_workRange_293 : decode b_MO_workRange 293 = .ok (.dconst 0, 1) := by decide +kernel
theorem d_MO_workRange_294 : decode b_MO_workRange 294 = .ok (.goto 9, 3) := by decide +kernel
theorem d_MO_workRange_297 : decode b_MO_workRange 297 = .ok (.dload 7, 2) := by decide +kernel
theorem d_MO_workRange_299 : decode b_MO_workRange 299 = .ok (.iload 11, 2) := by decide +kernel
theorem d_MO_workRange_301 : decode b_MO_workRange 301 = .ok (.i2d, 1) := by decide +kernel
theorem d_MO_workRange_302 : decode b_MO_workRange 302 = .ok (.ddiv, 1) := by decide +kernel
theorem d_MO_workRange_303 : decode b_MO_workRange 303 = .ok (.iload 5, 2) := by decide +kernel
theorem d_MO_workRange_305 : decode b_MO_workRange 305 = .ok (.ifCond .ne 13, 3) := by decide +kernel
theorem d_MO_workRange_308 : decode b_MO_workRange 308 = .ok (.iload 6, 2) := by decide +kernel
theorem d_MO_workRange_310 : decode b_MO_workRange 310 = .ok (.ifCond .ne 8, 3) := by decide +kernel
theorem d_MO_workRange_313 : decode b_MO_workRange 313 = .ok (.iload 11, 2) := by decide +kernel
theorem d_MO_workRange_315 : decode b_MO_workRange 315 = .ok (.ifCond .ne 7, 3) := by decide +kernel
theorem d_MO_workRange_318 : decode b_MO_workRange 318 = .ok (.iconst 1, 1) := by decide +kernel
theorem d_MO_workRange_319 : decode b_MO_workRange 319 = .ok (.goto 4, 3) := by decide +kernel
theorem d_MO_workRange_322 : decode b_MO_workRange 322 = .ok (.iconst 0, 1) := by decide +kernel
theorem d_MO_workRange_323 : decode b_MO_workRange 323 = .ok (.invokevirtual 233, 3) := by decide +kernel
theorem d_MO_workRange_326 : decode b_MO_workRange 326 = .ok (.goto 31, 3) := by decide +kernel
theorem d_MO_workRange_329 : decode b_MO_workRange 329 = .ok (.aload_n 0, 1) := by decide +kernel
theorem d_MO_workRange_330 : decode b_MO_workRange 330 = .ok (.iload 4, 2) := by decide +kernel
theorem d_MO_workRange_332 : decode b_MO_workRange 332 = .ok (.dload 9, 2) := by decide +kernel
theorem d_MO_workRange_334 : decode b_MO_workRange 334 = .ok (.iload 5, 2) := by decide +kernel
theorem d_MO_workRange_336 : decode b_MO_workRange 336 = .ok (.ifCond .ne 13, 3) := by decide +kernel
theorem d_MO_workRange_339 : decode b_MO_workRange 339 = .ok (.iload 6, 2) := by decide +kernel
theorem d_MO_workRange_341 : decode b_MO_workRange 341 = .ok (.ifCond .ne 8, 3) := by decide +kernel
theorem d_MO_workRange_344 : decode b_MO_workRange 344 = .ok (.iload 11, 2) := by decide +kernel
theorem d_MO_workRange_346 : decode b_MO_workRange 346 = .ok (.ifCond .ne 7, 3) := by decide +kernel
theorem d_MO_workRange_349 : decode b_MO_workRange 349 = .ok (.iconst 1, 1) := by decide +kernel
theorem d_MO_workRange_350 : decode b_MO_workRange 350 = .ok (.goto 4, 3) := by decide +kernel
theorem d_MO_workRange_353 : decode b_MO_workRange 353 = .ok (.iconst 0, 1) := by decide +kernel
theorem d_MO_workRange_354 : decode b_MO_workRange 354 = .ok (.invokevirtual 233, 3) := by decide +kernel
theorem d_MO_workRange_357 : decode b_MO_workRange 357 = .ok (.return_, 1) := by decide +kernel
abbrev b_MO_workPair : ByteArray := prog_14_method_43_code
def y_MO_workPair : MethodName := ⟨"FormulaSheetModel", "workPair", "(II)V"⟩
theorem d_MO_workPair_0 : decode b_MO_workPair 0 = .ok (.aload_n 0, 1) := by decide +kernel
theorem d_MO_workPair_1 : decode b_MO_workPair 1 = .ok (.getfield 69, 3) := by decide +kernel
theorem d_MO_workPair_4 : decode b_MO_workPair 4 = .ok (.iload_n 2, 1) := by decide +kernel
theorem d_MO_workPair_5 : decode b_MO_workPair 5 = .ok (.daload, 1) := by decide +kernel
theorem d_MO_workPair_6 : decode b_MO_workPair 6 = .ok (.dstore_n 3, 1) := by decide +kernel
theorem d_MO_workPair_7 : decode b_MO_workPair 7 = .ok (.aload_n 0, 1) := by decide +kernel
theorem d_MO_workPair_8 : decode b_MO_workPair 8 = .ok (.getfield 69, 3) := by decide +kernel
theorem d_MO_workPair_11 : decode b_MO_workPair 11 = .ok (.iload_n 2, 1) := by decide +kernel
theorem d_MO_workPair_12 : decode b_MO_workPair 12 = .ok (.iconst 1, 1) := by decide +kernel
theorem d_MO_workPair_13 : decode b_MO_workPair 13 = .ok (.iadd, 1) := by decide +kernel
theorem d_MO_workPair_14 : decode b_MO_workPair 14 = .ok (.daload, 1) := by decide +kernel
theorem d_MO_workPair_15 : decode b_MO_workPair 15 = .ok (.dstore 5, 2) := by decide +kernel
theorem d_MO_workPair_17 : decode b_MO_workPair 17 = .ok (.aload_n 0, 1) := by decide +kernel
theorem d_MO_workPair_18 : decode b_MO_workPair 18 = .ok (.getfield 72, 3) := by decide +kernel
theorem d_MO_workPair_21 : decode b_MO_workPair 21 = .ok (.iload_n 2, 1) := by decide +kernel
theorem d_MO_workPair_22 : decode b_MO_workPair 22 = .ok (.baload, 1) := by decide +kernel
theorem d_MO_workPair_23 : decode b_MO_workPair 23 = .ok (.ifCond .ne 14, 3) := by decide +kernel
theorem d_MO_workPair_26 : decode b_MO_workPair 26 = .ok (.aload_n 0, 1) := by decide +kernel
theorem d_MO_workPair_27 : decode b_MO_workPair 27 = .ok (.getfield 72, 3) := by decide +kernel
theorem d_MO_workPair_30 : decode b_MO_workPair 30 = .ok (.iload_n 2, 1) := by decide +kernel
theorem d_MO_workPair_31 : decode b_MO_workPair 31 = .ok (.iconst 1, 1) := by decide +kernel
theorem d_MO_workPair_32 : decode b_MO_workPair 32 = .ok (.iadd, 1) := by decide +kernel
theorem d_MO_workPair_33 : decode b_MO_workPair 33 = .ok (.baload, 1) := by decide +kernel
theorem d_MO_workPair_34 : decode b_MO_workPair 34 = .ok (.ifCond .eq 7, 3) := by decide +kernel
theorem d_MO_workPair_37 : decode b_MO_workPair 37 = .ok (.iconst 1, 1) := by decide +kernel
theorem d_MO_workPair_38 : decode b_MO_workPair 38 = .ok (.goto 4, 3) := by decide +kernel
theorem d_MO_workPair_41 : decode b_MO_workPair 41 = .ok (.iconst 0, 1) := by decide +kernel
theorem d_MO_workPair_42 : decode b_MO_workPair 42 = .ok (.istore 7, 2) := by decide +kernel
theorem d_MO_workPair_44 : decode b_MO_workPair 44 = .ok (.dconst 0, 1) := by decide +kernel
theorem d_MO_workPair_45 : decode b_MO_workPair 45 = .ok (.dstore 8, 2) := by decide +kernel
theorem d_MO_workPair_47 : decode b_MO_workPair 47 = .ok (.iload_n 1, 1) := by decide +kernel
theorem d_MO_workPair_48 : decode b_MO_workPair 48 = .ok (.tableswitch 283 35 62 #[197, 283, 283, 257, 283, 283, 283, 146, 128, 283, 137, 283, 155, 283, 283, 283, 283, 283, 283, 283, 283, 283, 283, 283, 283, 217, 177, 237], 128) := by decide +kernel
theorem d_MO_workPair_176 : decode b_MO_workPair 176 = .ok (.dload_n 3, 1) := by decide +kernel
theorem d_MO_workPair_177 : decode b_MO_workPair 177 = .ok (.dload 5, 2) := by decide +kernel
theorem d_MO_workPair_179 : decode b_MO_workPair 179 = .ok (.dadd, 1) := by decide +kernel
theorem d_MO_workPair_180 : decode b_MO_workPair 180 = .ok (.dstore 8, 2) := by decide +kernel
theorem d_MO_workPair_182 : decode b_MO_workPair 182 = .ok (.goto 172, 3) := by decide +kernel
theorem d_MO_workPair_185 : decode b_MO_workPair 185 = .ok (.dload_n 3, 1) := by decide +kernel
theorem d_MO_workPair_186 : decode b_MO_workPair 186 = .ok (.dload 5, 2) := by decide +kernel
theorem d_MO_workPair_188 : decode b_MO_workPair 188 = .ok (.dsub, 1) := by decide +kernel
theorem d_MO_workPair_189 : decode b_MO_workPair 189 = .ok (.dstore 8, 2) := by decide +kernel
theorem d_MO_workPair_191 : decode b_MO_workPair 191 = .ok (.goto 163, 3) := by decide +kernel
theorem d_MO_workPair_194 : decode b_MO_workPair 194 = .ok (.dload_n 3, 1) := by decide +kernel
theorem d_MO_workPair_195 : decode b_MO_workPair 195 = .ok (.dload 5, 2) := by decide +kernel
theorem d_MO_workPair_197 : decode b_MO_workPair 197 = .ok (.dmul, 1) := by decide +kernel
theorem d_MO_workPair_198 : decode b_MO_workPair 198 = .ok (.dstore 8, 2) := by decide +kernel
theorem d_MO_workPair_200 : decode b_MO_workPair 200 = .ok (.goto 154, 3) := by decide +kernel
theorem d_MO_workPair_203 : decode b_MO_workPair 203 = .ok (.dload 5, 2) := by decide +kernel
theorem d_MO_workPair_205 : decode b_MO_workPair 205 = .ok (.dconst 0, 1) := by decide +kernel
theorem d_MO_workPair_206 : decode b_MO_workPair 206 = .ok (.dcmp .l, 1) := by decide +kernel
theorem d_MO_workPair_207 : decode b_MO_workPair 207 = .ok (.ifCond .ne 9, 3) := by decide +kernel
theorem d_MO_workPair_210 : decode b_MO_workPair 210 = .ok (.iconst 1, 1) := by decide +kernel
theorem d_MO_workPair_211 : decode b_MO_workPair 211 = .ok (.istore 7, 2) := by decide +kernel
theorem d_MO_workPair_213 : decode b_MO_workPair 213 = .ok (.goto 141, 3) := by decide +kernel
theorem d_MO_workPair_216 : decode b_MO_workPair 216 = .ok (.dload_n 3, 1) := by decide +kernel
theorem d_MO_workPair_217 : decode b_MO_workPair 217 = .ok (.dload 5, 2) := by decide +kernel
theorem d_MO_workPair_219 : decode b_MO_workPair 219 = .ok (.ddiv, 1) := by decide +kernel
theorem d_MO_workPair_220 : decode b_MO_workPair 220 = .ok (.dstore 8, 2) := by decide +kernel
theorem d_MO_workPair_222 : decode b_MO_workPair 222 = .ok (.goto 132, 3) := by decide +kernel
theorem d_MO_workPair_225 : decode b_MO_workPair 225 = .ok (.dload_n 3, 1) := by decide +kernel
theorem d_MO_workPair_226 : decode b_MO_workPair 226 = .ok (.dload 5, 2) := by decide +kernel
theorem d_MO_workPair_228 : decode b_MO_workPair 228 = .ok (.dcmp .l, 1) := by decide +kernel
theorem d_MO_workPair_229 : decode b_MO_workPair 229 = .ok (.ifCond .ne 7, 3) := by decide +kernel
theorem d_MO_workPair_232 : decode b_MO_workPair 232 = .ok (.iconst 1, 1) := by decide +kernel
theorem d_MO_workPair_233 : decode b_MO_workPair 233 = .ok (.goto 4, 3) := by decide +kernel
theorem d_MO_workPair_236 : decode b_MO_workPair 236 = .ok (.iconst 0, 1) := by decide +kernel
theorem d_MO_workPair_237 : decode b_MO_workPair 237 = .ok (.invokestatic 237, 3) := by decide +kernel
theorem d_MO_workPair_240 : decode b_MO_workPair 240 = .ok (.dstore 8, 2) := by decide +kernel
theorem d_MO_workPair_242 : decode b_MO_workPair 242 = .ok (.goto 112, 3) := by decide +kernel
theorem d_MO_workPair_245 : decode b_MO_workPair 245 = .ok (.dload_n 3, 1) := by decide +kernel
theorem d_MO_workPair_246 : decode b_MO_workPair 246 = .ok (.dload 5, 2) := by decide +kernel
theorem d_MO_workPair_248 : decode b_MO_workPair 248 = .ok (.dcmp .l, 1) := by decide +kernel
theorem d_MO_workPair_249 : decode b_MO_workPair 249 = .ok (.ifCond .eq 7, 3) := by decide +kernel
theorem d_MO_workPair_252 : decode b_MO_workPair 252 = .ok (.iconst 1, 1) := by decide +kernel
theorem d_MO_workPair_253 : decode b_MO_workPair 253 = .ok (.goto 4, 3) := by decide +kernel
theorem d_MO_workPair_256 : decode b_MO_workPair 256 = .ok (.iconst 0, 1) := by decide +kernel
theorem d_MO_workPair_257 : decode b_MO_workPair 257 = .ok (.invokestatic 237, 3) := by decide +kernel
theorem d_MO_workPair_260 : decode b_MO_workPair 260 = .ok (.dstore 8, 2) := by decide +kernel
theorem d_MO_workPair_262 : decode b_MO_workPair 262 = .ok (.goto 92, 3) := by decide +kernel
theorem d_MO_workPair_265 : decode b_MO_workPair 265 = .ok (.dload_n 3, 1) := by decide +kernel
theorem d_MO_workPair_266 : decode b_MO_workPair 266 = .ok (.dload 5, 2) := by decide +kernel
theorem d_MO_workPair_268 : decode b_MO_workPair 268 = .ok (.dcmp .g, 1) := by decide +kernel
theorem d_MO_workPair_269 : decode b_MO_workPair 269 = .ok (.ifCond .ge 7, 3) := by decide +kernel
theorem d_MO_workPair_272 : decode b_MO_workPair 272 = .ok (.iconst 1, 1) := by decide +kernel
theorem d_MO_workPair_273 : decode b_MO_workPair 273 = .ok (.goto 4, 3) := by decide +kernel
theorem d_MO_workPair_276 : decode b_MO_workPair 276 = .ok (.iconst 0, 1) := by decide +kernel
theorem d_MO_workPair_277 : decode b_MO_workPair 277 = .ok (.invokestatic 237, 3) := by decide +kernel
theorem d_MO_workPair_280 : decode b_MO_workPair 280 = .ok (.dstore 8, 2) := by decide +kernel
theorem d_MO_workPair_282 : decode b_MO_workPair 282 = .ok (.goto 72, 3) := by decide +kernel
theorem d_MO_workPair_285 : decode b_MO_workPair 285 = .ok (.dload_n 3, 1) := by decide +kernel
theorem d_MO_workPair_286 : decode b_MO_workPair 286 = .ok (.dload 5, 2) := by decide +kernel
theorem d_MO_workPair_288 : decode b_MO_workPair 288 = .ok (.dcmp .l, 1) := by decide +kernel
theorem d_MO_workPair_289 : decode b_MO_workPair 289 = .ok (.ifCond .le 7, 3) := by decide +kernel
theorem d_MO_workPair_292 : decode b_MO_workPair 292 = .ok (.iconst 1, 1) := by decide +kernel
theorem d_MO_workPair_293 : decode b_MO_workPair 293 = .ok (.goto 4, 3) := by decide +kernel
theorem d_MO_workPair_296 : decode b_MO_workPair 296 = .ok (.iconst 0, 1) := by decide +kernel
theorem d_MO_workPair_297 : decode b_MO_workPair 297 = .ok (.invokestatic 237, 3) := by decide +kernel
theorem d_MO_workPair_300 : decode b_MO_workPair 300 = .ok (.dstore 8, 2) := by decide +kernel
theorem d_MO_workPair_302 : decode b_MO_workPair 302 = .ok (.goto 52, 3) := by decide +kernel
theorem d_MO_workPair_305 : decode b_MO_workPair 305 = .ok (.dload_n 3, 1) := by decide +kernel
theorem d_MO_workPair_306 : decode b_MO_workPair 306 = .ok (.dconst 0, 1) := by decide +kernel
theorem d_MO_workPair_307 : decode b_MO_workPair 307 = .ok (.dcmp .l, 1) := by decide +kernel
theorem d_MO_workPair_308 : decode b_MO_workPair 308 = .ok (.ifCond .eq 14, 3) := by decide +kernel
theorem d_MO_workPair_311 : decode b_MO_workPair 311 = .ok (.dload 5, 2) := by decide +kernel
theorem d_MO_workPair_313 : decode b_MO_workPair 313 = .ok (.dconst 0, 1) := by decide +kernel
theorem d_MO_workPair_314 : decode b_MO_workPair 314 = .ok (.dcmp .l, 1) := by decide +kernel
theorem d_MO_workPair_315 : decode b_MO_workPair 315 = .ok (.ifCond .eq 7, 3) := by decide +kernel
theorem d_MO_workPair_318 : decode b_MO_workPair 318 = .ok (.iconst 1, 1) := by decide +kernel
theorem d_MO_workPair_319 : decode b_MO_workPair 319 = .ok (.goto 4, 3) := by decide +kernel
theorem d_MO_workPair_322 : decode b_MO_workPair 322 = .ok (.iconst 0, 1) := by decide +kernel
theorem d_MO_workPair_323 : decode b_MO_workPair 323 = .ok (.invokestatic 237, 3) := by decide +kernel
theorem d_MO_workPair_326 : decode b_MO_workPair 326 = .ok (.dstore 8, 2) := by decide +kernel
theorem d_MO_workPair_328 : decode b_MO_workPair 328 = .ok (.goto 26, 3) := by decide +kernel
theorem d_MO_workPair_331 : decode b_MO_workPair 331 = .ok (.dload_n 3, 1) := by decide +kernel
theorem d_MO_workPair_332 : decode b_MO_workPair 332 = .ok (.dconst 0, 1) := by decide +kernel
theorem d_MO_workPair_333 : decode b_MO_workPair 333 = .ok (.dcmp .l, 1) := by decide +kernel
theorem d_MO_workPair_334 : decode b_MO_workPair 334 = .ok (.ifCond .ne 10, 3) := by decide +kernel
theorem d_MO_workPair_337 : decode b_MO_workPair 337 = .ok (.dload 5, 2) := by decide +kernel
theorem d_MO_workPair_339 : decode b_MO_workPair 339 = .ok (.dconst 0, 1) := by decide +kernel
theorem d_MO_workPair_340 : decode b_MO_workPair 340 = .ok (.dcmp .l, 1) := by decide +kernel
theorem d_MO_workPair_341 : decode b_MO_workPair 341 = .ok (.ifCond .eq 7, 3) := by decide +kernel
theorem d_MO_workPair_344 : decode b_MO_workPair 344 = .ok (.iconst 1, 1) := by decide +kernel
theorem d_MO_workPair_345 : decode b_MO_workPair 345 = .ok (.goto 4, 3) := by decide +kernel
theorem d_MO_workPair_348 : decode b_MO_workPair 348 = .ok (.iconst 0, 1) := by decide +kernel
theorem d_MO_workPair_349 : decode b_MO_workPair 349 = .ok (.invokestatic 237, 3) := by decide +kernel
theorem d_MO_workPair_352 : decode b_MO_workPair 352 = .ok (.dstore 8, 2) := by decide +kernel
theorem d_MO_workPair_354 : decode b_MO_workPair 354 = .ok (.aload_n 0, 1) := by decide +kernel
theorem d_MO_workPair_355 : decode b_MO_workPair 355 = .ok (.iload_n 2, 1) := by decide +kernel
theorem d_MO_workPair_356 : decode b_MO_workPair 356 = .ok (.dload 8, 2) := by decide +kernel
theorem d_MO_workPair_358 : decode b_MO_workPair 358 = .ok (.iload 7, 2) := by decide +kernel
theorem d_MO_workPair_360 : decode b_MO_workPair 360 = .ok (.ifCond .ne 11, 3) := by decide +kernel
theorem d_MO_workPair_363 : decode b_MO_workPair 363 = .ok (.dload 8, 2) := by decide +kernel
theorem d_MO_workPair_365 : decode b_MO_workPair 365 = .ok (.invokestatic 229, 3) := by decide +kernel
theorem d_MO_workPair_368 : decode b_MO_workPair 368 = .ok (.ifCond .eq 7, 3) := by decide +kernel
theorem d_MO_workPair_371 : decode b_MO_workPair 371 = .ok (.iconst 1, 1) := by decide +kernel
theorem d_MO_workPair_372 : decode b_MO_workPair 372 = .ok (.goto 4, 3) := by decide +kernel
theorem d_MO_workPair_375 : decode b_MO_workPair 375 = .ok (.iconst 0, 1) := by decide +kernel
theorem d_MO_workPair_376 : decode b_MO_workPair 376 = .ok (.invokevirtual 233, 3) := by decide +kernel
theorem d_MO_workPair_379 : decode b_MO_workPair 379 = .ok (.return_, 1) := by decide +kernel
abbrev b_MO_workSingle : ByteArray := prog_14_method_44_code
def y_MO_workSingle : MethodName := ⟨"FormulaSheetModel", "workSingle", "(II)V"⟩
theorem d_MO_workSingle_0 : decode b_MO_workSingle 0 = .ok (.aload_n 0, 1) := by decide +kernel
theorem d_MO_workSingle_1 : decode b_MO_workSingle 1 = .ok (.getfield 69, 3) := by decide +kernel
theorem d_MO_workSingle_4 : decode b_MO_workSingle 4 = .ok (.iload_n 2, 1) := by decide +kernel
theorem d_MO_workSingle_5 : decode b_MO_workSingle 5 = .ok (.daload, 1) := by decide +kernel
theorem d_MO_workSingle_6 : decode b_MO_workSingle 6 = .ok (.dstore_n 3, 1) := by decide +kernel
theorem d_MO_workSingle_7 : decode b_MO_workSingle 7 = .ok (.iload_n 1, 1) := by decide +kernel
theorem d_MO_workSingle_8 : decode b_MO_workSingle 8 = .ok (.bipush 33, 2) := by decide +kernel
theorem d_MO_workSingle_10 : decode b_MO_workSingle 10 = .ok (.if_icmp .ne 21, 3) := by decide +kernel
theorem d_MO_workSingle_13 : decode b_MO_workSingle 13 = .ok (.dload_n 3, 1) := by decide +kernel
theorem d_MO_workSingle_14 : decode b_MO_workSingle 14 = .ok (.dconst 0, 1) := by decide +kernel
theorem d_MO_workSingle_15 : decode b_MO_workSingle 15 = .ok (.dcmp .l, 1) := by decide +kernel
theorem d_MO_workSingle_16 : decode b_MO_workSingle 16 = .ok (.ifCond .ne 7, 3) := by decide +kernel
theorem d_MO_workSingle_19 : decode b_MO_workSingle 19 = .ok (.iconst 1, 1) := by decide +kernel
theorem d_MO_workSingle_20 : decode b_MO_workSingle 20 = .ok (.goto 4, 3) := by decide +kernel
theorem d_MO_workSingle_23 : decode b_MO_workSingle 23 = .ok (.iconst 0, 1) := by decide +kernel
theorem d_MO_workSingle_24 : decode b_MO_workSingle 24 = .ok (.invokestatic 237, 3) := by decide +kernel
theorem d_MO_workSingle_27 : decode b_MO_workSingle 27 = .ok (.dstore_n 3, 1) := by decide +kernel
theorem d_MO_workSingle_28 : decode b_MO_workSingle 28 = .ok (.goto 41, 3) := by decide +kernel
theorem d_MO_workSingle_31 : decode b_MO_workSingle 31 = .ok (.iload_n 1, 1) := by decide +kernel
theorem d_MO_workSingle_32 : decode b_MO_workSingle 32 = .ok (.bipush 10, 2) := by decide +kernel
theorem d_MO_workSingle_34 : decode b_MO_workSingle 34 = .ok (.if_icmp .ne 9, 3) := by decide +kernel
theorem d_MO_workSingle_37 : decode b_MO_workSingle 37 = .ok (.dload_n 3, 1) := by decide +kernel
theorem d_MO_workSingle_38 : decode b_MO_workSingle 38 = .ok (.dneg, 1) := by decide +kernel
theorem d_MO_workSingle_39 : decode b_MO_workSingle 39 = .ok (.dstore_n 3, 1) := by decide +kernel
theorem d_MO_workSingle_40 : decode b_MO_workSingle 40 = .ok (.goto 29, 3) := by decide +kernel
theorem d_MO_workSingle_43 : decode b_MO_workSingle 43 = .ok (.iload_n 1, 1) := by decide +kernel
theorem d_MO_workSingle_44 : decode b_MO_workSingle 44 = .ok (.bipush 7, 2) := by decide +kernel
theorem d_MO_workSingle_46 : decode b_MO_workSingle 46 = .ok (.if_icmp .ne 19, 3) := by decide +kernel
theorem d_MO_workSingle_49 : decode b_MO_workSingle 49 = .ok (.dload_n 3, 1) := by decide +kernel
theorem d_MO_workSingle_50 : decode b_MO_workSingle 50 = .ok (.dconst 0, 1) := by decide +kernel
theorem d_MO_workSingle_51 : decode b_MO_workSingle 51 = .ok (.dcmp .g, 1) := by decide +kernel
theorem d_MO_workSingle_52 : decode b_MO_workSingle 52 = .ok (.ifCond .ge 8, 3) := by decide +kernel
theorem d_MO_workSingle_55 : decode b_MO_workSingle 55 = .ok (.dload_n 3, 1) := by decide +kernel
theorem d_MO_workSingle_56 : decode b_MO_workSingle 56 = .ok (.dneg, 1) := by decide +kernel
theorem d_MO_workSingle_57 : decode b_MO_workSingle 57 = .ok (.goto 4, 3) := by decide +kernel
theorem d_MO_workSingle_60 : decode b_MO_workSingle 60 = .ok (.dload_n 3, 1) := by decide +kernel
theorem d_MO_workSingle_61 : decode b_MO_workSingle 61 = .ok (.dstore_n 3, 1) := by decide +kernel
theorem d_MO_workSingle_62 : decode b_MO_workSingle 62 = .ok (.goto 7, 3) := by decide +kernel
theorem d_MO_workSingle_65 : decode b_MO_workSingle 65 = .ok (.dload_n 3, 1) := by decide +kernel
theorem d_MO_workSingle_66 : decode b_MO_workSingle 66 = .ok (.d2l, 1) := by decide +kernel
theorem d_MO_workSingle_67 : decode b_MO_workSingle 67 = .ok (.l2d, 1) := by decide +kernel
theorem d_MO_workSingle_68 : decode b_MO_workSingle 68 = .ok (.dstore_n 3, 1) := by decide +kernel
theorem d_MO_workSingle_69 : decode b_MO_workSingle 69 = .ok (.aload_n 0, 1) := by decide +kernel
theorem d_MO_workSingle_70 : decode b_MO_workSingle 70 = .ok (.getfield 69, 3) := by decide +kernel
theorem d_MO_workSingle_73 : decode b_MO_workSingle 73 = .ok (.iload_n 2, 1) := by decide +kernel
theorem d_MO_workSingle_74 : decode b_MO_workSingle 74 = .ok (.aload_n 0, 1) := by decide +kernel
theorem d_MO_workSingle_75 : decode b_MO_workSingle 75 = .ok (.getfield 72, 3) := by decide +kernel
theorem d_MO_workSingle_78 : decode b_MO_workSingle 78 = .ok (.iload_n 2, 1) := by decide +kernel
theorem d_MO_workSingle_79 : decode b_MO_workSingle 79 = .ok (.baload, 1) := by decide +kernel
theorem d_MO_workSingle_80 : decode b_MO_workSingle 80 = .ok (.ifCond .eq 7, 3) := by decide +kernel
theorem d_MO_workSingle_83 : decode b_MO_workSingle 83 = .ok (.dconst 0, 1) := by decide +kernel
theorem d_MO_workSingle_84 : decode b_MO_workSingle 84 = .ok (.goto 4, 3) := by decide +kernel
theorem d_MO_workSingle_87 : decode b_MO_workSingle 87 = .ok (.dload_n 3, 1) := by decide +kernel
theorem d_MO_workSingle_88 : decode b_MO_workSingle 88 = .ok (.dastore, 1) := by decide +kernel
theorem d_MO_workSingle_89 : decode b_MO_workSingle 89 = .ok (.return_, 1) := by decide +kernel
theorem tw_65 : lw_tbl[65]? = some (Cond.selects "FormulaSheetModel" ⟨"FormulaSheetModel", "hold", "(IDZ)V"⟩ ⟨"FormulaSheetModel", "hold", "(IDZ)V"⟩) := by decide +kernel
theorem tw_1473 : lw_tbl[1473]? = some (Jvm.Cond.fieldLink "FormulaSheetModel" (59 : Nat) "FormulaSheetModel" "worth" "[D") := by decide +kernel
theorem tw_1711 : lw_tbl[1711]? = some (Jvm.Cond.methodLink "FormulaSheetModel" (233 : Nat) ({ cls := "FormulaSheetModel", name := "hold", desc := "(IDZ)V" } : Jvm.MethodName)) := by decide +kernel
theorem tw_1713 : lw_tbl[1713]? = some (Jvm.Cond.instanceMethod ({ cls := "FormulaSheetModel", name := "hold", desc := "(IDZ)V" } : Jvm.MethodName)) := by decide +kernel
theorem tw_1714 : lw_tbl[1714]? = some (Jvm.Cond.code ({ cls := "FormulaSheetModel", name := "hold", desc := "(IDZ)V" } : Jvm.MethodName) prog_14_method_39_code (5 : Nat) (Option.none : Option Jvm.ClassFile.FieldType)) := by decide +kernel
theorem tw_1732 : lw_tbl[1732]? = some (Jvm.Cond.methodLink "FormulaSheetModel" (237 : Nat) ({ cls := "FormulaSheetModel", name := "truth", desc := "(Z)D" } : Jvm.MethodName)) := by decide +kernel
theorem tw_1733 : lw_tbl[1733]? = some (Jvm.Cond.static ({ cls := "FormulaSheetModel", name := "truth", desc := "(Z)D" } : Jvm.MethodName)) := by decide +kernel
theorem tw_1734 : lw_tbl[1734]? = some (Jvm.Cond.code ({ cls := "FormulaSheetModel", name := "truth", desc := "(Z)D" } : Jvm.MethodName) prog_14_method_42_code (1 : Nat) (Option.some Jvm.ClassFile.FieldType.double)) := by decide +kernel
noncomputable def q_MO_workReference_J51 (z3 : Int32) (w0 : UInt64) (w1 : Int32) (M1 : mo_S) : Option (mo_S) := fs_okp (vp_in z3 81) ((if (M1.2.1 0 (Int32.toNatClampNeg z3)) ≤ 0 then fs_okp ((0 ≤ (Int32.toInt w1)) ∧ ((Int32.toInt w1) < 44)) (fs_let (p_MO_hold M1 w1 w0 0) (fun R693 => some R693)) else fs_okp (vp_in z3 80) ((if (M1.2.1 18 (Int32.toNatClampNeg z3)) = 0 then fs_okp ((0 ≤ (Int32.toInt w1)) ∧ ((Int32.toInt w1) < 44)) (fs_let (p_MO_hold M1 w1 w0 0) (fun R695 => some R695)) else fs_okp ((0 ≤ (Int32.toInt w1)) ∧ ((Int32.toInt w1) < 44)) (fs_let (p_MO_hold M1 w1 w0 1) (fun R696 => some R696))))))
noncomputable def q_MO_workReference (M : mo_S) (x1 : Int32) (x2 : Int32) : Option (mo_S) := (if (p_MO_lost x1) = 0 then fs_okp (vp_in ((10 * (p_MO_column x1)) + (p_MO_row x1)) 81) ((if (M.2.1 0 (Int32.toNatClampNeg ((10 * (p_MO_column x1)) + (p_MO_row x1)))) = 0 then q_MO_workReference_J51 ((10 * (p_MO_column x1)) + (p_MO_row x1)) FP.dconst0 x2 M else fs_okp (vp_in ((10 * (p_MO_column x1)) + (p_MO_row x1)) 80) (q_MO_workReference_J51 ((10 * (p_MO_column x1)) + (p_MO_row x1)) (M.2.2.2 17 (Int32.toNatClampNeg ((10 * (p_MO_column x1)) + (p_MO_row x1)))) x2 M))) else fs_okp ((0 ≤ (Int32.toInt x2)) ∧ ((Int32.toInt x2) < 44)) (fs_let (p_MO_hold M x2 FP.dconst0 1) (fun R699 => some R699)))
set_option maxHeartbeats 4000000 in
set_option maxRecDepth 100000 in
theorem k_MO_workReference {l : Launch} {s00 : State} {G : fs_G} (hSt : fs_St l s00 G) {h : fs_Hp} {a : Nat} {ad : Nat → Nat} {M : mo_S} (hM : mo_at G h a ad M) (x1 : Int32) (x2 : Int32) {r : mo_S} (hq : q_MO_workReference M x1 x2 = some r) : fs_Ct l s00 G y_MO_workReference (.code y_MO_workReference b_MO_workReference 4 none) { frames := 1, cells := 0, slots := 0, locals := 16 } [.ref a, .int x1, .int x2] h (fun o h' => o = .inl none ∧ mo_at G h' a ad r ∧ mo_fr a ad h h') := by
  refine fs_Ct.ofW hSt (by decide) ?_
  intro p e s m below meth c B hout hP
  obtain ⟨hx, hb, hr, hml, hown, hts, hlocks, hname, hK, hw, htr⟩ := id B
  have hown : s.vm.findClass "FormulaSheetModel" = some m.cls := hown
  have hS := hw.S
  have hA : ∀ q : Nat, s00.heap.size ≤ q → fs_A s00 q := fun _ h9 => h9
  generalize hH : s.heap = H at hP hS ⊢
  have hH0 : s.heap.size ≤ H.size := by rw [hH]; exact Nat.le_refl _
  have hJ51 : ∀ (z3 : Int32) (w0 : UInt64) (w1 : Int32) (M1 : mo_S) (h1 : fs_Hp) (H : Heap) (locs : List Loc) (ls : Array Slot), q_MO_workReference_J51 z3 w0 w1 M1 = some r → fs_P G.1 fs_cl (fs_A s00) h1 H → va_S (fs_A s00) s00.heap H locs → mo_at G h1 a ad M1 → mo_fr a ad h h1 → lv_has ls 4 [(0, .ref a), (3, .int z3)] → W p l e { frames := 1, cells := 0, slots := 0, locals := 16 } s m ([.ref a, .int x1, .int x2] : List Value).toArray below meth c H locs 0 0 (fx_MQ below (fs_Qc s00 G (fun o h' => o = .inl none ∧ mo_at G h' a ad r ∧ mo_fr a ad h h')) ([.ref a, .int x1, .int x2] : List Value).toArray s 0 0 (fs_A s00)) (F0 m 51 ls (.double w0 :: .int w1 :: .ref a :: [])) := by
    intro z3 w0 w1 M1 h1 H locs ls hq hP hS hM hf hl
    rw [q_MO_workReference_J51] at hq
    refine lv_aload_n hx hb d_MO_workReference_51 rfl (lv_at hl 0 rfl) ?_
    refine fs_get (v := .ref (ad 0)) hx hb hts hown hK c_MO hP hM.1 0 (by decide) (hts _ (fs_tb_at 1456 tw_1456 rfl)) (fun _ h9 => h9) rfl d_MO_workReference_52 ?_
    refine lv_iload_n hx hb d_MO_workReference_55 rfl (lv_at hl 1 rfl) ?_
    obtain ⟨hi_, hq⟩ := fs_okp_some hq
    refine fs_iald (f := M1.2.1 0) hx hb hK hP 0 (hM.2.1 0 0 81 rfl) rfl hi_ d_MO_workReference_56 ?_
    refine lv_if_le (tgt := 73) hx hb d_MO_workReference_57 (by decide) (fun c_692 => ?_) (fun c_692 => ?_)
    · have hq := fs_ifp c_692 hq
      refine lv_iconst (v := 0) hx hb d_MO_workReference_73 (by decide) ?_
      obtain ⟨⟨b0_, b1_⟩, hq⟩ := fs_okp_some hq
      obtain ⟨R693, eR693, hq⟩ := fs_let_some hq
      refine fs_cV B hl.1 hP hS (k_MO_hold hSt hM w1 w0 0 b0_ b1_) (fs_tb_at 1711 tw_1711 rfl) hM.1 rfl (fs_tb_at 1713 tw_1713 rfl) (fs_tb_at 65 tw_65 rfl) (fs_tb_at 96 tw_96 rfl) (fs_tb_at 1714 tw_1714 rfl) (by decide) (show (parseMethodDescriptor y_MO_hold.desc).map (fun d => d.parameters.length) = some 3 by decide +kernel) rfl d_MO_workReference_74 ⟨Nat.le_of_ble_eq_true rfl, Nat.le_of_ble_eq_true rfl, Nat.le_of_ble_eq_true rfl, Nat.le_of_ble_eq_true rfl⟩ (fun v_ h_ H locs hc_ hP hS => ?_) (fun C_ a_ h_ H locs hc_ => absurd hc_.1 (fun h9 => by cases h9))
      obtain ⟨ev, hM, hf2⟩ := hc_
      cases ev
      have hf := hf.trans hf2
      rw [← eR693] at hM
      refine W.widen (k := 0) (n := 0) (Nat.le_of_ble_eq_true rfl) (Nat.le_of_ble_eq_true rfl) ?_
      refine W.eq (g2 := F0 m 77 ls ([])) rfl ?_
      cases hq
      exact fs_vret hx hb hr hlocks hw hP hS (by omega) (by omega) (⟨rfl, hM, hf⟩) d_MO_workReference_77
    · have hq := fs_ifn c_692 hq
      refine lv_aload_n hx hb d_MO_workReference_60 rfl (lv_at hl 0 rfl) ?_
      refine fs_get (v := .ref (ad 18)) hx hb hts hown hK c_MO hP hM.1 18 (by decide) (hts _ (fs_tb_at 1474 tw_1474 rfl)) (fun _ h9 => h9) rfl d_MO_workReference_61 ?_
      refine lv_iload_n hx hb d_MO_workReference_64 rfl (lv_at hl 1 rfl) ?_
      obtain ⟨hi_, hq⟩ := fs_okp_some hq
      refine fs_zald (f := M1.2.1 18) hx hb hK hP 3 (hM.2.1 18 3 80 rfl) rfl hi_ d_MO_workReference_65 ?_
      refine lv_if_eq (tgt := 73) hx hb d_MO_workReference_66 (by decide) (fun c_694 => ?_) (fun c_694 => ?_)
      · have hq := fs_ifp c_694 hq
        refine lv_iconst (v := 0) hx hb d_MO_workReference_73 (by decide) ?_
        obtain ⟨⟨b0_, b1_⟩, hq⟩ := fs_okp_some hq
        obtain ⟨R695, eR695, hq⟩ := fs_let_some hq
        refine fs_cV B hl.1 hP hS (k_MO_hold hSt hM w1 w0 0 b0_ b1_) (fs_tb_at 1711 tw_1711 rfl) hM.1 rfl (fs_tb_at 1713 tw_1713 rfl) (fs_tb_at 65 tw_65 rfl) (fs_tb_at 96 tw_96 rfl) (fs_tb_at 1714 tw_1714 rfl) (by decide) (show (parseMethodDescriptor y_MO_hold.desc).map (fun d => d.parameters.length) = some 3 by decide +kernel) rfl d_MO_workReference_74 ⟨Nat.le_of_ble_eq_true rfl, Nat.le_of_ble_eq_true rfl, Nat.le_of_ble_eq_true rfl, Nat.le_of_ble_eq_true rfl⟩ (fun v_ h_ H locs hc_ hP hS => ?_) (fun C_ a_ h_ H locs hc_ => absurd hc_.1 (fun h9 => by cases h9))
        obtain ⟨ev, hM, hf2⟩ := hc_
        cases ev
        have hf := hf.trans hf2
        rw [← eR695] at hM
        refine W.widen (k := 0) (n := 0) (Nat.le_of_ble_eq_true rfl) (Nat.le_of_ble_eq_true rfl) ?_
        refine W.eq (g2 := F0 m 77 ls ([])) rfl ?_
        cases hq
        exact fs_vret hx hb hr hlocks hw hP hS (by omega) (by omega) (⟨rfl, hM, hf⟩) d_MO_workReference_77
      · have hq := fs_ifn c_694 hq
        refine lv_iconst (v := 1) hx hb d_MO_workReference_69 (by decide) ?_
        refine lv_goto (tgt := 74) hx hb d_MO_workReference_70 (by decide) ?_
        obtain ⟨⟨b0_, b1_⟩, hq⟩ := fs_okp_some hq
        obtain ⟨R696, eR696, hq⟩ := fs_let_some hq
        refine fs_cV B hl.1 hP hS (k_MO_hold hSt hM w1 w0 1 b0_ b1_) (fs_tb_at 1711 tw_1711 rfl) hM.1 rfl (fs_tb_at 1713 tw_1713 rfl) (fs_tb_at 65 tw_65 rfl) (fs_tb_at 96 tw_96 rfl) (fs_tb_at 1714 tw_1714 rfl) (by decide) (show (parseMethodDescriptor y_MO_hold.desc).map (fun d => d.parameters.length) = some 3 by decide +kernel) rfl d_MO_workReference_74 ⟨Nat.le_of_ble_eq_true rfl, Nat.le_of_ble_eq_true rfl, Nat.le_of_ble_eq_true rfl, Nat.le_of_ble_eq_true rfl⟩ (fun v_ h_ H locs hc_ hP hS => ?_) (fun C_ a_ h_ H locs hc_ => absurd hc_.1 (fun h9 => by cases h9))
        obtain ⟨ev, hM, hf2⟩ := hc_
        cases ev
        have hf := hf.trans hf2
        rw [← eR696] at hM
        refine W.widen (k := 0) (n := 0) (Nat.le_of_ble_eq_true rfl) (Nat.le_of_ble_eq_true rfl) ?_
        refine W.eq (g2 := F0 m 77 ls ([])) rfl ?_
        cases hq
        exact fs_vret hx hb hr hlocks hw hP hS (by omega) (by omega) (⟨rfl, hM, hf⟩) d_MO_workReference_77
  have hl := lv_entry ([.ref a, .int x1, .int x2]) (n := 4) (Nat.le_of_ble_eq_true rfl)
  rw [lg_entry_eq]
  generalize (lg_sl ([.ref a, .int x1, .int x2]) ++ List.replicate (4 - (lg_sl ([.ref a, .int x1, .int x2])).length) Slot.unset).toArray = ls at hl ⊢
  have hl : lv_has ls 4 [(0, .ref a), (1, .int x1), (2, .int x2)] := hl
  have hf : mo_fr a ad h h := mo_fr.rf
  rw [q_MO_workReference] at hq
  refine lv_bipush (v := 10) hx hb d_MO_workReference_0 (by decide) ?_
  refine lv_iload_n hx hb d_MO_workReference_2 rfl (lv_at hl 1 rfl) ?_
  refine fs_cS B hl.1 hP hS (k_MO_column hSt x1) (fs_tb_at 1672 tw_1672 rfl) (fs_tb_at 1673 tw_1673 rfl) (fs_tb_at 96 tw_96 rfl) (fs_tb_at 1674 tw_1674 rfl) (by decide) (show (parseMethodDescriptor y_MO_column.desc).map (fun d => d.parameters.length) = some 1 by decide +kernel) rfl d_MO_workReference_3 ⟨Nat.le_of_ble_eq_true rfl, Nat.le_of_ble_eq_true rfl, Nat.le_of_ble_eq_true rfl, Nat.le_of_ble_eq_true rfl⟩ (fun v_ h_ H locs hc_ hP hS => ?_) (fun C_ a_ h_ H locs hc_ => absurd hc_.1 (fun h9 => by cases h9))
  obtain ⟨ev, eh⟩ := hc_
  cases ev
  rw [eh] at hP
  refine W.widen (k := 0) (n := 0) (Nat.le_of_ble_eq_true rfl) (Nat.le_of_ble_eq_true rfl) ?_
  refine W.eq (g2 := F0 m 6 ls (.int (p_MO_column x1) :: .int 10 :: [])) rfl ?_
  refine lv_imul hx hb d_MO_workReference_6 ?_
  refine lv_iload_n hx hb d_MO_workReference_7 rfl (lv_at hl 1 rfl) ?_
  refine fs_cS B hl.1 hP hS (k_MO_row hSt x1) (fs_tb_at 1675 tw_1675 rfl) (fs_tb_at 1676 tw_1676 rfl) (fs_tb_at 96 tw_96 rfl) (fs_tb_at 1677 tw_1677 rfl) (by decide) (show (parseMethodDescriptor y_MO_row.desc).map (fun d => d.parameters.length) = some 1 by decide +kernel) rfl d_MO_workReference_8 ⟨Nat.le_of_ble_eq_true rfl, Nat.le_of_ble_eq_true rfl, Nat.le_of_ble_eq_true rfl, Nat.le_of_ble_eq_true rfl⟩ (fun v_ h_ H locs hc_ hP hS => ?_) (fun C_ a_ h_ H locs hc_ => absurd hc_.1 (fun h9 => by cases h9))
  obtain ⟨ev, eh⟩ := hc_
  cases ev
  rw [eh] at hP
  refine W.widen (k := 0) (n := 0) (Nat.le_of_ble_eq_true rfl) (Nat.le_of_ble_eq_true rfl) ?_
  refine W.eq (g2 := F0 m 11 ls (.int (p_MO_row x1) :: .int (10 * (p_MO_column x1)) :: [])) rfl ?_
  refine lv_iadd hx hb d_MO_workReference_11 ?_
  refine lv_istore_n (lv' := [(3, .int ((10 * (p_MO_column x1)) + (p_MO_row x1))), (0, .ref a), (1, .int x1), (2, .int x2)]) hx hb d_MO_workReference_12 rfl hl (by decide) rfl (fun ls hl => ?_)
  refine lv_iload_n hx hb d_MO_workReference_13 rfl (lv_at hl 2 rfl) ?_
  refine fs_cS B hl.1 hP hS (k_MO_lost hSt x1) (fs_tb_at 1669 tw_1669 rfl) (fs_tb_at 1670 tw_1670 rfl) (fs_tb_at 96 tw_96 rfl) (fs_tb_at 1671 tw_1671 rfl) (by decide) (show (parseMethodDescriptor y_MO_lost.desc).map (fun d => d.parameters.length) = some 1 by decide +kernel) rfl d_MO_workReference_14 ⟨Nat.le_of_ble_eq_true rfl, Nat.le_of_ble_eq_true rfl, Nat.le_of_ble_eq_true rfl, Nat.le_of_ble_eq_true rfl⟩ (fun v_ h_ H locs hc_ hP hS => ?_) (fun C_ a_ h_ H locs hc_ => absurd hc_.1 (fun h9 => by cases h9))
  obtain ⟨ev, eh⟩ := hc_
  cases ev
  rw [eh] at hP
  refine W.widen (k := 0) (n := 0) (Nat.le_of_ble_eq_true rfl) (Nat.le_of_ble_eq_true rfl) ?_
  refine W.eq (g2 := F0 m 17 ls (.int (p_MO_lost x1) :: [])) rfl ?_
  refine lv_if_eq (tgt := 30) hx hb d_MO_workReference_17 (by decide) (fun c_697 => ?_) (fun c_697 => ?_)
  · have hq := fs_ifp c_697 hq
    refine lv_aload_n hx hb d_MO_workReference_30 rfl (lv_at hl 1 rfl) ?_
    refine lv_iload_n hx hb d_MO_workReference_31 rfl (lv_at hl 3 rfl) ?_
    refine lv_aload_n hx hb d_MO_workReference_32 rfl (lv_at hl 1 rfl) ?_
    refine fs_get (v := .ref (ad 0)) hx hb hts hown hK c_MO hP hM.1 0 (by decide) (hts _ (fs_tb_at 1456 tw_1456 rfl)) (fun _ h9 => h9) rfl d_MO_workReference_33 ?_
    refine lv_iload_n hx hb d_MO_workReference_36 rfl (lv_at hl 0 rfl) ?_
    obtain ⟨hi_, hq⟩ := fs_okp_some hq
    refine fs_iald (f := M.2.1 0) hx hb hK hP 0 (hM.2.1 0 0 81 rfl) rfl hi_ d_MO_workReference_37 ?_
    refine lv_if_ne (tgt := 45) hx hb d_MO_workReference_38 (by decide) (fun c_698 => ?_) (fun c_698 => ?_)
    · have hq := fs_ifn c_698 hq
      refine lv_aload_n hx hb d_MO_workReference_45 rfl (lv_at hl 1 rfl) ?_
      refine fs_get (v := .ref (ad 17)) hx hb hts hown hK c_MO hP hM.1 17 (by decide) (hts _ (fs_tb_at 1473 tw_1473 rfl)) (fun _ h9 => h9) rfl d_MO_workReference_46 ?_
      refine lv_iload_n hx hb d_MO_workReference_49 rfl (lv_at hl 0 rfl) ?_
      obtain ⟨hi_, hq⟩ := fs_okp_some hq
      refine fs_dald (f := M.2.2.2 17) hx hb hK hP 2 (hM.2.1 17 2 80 rfl) rfl hi_ d_MO_workReference_50 ?_
      exact hJ51 ((10 * (p_MO_column x1)) + (p_MO_row x1)) (M.2.2.2 17 (Int32.toNatClampNeg ((10 * (p_MO_column x1)) + (p_MO_row x1)))) x2 M _ _ _ _ hq hP hS hM hf (lv_sub hl [1, 0] rfl)
    · have hq := fs_ifp c_698 hq
      refine lv_dconst0 hx hb d_MO_workReference_41 ?_
      refine lv_goto (tgt := 51) hx hb d_MO_workReference_42 (by decide) ?_
      exact hJ51 ((10 * (p_MO_column x1)) + (p_MO_row x1)) FP.dconst0 x2 M _ _ _ _ hq hP hS hM hf (lv_sub hl [1, 0] rfl)
  · have hq := fs_ifn c_697 hq
    refine lv_aload_n hx hb d_MO_workReference_20 rfl (lv_at hl 1 rfl) ?_
    refine lv_iload_n hx hb d_MO_workReference_21 rfl (lv_at hl 3 rfl) ?_
    refine lv_dconst0 hx hb d_MO_workReference_22 ?_
    refine lv_iconst (v := 1) hx hb d_MO_workReference_23 (by decide) ?_
    obtain ⟨⟨b0_, b1_⟩, hq⟩ := fs_okp_some hq
    obtain ⟨R699, eR699, hq⟩ := fs_let_some hq
    refine fs_cV B hl.1 hP hS (k_MO_hold hSt hM x2 FP.dconst0 1 b0_ b1_) (fs_tb_at 1711 tw_1711 rfl) hM.1 rfl (fs_tb_at 1713 tw_1713 rfl) (fs_tb_at 65 tw_65 rfl) (fs_tb_at 96 tw_96 rfl) (fs_tb_at 1714 tw_1714 rfl) (by decide) (show (parseMethodDescriptor y_MO_hold.desc).map (fun d => d.parameters.length) = some 3 by decide +kernel) rfl d_MO_workReference_24 ⟨Nat.le_of_ble_eq_true rfl, Nat.le_of_ble_eq_true rfl, Nat.le_of_ble_eq_true rfl, Nat.le_of_ble_eq_true rfl⟩ (fun v_ h_ H locs hc_ hP hS => ?_) (fun C_ a_ h_ H locs hc_ => absurd hc_.1 (fun h9 => by cases h9))
    obtain ⟨ev, hM, hf2⟩ := hc_
    cases ev
    have hf := hf.trans hf2
    rw [← eR699] at hM
    refine W.widen (k := 0) (n := 0) (Nat.le_of_ble_eq_true rfl) (Nat.le_of_ble_eq_true rfl) ?_
    refine W.eq (g2 := F0 m 27 ls ([])) rfl ?_
    refine lv_goto (tgt := 77) hx hb d_MO_workReference_27 (by decide) ?_
    cases hq
    exact fs_vret hx hb hr hlocks hw hP hS (by omega) (by omega) (⟨rfl, hM, hf⟩) d_MO_workReference_77
noncomputable def q_MO_workRange_J303 (z5 : Int32) (z6 : Int32) (z11 : Int32) (w0 : UInt64) (w1 : Int32) (M1 : mo_S) : Option (mo_S) := (if z5 = 0 then (if z6 = 0 then (if z11 = 0 then fs_okp ((0 ≤ (Int32.toInt w1)) ∧ ((Int32.toInt w1) < 44)) (fs_let (p_MO_hold M1 w1 w0 1) (fun R775 => some R775)) else fs_okp ((0 ≤ (Int32.toInt w1)) ∧ ((Int32.toInt w1) < 44)) (fs_let (p_MO_hold M1 w1 w0 0) (fun R774 => some R774))) else fs_okp ((0 ≤ (Int32.toInt w1)) ∧ ((Int32.toInt w1) < 44)) (fs_let (p_MO_hold M1 w1 w0 1) (fun R772 => some R772))) else fs_okp ((0 ≤ (Int32.toInt w1)) ∧ ((Int32.toInt w1) < 44)) (fs_let (p_MO_hold M1 w1 w0 1) (fun R770 => some R770)))
noncomputable def q_MO_workRange_L75_J180 (self : Int32 → Int32 → Int32 → Int32 → Int32 → Int32 → UInt64 → UInt64 → Int32 → Int32 → Int32 → mo_S → Option (Int32 × UInt64 × UInt64 × Int32 × mo_S)) (z1 : Int32) (z2 : Int32) (z3 : Int32) (z4 : Int32) (z5 : Int32) (z6 : Int32) (z7 : UInt64) (z9 : UInt64) (z11 : Int32) (z12 : Int32) (z13 : Int32) (z14 : Int32) (M1 : mo_S) : Option (Int32 × UInt64 × UInt64 × Int32 × mo_S) := fs_okp (vp_in z14 80) (fs_okp (vf_n64 (FP.dadd z7 (M1.2.2.2 17 (Int32.toNatClampNeg z14)))) ((if (p_MO_tooGreat (FP.dadd z7 (M1.2.2.2 17 (Int32.toNatClampNeg z14)))) = 0 then self z1 z2 z3 z4 z5 z6 (FP.dadd z7 (M1.2.2.2 17 (Int32.toNatClampNeg z14))) z9 (z11 + 1) z12 (z13 + 1) M1 else (if z1 = 2 then self z1 z2 z3 z4 z5 1 (FP.dadd z7 (M1.2.2.2 17 (Int32.toNatClampNeg z14))) z9 (z11 + 1) z12 (z13 + 1) M1 else (if z1 = 6 then self z1 z2 z3 z4 z5 1 (FP.dadd z7 (M1.2.2.2 17 (Int32.toNatClampNeg z14))) z9 (z11 + 1) z12 (z13 + 1) M1 else self z1 z2 z3 z4 z5 z6 (FP.dadd z7 (M1.2.2.2 17 (Int32.toNatClampNeg z14))) z9 (z11 + 1) z12 (z13 + 1) M1)))))
noncomputable def q_MO_workRange_L75_J171 (self : Int32 → Int32 → Int32 → Int32 → Int32 → Int32 → UInt64 → UInt64 → Int32 → Int32 → Int32 → mo_S → Option (Int32 × UInt64 × UInt64 × Int32 × mo_S)) (z1 : Int32) (z2 : Int32) (z3 : Int32) (z4 : Int32) (z5 : Int32) (z6 : Int32) (z7 : UInt64) (z11 : Int32) (z12 : Int32) (z13 : Int32) (z14 : Int32) (M1 : mo_S) : Option (Int32 × UInt64 × UInt64 × Int32 × mo_S) := fs_okp (vp_in z14 80) (q_MO_workRange_L75_J180 self z1 z2 z3 z4 z5 z6 z7 (M1.2.2.2 17 (Int32.toNatClampNeg z14)) z11 z12 z13 z14 M1)
noncomputable def q_MO_workRange_L75_J132 (self : Int32 → Int32 → Int32 → Int32 → Int32 → Int32 → UInt64 → UInt64 → Int32 → Int32 → Int32 → mo_S → Option (Int32 × UInt64 × UInt64 × Int32 × mo_S)) (z1 : Int32) (z2 : Int32) (z3 : Int32) (z4 : Int32) (z5 : Int32) (z6 : Int32) (z7 : UInt64) (z9 : UInt64) (z11 : Int32) (z12 : Int32) (z13 : Int32) (z14 : Int32) (M1 : mo_S) : Option (Int32 × UInt64 × UInt64 × Int32 × mo_S) := (if z11 = 0 then q_MO_workRange_L75_J171 self z1 z2 z3 z4 z5 z6 z7 z11 z12 z13 z14 M1 else (if z1 = 3 then fs_okp (vp_in z14 80) ((if 0 ≤ (Op.cmpValue (FP.dcmp (M1.2.2.2 17 (Int32.toNatClampNeg z14)) z9) .g) then q_MO_workRange_L75_J180 self z1 z2 z3 z4 z5 z6 z7 z9 z11 z12 z13 z14 M1 else q_MO_workRange_L75_J171 self z1 z2 z3 z4 z5 z6 z7 z11 z12 z13 z14 M1)) else fs_okp (vp_in z14 80) ((if (Op.cmpValue (FP.dcmp (M1.2.2.2 17 (Int32.toNatClampNeg z14)) z9) .l) ≤ 0 then q_MO_workRange_L75_J180 self z1 z2 z3 z4 z5 z6 z7 z9 z11 z12 z13 z14 M1 else q_MO_workRange_L75_J171 self z1 z2 z3 z4 z5 z6 z7 z11 z12 z13 z14 M1))))
noncomputable def q_MO_workRange_L75 : Nat → Int32 → Int32 → Int32 → Int32 → Int32 → Int32 → UInt64 → UInt64 → Int32 → Int32 → Int32 → mo_S → Option (Int32 × UInt64 × UInt64 × Int32 × mo_S)
  | 0, _, _, _, _, _, _, _, _, _, _, _, _ => none
  | n + 1, z1, z2, z3, z4, z5, z6, z7, z9, z11, z12, z13, M1 => (if (p_MO_most (p_MO_row z2) (p_MO_row z3)) < z13 then some (z6, z7, z9, z11, M1) else fs_okp (vp_in ((10 * z12) + z13) 81) ((if (M1.2.1 0 (Int32.toNatClampNeg ((10 * z12) + z13))) = 0 then (q_MO_workRange_L75 n) z1 z2 z3 z4 z5 z6 z7 z9 z11 z12 (z13 + 1) M1 else (if z5 = 0 then fs_okp (vp_in ((10 * z12) + z13) 80) ((if (M1.2.1 18 (Int32.toNatClampNeg ((10 * z12) + z13))) = 0 then q_MO_workRange_L75_J132 (q_MO_workRange_L75 n) z1 z2 z3 z4 z5 z6 z7 z9 z11 z12 z13 ((10 * z12) + z13) M1 else q_MO_workRange_L75_J132 (q_MO_workRange_L75 n) z1 z2 z3 z4 z5 1 z7 z9 z11 z12 z13 ((10 * z12) + z13) M1)) else (q_MO_workRange_L75 n) z1 z2 z3 z4 z5 z6 z7 z9 z11 z12 (z13 + 1) M1))))
noncomputable def q_MO_workRange_L46 : Nat → Int32 → Int32 → Int32 → Int32 → Int32 → Int32 → UInt64 → UInt64 → Int32 → Int32 → mo_S → Option (Int32 × UInt64 × UInt64 × Int32 × mo_S)
  | 0, _, _, _, _, _, _, _, _, _, _, _ => none
  | n + 1, z1, z2, z3, z4, z5, z6, z7, z9, z11, z12, M1 => (if (p_MO_most (p_MO_column z2) (p_MO_column z3)) < z12 then some (z6, z7, z9, z11, M1) else Option.bind (q_MO_workRange_L75 17 z1 z2 z3 z4 z5 z6 z7 z9 z11 z12 (p_MO_least (p_MO_row z2) (p_MO_row z3)) M1) (fun R788 => (q_MO_workRange_L46 n) z1 z2 z3 z4 z5 R788.1 R788.2.1 R788.2.2.1 R788.2.2.2.1 (z12 + 1) R788.2.2.2.2))
noncomputable def q_MO_workRange_J19 (z1 : Int32) (z2 : Int32) (z3 : Int32) (z4 : Int32) (w0 : Int32) (M1 : mo_S) : Option (mo_S) := Option.bind (q_MO_workRange_L46 9 z1 z2 z3 z4 w0 0 FP.dconst0 FP.dconst0 0 (p_MO_least (p_MO_column z2) (p_MO_column z3)) M1) (fun R789 => (if z1 = 5 then fs_okp ((0 ≤ (Int32.toInt z4)) ∧ ((Int32.toInt z4) < 44)) (fs_let (p_MO_hold R789.2.2.2.2 z4 (FP.i2d R789.2.2.2.1) w0) (fun R806 => some R806)) else (if z1 = 2 then (if w0 = 0 then (if R789.1 = 0 then fs_okp ((0 ≤ (Int32.toInt z4)) ∧ ((Int32.toInt z4) < 44)) (fs_let (p_MO_hold R789.2.2.2.2 z4 R789.2.1 0) (fun R804 => some R804)) else fs_okp ((0 ≤ (Int32.toInt z4)) ∧ ((Int32.toInt z4) < 44)) (fs_let (p_MO_hold R789.2.2.2.2 z4 R789.2.1 1) (fun R805 => some R805))) else fs_okp ((0 ≤ (Int32.toInt z4)) ∧ ((Int32.toInt z4) < 44)) (fs_let (p_MO_hold R789.2.2.2.2 z4 R789.2.1 1) (fun R802 => some R802))) else (if z1 = 6 then (if R789.2.2.2.1 = 0 then q_MO_workRange_J303 w0 R789.1 R789.2.2.2.1 FP.dconst0 z4 R789.2.2.2.2 else fs_okp (vf_n64 (FP.ddiv R789.2.1 (FP.i2d R789.2.2.2.1))) (q_MO_workRange_J303 w0 R789.1 R789.2.2.2.1 (FP.ddiv R789.2.1 (FP.i2d R789.2.2.2.1)) z4 R789.2.2.2.2)) else (if w0 = 0 then (if R789.1 = 0 then (if R789.2.2.2.1 = 0 then fs_okp ((0 ≤ (Int32.toInt z4)) ∧ ((Int32.toInt z4) < 44)) (fs_let (p_MO_hold R789.2.2.2.2 z4 R789.2.2.1 1) (fun R799 => some R799)) else fs_okp ((0 ≤ (Int32.toInt z4)) ∧ ((Int32.toInt z4) < 44)) (fs_let (p_MO_hold R789.2.2.2.2 z4 R789.2.2.1 0) (fun R798 => some R798))) else fs_okp ((0 ≤ (Int32.toInt z4)) ∧ ((Int32.toInt z4) < 44)) (fs_let (p_MO_hold R789.2.2.2.2 z4 R789.2.2.1 1) (fun R796 => some R796))) else fs_okp ((0 ≤ (Int32.toInt z4)) ∧ ((Int32.toInt z4) < 44)) (fs_let (p_MO_hold R789.2.2.2.2 z4 R789.2.2.1 1) (fun R794 => some R794)))))))
noncomputable def q_MO_workRange_J14 (z1 : Int32) (z2 : Int32) (z3 : Int32) (z4 : Int32) (M1 : mo_S) : Option (mo_S) := q_MO_workRange_J19 z1 z2 z3 z4 1 M1
noncomputable def q_MO_workRange (M : mo_S) (x1 : Int32) (x2 : Int32) (x3 : Int32) (x4 : Int32) : Option (mo_S) := (if (p_MO_lost x2) = 0 then (if (p_MO_lost x3) = 0 then q_MO_workRange_J19 x1 x2 x3 x4 0 M else q_MO_workRange_J14 x1 x2 x3 x4 M) else q_MO_workRange_J14 x1 x2 x3 x4 M)
set_option maxHeartbeats 4000000 in
set_option maxRecDepth 100000 in
theorem l_MO_workRange_75 {p : Program} {l : Launch} {e : Env} {R : Room} {s : State} {m : MethodId} {args : Array Value} {below : List Frame} {meth : Method} {c : Code} {Q : State → Prop} {s00 : State} {G : fs_G} (hSt : fs_St l s00 G) (B : fs_B p l e s m args meth c s00 G y_MO_workRange b_MO_workRange 15 none) {h : fs_Hp} {a : Nat} {ad : Nat → Nat} (hR : 1 ≤ R.frames ∧ 16 ≤ R.locals) : ∀ (n : Nat) (z1 : Int32) (z2 : Int32) (z3 : Int32) (z4 : Int32) (z5 : Int32) (z6 : Int32) (z7 : UInt64) (z9 : UInt64) (z11 : Int32) (z12 : Int32) (z13 : Int32) (M1 : mo_S) (h1 : fs_Hp) (H : Heap) (locs : List Loc) (ls : Array Slot) (r : Int32 × UInt64 × UInt64 × Int32 × mo_S), q_MO_workRange_L75 n z1 z2 z3 z4 z5 z6 z7 z9 z11 z12 z13 M1 = some r → fs_P G.1 fs_cl (fs_A s00) h1 H → va_S (fs_A s00) s00.heap H locs → mo_at G h1 a ad M1 → mo_fr a ad h h1 → lv_has ls 15 [(0, .ref a), (1, .int z1), (2, .int z2), (3, .int z3), (4, .int z4), (5, .int z5), (6, .int z6), (7, .double z7), (9, .double z9), (11, .int z11), (12, .int z12), (13, .int z13)] → (∀ (h' : fs_Hp) (H : Heap) (locs : List Loc) (ls : Array Slot), fs_P G.1 fs_cl (fs_A s00) h' H → va_S (fs_A s00) s00.heap H locs → mo_at G h' a ad r.2.2.2.2 → mo_fr a ad h h' → lv_has ls 15 [(0, .ref a), (1, .int z1), (2, .int z2), (3, .int z3), (4, .int z4), (5, .int z5), (6, .int r.1), (7, .double r.2.1), (9, .double r.2.2.1), (11, .int r.2.2.2.1), (12, .int z12)] → W p l e R s m args below meth c H locs 0 0 Q (F0 m 223 ls [])) → W p l e R s m args below meth c H locs 0 0 Q (F0 m 75 ls []) := by
  obtain ⟨hx, hb, hr, hml, hown, hts, hlocks, hname, hK, hw, htr⟩ := id B
  have hown : s.vm.findClass "FormulaSheetModel" = some m.cls := hown
  intro n
  induction n with
  | zero => intro z1 z2 z3 z4 z5 z6 z7 z9 z11 z12 z13 M1 h1 H locs ls r hq; rw [q_MO_workRange_L75] at hq; cases hq
  | succ n ih =>
    intro z1 z2 z3 z4 z5 z6 z7 z9 z11 z12 z13 M1 h1 H locs ls r hq hP hS hM hf hl kk
    rw [q_MO_workRange_L75] at hq
    have hJ180 : ∀ (z6 : Int32) (z7 : UInt64) (z9 : UInt64) (z11 : Int32) (z13 : Int32) (z14 : Int32) (M1 : mo_S) (h1 : fs_Hp) (H : Heap) (locs : List Loc) (ls : Array Slot), q_MO_workRange_L75_J180 (q_MO_workRange_L75 n) z1 z2 z3 z4 z5 z6 z7 z9 z11 z12 z13 z14 M1 = some r → fs_P G.1 fs_cl (fs_A s00) h1 H → va_S (fs_A s00) s00.heap H locs → mo_at G h1 a ad M1 → mo_fr a ad h h1 → lv_has ls 15 [(0, .ref a), (1, .int z1), (2, .int z2), (3, .int z3), (4, .int z4), (5, .int z5), (6, .int z6), (7, .double z7), (9, .double z9), (11, .int z11), (12, .int z12), (13, .int z13), (14, .int z14)] → W p l e R s m args below meth c H locs 0 0 Q (F0 m 180 ls ([])) := by
      intro z6 z7 z9 z11 z13 z14 M1 h1 H locs ls hq hP hS hM hf hl
      rw [q_MO_workRange_L75_J180] at hq
      refine lv_dload hx hb d_MO_workRange_180 (lv_at hl 7 rfl) ?_
      refine lv_aload_n hx hb d_MO_workRange_182 rfl (lv_at hl 0 rfl) ?_
      refine fs_get (v := .ref (ad 17)) hx hb hts hown hK c_MO hP hM.1 17 (by decide) (hts _ (fs_tb_at 1473 tw_1473 rfl)) (fun _ h9 => h9) rfl d_MO_workRange_183 ?_
      refine lv_iload hx hb d_MO_workRange_186 (lv_at hl 12 rfl) ?_
      obtain ⟨hi_, hq⟩ := fs_okp_some hq
      refine fs_dald (f := M1.2.2.2 17) hx hb hK hP 2 (hM.2.1 17 2 80 rfl) rfl hi_ d_MO_workRange_188 ?_
      obtain ⟨hk_, hq⟩ := fs_okp_some hq
      refine lv_dadd hx hb d_MO_workRange_189 hk_ ?_
      refine lv_dstore (lv' := [(7, .double (FP.dadd z7 (M1.2.2.2 17 (Int32.toNatClampNeg z14)))), (0, .ref a), (1, .int z1), (2, .int z2), (3, .int z3), (4, .int z4), (5, .int z5), (6, .int z6), (9, .double z9), (11, .int z11), (12, .int z12), (13, .int z13), (14, .int z14)]) hx hb d_MO_workRange_190 hl (by decide) rfl (fun ls hl => ?_)
      refine lv_dload hx hb d_MO_workRange_192 (lv_at hl 0 rfl) ?_
      refine fs_cS B hl.1 hP hS (k_MO_tooGreat hSt (FP.dadd z7 (M1.2.2.2 17 (Int32.toNatClampNeg z14)))) (fs_tb_at 1723 tw_1723 rfl) (fs_tb_at 1724 tw_1724 rfl) (fs_tb_at 96 tw_96 rfl) (fs_tb_at 1725 tw_1725 rfl) (by decide) (show (parseMethodDescriptor y_MO_tooGreat.desc).map (fun d => d.parameters.length) = some 1 by decide +kernel) rfl d_MO_workRange_194 ⟨Nat.le_trans (Nat.le_of_ble_eq_true rfl) hR.1, Nat.le_trans (Nat.le_of_ble_eq_true rfl) hR.2, Nat.zero_le _, Nat.zero_le _⟩ (fun v_ h_ H locs hc_ hP hS => ?_) (fun C_ a_ h_ H locs hc_ => absurd hc_.1 (fun h9 => by cases h9))
      obtain ⟨ev, eh⟩ := hc_
      cases ev
      rw [eh] at hP
      refine W.widen (k := 0) (n := 0) (Nat.le_of_ble_eq_true rfl) (Nat.le_of_ble_eq_true rfl) ?_
      refine W.eq (g2 := F0 m 197 ls (.int (p_MO_tooGreat (FP.dadd z7 (M1.2.2.2 17 (Int32.toNatClampNeg z14)))) :: [])) rfl ?_
      refine lv_if_eq (tgt := 214) hx hb d_MO_workRange_197 (by decide) (fun c_777 => ?_) (fun c_777 => ?_)
      · have hq := fs_ifp c_777 hq
        refine lv_iinc (v := z11 + 1) (lv' := [(11, .int (z11 + 1)), (7, .double (FP.dadd z7 (M1.2.2.2 17 (Int32.toNatClampNeg z14)))), (0, .ref a), (1, .int z1), (2, .int z2), (3, .int z3), (4, .int z4), (5, .int z5), (6, .int z6), (9, .double z9), (12, .int z12), (13, .int z13), (14, .int z14)]) hx hb d_MO_workRange_214 hl (k := 9) rfl rfl (by decide) rfl (fun ls hl => ?_)
        refine lv_iinc (v := z13 + 1) (lv' := [(13, .int (z13 + 1)), (11, .int (z11 + 1)), (7, .double (FP.dadd z7 (M1.2.2.2 17 (Int32.toNatClampNeg z14)))), (0, .ref a), (1, .int z1), (2, .int z2), (3, .int z3), (4, .int z4), (5, .int z5), (6, .int z6), (9, .double z9), (12, .int z12), (14, .int z14)]) hx hb d_MO_workRange_217 hl (k := 11) rfl rfl (by decide) rfl (fun ls hl => ?_)
        refine lv_goto (tgt := 75) hx hb d_MO_workRange_220 (by decide) ?_
        exact ih z1 z2 z3 z4 z5 z6 (FP.dadd z7 (M1.2.2.2 17 (Int32.toNatClampNeg z14))) z9 (z11 + 1) z12 (z13 + 1) M1 _ _ _ _ r hq hP hS hM hf (lv_sub hl [3, 4, 5, 6, 7, 8, 9, 2, 10, 1, 11, 0] rfl) kk
      · have hq := fs_ifn c_777 hq
        refine lv_iload_n hx hb d_MO_workRange_200 rfl (lv_at hl 2 rfl) ?_
        refine lv_iconst (v := 2) hx hb d_MO_workRange_201 (by decide) ?_
        refine lv_icmp_eq (tgt := 211) hx hb d_MO_workRange_202 (by decide) (fun c_778 => ?_) (fun c_778 => ?_)
        · have hq := fs_ifp c_778 hq
          refine lv_iconst (v := 1) hx hb d_MO_workRange_211 (by decide) ?_
          refine lv_istore (lv' := [(6, .int 1), (7, .double (FP.dadd z7 (M1.2.2.2 17 (Int32.toNatClampNeg z14)))), (0, .ref a), (1, .int z1), (2, .int z2), (3, .int z3), (4, .int z4), (5, .int z5), (9, .double z9), (11, .int z11), (12, .int z12), (13, .int z13), (14, .int z14)]) hx hb d_MO_workRange_212 hl (by decide) rfl (fun ls hl => ?_)
          refine lv_iinc (v := z11 + 1) (lv' := [(11, .int (z11 + 1)), (6, .int 1), (7, .double (FP.dadd z7 (M1.2.2.2 17 (Int32.toNatClampNeg z14)))), (0, .ref a), (1, .int z1), (2, .int z2), (3, .int z3), (4, .int z4), (5, .int z5), (9, .double z9), (12, .int z12), (13, .int z13), (14, .int z14)]) hx hb d_MO_workRange_214 hl (k := 9) rfl rfl (by decide) rfl (fun ls hl => ?_)
          refine lv_iinc (v := z13 + 1) (lv' := [(13, .int (z13 + 1)), (11, .int (z11 + 1)), (6, .int 1), (7, .double (FP.dadd z7 (M1.2.2.2 17 (Int32.toNatClampNeg z14)))), (0, .ref a), (1, .int z1), (2, .int z2), (3, .int z3), (4, .int z4), (5, .int z5), (9, .double z9), (12, .int z12), (14, .int z14)]) hx hb d_MO_workRange_217 hl (k := 11) rfl rfl (by decide) rfl (fun ls hl => ?_)
          refine lv_goto (tgt := 75) hx hb d_MO_workRange_220 (by decide) ?_
          exact ih z1 z2 z3 z4 z5 1 (FP.dadd z7 (M1.2.2.2 17 (Int32.toNatClampNeg z14))) z9 (z11 + 1) z12 (z13 + 1) M1 _ _ _ _ r hq hP hS hM hf (lv_sub hl [4, 5, 6, 7, 8, 9, 2, 3, 10, 1, 11, 0] rfl) kk
        · have hq := fs_ifn c_778 hq
          refine lv_iload_n hx hb d_MO_workRange_205 rfl (lv_at hl 2 rfl) ?_
          refine lv_bipush (v := 6) hx hb d_MO_workRange_206 (by decide) ?_
          refine lv_icmp_ne (tgt := 214) hx hb d_MO_workRange_208 (by decide) (fun c_779 => ?_) (fun c_779 => ?_)
          · have hq := fs_ifn c_779 hq
            refine lv_iinc (v := z11 + 1) (lv' := [(11, .int (z11 + 1)), (7, .double (FP.dadd z7 (M1.2.2.2 17 (Int32.toNatClampNeg z14)))), (0, .ref a), (1, .int z1), (2, .int z2), (3, .int z3), (4, .int z4), (5, .int z5), (6, .int z6), (9, .double z9), (12, .int z12), (13, .int z13), (14, .int z14)]) hx hb d_MO_workRange_214 hl (k := 9) rfl rfl (by decide) rfl (fun ls hl => ?_)
            refine lv_iinc (v := z13 + 1) (lv' := [(13, .int (z13 + 1)), (11, .int (z11 + 1)), (7, .double (FP.dadd z7 (M1.2.2.2 17 (Int32.toNatClampNeg z14)))), (0, .ref a), (1, .int z1), (2, .int z2), (3, .int z3), (4, .int z4), (5, .int z5), (6, .int z6), (9, .double z9), (12, .int z12), (14, .int z14)]) hx hb d_MO_workRange_217 hl (k := 11) rfl rfl (by decide) rfl (fun ls hl => ?_)
            refine lv_goto (tgt := 75) hx hb d_MO_workRange_220 (by decide) ?_
            exact ih z1 z2 z3 z4 z5 z6 (FP.dadd z7 (M1.2.2.2 17 (Int32.toNatClampNeg z14))) z9 (z11 + 1) z12 (z13 + 1) M1 _ _ _ _ r hq hP hS hM hf (lv_sub hl [3, 4, 5, 6, 7, 8, 9, 2, 10, 1, 11, 0] rfl) kk
          · have hq := fs_ifp c_779 hq
            refine lv_iconst (v := 1) hx hb d_MO_workRange_211 (by decide) ?_
            refine lv_istore (lv' := [(6, .int 1), (7, .double (FP.dadd z7 (M1.2.2.2 17 (Int32.toNatClampNeg z14)))), (0, .ref a), (1, .int z1), (2, .int z2), (3, .int z3), (4, .int z4), (5, .int z5), (9, .double z9), (11, .int z11), (12, .int z12), (13, .int z13), (14, .int z14)]) hx hb d_MO_workRange_212 hl (by decide) rfl (fun ls hl => ?_)
            refine lv_iinc (v := z11 + 1) (lv' := [(11, .int (z11 + 1)), (6, .int 1), (7, .double (FP.dadd z7 (M1.2.2.2 17 (Int32.toNatClampNeg z14)))), (0, .ref a), (1, .int z1), (2, .int z2), (3, .int z3), (4, .int z4), (5, .int z5), (9, .double z9), (12, .int z12), (13, .int z13), (14, .int z14)]) hx hb d_MO_workRange_214 hl (k := 9) rfl rfl (by decide) rfl (fun ls hl => ?_)
            refine lv_iinc (v := z13 + 1) (lv' := [(13, .int (z13 + 1)), (11, .int (z11 + 1)), (6, .int 1), (7, .double (FP.dadd z7 (M1.2.2.2 17 (Int32.toNatClampNeg z14)))), (0, .ref a), (1, .int z1), (2, .int z2), (3, .int z3), (4, .int z4), (5, .int z5), (9, .double z9), (12, .int z12), (14, .int z14)]) hx hb d_MO_workRange_217 hl (k := 11) rfl rfl (by decide) rfl (fun ls hl => ?_)
            refine lv_goto (tgt := 75) hx hb d_MO_workRange_220 (by decide) ?_
            exact ih z1 z2 z3 z4 z5 1 (FP.dadd z7 (M1.2.2.2 17 (Int32.toNatClampNeg z14))) z9 (z11 + 1) z12 (z13 + 1) M1 _ _ _ _ r hq hP hS hM hf (lv_sub hl [4, 5, 6, 7, 8, 9, 2, 3, 10, 1, 11, 0] rfl) kk
    have hJ171 : ∀ (z6 : Int32) (z7 : UInt64) (z11 : Int32) (z13 : Int32) (z14 : Int32) (M1 : mo_S) (h1 : fs_Hp) (H : Heap) (locs : List Loc) (ls : Array Slot), q_MO_workRange_L75_J171 (q_MO_workRange_L75 n) z1 z2 z3 z4 z5 z6 z7 z11 z12 z13 z14 M1 = some r → fs_P G.1 fs_cl (fs_A s00) h1 H → va_S (fs_A s00) s00.heap H locs → mo_at G h1 a ad M1 → mo_fr a ad h h1 → lv_has ls 15 [(0, .ref a), (1, .int z1), (2, .int z2), (3, .int z3), (4, .int z4), (5, .int z5), (6, .int z6), (7, .double z7), (11, .int z11), (12, .int z12), (13, .int z13), (14, .int z14)] → W p l e R s m args below meth c H locs 0 0 Q (F0 m 171 ls ([])) := by
      intro z6 z7 z11 z13 z14 M1 h1 H locs ls hq hP hS hM hf hl
      rw [q_MO_workRange_L75_J171] at hq
      refine lv_aload_n hx hb d_MO_workRange_171 rfl (lv_at hl 0 rfl) ?_
      refine fs_get (v := .ref (ad 17)) hx hb hts hown hK c_MO hP hM.1 17 (by decide) (hts _ (fs_tb_at 1473 tw_1473 rfl)) (fun _ h9 => h9) rfl d_MO_workRange_172 ?_
      refine lv_iload hx hb d_MO_workRange_175 (lv_at hl 11 rfl) ?_
      obtain ⟨hi_, hq⟩ := fs_okp_some hq
      refine fs_dald (f := M1.2.2.2 17) hx hb hK hP 2 (hM.2.1 17 2 80 rfl) rfl hi_ d_MO_workRange_177 ?_
      refine lv_dstore (lv' := [(9, .double (M1.2.2.2 17 (Int32.toNatClampNeg z14))), (0, .ref a), (1, .int z1), (2, .int z2), (3, .int z3), (4, .int z4), (5, .int z5), (6, .int z6), (7, .double z7), (11, .int z11), (12, .int z12), (13, .int z13), (14, .int z14)]) hx hb d_MO_workRange_178 hl (by decide) rfl (fun ls hl => ?_)
      exact hJ180 z6 z7 (M1.2.2.2 17 (Int32.toNatClampNeg z14)) z11 z13 z14 M1 _ _ _ _ hq hP hS hM hf (lv_sub hl [1, 2, 3, 4, 5, 6, 7, 8, 0, 9, 10, 11, 12] rfl)
    have hJ132 : ∀ (z6 : Int32) (z7 : UInt64) (z9 : UInt64) (z11 : Int32) (z13 : Int32) (z14 : Int32) (M1 : mo_S) (h1 : fs_Hp) (H : Heap) (locs : List Loc) (ls : Array Slot), q_MO_workRange_L75_J132 (q_MO_workRange_L75 n) z1 z2 z3 z4 z5 z6 z7 z9 z11 z12 z13 z14 M1 = some r → fs_P G.1 fs_cl (fs_A s00) h1 H → va_S (fs_A s00) s00.heap H locs → mo_at G h1 a ad M1 → mo_fr a ad h h1 → lv_has ls 15 [(0, .ref a), (1, .int z1), (2, .int z2), (3, .int z3), (4, .int z4), (5, .int z5), (6, .int z6), (7, .double z7), (9, .double z9), (11, .int z11), (12, .int z12), (13, .int z13), (14, .int z14)] → W p l e R s m args below meth c H locs 0 0 Q (F0 m 132 ls ([])) := by
      intro z6 z7 z9 z11 z13 z14 M1 h1 H locs ls hq hP hS hM hf hl
      rw [q_MO_workRange_L75_J132] at hq
      refine lv_iload hx hb d_MO_workRange_132 (lv_at hl 9 rfl) ?_
      refine lv_if_eq (tgt := 171) hx hb d_MO_workRange_134 (by decide) (fun c_780 => ?_) (fun c_780 => ?_)
      · have hq := fs_ifp c_780 hq
        exact hJ171 z6 z7 z11 z13 z14 M1 _ _ _ _ hq hP hS hM hf (lv_sub hl [0, 1, 2, 3, 4, 5, 6, 7, 9, 10, 11, 12] rfl)
      · have hq := fs_ifn c_780 hq
        refine lv_iload_n hx hb d_MO_workRange_137 rfl (lv_at hl 1 rfl) ?_
        refine lv_iconst (v := 3) hx hb d_MO_workRange_138 (by decide) ?_
        refine lv_icmp_ne (tgt := 158) hx hb d_MO_workRange_139 (by decide) (fun c_781 => ?_) (fun c_781 => ?_)
        · have hq := fs_ifn c_781 hq
          refine lv_aload_n hx hb d_MO_workRange_158 rfl (lv_at hl 0 rfl) ?_
          refine fs_get (v := .ref (ad 17)) hx hb hts hown hK c_MO hP hM.1 17 (by decide) (hts _ (fs_tb_at 1473 tw_1473 rfl)) (fun _ h9 => h9) rfl d_MO_workRange_159 ?_
          refine lv_iload hx hb d_MO_workRange_162 (lv_at hl 12 rfl) ?_
          obtain ⟨hi_, hq⟩ := fs_okp_some hq
          refine fs_dald (f := M1.2.2.2 17) hx hb hK hP 2 (hM.2.1 17 2 80 rfl) rfl hi_ d_MO_workRange_164 ?_
          refine lv_dload hx hb d_MO_workRange_165 (lv_at hl 8 rfl) ?_
          refine lv_dcmp hx hb d_MO_workRange_167 ?_
          refine lv_if_le (tgt := 180) hx hb d_MO_workRange_168 (by decide) (fun c_782 => ?_) (fun c_782 => ?_)
          · have hq := fs_ifp c_782 hq
            exact hJ180 z6 z7 z9 z11 z13 z14 M1 _ _ _ _ hq hP hS hM hf (lv_sub hl [0, 1, 2, 3, 4, 5, 6, 7, 8, 9, 10, 11, 12] rfl)
          · have hq := fs_ifn c_782 hq
            exact hJ171 z6 z7 z11 z13 z14 M1 _ _ _ _ hq hP hS hM hf (lv_sub hl [0, 1, 2, 3, 4, 5, 6, 7, 9, 10, 11, 12] rfl)
        · have hq := fs_ifp c_781 hq
          refine lv_aload_n hx hb d_MO_workRange_142 rfl (lv_at hl 0 rfl) ?_
          refine fs_get (v := .ref (ad 17)) hx hb hts hown hK c_MO hP hM.1 17 (by decide) (hts _ (fs_tb_at 1473 tw_1473 rfl)) (fun _ h9 => h9) rfl d_MO_workRange_143 ?_
          refine lv_iload hx hb d_MO_workRange_146 (lv_at hl 12 rfl) ?_
          obtain ⟨hi_, hq⟩ := fs_okp_some hq
          refine fs_dald (f := M1.2.2.2 17) hx hb hK hP 2 (hM.2.1 17 2 80 rfl) rfl hi_ d_MO_workRange_148 ?_
          refine lv_dload hx hb d_MO_workRange_149 (lv_at hl 8 rfl) ?_
          refine lv_dcmp hx hb d_MO_workRange_151 ?_
          refine lv_if_ge (tgt := 180) hx hb d_MO_workRange_152 (by decide) (fun c_783 => ?_) (fun c_783 => ?_)
          · have hq := fs_ifp c_783 hq
            exact hJ180 z6 z7 z9 z11 z13 z14 M1 _ _ _ _ hq hP hS hM hf (lv_sub hl [0, 1, 2, 3, 4, 5, 6, 7, 8, 9, 10, 11, 12] rfl)
          · have hq := fs_ifn c_783 hq
            refine lv_goto (tgt := 171) hx hb d_MO_workRange_155 (by decide) ?_
            exact hJ171 z6 z7 z11 z13 z14 M1 _ _ _ _ hq hP hS hM hf (lv_sub hl [0, 1, 2, 3, 4, 5, 6, 7, 9, 10, 11, 12] rfl)
    refine lv_iload hx hb d_MO_workRange_75 (lv_at hl 11 rfl) ?_
    refine lv_iload_n hx hb d_MO_workRange_77 rfl (lv_at hl 2 rfl) ?_
    refine fs_cS B hl.1 hP hS (k_MO_row hSt z2) (fs_tb_at 1675 tw_1675 rfl) (fs_tb_at 1676 tw_1676 rfl) (fs_tb_at 96 tw_96 rfl) (fs_tb_at 1677 tw_1677 rfl) (by decide) (show (parseMethodDescriptor y_MO_row.desc).map (fun d => d.parameters.length) = some 1 by decide +kernel) rfl d_MO_workRange_78 ⟨Nat.le_trans (Nat.le_of_ble_eq_true rfl) hR.1, Nat.le_trans (Nat.le_of_ble_eq_true rfl) hR.2, Nat.zero_le _, Nat.zero_le _⟩ (fun v_ h_ H locs hc_ hP hS => ?_) (fun C_ a_ h_ H locs hc_ => absurd hc_.1 (fun h9 => by cases h9))
    obtain ⟨ev, eh⟩ := hc_
    cases ev
    rw [eh] at hP
    refine W.widen (k := 0) (n := 0) (Nat.le_of_ble_eq_true rfl) (Nat.le_of_ble_eq_true rfl) ?_
    refine W.eq (g2 := F0 m 81 ls (.int (p_MO_row z2) :: .int z13 :: [])) rfl ?_
    refine lv_iload_n hx hb d_MO_workRange_81 rfl (lv_at hl 3 rfl) ?_
    refine fs_cS B hl.1 hP hS (k_MO_row hSt z3) (fs_tb_at 1675 tw_1675 rfl) (fs_tb_at 1676 tw_1676 rfl) (fs_tb_at 96 tw_96 rfl) (fs_tb_at 1677 tw_1677 rfl) (by decide) (show (parseMethodDescriptor y_MO_row.desc).map (fun d => d.parameters.length) = some 1 by decide +kernel) rfl d_MO_workRange_82 ⟨Nat.le_trans (Nat.le_of_ble_eq_true rfl) hR.1, Nat.le_trans (Nat.le_of_ble_eq_true rfl) hR.2, Nat.zero_le _, Nat.zero_le _⟩ (fun v_ h_ H locs hc_ hP hS => ?_) (fun C_ a_ h_ H locs hc_ => absurd hc_.1 (fun h9 => by cases h9))
    obtain ⟨ev, eh⟩ := hc_
    cases ev
    rw [eh] at hP
    refine W.widen (k := 0) (n := 0) (Nat.le_of_ble_eq_true rfl) (Nat.le_of_ble_eq_true rfl) ?_
    refine W.eq (g2 := F0 m 85 ls (.int (p_MO_row z3) :: .int (p_MO_row z2) :: .int z13 :: [])) rfl ?_
    refine fs_cS B hl.1 hP hS (k_MO_most hSt (p_MO_row z2) (p_MO_row z3)) (fs_tb_at 1692 tw_1692 rfl) (fs_tb_at 1693 tw_1693 rfl) (fs_tb_at 96 tw_96 rfl) (fs_tb_at 1694 tw_1694 rfl) (by decide) (show (parseMethodDescriptor y_MO_most.desc).map (fun d => d.parameters.length) = some 2 by decide +kernel) rfl d_MO_workRange_85 ⟨Nat.le_trans (Nat.le_of_ble_eq_true rfl) hR.1, Nat.le_trans (Nat.le_of_ble_eq_true rfl) hR.2, Nat.zero_le _, Nat.zero_le _⟩ (fun v_ h_ H locs hc_ hP hS => ?_) (fun C_ a_ h_ H locs hc_ => absurd hc_.1 (fun h9 => by cases h9))
    obtain ⟨ev, eh⟩ := hc_
    cases ev
    rw [eh] at hP
    refine W.widen (k := 0) (n := 0) (Nat.le_of_ble_eq_true rfl) (Nat.le_of_ble_eq_true rfl) ?_
    refine W.eq (g2 := F0 m 88 ls (.int (p_MO_most (p_MO_row z2) (p_MO_row z3)) :: .int z13 :: [])) rfl ?_
    refine lv_icmp_gt (tgt := 223) hx hb d_MO_workRange_88 (by decide) (fun c_784 => ?_) (fun c_784 => ?_)
    · have hq := fs_ifp c_784 hq
      cases hq
      exact kk _ _ _ _ hP hS hM hf (lv_sub hl [0, 1, 2, 3, 4, 5, 6, 7, 8, 9, 10] rfl)
    · have hq := fs_ifn c_784 hq
      refine lv_bipush (v := 10) hx hb d_MO_workRange_91 (by decide) ?_
      refine lv_iload hx hb d_MO_workRange_93 (lv_at hl 10 rfl) ?_
      refine lv_imul hx hb d_MO_workRange_95 ?_
      refine lv_iload hx hb d_MO_workRange_96 (lv_at hl 11 rfl) ?_
      refine lv_iadd hx hb d_MO_workRange_98 ?_
      refine lv_istore (lv' := [(14, .int ((10 * z12) + z13)), (0, .ref a), (1, .int z1), (2, .int z2), (3, .int z3), (4, .int z4), (5, .int z5), (6, .int z6), (7, .double z7), (9, .double z9), (11, .int z11), (12, .int z12), (13, .int z13)]) hx hb d_MO_workRange_99 hl (by decide) rfl (fun ls hl => ?_)
      refine lv_aload_n hx hb d_MO_workRange_101 rfl (lv_at hl 1 rfl) ?_
      refine fs_get (v := .ref (ad 0)) hx hb hts hown hK c_MO hP hM.1 0 (by decide) (hts _ (fs_tb_at 1456 tw_1456 rfl)) (fun _ h9 => h9) rfl d_MO_workRange_102 ?_
      refine lv_iload hx hb d_MO_workRange_105 (lv_at hl 0 rfl) ?_
      obtain ⟨hi_, hq⟩ := fs_okp_some hq
      refine fs_iald (f := M1.2.1 0) hx hb hK hP 0 (hM.2.1 0 0 81 rfl) rfl hi_ d_MO_workRange_107 ?_
      refine lv_if_eq (tgt := 217) hx hb d_MO_workRange_108 (by decide) (fun c_785 => ?_) (fun c_785 => ?_)
      · have hq := fs_ifp c_785 hq
        refine lv_iinc (v := z13 + 1) (lv' := [(13, .int (z13 + 1)), (14, .int ((10 * z12) + z13)), (0, .ref a), (1, .int z1), (2, .int z2), (3, .int z3), (4, .int z4), (5, .int z5), (6, .int z6), (7, .double z7), (9, .double z9), (11, .int z11), (12, .int z12)]) hx hb d_MO_workRange_217 hl (k := 12) rfl rfl (by decide) rfl (fun ls hl => ?_)
        refine lv_goto (tgt := 75) hx hb d_MO_workRange_220 (by decide) ?_
        exact ih z1 z2 z3 z4 z5 z6 z7 z9 z11 z12 (z13 + 1) M1 _ _ _ _ r hq hP hS hM hf (lv_sub hl [2, 3, 4, 5, 6, 7, 8, 9, 10, 11, 12, 0] rfl) kk
      · have hq := fs_ifn c_785 hq
        refine lv_iload hx hb d_MO_workRange_111 (lv_at hl 6 rfl) ?_
        refine lv_if_eq (tgt := 119) hx hb d_MO_workRange_113 (by decide) (fun c_786 => ?_) (fun c_786 => ?_)
        · have hq := fs_ifp c_786 hq
          refine lv_aload_n hx hb d_MO_workRange_119 rfl (lv_at hl 1 rfl) ?_
          refine fs_get (v := .ref (ad 18)) hx hb hts hown hK c_MO hP hM.1 18 (by decide) (hts _ (fs_tb_at 1474 tw_1474 rfl)) (fun _ h9 => h9) rfl d_MO_workRange_120 ?_
          refine lv_iload hx hb d_MO_workRange_123 (lv_at hl 0 rfl) ?_
          obtain ⟨hi_, hq⟩ := fs_okp_some hq
          refine fs_zald (f := M1.2.1 18) hx hb hK hP 3 (hM.2.1 18 3 80 rfl) rfl hi_ d_MO_workRange_125 ?_
          refine lv_if_eq (tgt := 132) hx hb d_MO_workRange_126 (by decide) (fun c_787 => ?_) (fun c_787 => ?_)
          · have hq := fs_ifp c_787 hq
            exact hJ132 z6 z7 z9 z11 z13 ((10 * z12) + z13) M1 _ _ _ _ hq hP hS hM hf (lv_sub hl [1, 2, 3, 4, 5, 6, 7, 8, 9, 10, 11, 12, 0] rfl)
          · have hq := fs_ifn c_787 hq
            refine lv_iconst (v := 1) hx hb d_MO_workRange_129 (by decide) ?_
            refine lv_istore (lv' := [(6, .int 1), (14, .int ((10 * z12) + z13)), (0, .ref a), (1, .int z1), (2, .int z2), (3, .int z3), (4, .int z4), (5, .int z5), (7, .double z7), (9, .double z9), (11, .int z11), (12, .int z12), (13, .int z13)]) hx hb d_MO_workRange_130 hl (by decide) rfl (fun ls hl => ?_)
            exact hJ132 1 z7 z9 z11 z13 ((10 * z12) + z13) M1 _ _ _ _ hq hP hS hM hf (lv_sub hl [2, 3, 4, 5, 6, 7, 0, 8, 9, 10, 11, 12, 1] rfl)
        · have hq := fs_ifn c_786 hq
          refine lv_goto (tgt := 217) hx hb d_MO_workRange_116 (by decide) ?_
          refine lv_iinc (v := z13 + 1) (lv' := [(13, .int (z13 + 1)), (14, .int ((10 * z12) + z13)), (0, .ref a), (1, .int z1), (2, .int z2), (3, .int z3), (4, .int z4), (5, .int z5), (6, .int z6), (7, .double z7), (9, .double z9), (11, .int z11), (12, .int z12)]) hx hb d_MO_workRange_217 hl (k := 12) rfl rfl (by decide) rfl (fun ls hl => ?_)
          refine lv_goto (tgt := 75) hx hb d_MO_workRange_220 (by decide) ?_
          exact ih z1 z2 z3 z4 z5 z6 z7 z9 z11 z12 (z13 + 1) M1 _ _ _ _ r hq hP hS hM hf (lv_sub hl [2, 3, 4, 5, 6, 7, 8, 9, 10, 11, 12, 0] rfl) kk
set_option maxHeartbeats 4000000 in
set_option maxRecDepth 100000 in
theorem l_MO_workRange_46 {p : Program} {l : Launch} {e : Env} {R : Room} {s : State} {m : MethodId} {args : Array Value} {below : List Frame} {meth : Method} {c : Code} {Q : State → Prop} {s00 : State} {G : fs_G} (hSt : fs_St l s00 G) (B : fs_B p l e s m args meth c s00 G y_MO_workRange b_MO_workRange 15 none) {h : fs_Hp} {a : Nat} {ad : Nat → Nat} (hR : 1 ≤ R.frames ∧ 16 ≤ R.locals) : ∀ (n : Nat) (z1 : Int32) (z2 : Int32) (z3 : Int32) (z4 : Int32) (z5 : Int32) (z6 : Int32) (z7 : UInt64) (z9 : UInt64) (z11 : Int32) (z12 : Int32) (M1 : mo_S) (h1 : fs_Hp) (H : Heap) (locs : List Loc) (ls : Array Slot) (r : Int32 × UInt64 × UInt64 × Int32 × mo_S), q_MO_workRange_L46 n z1 z2 z3 z4 z5 z6 z7 z9 z11 z12 M1 = some r → fs_P G.1 fs_cl (fs_A s00) h1 H → va_S (fs_A s00) s00.heap H locs → mo_at G h1 a ad M1 → mo_fr a ad h h1 → lv_has ls 15 [(0, .ref a), (1, .int z1), (2, .int z2), (3, .int z3), (4, .int z4), (5, .int z5), (6, .int z6), (7, .double z7), (9, .double z9), (11, .int z11), (12, .int z12)] → (∀ (h' : fs_Hp) (H : Heap) (locs : List Loc) (ls : Array Slot), fs_P G.1 fs_cl (fs_A s00) h' H → va_S (fs_A s00) s00.heap H locs → mo_at G h' a ad r.2.2.2.2 → mo_fr a ad h h' → lv_has ls 15 [(0, .ref a), (1, .int z1), (2, .int z2), (3, .int z3), (4, .int z4), (5, .int z5), (6, .int r.1), (7, .double r.2.1), (9, .double r.2.2.1), (11, .int r.2.2.2.1)] → W p l e R s m args below meth c H locs 0 0 Q (F0 m 229 ls [])) → W p l e R s m args below meth c H locs 0 0 Q (F0 m 46 ls []) := by
  obtain ⟨hx, hb, hr, hml, hown, hts, hlocks, hname, hK, hw, htr⟩ := id B
  have hown : s.vm.findClass "FormulaSheetModel" = some m.cls := hown
  intro n
  induction n with
  | zero => intro z1 z2 z3 z4 z5 z6 z7 z9 z11 z12 M1 h1 H locs ls r hq; rw [q_MO_workRange_L46] at hq; cases hq
  | succ n ih =>
    intro z1 z2 z3 z4 z5 z6 z7 z9 z11 z12 M1 h1 H locs ls r hq hP hS hM hf hl kk
    rw [q_MO_workRange_L46] at hq
    refine lv_iload hx hb d_MO_workRange_46 (lv_at hl 10 rfl) ?_
    refine lv_iload_n hx hb d_MO_workRange_48 rfl (lv_at hl 2 rfl) ?_
    refine fs_cS B hl.1 hP hS (k_MO_column hSt z2) (fs_tb_at 1672 tw_1672 rfl) (fs_tb_at 1673 tw_1673 rfl) (fs_tb_at 96 tw_96 rfl) (fs_tb_at 1674 tw_1674 rfl) (by decide) (show (parseMethodDescriptor y_MO_column.desc).map (fun d => d.parameters.length) = some 1 by decide +kernel) rfl d_MO_workRange_49 ⟨Nat.le_trans (Nat.le_of_ble_eq_true rfl) hR.1, Nat.le_trans (Nat.le_of_ble_eq_true rfl) hR.2, Nat.zero_le _, Nat.zero_le _⟩ (fun v_ h_ H locs hc_ hP hS => ?_) (fun C_ a_ h_ H locs hc_ => absurd hc_.1 (fun h9 => by cases h9))
    obtain ⟨ev, eh⟩ := hc_
    cases ev
    rw [eh] at hP
    refine W.widen (k := 0) (n := 0) (Nat.le_of_ble_eq_true rfl) (Nat.le_of_ble_eq_true rfl) ?_
    refine W.eq (g2 := F0 m 52 ls (.int (p_MO_column z2) :: .int z12 :: [])) rfl ?_
    refine lv_iload_n hx hb d_MO_workRange_52 rfl (lv_at hl 3 rfl) ?_
    refine fs_cS B hl.1 hP hS (k_MO_column hSt z3) (fs_tb_at 1672 tw_1672 rfl) (fs_tb_at 1673 tw_1673 rfl) (fs_tb_at 96 tw_96 rfl) (fs_tb_at 1674 tw_1674 rfl) (by decide) (show (parseMethodDescriptor y_MO_column.desc).map (fun d => d.parameters.length) = some 1 by decide +kernel) rfl d_MO_workRange_53 ⟨Nat.le_trans (Nat.le_of_ble_eq_true rfl) hR.1, Nat.le_trans (Nat.le_of_ble_eq_true rfl) hR.2, Nat.zero_le _, Nat.zero_le _⟩ (fun v_ h_ H locs hc_ hP hS => ?_) (fun C_ a_ h_ H locs hc_ => absurd hc_.1 (fun h9 => by cases h9))
    obtain ⟨ev, eh⟩ := hc_
    cases ev
    rw [eh] at hP
    refine W.widen (k := 0) (n := 0) (Nat.le_of_ble_eq_true rfl) (Nat.le_of_ble_eq_true rfl) ?_
    refine W.eq (g2 := F0 m 56 ls (.int (p_MO_column z3) :: .int (p_MO_column z2) :: .int z12 :: [])) rfl ?_
    refine fs_cS B hl.1 hP hS (k_MO_most hSt (p_MO_column z2) (p_MO_column z3)) (fs_tb_at 1692 tw_1692 rfl) (fs_tb_at 1693 tw_1693 rfl) (fs_tb_at 96 tw_96 rfl) (fs_tb_at 1694 tw_1694 rfl) (by decide) (show (parseMethodDescriptor y_MO_most.desc).map (fun d => d.parameters.length) = some 2 by decide +kernel) rfl d_MO_workRange_56 ⟨Nat.le_trans (Nat.le_of_ble_eq_true rfl) hR.1, Nat.le_trans (Nat.le_of_ble_eq_true rfl) hR.2, Nat.zero_le _, Nat.zero_le _⟩ (fun v_ h_ H locs hc_ hP hS => ?_) (fun C_ a_ h_ H locs hc_ => absurd hc_.1 (fun h9 => by cases h9))
    obtain ⟨ev, eh⟩ := hc_
    cases ev
    rw [eh] at hP
    refine W.widen (k := 0) (n := 0) (Nat.le_of_ble_eq_true rfl) (Nat.le_of_ble_eq_true rfl) ?_
    refine W.eq (g2 := F0 m 59 ls (.int (p_MO_most (p_MO_column z2) (p_MO_column z3)) :: .int z12 :: [])) rfl ?_
    refine lv_icmp_gt (tgt := 229) hx hb d_MO_workRange_59 (by decide) (fun c_776 => ?_) (fun c_776 => ?_)
    · have hq := fs_ifp c_776 hq
      cases hq
      exact kk _ _ _ _ hP hS hM hf (lv_sub hl [0, 1, 2, 3, 4, 5, 6, 7, 8, 9] rfl)
    · have hq := fs_ifn c_776 hq
      refine lv_iload_n hx hb d_MO_workRange_62 rfl (lv_at hl 2 rfl) ?_
      refine fs_cS B hl.1 hP hS (k_MO_row hSt z2) (fs_tb_at 1675 tw_1675 rfl) (fs_tb_at 1676 tw_1676 rfl) (fs_tb_at 96 tw_96 rfl) (fs_tb_at 1677 tw_1677 rfl) (by decide) (show (parseMethodDescriptor y_MO_row.desc).map (fun d => d.parameters.length) = some 1 by decide +kernel) rfl d_MO_workRange_63 ⟨Nat.le_trans (Nat.le_of_ble_eq_true rfl) hR.1, Nat.le_trans (Nat.le_of_ble_eq_true rfl) hR.2, Nat.zero_le _, Nat.zero_le _⟩ (fun v_ h_ H locs hc_ hP hS => ?_) (fun C_ a_ h_ H locs hc_ => absurd hc_.1 (fun h9 => by cases h9))
      obtain ⟨ev, eh⟩ := hc_
      cases ev
      rw [eh] at hP
      refine W.widen (k := 0) (n := 0) (Nat.le_of_ble_eq_true rfl) (Nat.le_of_ble_eq_true rfl) ?_
      refine W.eq (g2 := F0 m 66 ls (.int (p_MO_row z2) :: [])) rfl ?_
      refine lv_iload_n hx hb d_MO_workRange_66 rfl (lv_at hl 3 rfl) ?_
      refine fs_cS B hl.1 hP hS (k_MO_row hSt z3) (fs_tb_at 1675 tw_1675 rfl) (fs_tb_at 1676 tw_1676 rfl) (fs_tb_at 96 tw_96 rfl) (fs_tb_at 1677 tw_1677 rfl) (by decide) (show (parseMethodDescriptor y_MO_row.desc).map (fun d => d.parameters.length) = some 1 by decide +kernel) rfl d_MO_workRange_67 ⟨Nat.le_trans (Nat.le_of_ble_eq_true rfl) hR.1, Nat.le_trans (Nat.le_of_ble_eq_true rfl) hR.2, Nat.zero_le _, Nat.zero_le _⟩ (fun v_ h_ H locs hc_ hP hS => ?_) (fun C_ a_ h_ H locs hc_ => absurd hc_.1 (fun h9 => by cases h9))
      obtain ⟨ev, eh⟩ := hc_
      cases ev
      rw [eh] at hP
      refine W.widen (k := 0) (n := 0) (Nat.le_of_ble_eq_true rfl) (Nat.le_of_ble_eq_true rfl) ?_
      refine W.eq (g2 := F0 m 70 ls (.int (p_MO_row z3) :: .int (p_MO_row z2) :: [])) rfl ?_
      refine fs_cS B hl.1 hP hS (k_MO_least hSt (p_MO_row z2) (p_MO_row z3)) (fs_tb_at 1689 tw_1689 rfl) (fs_tb_at 1690 tw_1690 rfl) (fs_tb_at 96 tw_96 rfl) (fs_tb_at 1691 tw_1691 rfl) (by decide) (show (parseMethodDescriptor y_MO_least.desc).map (fun d => d.parameters.length) = some 2 by decide +kernel) rfl d_MO_workRange_70 ⟨Nat.le_trans (Nat.le_of_ble_eq_true rfl) hR.1, Nat.le_trans (Nat.le_of_ble_eq_true rfl) hR.2, Nat.zero_le _, Nat.zero_le _⟩ (fun v_ h_ H locs hc_ hP hS => ?_) (fun C_ a_ h_ H locs hc_ => absurd hc_.1 (fun h9 => by cases h9))
      obtain ⟨ev, eh⟩ := hc_
      cases ev
      rw [eh] at hP
      refine W.widen (k := 0) (n := 0) (Nat.le_of_ble_eq_true rfl) (Nat.le_of_ble_eq_true rfl) ?_
      refine W.eq (g2 := F0 m 73 ls (.int (p_MO_least (p_MO_row z2) (p_MO_row z3)) :: [])) rfl ?_
      refine lv_istore (lv' := [(13, .int (p_MO_least (p_MO_row z2) (p_MO_row z3))), (0, .ref a), (1, .int z1), (2, .int z2), (3, .int z3), (4, .int z4), (5, .int z5), (6, .int z6), (7, .double z7), (9, .double z9), (11, .int z11), (12, .int z12)]) hx hb d_MO_workRange_73 hl (by decide) rfl (fun ls hl => ?_)
      obtain ⟨R788, eR788, hq⟩ := fs_bind_some hq
      refine l_MO_workRange_75 hSt B ⟨Nat.le_trans (Nat.le_of_ble_eq_true rfl) hR.1, Nat.le_trans (Nat.le_of_ble_eq_true rfl) hR.2⟩ 17 z1 z2 z3 z4 z5 z6 z7 z9 z11 z12 (p_MO_least (p_MO_row z2) (p_MO_row z3)) M1 _ _ _ _ R788 eR788 hP hS hM hf (lv_sub hl [1, 2, 3, 4, 5, 6, 7, 8, 9, 10, 11, 0] rfl) (fun h_ H locs ls hP hS hM hf hl => ?_)
      refine lv_iinc (v := z12 + 1) (lv' := [(12, .int (z12 + 1)), (0, .ref a), (1, .int z1), (2, .int z2), (3, .int z3), (4, .int z4), (5, .int z5), (6, .int R788.1), (7, .double R788.2.1), (9, .double R788.2.2.1), (11, .int R788.2.2.2.1)]) hx hb d_MO_workRange_223 hl (k := 10) rfl rfl (by decide) rfl (fun ls hl => ?_)
      refine lv_goto (tgt := 46) hx hb d_MO_workRange_226 (by decide) ?_
      exact ih z1 z2 z3 z4 z5 R788.1 R788.2.1 R788.2.2.1 R788.2.2.2.1 (z12 + 1) R788.2.2.2.2 _ _ _ _ r hq hP hS hM hf (lv_sub hl [1, 2, 3, 4, 5, 6, 7, 8, 9, 10, 0] rfl) kk
set_option maxHeartbeats 4000000 in
set_option maxRecDepth 100000 in
theorem k_MO_workRange {l : Launch} {s00 : State} {G : fs_G} (hSt : fs_St l s00 G) {h : fs_Hp} {a : Nat} {ad : Nat → Nat} {M : mo_S} (hM : mo_at G h a ad M) (x1 : Int32) (x2 : Int32) (x3 : Int32) (x4 : Int32) {r : mo_S} (hq : q_MO_workRange M x1 x2 x3 x4 = some r) : fs_Ct l s00 G y_MO_workRange (.code y_MO_workRange b_MO_workRange 15 none) { frames := 1, cells := 0, slots := 0, locals := 16 } [.ref a, .int x1, .int x2, .int x3, .int x4] h (fun o h' => o = .inl none ∧ mo_at G h' a ad r ∧ mo_fr a ad h h') := by
  refine fs_Ct.ofW hSt (by decide) ?_
  intro p e s m below meth c B hout hP
  obtain ⟨hx, hb, hr, hml, hown, hts, hlocks, hname, hK, hw, htr⟩ := id B
  have hown : s.vm.findClass "FormulaSheetModel" = some m.cls := hown
  have hS := hw.S
  have hA : ∀ q : Nat, s00.heap.size ≤ q → fs_A s00 q := fun _ h9 => h9
  generalize hH : s.heap = H at hP hS ⊢
  have hH0 : s.heap.size ≤ H.size := by rw [hH]; exact Nat.le_refl _
  have hJ303 : ∀ (z5 : Int32) (z6 : Int32) (z11 : Int32) (w0 : UInt64) (w1 : Int32) (M1 : mo_S) (h1 : fs_Hp) (H : Heap) (locs : List Loc) (ls : Array Slot), q_MO_workRange_J303 z5 z6 z11 w0 w1 M1 = some r → fs_P G.1 fs_cl (fs_A s00) h1 H → va_S (fs_A s00) s00.heap H locs → mo_at G h1 a ad M1 → mo_fr a ad h h1 → lv_has ls 15 [(0, .ref a), (5, .int z5), (6, .int z6), (11, .int z11)] → W p l e { frames := 1, cells := 0, slots := 0, locals := 16 } s m ([.ref a, .int x1, .int x2, .int x3, .int x4] : List Value).toArray below meth c H locs 0 0 (fx_MQ below (fs_Qc s00 G (fun o h' => o = .inl none ∧ mo_at G h' a ad r ∧ mo_fr a ad h h')) ([.ref a, .int x1, .int x2, .int x3, .int x4] : List Value).toArray s 0 0 (fs_A s00)) (F0 m 303 ls (.double w0 :: .int w1 :: .ref a :: [])) := by
    intro z5 z6 z11 w0 w1 M1 h1 H locs ls hq hP hS hM hf hl
    rw [q_MO_workRange_J303] at hq
    refine lv_iload hx hb d_MO_workRange_303 (lv_at hl 1 rfl) ?_
    refine lv_if_ne (tgt := 318) hx hb d_MO_workRange_305 (by decide) (fun c_769 => ?_) (fun c_769 => ?_)
    · have hq := fs_ifn c_769 hq
      refine lv_iconst (v := 1) hx hb d_MO_workRange_318 (by decide) ?_
      refine lv_goto (tgt := 323) hx hb d_MO_workRange_319 (by decide) ?_
      obtain ⟨⟨b0_, b1_⟩, hq⟩ := fs_okp_some hq
      obtain ⟨R770, eR770, hq⟩ := fs_let_some hq
      refine fs_cV B hl.1 hP hS (k_MO_hold hSt hM w1 w0 1 b0_ b1_) (fs_tb_at 1711 tw_1711 rfl) hM.1 rfl (fs_tb_at 1713 tw_1713 rfl) (fs_tb_at 65 tw_65 rfl) (fs_tb_at 96 tw_96 rfl) (fs_tb_at 1714 tw_1714 rfl) (by decide) (show (parseMethodDescriptor y_MO_hold.desc).map (fun d => d.parameters.length) = some 3 by decide +kernel) rfl d_MO_workRange_323 ⟨Nat.le_of_ble_eq_true rfl, Nat.le_of_ble_eq_true rfl, Nat.le_of_ble_eq_true rfl, Nat.le_of_ble_eq_true rfl⟩ (fun v_ h_ H locs hc_ hP hS => ?_) (fun C_ a_ h_ H locs hc_ => absurd hc_.1 (fun h9 => by cases h9))
      obtain ⟨ev, hM, hf2⟩ := hc_
      cases ev
      have hf := hf.trans hf2
      rw [← eR770] at hM
      refine W.widen (k := 0) (n := 0) (Nat.le_of_ble_eq_true rfl) (Nat.le_of_ble_eq_true rfl) ?_
      refine W.eq (g2 := F0 m 326 ls ([])) rfl ?_
      refine lv_goto (tgt := 357) hx hb d_MO_workRange_326 (by decide) ?_
      cases hq
      exact fs_vret hx hb hr hlocks hw hP hS (by omega) (by omega) (⟨rfl, hM, hf⟩) d_MO_workRange_357
    · have hq := fs_ifp c_769 hq
      refine lv_iload hx hb d_MO_workRange_308 (lv_at hl 2 rfl) ?_
      refine lv_if_ne (tgt := 318) hx hb d_MO_workRange_310 (by decide) (fun c_771 => ?_) (fun c_771 => ?_)
      · have hq := fs_ifn c_771 hq
        refine lv_iconst (v := 1) hx hb d_MO_workRange_318 (by decide) ?_
        refine lv_goto (tgt := 323) hx hb d_MO_workRange_319 (by decide) ?_
        obtain ⟨⟨b0_, b1_⟩, hq⟩ := fs_okp_some hq
        obtain ⟨R772, eR772, hq⟩ := fs_let_some hq
        refine fs_cV B hl.1 hP hS (k_MO_hold hSt hM w1 w0 1 b0_ b1_) (fs_tb_at 1711 tw_1711 rfl) hM.1 rfl (fs_tb_at 1713 tw_1713 rfl) (fs_tb_at 65 tw_65 rfl) (fs_tb_at 96 tw_96 rfl) (fs_tb_at 1714 tw_1714 rfl) (by decide) (show (parseMethodDescriptor y_MO_hold.desc).map (fun d => d.parameters.length) = some 3 by decide +kernel) rfl d_MO_workRange_323 ⟨Nat.le_of_ble_eq_true rfl, Nat.le_of_ble_eq_true rfl, Nat.le_of_ble_eq_true rfl, Nat.le_of_ble_eq_true rfl⟩ (fun v_ h_ H locs hc_ hP hS => ?_) (fun C_ a_ h_ H locs hc_ => absurd hc_.1 (fun h9 => by cases h9))
        obtain ⟨ev, hM, hf2⟩ := hc_
        cases ev
        have hf := hf.trans hf2
        rw [← eR772] at hM
        refine W.widen (k := 0) (n := 0) (Nat.le_of_ble_eq_true rfl) (Nat.le_of_ble_eq_true rfl) ?_
        refine W.eq (g2 := F0 m 326 ls ([])) rfl ?_
        refine lv_goto (tgt := 357) hx hb d_MO_workRange_326 (by decide) ?_
        cases hq
        exact fs_vret hx hb hr hlocks hw hP hS (by omega) (by omega) (⟨rfl, hM, hf⟩) d_MO_workRange_357
      · have hq := fs_ifp c_771 hq
        refine lv_iload hx hb d_MO_workRange_313 (lv_at hl 3 rfl) ?_
        refine lv_if_ne (tgt := 322) hx hb d_MO_workRange_315 (by decide) (fun c_773 => ?_) (fun c_773 => ?_)
        · have hq := fs_ifn c_773 hq
          refine lv_iconst (v := 0) hx hb d_MO_workRange_322 (by decide) ?_
          obtain ⟨⟨b0_, b1_⟩, hq⟩ := fs_okp_some hq
          obtain ⟨R774, eR774, hq⟩ := fs_let_some hq
          refine fs_cV B hl.1 hP hS (k_MO_hold hSt hM w1 w0 0 b0_ b1_) (fs_tb_at 1711 tw_1711 rfl) hM.1 rfl (fs_tb_at 1713 tw_1713 rfl) (fs_tb_at 65 tw_65 rfl) (fs_tb_at 96 tw_96 rfl) (fs_tb_at 1714 tw_1714 rfl) (by decide) (show (parseMethodDescriptor y_MO_hold.desc).map (fun d => d.parameters.length) = some 3 by decide +kernel) rfl d_MO_workRange_323 ⟨Nat.le_of_ble_eq_true rfl, Nat.le_of_ble_eq_true rfl, Nat.le_of_ble_eq_true rfl, Nat.le_of_ble_eq_true rfl⟩ (fun v_ h_ H locs hc_ hP hS => ?_) (fun C_ a_ h_ H locs hc_ => absurd hc_.1 (fun h9 => by cases h9))
          obtain ⟨ev, hM, hf2⟩ := hc_
          cases ev
          have hf := hf.trans hf2
          rw [← eR774] at hM
          refine W.widen (k := 0) (n := 0) (Nat.le_of_ble_eq_true rfl) (Nat.le_of_ble_eq_true rfl) ?_
          refine W.eq (g2 := F0 m 326 ls ([])) rfl ?_
          refine lv_goto (tgt := 357) hx hb d_MO_workRange_326 (by decide) ?_
          cases hq
          exact fs_vret hx hb hr hlocks hw hP hS (by omega) (by omega) (⟨rfl, hM, hf⟩) d_MO_workRange_357
        · have hq := fs_ifp c_773 hq
          refine lv_iconst (v := 1) hx hb d_MO_workRange_318 (by decide) ?_
          refine lv_goto (tgt := 323) hx hb d_MO_workRange_319 (by decide) ?_
          obtain ⟨⟨b0_, b1_⟩, hq⟩ := fs_okp_some hq
          obtain ⟨R775, eR775, hq⟩ := fs_let_some hq
          refine fs_cV B hl.1 hP hS (k_MO_hold hSt hM w1 w0 1 b0_ b1_) (fs_tb_at 1711 tw_1711 rfl) hM.1 rfl (fs_tb_at 1713 tw_1713 rfl) (fs_tb_at 65 tw_65 rfl) (fs_tb_at 96 tw_96 rfl) (fs_tb_at 1714 tw_1714 rfl) (by decide) (show (parseMethodDescriptor y_MO_hold.desc).map (fun d => d.parameters.length) = some 3 by decide +kernel) rfl d_MO_workRange_323 ⟨Nat.le_of_ble_eq_true rfl, Nat.le_of_ble_eq_true rfl, Nat.le_of_ble_eq_true rfl, Nat.le_of_ble_eq_true rfl⟩ (fun v_ h_ H locs hc_ hP hS => ?_) (fun C_ a_ h_ H locs hc_ => absurd hc_.1 (fun h9 => by cases h9))
          obtain ⟨ev, hM, hf2⟩ := hc_
          cases ev
          have hf := hf.trans hf2
          rw [← eR775] at hM
          refine W.widen (k := 0) (n := 0) (Nat.le_of_ble_eq_true rfl) (Nat.le_of_ble_eq_true rfl) ?_
          refine W.eq (g2 := F0 m 326 ls ([])) rfl ?_
          refine lv_goto (tgt := 357) hx hb d_MO_workRange_326 (by decide) ?_
          cases hq
          exact fs_vret hx hb hr hlocks hw hP hS (by omega) (by omega) (⟨rfl, hM, hf⟩) d_MO_workRange_357
  have hJ19 : ∀ (z1 : Int32) (z2 : Int32) (z3 : Int32) (z4 : Int32) (w0 : Int32) (M1 : mo_S) (h1 : fs_Hp) (H : Heap) (locs : List Loc) (ls : Array Slot), q_MO_workRange_J19 z1 z2 z3 z4 w0 M1 = some r → fs_P G.1 fs_cl (fs_A s00) h1 H → va_S (fs_A s00) s00.heap H locs → mo_at G h1 a ad M1 → mo_fr a ad h h1 → lv_has ls 15 [(0, .ref a), (1, .int z1), (2, .int z2), (3, .int z3), (4, .int z4)] → W p l e { frames := 1, cells := 0, slots := 0, locals := 16 } s m ([.ref a, .int x1, .int x2, .int x3, .int x4] : List Value).toArray below meth c H locs 0 0 (fx_MQ below (fs_Qc s00 G (fun o h' => o = .inl none ∧ mo_at G h' a ad r ∧ mo_fr a ad h h')) ([.ref a, .int x1, .int x2, .int x3, .int x4] : List Value).toArray s 0 0 (fs_A s00)) (F0 m 19 ls (.int w0 :: [])) := by
    intro z1 z2 z3 z4 w0 M1 h1 H locs ls hq hP hS hM hf hl
    rw [q_MO_workRange_J19] at hq
    refine lv_istore (lv' := [(5, .int w0), (0, .ref a), (1, .int z1), (2, .int z2), (3, .int z3), (4, .int z4)]) hx hb d_MO_workRange_19 hl (by decide) rfl (fun ls hl => ?_)
    refine lv_iconst (v := 0) hx hb d_MO_workRange_21 (by decide) ?_
    refine lv_istore (lv' := [(6, .int 0), (5, .int w0), (0, .ref a), (1, .int z1), (2, .int z2), (3, .int z3), (4, .int z4)]) hx hb d_MO_workRange_22 hl (by decide) rfl (fun ls hl => ?_)
    refine lv_dconst0 hx hb d_MO_workRange_24 ?_
    refine lv_dstore (lv' := [(7, .double FP.dconst0), (6, .int 0), (5, .int w0), (0, .ref a), (1, .int z1), (2, .int z2), (3, .int z3), (4, .int z4)]) hx hb d_MO_workRange_25 hl (by decide) rfl (fun ls hl => ?_)
    refine lv_dconst0 hx hb d_MO_workRange_27 ?_
    refine lv_dstore (lv' := [(9, .double FP.dconst0), (7, .double FP.dconst0), (6, .int 0), (5, .int w0), (0, .ref a), (1, .int z1), (2, .int z2), (3, .int z3), (4, .int z4)]) hx hb d_MO_workRange_28 hl (by decide) rfl (fun ls hl => ?_)
    refine lv_iconst (v := 0) hx hb d_MO_workRange_30 (by decide) ?_
    refine lv_istore (lv' := [(11, .int 0), (9, .double FP.dconst0), (7, .double FP.dconst0), (6, .int 0), (5, .int w0), (0, .ref a), (1, .int z1), (2, .int z2), (3, .int z3), (4, .int z4)]) hx hb d_MO_workRange_31 hl (by decide) rfl (fun ls hl => ?_)
    refine lv_iload_n hx hb d_MO_workRange_33 rfl (lv_at hl 7 rfl) ?_
    refine fs_cS B hl.1 hP hS (k_MO_column hSt z2) (fs_tb_at 1672 tw_1672 rfl) (fs_tb_at 1673 tw_1673 rfl) (fs_tb_at 96 tw_96 rfl) (fs_tb_at 1674 tw_1674 rfl) (by decide) (show (parseMethodDescriptor y_MO_column.desc).map (fun d => d.parameters.length) = some 1 by decide +kernel) rfl d_MO_workRange_34 ⟨Nat.le_of_ble_eq_true rfl, Nat.le_of_ble_eq_true rfl, Nat.le_of_ble_eq_true rfl, Nat.le_of_ble_eq_true rfl⟩ (fun v_ h_ H locs hc_ hP hS => ?_) (fun C_ a_ h_ H locs hc_ => absurd hc_.1 (fun h9 => by cases h9))
    obtain ⟨ev, eh⟩ := hc_
    cases ev
    rw [eh] at hP
    refine W.widen (k := 0) (n := 0) (Nat.le_of_ble_eq_true rfl) (Nat.le_of_ble_eq_true rfl) ?_
    refine W.eq (g2 := F0 m 37 ls (.int (p_MO_column z2) :: [])) rfl ?_
    refine lv_iload_n hx hb d_MO_workRange_37 rfl (lv_at hl 8 rfl) ?_
    refine fs_cS B hl.1 hP hS (k_MO_column hSt z3) (fs_tb_at 1672 tw_1672 rfl) (fs_tb_at 1673 tw_1673 rfl) (fs_tb_at 96 tw_96 rfl) (fs_tb_at 1674 tw_1674 rfl) (by decide) (show (parseMethodDescriptor y_MO_column.desc).map (fun d => d.parameters.length) = some 1 by decide +kernel) rfl d_MO_workRange_38 ⟨Nat.le_of_ble_eq_true rfl, Nat.le_of_ble_eq_true rfl, Nat.le_of_ble_eq_true rfl, Nat.le_of_ble_eq_true rfl⟩ (fun v_ h_ H locs hc_ hP hS => ?_) (fun C_ a_ h_ H locs hc_ => absurd hc_.1 (fun h9 => by cases h9))
    obtain ⟨ev, eh⟩ := hc_
    cases ev
    rw [eh] at hP
    refine W.widen (k := 0) (n := 0) (Nat.le_of_ble_eq_true rfl) (Nat.le_of_ble_eq_true rfl) ?_
    refine W.eq (g2 := F0 m 41 ls (.int (p_MO_column z3) :: .int (p_MO_column z2) :: [])) rfl ?_
    refine fs_cS B hl.1 hP hS (k_MO_least hSt (p_MO_column z2) (p_MO_column z3)) (fs_tb_at 1689 tw_1689 rfl) (fs_tb_at 1690 tw_1690 rfl) (fs_tb_at 96 tw_96 rfl) (fs_tb_at 1691 tw_1691 rfl) (by decide) (show (parseMethodDescriptor y_MO_least.desc).map (fun d => d.parameters.length) = some 2 by decide +kernel) rfl d_MO_workRange_41 ⟨Nat.le_of_ble_eq_true rfl, Nat.le_of_ble_eq_true rfl, Nat.le_of_ble_eq_true rfl, Nat.le_of_ble_eq_true rfl⟩ (fun v_ h_ H locs hc_ hP hS => ?_) (fun C_ a_ h_ H locs hc_ => absurd hc_.1 (fun h9 => by cases h9))
    obtain ⟨ev, eh⟩ := hc_
    cases ev
    rw [eh] at hP
    refine W.widen (k := 0) (n := 0) (Nat.le_of_ble_eq_true rfl) (Nat.le_of_ble_eq_true rfl) ?_
    refine W.eq (g2 := F0 m 44 ls (.int (p_MO_least (p_MO_column z2) (p_MO_column z3)) :: [])) rfl ?_
    refine lv_istore (lv' := [(12, .int (p_MO_least (p_MO_column z2) (p_MO_column z3))), (11, .int 0), (9, .double FP.dconst0), (7, .double FP.dconst0), (6, .int 0), (5, .int w0), (0, .ref a), (1, .int z1), (2, .int z2), (3, .int z3), (4, .int z4)]) hx hb d_MO_workRange_44 hl (by decide) rfl (fun ls hl => ?_)
    obtain ⟨R789, eR789, hq⟩ := fs_bind_some hq
    refine l_MO_workRange_46 hSt B ⟨Nat.le_of_ble_eq_true rfl, Nat.le_of_ble_eq_true rfl⟩ 9 z1 z2 z3 z4 w0 0 FP.dconst0 FP.dconst0 0 (p_MO_least (p_MO_column z2) (p_MO_column z3)) M1 _ _ _ _ R789 eR789 hP hS hM hf (lv_sub hl [6, 7, 8, 9, 10, 5, 4, 3, 2, 1, 0] rfl) (fun h_ H locs ls hP hS hM hf hl => ?_)
    refine lv_iload_n hx hb d_MO_workRange_229 rfl (lv_at hl 1 rfl) ?_
    refine lv_iconst (v := 5) hx hb d_MO_workRange_230 (by decide) ?_
    refine lv_icmp_ne (tgt := 248) hx hb d_MO_workRange_231 (by decide) (fun c_790 => ?_) (fun c_790 => ?_)
    · have hq := fs_ifn c_790 hq
      refine lv_iload_n hx hb d_MO_workRange_248 rfl (lv_at hl 1 rfl) ?_
      refine lv_iconst (v := 2) hx hb d_MO_workRange_249 (by decide) ?_
      refine lv_icmp_ne (tgt := 279) hx hb d_MO_workRange_250 (by decide) (fun c_791 => ?_) (fun c_791 => ?_)
      · have hq := fs_ifn c_791 hq
        refine lv_iload_n hx hb d_MO_workRange_279 rfl (lv_at hl 1 rfl) ?_
        refine lv_bipush (v := 6) hx hb d_MO_workRange_280 (by decide) ?_
        refine lv_icmp_ne (tgt := 329) hx hb d_MO_workRange_282 (by decide) (fun c_792 => ?_) (fun c_792 => ?_)
        · have hq := fs_ifn c_792 hq
          refine lv_aload_n hx hb d_MO_workRange_329 rfl (lv_at hl 0 rfl) ?_
          refine lv_iload hx hb d_MO_workRange_330 (lv_at hl 4 rfl) ?_
          refine lv_dload hx hb d_MO_workRange_332 (lv_at hl 8 rfl) ?_
          refine lv_iload hx hb d_MO_workRange_334 (lv_at hl 5 rfl) ?_
          refine lv_if_ne (tgt := 349) hx hb d_MO_workRange_336 (by decide) (fun c_793 => ?_) (fun c_793 => ?_)
          · have hq := fs_ifn c_793 hq
            refine lv_iconst (v := 1) hx hb d_MO_workRange_349 (by decide) ?_
            refine lv_goto (tgt := 354) hx hb d_MO_workRange_350 (by decide) ?_
            obtain ⟨⟨b0_, b1_⟩, hq⟩ := fs_okp_some hq
            obtain ⟨R794, eR794, hq⟩ := fs_let_some hq
            refine fs_cV B hl.1 hP hS (k_MO_hold hSt hM z4 R789.2.2.1 1 b0_ b1_) (fs_tb_at 1711 tw_1711 rfl) hM.1 rfl (fs_tb_at 1713 tw_1713 rfl) (fs_tb_at 65 tw_65 rfl) (fs_tb_at 96 tw_96 rfl) (fs_tb_at 1714 tw_1714 rfl) (by decide) (show (parseMethodDescriptor y_MO_hold.desc).map (fun d => d.parameters.length) = some 3 by decide +kernel) rfl d_MO_workRange_354 ⟨Nat.le_of_ble_eq_true rfl, Nat.le_of_ble_eq_true rfl, Nat.le_of_ble_eq_true rfl, Nat.le_of_ble_eq_true rfl⟩ (fun v_ h_ H locs hc_ hP hS => ?_) (fun C_ a_ h_ H locs hc_ => absurd hc_.1 (fun h9 => by cases h9))
            obtain ⟨ev, hM, hf2⟩ := hc_
            cases ev
            have hf := hf.trans hf2
            rw [← eR794] at hM
            refine W.widen (k := 0) (n := 0) (Nat.le_of_ble_eq_true rfl) (Nat.le_of_ble_eq_true rfl) ?_
            refine W.eq (g2 := F0 m 357 ls ([])) rfl ?_
            cases hq
            exact fs_vret hx hb hr hlocks hw hP hS (by omega) (by omega) (⟨rfl, hM, hf⟩) d_MO_workRange_357
          · have hq := fs_ifp c_793 hq
            refine lv_iload hx hb d_MO_workRange_339 (lv_at hl 6 rfl) ?_
            refine lv_if_ne (tgt := 349) hx hb d_MO_workRange_341 (by decide) (fun c_795 => ?_) (fun c_795 => ?_)
            · have hq := fs_ifn c_795 hq
              refine lv_iconst (v := 1) hx hb d_MO_workRange_349 (by decide) ?_
              refine lv_goto (tgt := 354) hx hb d_MO_workRange_350 (by decide) ?_
              obtain ⟨⟨b0_, b1_⟩, hq⟩ := fs_okp_some hq
              obtain ⟨R796, eR796, hq⟩ := fs_let_some hq
              refine fs_cV B hl.1 hP hS (k_MO_hold hSt hM z4 R789.2.2.1 1 b0_ b1_) (fs_tb_at 1711 tw_1711 rfl) hM.1 rfl (fs_tb_at 1713 tw_1713 rfl) (fs_tb_at 65 tw_65 rfl) (fs_tb_at 96 tw_96 rfl) (fs_tb_at 1714 tw_1714 rfl) (by decide) (show (parseMethodDescriptor y_MO_hold.desc).map (fun d => d.parameters.length) = some 3 by decide +kernel) rfl d_MO_workRange_354 ⟨Nat.le_of_ble_eq_true rfl, Nat.le_of_ble_eq_true rfl, Nat.le_of_ble_eq_true rfl, Nat.le_of_ble_eq_true rfl⟩ (fun v_ h_ H locs hc_ hP hS => ?_) (fun C_ a_ h_ H locs hc_ => absurd hc_.1 (fun h9 => by cases h9))
              obtain ⟨ev, hM, hf2⟩ := hc_
              cases ev
              have hf := hf.trans hf2
              rw [← eR796] at hM
              refine W.widen (k := 0) (n := 0) (Nat.le_of_ble_eq_true rfl) (Nat.le_of_ble_eq_true rfl) ?_
              refine W.eq (g2 := F0 m 357 ls ([])) rfl ?_
              cases hq
              exact fs_vret hx hb hr hlocks hw hP hS (by omega) (by omega) (⟨rfl, hM, hf⟩) d_MO_workRange_357
            · have hq := fs_ifp c_795 hq
              refine lv_iload hx hb d_MO_workRange_344 (lv_at hl 9 rfl) ?_
              refine lv_if_ne (tgt := 353) hx hb d_MO_workRange_346 (by decide) (fun c_797 => ?_) (fun c_797 => ?_)
              · have hq := fs_ifn c_797 hq
                refine lv_iconst (v := 0) hx hb d_MO_workRange_353 (by decide) ?_
                obtain ⟨⟨b0_, b1_⟩, hq⟩ := fs_okp_some hq
                obtain ⟨R798, eR798, hq⟩ := fs_let_some hq
                refine fs_cV B hl.1 hP hS (k_MO_hold hSt hM z4 R789.2.2.1 0 b0_ b1_) (fs_tb_at 1711 tw_1711 rfl) hM.1 rfl (fs_tb_at 1713 tw_1713 rfl) (fs_tb_at 65 tw_65 rfl) (fs_tb_at 96 tw_96 rfl) (fs_tb_at 1714 tw_1714 rfl) (by decide) (show (parseMethodDescriptor y_MO_hold.desc).map (fun d => d.parameters.length) = some 3 by decide +kernel) rfl d_MO_workRange_354 ⟨Nat.le_of_ble_eq_true rfl, Nat.le_of_ble_eq_true rfl, Nat.le_of_ble_eq_true rfl, Nat.le_of_ble_eq_true rfl⟩ (fun v_ h_ H locs hc_ hP hS => ?_) (fun C_ a_ h_ H locs hc_ => absurd hc_.1 (fun h9 => by cases h9))
                obtain ⟨ev, hM, hf2⟩ := hc_
                cases ev
                have hf := hf.trans hf2
                rw [← eR798] at hM
                refine W.widen (k := 0) (n := 0) (Nat.le_of_ble_eq_true rfl) (Nat.le_of_ble_eq_true rfl) ?_
                refine W.eq (g2 := F0 m 357 ls ([])) rfl ?_
                cases hq
                exact fs_vret hx hb hr hlocks hw hP hS (by omega) (by omega) (⟨rfl, hM, hf⟩) d_MO_workRange_357
              · have hq := fs_ifp c_797 hq
                refine lv_iconst (v := 1) hx hb d_MO_workRange_349 (by decide) ?_
                refine lv_goto (tgt := 354) hx hb d_MO_workRange_350 (by decide) ?_
                obtain ⟨⟨b0_, b1_⟩, hq⟩ := fs_okp_some hq
                obtain ⟨R799, eR799, hq⟩ := fs_let_some hq
                refine fs_cV B hl.1 hP hS (k_MO_hold hSt hM z4 R789.2.2.1 1 b0_ b1_) (fs_tb_at 1711 tw_1711 rfl) hM.1 rfl (fs_tb_at 1713 tw_1713 rfl) (fs_tb_at 65 tw_65 rfl) (fs_tb_at 96 tw_96 rfl) (fs_tb_at 1714 tw_1714 rfl) (by decide) (show (parseMethodDescriptor y_MO_hold.desc).map (fun d => d.parameters.length) = some 3 by decide +kernel) rfl d_MO_workRange_354 ⟨Nat.le_of_ble_eq_true rfl, Nat.le_of_ble_eq_true rfl, Nat.le_of_ble_eq_true rfl, Nat.le_of_ble_eq_true rfl⟩ (fun v_ h_ H locs hc_ hP hS => ?_) (fun C_ a_ h_ H locs hc_ => absurd hc_.1 (fun h9 => by cases h9))
                obtain ⟨ev, hM, hf2⟩ := hc_
                cases ev
                have hf := hf.trans hf2
                rw [← eR799] at hM
                refine W.widen (k := 0) (n := 0) (Nat.le_of_ble_eq_true rfl) (Nat.le_of_ble_eq_true rfl) ?_
                refine W.eq (g2 := F0 m 357 ls ([])) rfl ?_
                cases hq
                exact fs_vret hx hb hr hlocks hw hP hS (by omega) (by omega) (⟨rfl, hM, hf⟩) d_MO_workRange_357
        · have hq := fs_ifp c_792 hq
          refine lv_aload_n hx hb d_MO_workRange_285 rfl (lv_at hl 0 rfl) ?_
          refine lv_iload hx hb d_MO_workRange_286 (lv_at hl 4 rfl) ?_
          refine lv_iload hx hb d_MO_workRange_288 (lv_at hl 9 rfl) ?_
          refine lv_if_ne (tgt := 297) hx hb d_MO_workRange_290 (by decide) (fun c_800 => ?_) (fun c_800 => ?_)
          · have hq := fs_ifn c_800 hq
            refine lv_dload hx hb d_MO_workRange_297 (lv_at hl 7 rfl) ?_
            refine lv_iload hx hb d_MO_workRange_299 (lv_at hl 9 rfl) ?_
            refine lv_i2d hx hb d_MO_workRange_301 ?_
            obtain ⟨hk_, hq⟩ := fs_okp_some hq
            refine lv_ddiv hx hb d_MO_workRange_302 hk_ ?_
            exact hJ303 w0 R789.1 R789.2.2.2.1 (FP.ddiv R789.2.1 (FP.i2d R789.2.2.2.1)) z4 R789.2.2.2.2 _ _ _ _ hq hP hS hM hf (lv_sub hl [0, 5, 6, 9] rfl)
          · have hq := fs_ifp c_800 hq
            refine lv_dconst0 hx hb d_MO_workRange_293 ?_
            refine lv_goto (tgt := 303) hx hb d_MO_workRange_294 (by decide) ?_
            exact hJ303 w0 R789.1 R789.2.2.2.1 FP.dconst0 z4 R789.2.2.2.2 _ _ _ _ hq hP hS hM hf (lv_sub hl [0, 5, 6, 9] rfl)
      · have hq := fs_ifp c_791 hq
        refine lv_aload_n hx hb d_MO_workRange_253 rfl (lv_at hl 0 rfl) ?_
        refine lv_iload hx hb d_MO_workRange_254 (lv_at hl 4 rfl) ?_
        refine lv_dload hx hb d_MO_workRange_256 (lv_at hl 7 rfl) ?_
        refine lv_iload hx hb d_MO_workRange_258 (lv_at hl 5 rfl) ?_
        refine lv_if_ne (tgt := 268) hx hb d_MO_workRange_260 (by decide) (fun c_801 => ?_) (fun c_801 => ?_)
        · have hq := fs_ifn c_801 hq
          refine lv_iconst (v := 1) hx hb d_MO_workRange_268 (by decide) ?_
          refine lv_goto (tgt := 273) hx hb d_MO_workRange_269 (by decide) ?_
          obtain ⟨⟨b0_, b1_⟩, hq⟩ := fs_okp_some hq
          obtain ⟨R802, eR802, hq⟩ := fs_let_some hq
          refine fs_cV B hl.1 hP hS (k_MO_hold hSt hM z4 R789.2.1 1 b0_ b1_) (fs_tb_at 1711 tw_1711 rfl) hM.1 rfl (fs_tb_at 1713 tw_1713 rfl) (fs_tb_at 65 tw_65 rfl) (fs_tb_at 96 tw_96 rfl) (fs_tb_at 1714 tw_1714 rfl) (by decide) (show (parseMethodDescriptor y_MO_hold.desc).map (fun d => d.parameters.length) = some 3 by decide +kernel) rfl d_MO_workRange_273 ⟨Nat.le_of_ble_eq_true rfl, Nat.le_of_ble_eq_true rfl, Nat.le_of_ble_eq_true rfl, Nat.le_of_ble_eq_true rfl⟩ (fun v_ h_ H locs hc_ hP hS => ?_) (fun C_ a_ h_ H locs hc_ => absurd hc_.1 (fun h9 => by cases h9))
          obtain ⟨ev, hM, hf2⟩ := hc_
          cases ev
          have hf := hf.trans hf2
          rw [← eR802] at hM
          refine W.widen (k := 0) (n := 0) (Nat.le_of_ble_eq_true rfl) (Nat.le_of_ble_eq_true rfl) ?_
          refine W.eq (g2 := F0 m 276 ls ([])) rfl ?_
          refine lv_goto (tgt := 357) hx hb d_MO_workRange_276 (by decide) ?_
          cases hq
          exact fs_vret hx hb hr hlocks hw hP hS (by omega) (by omega) (⟨rfl, hM, hf⟩) d_MO_workRange_357
        · have hq := fs_ifp c_801 hq
          refine lv_iload hx hb d_MO_workRange_263 (lv_at hl 6 rfl) ?_
          refine lv_if_eq (tgt := 272) hx hb d_MO_workRange_265 (by decide) (fun c_803 => ?_) (fun c_803 => ?_)
          · have hq := fs_ifp c_803 hq
            refine lv_iconst (v := 0) hx hb d_MO_workRange_272 (by decide) ?_
            obtain ⟨⟨b0_, b1_⟩, hq⟩ := fs_okp_some hq
            obtain ⟨R804, eR804, hq⟩ := fs_let_some hq
            refine fs_cV B hl.1 hP hS (k_MO_hold hSt hM z4 R789.2.1 0 b0_ b1_) (fs_tb_at 1711 tw_1711 rfl) hM.1 rfl (fs_tb_at 1713 tw_1713 rfl) (fs_tb_at 65 tw_65 rfl) (fs_tb_at 96 tw_96 rfl) (fs_tb_at 1714 tw_1714 rfl) (by decide) (show (parseMethodDescriptor y_MO_hold.desc).map (fun d => d.parameters.length) = some 3 by decide +kernel) rfl d_MO_workRange_273 ⟨Nat.le_of_ble_eq_true rfl, Nat.le_of_ble_eq_true rfl, Nat.le_of_ble_eq_true rfl, Nat.le_of_ble_eq_true rfl⟩ (fun v_ h_ H locs hc_ hP hS => ?_) (fun C_ a_ h_ H locs hc_ => absurd hc_.1 (fun h9 => by cases h9))
            obtain ⟨ev, hM, hf2⟩ := hc_
            cases ev
            have hf := hf.trans hf2
            rw [← eR804] at hM
            refine W.widen (k := 0) (n := 0) (Nat.le_of_ble_eq_true rfl) (Nat.le_of_ble_eq_true rfl) ?_
            refine W.eq (g2 := F0 m 276 ls ([])) rfl ?_
            refine lv_goto (tgt := 357) hx hb d_MO_workRange_276 (by decide) ?_
            cases hq
            exact fs_vret hx hb hr hlocks hw hP hS (by omega) (by omega) (⟨rfl, hM, hf⟩) d_MO_workRange_357
          · have hq := fs_ifn c_803 hq
            refine lv_iconst (v := 1) hx hb d_MO_workRange_268 (by decide) ?_
            refine lv_goto (tgt := 273) hx hb d_MO_workRange_269 (by decide) ?_
            obtain ⟨⟨b0_, b1_⟩, hq⟩ := fs_okp_some hq
            obtain ⟨R805, eR805, hq⟩ := fs_let_some hq
            refine fs_cV B hl.1 hP hS (k_MO_hold hSt hM z4 R789.2.1 1 b0_ b1_) (fs_tb_at 1711 tw_1711 rfl) hM.1 rfl (fs_tb_at 1713 tw_1713 rfl) (fs_tb_at 65 tw_65 rfl) (fs_tb_at 96 tw_96 rfl) (fs_tb_at 1714 tw_1714 rfl) (by decide) (show (parseMethodDescriptor y_MO_hold.desc).map (fun d => d.parameters.length) = some 3 by decide +kernel) rfl d_MO_workRange_273 ⟨Nat.le_of_ble_eq_true rfl, Nat.le_of_ble_eq_true rfl, Nat.le_of_ble_eq_true rfl, Nat.le_of_ble_eq_true rfl⟩ (fun v_ h_ H locs hc_ hP hS => ?_) (fun C_ a_ h_ H locs hc_ => absurd hc_.1 (fun h9 => by cases h9))
            obtain ⟨ev, hM, hf2⟩ := hc_
            cases ev
            have hf := hf.trans hf2
            rw [← eR805] at hM
            refine W.widen (k := 0) (n := 0) (Nat.le_of_ble_eq_true rfl) (Nat.le_of_ble_eq_true rfl) ?_
            refine W.eq (g2 := F0 m 276 ls ([])) rfl ?_
            refine lv_goto (tgt := 357) hx hb d_MO_workRange_276 (by decide) ?_
            cases hq
            exact fs_vret hx hb hr hlocks hw hP hS (by omega) (by omega) (⟨rfl, hM, hf⟩) d_MO_workRange_357
    · have hq := fs_ifp c_790 hq
      refine lv_aload_n hx hb d_MO_workRange_234 rfl (lv_at hl 0 rfl) ?_
      refine lv_iload hx hb d_MO_workRange_235 (lv_at hl 4 rfl) ?_
      refine lv_iload hx hb d_MO_workRange_237 (lv_at hl 9 rfl) ?_
      refine lv_i2d hx hb d_MO_workRange_239 ?_
      refine lv_iload hx hb d_MO_workRange_240 (lv_at hl 5 rfl) ?_
      obtain ⟨⟨b0_, b1_⟩, hq⟩ := fs_okp_some hq
      obtain ⟨R806, eR806, hq⟩ := fs_let_some hq
      refine fs_cV B hl.1 hP hS (k_MO_hold hSt hM z4 (FP.i2d R789.2.2.2.1) w0 b0_ b1_) (fs_tb_at 1711 tw_1711 rfl) hM.1 rfl (fs_tb_at 1713 tw_1713 rfl) (fs_tb_at 65 tw_65 rfl) (fs_tb_at 96 tw_96 rfl) (fs_tb_at 1714 tw_1714 rfl) (by decide) (show (parseMethodDescriptor y_MO_hold.desc).map (fun d => d.parameters.length) = some 3 by decide +kernel) rfl d_MO_workRange_242 ⟨Nat.le_of_ble_eq_true rfl, Nat.le_of_ble_eq_true rfl, Nat.le_of_ble_eq_true rfl, Nat.le_of_ble_eq_true rfl⟩ (fun v_ h_ H locs hc_ hP hS => ?_) (fun C_ a_ h_ H locs hc_ => absurd hc_.1 (fun h9 => by cases h9))
      obtain ⟨ev, hM, hf2⟩ := hc_
      cases ev
      have hf := hf.trans hf2
      rw [← eR806] at hM
      refine W.widen (k := 0) (n := 0) (Nat.le_of_ble_eq_true rfl) (Nat.le_of_ble_eq_true rfl) ?_
      refine W.eq (g2 := F0 m 245 ls ([])) rfl ?_
      refine lv_goto (tgt := 357) hx hb d_MO_workRange_245 (by decide) ?_
      cases hq
      exact fs_vret hx hb hr hlocks hw hP hS (by omega) (by omega) (⟨rfl, hM, hf⟩) d_MO_workRange_357
  have hJ14 : ∀ (z1 : Int32) (z2 : Int32) (z3 : Int32) (z4 : Int32) (M1 : mo_S) (h1 : fs_Hp) (H : Heap) (locs : List Loc) (ls : Array Slot), q_MO_workRange_J14 z1 z2 z3 z4 M1 = some r → fs_P G.1 fs_cl (fs_A s00) h1 H → va_S (fs_A s00) s00.heap H locs → mo_at G h1 a ad M1 → mo_fr a ad h h1 → lv_has ls 15 [(0, .ref a), (1, .int z1), (2, .int z2), (3, .int z3), (4, .int z4)] → W p l e { frames := 1, cells := 0, slots := 0, locals := 16 } s m ([.ref a, .int x1, .int x2, .int x3, .int x4] : List Value).toArray below meth c H locs 0 0 (fx_MQ below (fs_Qc s00 G (fun o h' => o = .inl none ∧ mo_at G h' a ad r ∧ mo_fr a ad h h')) ([.ref a, .int x1, .int x2, .int x3, .int x4] : List Value).toArray s 0 0 (fs_A s00)) (F0 m 14 ls ([])) := by
    intro z1 z2 z3 z4 M1 h1 H locs ls hq hP hS hM hf hl
    rw [q_MO_workRange_J14] at hq
    refine lv_iconst (v := 1) hx hb d_MO_workRange_14 (by decide) ?_
    refine lv_goto (tgt := 19) hx hb d_MO_workRange_15 (by decide) ?_
    exact hJ19 z1 z2 z3 z4 1 M1 _ _ _ _ hq hP hS hM hf (lv_sub hl [0, 1, 2, 3, 4] rfl)
  have hl := lv_entry ([.ref a, .int x1, .int x2, .int x3, .int x4]) (n := 15) (Nat.le_of_ble_eq_true rfl)
  rw [lg_entry_eq]
  generalize (lg_sl ([.ref a, .int x1, .int x2, .int x3, .int x4]) ++ List.replicate (15 - (lg_sl ([.ref a, .int x1, .int x2, .int x3, .int x4])).length) Slot.unset).toArray = ls at hl ⊢
  have hl : lv_has ls 15 [(0, .ref a), (1, .int x1), (2, .int x2), (3, .int x3), (4, .int x4)] := hl
  have hf : mo_fr a ad h h := mo_fr.rf
  rw [q_MO_workRange] at hq
  refine lv_iload_n hx hb d_MO_workRange_0 rfl (lv_at hl 2 rfl) ?_
  refine fs_cS B hl.1 hP hS (k_MO_lost hSt x2) (fs_tb_at 1669 tw_1669 rfl) (fs_tb_at 1670 tw_1670 rfl) (fs_tb_at 96 tw_96 rfl) (fs_tb_at 1671 tw_1671 rfl) (by decide) (show (parseMethodDescriptor y_MO_lost.desc).map (fun d => d.parameters.length) = some 1 by decide +kernel) rfl d_MO_workRange_1 ⟨Nat.le_of_ble_eq_true rfl, Nat.le_of_ble_eq_true rfl, Nat.le_of_ble_eq_true rfl, Nat.le_of_ble_eq_true rfl⟩ (fun v_ h_ H locs hc_ hP hS => ?_) (fun C_ a_ h_ H locs hc_ => absurd hc_.1 (fun h9 => by cases h9))
  obtain ⟨ev, eh⟩ := hc_
  cases ev
  rw [eh] at hP
  refine W.widen (k := 0) (n := 0) (Nat.le_of_ble_eq_true rfl) (Nat.le_of_ble_eq_true rfl) ?_
  refine W.eq (g2 := F0 m 4 ls (.int (p_MO_lost x2) :: [])) rfl ?_
  refine lv_if_ne (tgt := 14) hx hb d_MO_workRange_4 (by decide) (fun c_807 => ?_) (fun c_807 => ?_)
  · have hq := fs_ifn c_807 hq
    exact hJ14 x1 x2 x3 x4 M _ _ _ _ hq hP hS hM hf (lv_sub hl [0, 1, 2, 3, 4] rfl)
  · have hq := fs_ifp c_807 hq
    refine lv_iload_n hx hb d_MO_workRange_7 rfl (lv_at hl 3 rfl) ?_
    refine fs_cS B hl.1 hP hS (k_MO_lost hSt x3) (fs_tb_at 1669 tw_1669 rfl) (fs_tb_at 1670 tw_1670 rfl) (fs_tb_at 96 tw_96 rfl) (fs_tb_at 1671 tw_1671 rfl) (by decide) (show (parseMethodDescriptor y_MO_lost.desc).map (fun d => d.parameters.length) = some 1 by decide +kernel) rfl d_MO_workRange_8 ⟨Nat.le_of_ble_eq_true rfl, Nat.le_of_ble_eq_true rfl, Nat.le_of_ble_eq_true rfl, Nat.le_of_ble_eq_true rfl⟩ (fun v_ h_ H locs hc_ hP hS => ?_) (fun C_ a_ h_ H locs hc_ => absurd hc_.1 (fun h9 => by cases h9))
    obtain ⟨ev, eh⟩ := hc_
    cases ev
    rw [eh] at hP
    refine W.widen (k := 0) (n := 0) (Nat.le_of_ble_eq_true rfl) (Nat.le_of_ble_eq_true rfl) ?_
    refine W.eq (g2 := F0 m 11 ls (.int (p_MO_lost x3) :: [])) rfl ?_
    refine lv_if_eq (tgt := 18) hx hb d_MO_workRange_11 (by decide) (fun c_808 => ?_) (fun c_808 => ?_)
    · have hq := fs_ifp c_808 hq
      refine lv_iconst (v := 0) hx hb d_MO_workRange_18 (by decide) ?_
      exact hJ19 x1 x2 x3 x4 0 M _ _ _ _ hq hP hS hM hf (lv_sub hl [0, 1, 2, 3, 4] rfl)
    · have hq := fs_ifn c_808 hq
      exact hJ14 x1 x2 x3 x4 M _ _ _ _ hq hP hS hM hf (lv_sub hl [0, 1, 2, 3, 4] rfl)
noncomputable def q_MO_workPair_J354 (z2 : Int32) (z7 : Int32) (z8 : UInt64) (M1 : mo_S) : Option (mo_S) := (if z7 = 0 then (if (p_MO_tooGreat z8) = 0 then fs_okp ((0 ≤ (Int32.toInt z2)) ∧ ((Int32.toInt z2) < 44)) (fs_let (p_MO_hold M1 z2 z8 0) (fun R860 => some R860)) else fs_okp ((0 ≤ (Int32.toInt z2)) ∧ ((Int32.toInt z2) < 44)) (fs_let (p_MO_hold M1 z2 z8 1) (fun R861 => some R861))) else fs_okp ((0 ≤ (Int32.toInt z2)) ∧ ((Int32.toInt z2) < 44)) (fs_let (p_MO_hold M1 z2 z8 1) (fun R858 => some R858)))
noncomputable def q_MO_workPair_J349 (z2 : Int32) (z7 : Int32) (w0 : Int32) (M1 : mo_S) : Option (mo_S) := q_MO_workPair_J354 z2 z7 (p_MO_truth w0) M1
noncomputable def q_MO_workPair_J344 (z2 : Int32) (z7 : Int32) (M1 : mo_S) : Option (mo_S) := q_MO_workPair_J349 z2 z7 1 M1
noncomputable def q_MO_workPair_J323 (z2 : Int32) (z7 : Int32) (w0 : Int32) (M1 : mo_S) : Option (mo_S) := q_MO_workPair_J354 z2 z7 (p_MO_truth w0) M1
noncomputable def q_MO_workPair_J322 (z2 : Int32) (z7 : Int32) (M1 : mo_S) : Option (mo_S) := q_MO_workPair_J323 z2 z7 0 M1
noncomputable def q_MO_workPair_J297 (z2 : Int32) (z7 : Int32) (w0 : Int32) (M1 : mo_S) : Option (mo_S) := q_MO_workPair_J354 z2 z7 (p_MO_truth w0) M1
noncomputable def q_MO_workPair_J277 (z2 : Int32) (z7 : Int32) (w0 : Int32) (M1 : mo_S) : Option (mo_S) := q_MO_workPair_J354 z2 z7 (p_MO_truth w0) M1
noncomputable def q_MO_workPair_J257 (z2 : Int32) (z7 : Int32) (w0 : Int32) (M1 : mo_S) : Option (mo_S) := q_MO_workPair_J354 z2 z7 (p_MO_truth w0) M1
noncomputable def q_MO_workPair_J237 (z2 : Int32) (z7 : Int32) (w0 : Int32) (M1 : mo_S) : Option (mo_S) := q_MO_workPair_J354 z2 z7 (p_MO_truth w0) M1
noncomputable def q_MO_workPair_J42 (z1 : Int32) (z2 : Int32) (z3 : UInt64) (z5 : UInt64) (w0 : Int32) (M1 : mo_S) : Option (mo_S) := (if z1 = 35 then (if (Op.cmpValue (FP.dcmp z3 z5) .l) = 0 then q_MO_workPair_J257 z2 w0 0 M1 else q_MO_workPair_J257 z2 w0 1 M1) else (if z1 = 38 then (if (Op.cmpValue (FP.dcmp z3 FP.dconst0) .l) = 0 then q_MO_workPair_J322 z2 w0 M1 else (if (Op.cmpValue (FP.dcmp z5 FP.dconst0) .l) = 0 then q_MO_workPair_J322 z2 w0 M1 else q_MO_workPair_J323 z2 w0 1 M1)) else (if z1 = 42 then fs_okp (vf_n64 (FP.dmul z3 z5)) (q_MO_workPair_J354 z2 w0 (FP.dmul z3 z5) M1) else (if z1 = 43 then fs_okp (vf_n64 (FP.dadd z3 z5)) (q_MO_workPair_J354 z2 w0 (FP.dadd z3 z5) M1) else (if z1 = 45 then fs_okp (vf_n64 (FP.dsub z3 z5)) (q_MO_workPair_J354 z2 w0 (FP.dsub z3 z5) M1) else (if z1 = 47 then (if (Op.cmpValue (FP.dcmp z5 FP.dconst0) .l) = 0 then q_MO_workPair_J354 z2 1 FP.dconst0 M1 else fs_okp (vf_n64 (FP.ddiv z3 z5)) (q_MO_workPair_J354 z2 w0 (FP.ddiv z3 z5) M1)) else (if z1 = 60 then (if 0 ≤ (Op.cmpValue (FP.dcmp z3 z5) .g) then q_MO_workPair_J277 z2 w0 0 M1 else q_MO_workPair_J277 z2 w0 1 M1) else (if z1 = 61 then (if (Op.cmpValue (FP.dcmp z3 z5) .l) = 0 then q_MO_workPair_J237 z2 w0 1 M1 else q_MO_workPair_J237 z2 w0 0 M1) else (if z1 = 62 then (if (Op.cmpValue (FP.dcmp z3 z5) .l) ≤ 0 then q_MO_workPair_J297 z2 w0 0 M1 else q_MO_workPair_J297 z2 w0 1 M1) else (if (Op.cmpValue (FP.dcmp z3 FP.dconst0) .l) = 0 then (if (Op.cmpValue (FP.dcmp z5 FP.dconst0) .l) = 0 then q_MO_workPair_J349 z2 w0 0 M1 else q_MO_workPair_J344 z2 w0 M1) else q_MO_workPair_J344 z2 w0 M1))))))))))
noncomputable def q_MO_workPair_J37 (z1 : Int32) (z2 : Int32) (z3 : UInt64) (z5 : UInt64) (M1 : mo_S) : Option (mo_S) := q_MO_workPair_J42 z1 z2 z3 z5 1 M1
noncomputable def q_MO_workPair (M : mo_S) (x1 : Int32) (x2 : Int32) : Option (mo_S) := fs_okp (vp_in x2 44) (fs_okp (vp_in (x2 + 1) 44) (fs_okp (vp_in x2 44) ((if (M.2.1 21 (Int32.toNatClampNeg x2)) = 0 then fs_okp (vp_in (x2 + 1) 44) ((if (M.2.1 21 (Int32.toNatClampNeg (x2 + 1))) = 0 then q_MO_workPair_J42 x1 x2 (M.2.2.2 20 (Int32.toNatClampNeg x2)) (M.2.2.2 20 (Int32.toNatClampNeg (x2 + 1))) 0 M else q_MO_workPair_J37 x1 x2 (M.2.2.2 20 (Int32.toNatClampNeg x2)) (M.2.2.2 20 (Int32.toNatClampNeg (x2 + 1))) M)) else q_MO_workPair_J37 x1 x2 (M.2.2.2 20 (Int32.toNatClampNeg x2)) (M.2.2.2 20 (Int32.toNatClampNeg (x2 + 1))) M))))
set_option maxHeartbeats 4000000 in
set_option maxRecDepth 100000 in
theorem k_MO_workPair {l : Launch} {s00 : State} {G : fs_G} (hSt : fs_St l s00 G) {h : fs_Hp} {a : Nat} {ad : Nat → Nat} {M : mo_S} (hM : mo_at G h a ad M) (x1 : Int32) (x2 : Int32) {r : mo_S} (hq : q_MO_workPair M x1 x2 = some r) : fs_Ct l s00 G y_MO_workPair (.code y_MO_workPair b_MO_workPair 10 none) { frames := 1, cells := 0, slots := 0, locals := 17 } [.ref a, .int x1, .int x2] h (fun o h' => o = .inl none ∧ mo_at G h' a ad r ∧ mo_fr a ad h h') := by
  refine fs_Ct.ofW hSt (by decide) ?_
  intro p e s m below meth c B hout hP
  obtain ⟨hx, hb, hr, hml, hown, hts, hlocks, hname, hK, hw, htr⟩ := id B
  have hown : s.vm.findClass "FormulaSheetModel" = some m.cls := hown
  have hS := hw.S
  have hA : ∀ q : Nat, s00.heap.size ≤ q → fs_A s00 q := fun _ h9 => h9
  generalize hH : s.heap = H at hP hS ⊢
  have hH0 : s.heap.size ≤ H.size := by rw [hH]; exact Nat.le_refl _
  have hJ354 : ∀ (z2 : Int32) (z7 : Int32) (z8 : UInt64) (M1 : mo_S) (h1 : fs_Hp) (H : Heap) (locs : List Loc) (ls : Array Slot), q_MO_workPair_J354 z2 z7 z8 M1 = some r → fs_P G.1 fs_cl (fs_A s00) h1 H → va_S (fs_A s00) s00.heap H locs → mo_at G h1 a ad M1 → mo_fr a ad h h1 → lv_has ls 10 [(0, .ref a), (2, .int z2), (7, .int z7), (8, .double z8)] → W p l e { frames := 1, cells := 0, slots := 0, locals := 17 } s m ([.ref a, .int x1, .int x2] : List Value).toArray below meth c H locs 0 0 (fx_MQ below (fs_Qc s00 G (fun o h' => o = .inl none ∧ mo_at G h' a ad r ∧ mo_fr a ad h h')) ([.ref a, .int x1, .int x2] : List Value).toArray s 0 0 (fs_A s00)) (F0 m 354 ls ([])) := by
    intro z2 z7 z8 M1 h1 H locs ls hq hP hS hM hf hl
    rw [q_MO_workPair_J354] at hq
    refine lv_aload_n hx hb d_MO_workPair_354 rfl (lv_at hl 0 rfl) ?_
    refine lv_iload_n hx hb d_MO_workPair_355 rfl (lv_at hl 1 rfl) ?_
    refine lv_dload hx hb d_MO_workPair_356 (lv_at hl 3 rfl) ?_
    refine lv_iload hx hb d_MO_workPair_358 (lv_at hl 2 rfl) ?_
    refine lv_if_ne (tgt := 371) hx hb d_MO_workPair_360 (by decide) (fun c_857 => ?_) (fun c_857 => ?_)
    · have hq := fs_ifn c_857 hq
      refine lv_iconst (v := 1) hx hb d_MO_workPair_371 (by decide) ?_
      refine lv_goto (tgt := 376) hx hb d_MO_workPair_372 (by decide) ?_
      obtain ⟨⟨b0_, b1_⟩, hq⟩ := fs_okp_some hq
      obtain ⟨R858, eR858, hq⟩ := fs_let_some hq
      refine fs_cV B hl.1 hP hS (k_MO_hold hSt hM z2 z8 1 b0_ b1_) (fs_tb_at 1711 tw_1711 rfl) hM.1 rfl (fs_tb_at 1713 tw_1713 rfl) (fs_tb_at 65 tw_65 rfl) (fs_tb_at 96 tw_96 rfl) (fs_tb_at 1714 tw_1714 rfl) (by decide) (show (parseMethodDescriptor y_MO_hold.desc).map (fun d => d.parameters.length) = some 3 by decide +kernel) rfl d_MO_workPair_376 ⟨Nat.le_of_ble_eq_true rfl, Nat.le_of_ble_eq_true rfl, Nat.le_of_ble_eq_true rfl, Nat.le_of_ble_eq_true rfl⟩ (fun v_ h_ H locs hc_ hP hS => ?_) (fun C_ a_ h_ H locs hc_ => absurd hc_.1 (fun h9 => by cases h9))
      obtain ⟨ev, hM, hf2⟩ := hc_
      cases ev
      have hf := hf.trans hf2
      rw [← eR858] at hM
      refine W.widen (k := 0) (n := 0) (Nat.le_of_ble_eq_true rfl) (Nat.le_of_ble_eq_true rfl) ?_
      refine W.eq (g2 := F0 m 379 ls ([])) rfl ?_
      cases hq
      exact fs_vret hx hb hr hlocks hw hP hS (by omega) (by omega) (⟨rfl, hM, hf⟩) d_MO_workPair_379
    · have hq := fs_ifp c_857 hq
      refine lv_dload hx hb d_MO_workPair_363 (lv_at hl 3 rfl) ?_
      refine fs_cS B hl.1 hP hS (k_MO_tooGreat hSt z8) (fs_tb_at 1723 tw_1723 rfl) (fs_tb_at 1724 tw_1724 rfl) (fs_tb_at 96 tw_96 rfl) (fs_tb_at 1725 tw_1725 rfl) (by decide) (show (parseMethodDescriptor y_MO_tooGreat.desc).map (fun d => d.parameters.length) = some 1 by decide +kernel) rfl d_MO_workPair_365 ⟨Nat.le_of_ble_eq_true rfl, Nat.le_of_ble_eq_true rfl, Nat.le_of_ble_eq_true rfl, Nat.le_of_ble_eq_true rfl⟩ (fun v_ h_ H locs hc_ hP hS => ?_) (fun C_ a_ h_ H locs hc_ => absurd hc_.1 (fun h9 => by cases h9))
      obtain ⟨ev, eh⟩ := hc_
      cases ev
      rw [eh] at hP
      refine W.widen (k := 0) (n := 0) (Nat.le_of_ble_eq_true rfl) (Nat.le_of_ble_eq_true rfl) ?_
      refine W.eq (g2 := F0 m 368 ls (.int (p_MO_tooGreat z8) :: .double z8 :: .int z2 :: .ref a :: [])) rfl ?_
      refine lv_if_eq (tgt := 375) hx hb d_MO_workPair_368 (by decide) (fun c_859 => ?_) (fun c_859 => ?_)
      · have hq := fs_ifp c_859 hq
        refine lv_iconst (v := 0) hx hb d_MO_workPair_375 (by decide) ?_
        obtain ⟨⟨b0_, b1_⟩, hq⟩ := fs_okp_some hq
        obtain ⟨R860, eR860, hq⟩ := fs_let_some hq
        refine fs_cV B hl.1 hP hS (k_MO_hold hSt hM z2 z8 0 b0_ b1_) (fs_tb_at 1711 tw_1711 rfl) hM.1 rfl (fs_tb_at 1713 tw_1713 rfl) (fs_tb_at 65 tw_65 rfl) (fs_tb_at 96 tw_96 rfl) (fs_tb_at 1714 tw_1714 rfl) (by decide) (show (parseMethodDescriptor y_MO_hold.desc).map (fun d => d.parameters.length) = some 3 by decide +kernel) rfl d_MO_workPair_376 ⟨Nat.le_of_ble_eq_true rfl, Nat.le_of_ble_eq_true rfl, Nat.le_of_ble_eq_true rfl, Nat.le_of_ble_eq_true rfl⟩ (fun v_ h_ H locs hc_ hP hS => ?_) (fun C_ a_ h_ H locs hc_ => absurd hc_.1 (fun h9 => by cases h9))
        obtain ⟨ev, hM, hf2⟩ := hc_
        cases ev
        have hf := hf.trans hf2
        rw [← eR860] at hM
        refine W.widen (k := 0) (n := 0) (Nat.le_of_ble_eq_true rfl) (Nat.le_of_ble_eq_true rfl) ?_
        refine W.eq (g2 := F0 m 379 ls ([])) rfl ?_
        cases hq
        exact fs_vret hx hb hr hlocks hw hP hS (by omega) (by omega) (⟨rfl, hM, hf⟩) d_MO_workPair_379
      · have hq := fs_ifn c_859 hq
        refine lv_iconst (v := 1) hx hb d_MO_workPair_371 (by decide) ?_
        refine lv_goto (tgt := 376) hx hb d_MO_workPair_372 (by decide) ?_
        obtain ⟨⟨b0_, b1_⟩, hq⟩ := fs_okp_some hq
        obtain ⟨R861, eR861, hq⟩ := fs_let_some hq
        refine fs_cV B hl.1 hP hS (k_MO_hold hSt hM z2 z8 1 b0_ b1_) (fs_tb_at 1711 tw_1711 rfl) hM.1 rfl (fs_tb_at 1713 tw_1713 rfl) (fs_tb_at 65 tw_65 rfl) (fs_tb_at 96 tw_96 rfl) (fs_tb_at 1714 tw_1714 rfl) (by decide) (show (parseMethodDescriptor y_MO_hold.desc).map (fun d => d.parameters.length) = some 3 by decide +kernel) rfl d_MO_workPair_376 ⟨Nat.le_of_ble_eq_true rfl, Nat.le_of_ble_eq_true rfl, Nat.le_of_ble_eq_true rfl, Nat.le_of_ble_eq_true rfl⟩ (fun v_ h_ H locs hc_ hP hS => ?_) (fun C_ a_ h_ H locs hc_ => absurd hc_.1 (fun h9 => by cases h9))
        obtain ⟨ev, hM, hf2⟩ := hc_
        cases ev
        have hf := hf.trans hf2
        rw [← eR861] at hM
        refine W.widen (k := 0) (n := 0) (Nat.le_of_ble_eq_true rfl) (Nat.le_of_ble_eq_true rfl) ?_
        refine W.eq (g2 := F0 m 379 ls ([])) rfl ?_
        cases hq
        exact fs_vret hx hb hr hlocks hw hP hS (by omega) (by omega) (⟨rfl, hM, hf⟩) d_MO_workPair_379
  have hJ349 : ∀ (z2 : Int32) (z7 : Int32) (w0 : Int32) (M1 : mo_S) (h1 : fs_Hp) (H : Heap) (locs : List Loc) (ls : Array Slot), q_MO_workPair_J349 z2 z7 w0 M1 = some r → fs_P G.1 fs_cl (fs_A s00) h1 H → va_S (fs_A s00) s00.heap H locs → mo_at G h1 a ad M1 → mo_fr a ad h h1 → lv_has ls 10 [(0, .ref a), (2, .int z2), (7, .int z7)] → W p l e { frames := 1, cells := 0, slots := 0, locals := 17 } s m ([.ref a, .int x1, .int x2] : List Value).toArray below meth c H locs 0 0 (fx_MQ below (fs_Qc s00 G (fun o h' => o = .inl none ∧ mo_at G h' a ad r ∧ mo_fr a ad h h')) ([.ref a, .int x1, .int x2] : List Value).toArray s 0 0 (fs_A s00)) (F0 m 349 ls (.int w0 :: [])) := by
    intro z2 z7 w0 M1 h1 H locs ls hq hP hS hM hf hl
    rw [q_MO_workPair_J349] at hq
    refine fs_cS B hl.1 hP hS (k_MO_truth hSt w0) (fs_tb_at 1732 tw_1732 rfl) (fs_tb_at 1733 tw_1733 rfl) (fs_tb_at 96 tw_96 rfl) (fs_tb_at 1734 tw_1734 rfl) (by decide) (show (parseMethodDescriptor y_MO_truth.desc).map (fun d => d.parameters.length) = some 1 by decide +kernel) rfl d_MO_workPair_349 ⟨Nat.le_of_ble_eq_true rfl, Nat.le_of_ble_eq_true rfl, Nat.le_of_ble_eq_true rfl, Nat.le_of_ble_eq_true rfl⟩ (fun v_ h_ H locs hc_ hP hS => ?_) (fun C_ a_ h_ H locs hc_ => absurd hc_.1 (fun h9 => by cases h9))
    obtain ⟨ev, eh⟩ := hc_
    cases ev
    rw [eh] at hP
    refine W.widen (k := 0) (n := 0) (Nat.le_of_ble_eq_true rfl) (Nat.le_of_ble_eq_true rfl) ?_
    refine W.eq (g2 := F0 m 352 ls (.double (p_MO_truth w0) :: [])) rfl ?_
    refine lv_dstore (lv' := [(8, .double (p_MO_truth w0)), (0, .ref a), (2, .int z2), (7, .int z7)]) hx hb d_MO_workPair_352 hl (by decide) rfl (fun ls hl => ?_)
    exact hJ354 z2 z7 (p_MO_truth w0) M1 _ _ _ _ hq hP hS hM hf (lv_sub hl [1, 2, 3, 0] rfl)
  have hJ344 : ∀ (z2 : Int32) (z7 : Int32) (M1 : mo_S) (h1 : fs_Hp) (H : Heap) (locs : List Loc) (ls : Array Slot), q_MO_workPair_J344 z2 z7 M1 = some r → fs_P G.1 fs_cl (fs_A s00) h1 H → va_S (fs_A s00) s00.heap H locs → mo_at G h1 a ad M1 → mo_fr a ad h h1 → lv_has ls 10 [(0, .ref a), (2, .int z2), (7, .int z7)] → W p l e { frames := 1, cells := 0, slots := 0, locals := 17 } s m ([.ref a, .int x1, .int x2] : List Value).toArray below meth c H locs 0 0 (fx_MQ below (fs_Qc s00 G (fun o h' => o = .inl none ∧ mo_at G h' a ad r ∧ mo_fr a ad h h')) ([.ref a, .int x1, .int x2] : List Value).toArray s 0 0 (fs_A s00)) (F0 m 344 ls ([])) := by
    intro z2 z7 M1 h1 H locs ls hq hP hS hM hf hl
    rw [q_MO_workPair_J344] at hq
    refine lv_iconst (v := 1) hx hb d_MO_workPair_344 (by decide) ?_
    refine lv_goto (tgt := 349) hx hb d_MO_workPair_345 (by decide) ?_
    exact hJ349 z2 z7 1 M1 _ _ _ _ hq hP hS hM hf (lv_sub hl [0, 1, 2] rfl)
  have hJ323 : ∀ (z2 : Int32) (z7 : Int32) (w0 : Int32) (M1 : mo_S) (h1 : fs_Hp) (H : Heap) (locs : List Loc) (ls : Array Slot), q_MO_workPair_J323 z2 z7 w0 M1 = some r → fs_P G.1 fs_cl (fs_A s00) h1 H → va_S (fs_A s00) s00.heap H locs → mo_at G h1 a ad M1 → mo_fr a ad h h1 → lv_has ls 10 [(0, .ref a), (2, .int z2), (7, .int z7)] → W p l e { frames := 1, cells := 0, slots := 0, locals := 17 } s m ([.ref a, .int x1, .int x2] : List Value).toArray below meth c H locs 0 0 (fx_MQ below (fs_Qc s00 G (fun o h' => o = .inl none ∧ mo_at G h' a ad r ∧ mo_fr a ad h h')) ([.ref a, .int x1, .int x2] : List Value).toArray s 0 0 (fs_A s00)) (F0 m 323 ls (.int w0 :: [])) := by
    intro z2 z7 w0 M1 h1 H locs ls hq hP hS hM hf hl
    rw [q_MO_workPair_J323] at hq
    refine fs_cS B hl.1 hP hS (k_MO_truth hSt w0) (fs_tb_at 1732 tw_1732 rfl) (fs_tb_at 1733 tw_1733 rfl) (fs_tb_at 96 tw_96 rfl) (fs_tb_at 1734 tw_1734 rfl) (by decide) (show (parseMethodDescriptor y_MO_truth.desc).map (fun d => d.parameters.length) = some 1 by decide +kernel) rfl d_MO_workPair_323 ⟨Nat.le_of_ble_eq_true rfl, Nat.le_of_ble_eq_true rfl, Nat.le_of_ble_eq_true rfl, Nat.le_of_ble_eq_true rfl⟩ (fun v_ h_ H locs hc_ hP hS => ?_) (fun C_ a_ h_ H locs hc_ => absurd hc_.1 (fun h9 => by cases h9))
    obtain ⟨ev, eh⟩ := hc_
    cases ev
    rw [eh] at hP
    refine W.widen (k := 0) (n := 0) (Nat.le_of_ble_eq_true rfl) (Nat.le_of_ble_eq_true rfl) ?_
    refine W.eq (g2 := F0 m 326 ls (.double (p_MO_truth w0) :: [])) rfl ?_
    refine lv_dstore (lv' := [(8, .double (p_MO_truth w0)), (0, .ref a), (2, .int z2), (7, .int z7)]) hx hb d_MO_workPair_326 hl (by decide) rfl (fun ls hl => ?_)
    refine lv_goto (tgt := 354) hx hb d_MO_workPair_328 (by decide) ?_
    exact hJ354 z2 z7 (p_MO_truth w0) M1 _ _ _ _ hq hP hS hM hf (lv_sub hl [1, 2, 3, 0] rfl)
  have hJ322 : ∀ (z2 : Int32) (z7 : Int32) (M1 : mo_S) (h1 : fs_Hp) (H : Heap) (locs : List Loc) (ls : Array Slot), q_MO_workPair_J322 z2 z7 M1 = some r → fs_P G.1 fs_cl (fs_A s00) h1 H → va_S (fs_A s00) s00.heap H locs → mo_at G h1 a ad M1 → mo_fr a ad h h1 → lv_has ls 10 [(0, .ref a), (2, .int z2), (7, .int z7)] → W p l e { frames := 1, cells := 0, slots := 0, locals := 17 } s m ([.ref a, .int x1, .int x2] : List Value).toArray below meth c H locs 0 0 (fx_MQ below (fs_Qc s00 G (fun o h' => o = .inl none ∧ mo_at G h' a ad r ∧ mo_fr a ad h h')) ([.ref a, .int x1, .int x2] : List Value).toArray s 0 0 (fs_A s00)) (F0 m 322 ls ([])) := by
    intro z2 z7 M1 h1 H locs ls hq hP hS hM hf hl
    rw [q_MO_workPair_J322] at hq
    refine lv_iconst (v := 0) hx hb d_MO_workPair_322 (by decide) ?_
    exact hJ323 z2 z7 0 M1 _ _ _ _ hq hP hS hM hf (lv_sub hl [0, 1, 2] rfl)
  have hJ297 : ∀ (z2 : Int32) (z7 : Int32) (w0 : Int32) (M1 : mo_S) (h1 : fs_Hp) (H : Heap) (locs : List Loc) (ls : Array Slot), q_MO_workPair_J297 z2 z7 w0 M1 = some r → fs_P G.1 fs_cl (fs_A s00) h1 H → va_S (fs_A s00) s00.heap H locs → mo_at G h1 a ad M1 → mo_fr a ad h h1 → lv_has ls 10 [(0, .ref a), (2, .int z2), (7, .int z7)] → W p l e { frames := 1, cells := 0, slots := 0, locals := 17 } s m ([.ref a, .int x1, .int x2] : List Value).toArray below meth c H locs 0 0 (fx_MQ below (fs_Qc s00 G (fun o h' => o = .inl none ∧ mo_at G h' a ad r ∧ mo_fr a ad h h')) ([.ref a, .int x1, .int x2] : List Value).toArray s 0 0 (fs_A s00)) (F0 m 297 ls (.int w0 :: [])) := by
    intro z2 z7 w0 M1 h1 H locs ls hq hP hS hM hf hl
    rw [q_MO_workPair_J297] at hq
    refine fs_cS B hl.1 hP hS (k_MO_truth hSt w0) (fs_tb_at 1732 tw_1732 rfl) (fs_tb_at 1733 tw_1733 rfl) (fs_tb_at 96 tw_96 rfl) (fs_tb_at 1734 tw_1734 rfl) (by decide) (show (parseMethodDescriptor y_MO_truth.desc).map (fun d => d.parameters.length) = some 1 by decide +kernel) rfl d_MO_workPair_297 ⟨Nat.le_of_ble_eq_true rfl, Nat.le_of_ble_eq_true rfl, Nat.le_of_ble_eq_true rfl, Nat.le_of_ble_eq_true rfl⟩ (fun v_ h_ H locs hc_ hP hS => ?_) (fun C_ a_ h_ H locs hc_ => absurd hc_.1 (fun h9 => by cases h9))
    obtain ⟨ev, eh⟩ := hc_
    cases ev
    rw [eh] at hP
    refine W.widen (k := 0) (n := 0) (Nat.le_of_ble_eq_true rfl) (Nat.le_of_ble_eq_true rfl) ?_
    refine W.eq (g2 := F0 m 300 ls (.double (p_MO_truth w0) :: [])) rfl ?_
    refine lv_dstore (lv' := [(8, .double (p_MO_truth w0)), (0, .ref a), (2, .int z2), (7, .int z7)]) hx hb d_MO_workPair_300 hl (by decide) rfl (fun ls hl => ?_)
    refine lv_goto (tgt := 354) hx hb d_MO_workPair_302 (by decide) ?_
    exact hJ354 z2 z7 (p_MO_truth w0) M1 _ _ _ _ hq hP hS hM hf (lv_sub hl [1, 2, 3, 0] rfl)
  have hJ277 : ∀ (z2 : Int32) (z7 : Int32) (w0 : Int32) (M1 : mo_S) (h1 : fs_Hp) (H : Heap) (locs : List Loc) (ls : Array Slot), q_MO_workPair_J277 z2 z7 w0 M1 = some r → fs_P G.1 fs_cl (fs_A s00) h1 H → va_S (fs_A s00) s00.heap H locs → mo_at G h1 a ad M1 → mo_fr a ad h h1 → lv_has ls 10 [(0, .ref a), (2, .int z2), (7, .int z7)] → W p l e { frames := 1, cells := 0, slots := 0, locals := 17 } s m ([.ref a, .int x1, .int x2] : List Value).toArray below meth c H locs 0 0 (fx_MQ below (fs_Qc s00 G (fun o h' => o = .inl none ∧ mo_at G h' a ad r ∧ mo_fr a ad h h')) ([.ref a, .int x1, .int x2] : List Value).toArray s 0 0 (fs_A s00)) (F0 m 277 ls (.int w0 :: [])) := by
    intro z2 z7 w0 M1 h1 H locs ls hq hP hS hM hf hl
    rw [q_MO_workPair_J277] at hq
    refine fs_cS B hl.1 hP hS (k_MO_truth hSt w0) (fs_tb_at 1732 tw_1732 rfl) (fs_tb_at 1733 tw_1733 rfl) (fs_tb_at 96 tw_96 rfl) (fs_tb_at 1734 tw_1734 rfl) (by decide) (show (parseMethodDescriptor y_MO_truth.desc).map (fun d => d.parameters.length) = some 1 by decide +kernel) rfl d_MO_workPair_277 ⟨Nat.le_of_ble_eq_true rfl, Nat.le_of_ble_eq_true rfl, Nat.le_of_ble_eq_true rfl, Nat.le_of_ble_eq_true rfl⟩ (fun v_ h_ H locs hc_ hP hS => ?_) (fun C_ a_ h_ H locs hc_ => absurd hc_.1 (fun h9 => by cases h9))
    obtain ⟨ev, eh⟩ := hc_
    cases ev
    rw [eh] at hP
    refine W.widen (k := 0) (n := 0) (Nat.le_of_ble_eq_true rfl) (Nat.le_of_ble_eq_true rfl) ?_
    refine W.eq (g2 := F0 m 280 ls (.double (p_MO_truth w0) :: [])) rfl ?_
    refine lv_dstore (lv' := [(8, .double (p_MO_truth w0)), (0, .ref a), (2, .int z2), (7, .int z7)]) hx hb d_MO_workPair_280 hl (by decide) rfl (fun ls hl => ?_)
    refine lv_goto (tgt := 354) hx hb d_MO_workPair_282 (by decide) ?_
    exact hJ354 z2 z7 (p_MO_truth w0) M1 _ _ _ _ hq hP hS hM hf (lv_sub hl [1, 2, 3, 0] rfl)
  have hJ257 : ∀ (z2 : Int32) (z7 : Int32) (w0 : Int32) (M1 : mo_S) (h1 : fs_Hp) (H : Heap) (locs : List Loc) (ls : Array Slot), q_MO_workPair_J257 z2 z7 w0 M1 = some r → fs_P G.1 fs_cl (fs_A s00) h1 H → va_S (fs_A s00) s00.heap H locs → mo_at G h1 a ad M1 → mo_fr a ad h h1 → lv_has ls 10 [(0, .ref a), (2, .int z2), (7, .int z7)] → W p l e { frames := 1, cells := 0, slots := 0, locals := 17 } s m ([.ref a, .int x1, .int x2] : List Value).toArray below meth c H locs 0 0 (fx_MQ below (fs_Qc s00 G (fun o h' => o = .inl none ∧ mo_at G h' a ad r ∧ mo_fr a ad h h')) ([.ref a, .int x1, .int x2] : List Value).toArray s 0 0 (fs_A s00)) (F0 m 257 ls (.int w0 :: [])) := by
    intro z2 z7 w0 M1 h1 H locs ls hq hP hS hM hf hl
    rw [q_MO_workPair_J257] at hq
    refine fs_cS B hl.1 hP hS (k_MO_truth hSt w0) (fs_tb_at 1732 tw_1732 rfl) (fs_tb_at 1733 tw_1733 rfl) (fs_tb_at 96 tw_96 rfl) (fs_tb_at 1734 tw_1734 rfl) (by decide) (show (parseMethodDescriptor y_MO_truth.desc).map (fun d => d.parameters.length) = some 1 by decide +kernel) rfl d_MO_workPair_257 ⟨Nat.le_of_ble_eq_true rfl, Nat.le_of_ble_eq_true rfl, Nat.le_of_ble_eq_true rfl, Nat.le_of_ble_eq_true rfl⟩ (fun v_ h_ H locs hc_ hP hS => ?_) (fun C_ a_ h_ H locs hc_ => absurd hc_.1 (fun h9 => by cases h9))
    obtain ⟨ev, eh⟩ := hc_
    cases ev
    rw [eh] at hP
    refine W.widen (k := 0) (n := 0) (Nat.le_of_ble_eq_true rfl) (Nat.le_of_ble_eq_true rfl) ?_
    refine W.eq (g2 := F0 m 260 ls (.double (p_MO_truth w0) :: [])) rfl ?_
    refine lv_dstore (lv' := [(8, .double (p_MO_truth w0)), (0, .ref a), (2, .int z2), (7, .int z7)]) hx hb d_MO_workPair_260 hl (by decide) rfl (fun ls hl => ?_)
    refine lv_goto (tgt := 354) hx hb d_MO_workPair_262 (by decide) ?_
    exact hJ354 z2 z7 (p_MO_truth w0) M1 _ _ _ _ hq hP hS hM hf (lv_sub hl [1, 2, 3, 0] rfl)
  have hJ237 : ∀ (z2 : Int32) (z7 : Int32) (w0 : Int32) (M1 : mo_S) (h1 : fs_Hp) (H : Heap) (locs : List Loc) (ls : Array Slot), q_MO_workPair_J237 z2 z7 w0 M1 = some r → fs_P G.1 fs_cl (fs_A s00) h1 H → va_S (fs_A s00) s00.heap H locs → mo_at G h1 a ad M1 → mo_fr a ad h h1 → lv_has ls 10 [(0, .ref a), (2, .int z2), (7, .int z7)] → W p l e { frames := 1, cells := 0, slots := 0, locals := 17 } s m ([.ref a, .int x1, .int x2] : List Value).toArray below meth c H locs 0 0 (fx_MQ below (fs_Qc s00 G (fun o h' => o = .inl none ∧ mo_at G h' a ad r ∧ mo_fr a ad h h')) ([.ref a, .int x1, .int x2] : List Value).toArray s 0 0 (fs_A s00)) (F0 m 237 ls (.int w0 :: [])) := by
    intro z2 z7 w0 M1 h1 H locs ls hq hP hS hM hf hl
    rw [q_MO_workPair_J237] at hq
    refine fs_cS B hl.1 hP hS (k_MO_truth hSt w0) (fs_tb_at 1732 tw_1732 rfl) (fs_tb_at 1733 tw_1733 rfl) (fs_tb_at 96 tw_96 rfl) (fs_tb_at 1734 tw_1734 rfl) (by decide) (show (parseMethodDescriptor y_MO_truth.desc).map (fun d => d.parameters.length) = some 1 by decide +kernel) rfl d_MO_workPair_237 ⟨Nat.le_of_ble_eq_true rfl, Nat.le_of_ble_eq_true rfl, Nat.le_of_ble_eq_true rfl, Nat.le_of_ble_eq_true rfl⟩ (fun v_ h_ H locs hc_ hP hS => ?_) (fun C_ a_ h_ H locs hc_ => absurd hc_.1 (fun h9 => by cases h9))
    obtain ⟨ev, eh⟩ := hc_
    cases ev
    rw [eh] at hP
    refine W.widen (k := 0) (n := 0) (Nat.le_of_ble_eq_true rfl) (Nat.le_of_ble_eq_true rfl) ?_
    refine W.eq (g2 := F0 m 240 ls (.double (p_MO_truth w0) :: [])) rfl ?_
    refine lv_dstore (lv' := [(8, .double (p_MO_truth w0)), (0, .ref a), (2, .int z2), (7, .int z7)]) hx hb d_MO_workPair_240 hl (by decide) rfl (fun ls hl => ?_)
    refine lv_goto (tgt := 354) hx hb d_MO_workPair_242 (by decide) ?_
    exact hJ354 z2 z7 (p_MO_truth w0) M1 _ _ _ _ hq hP hS hM hf (lv_sub hl [1, 2, 3, 0] rfl)
  have hJ42 : ∀ (z1 : Int32) (z2 : Int32) (z3 : UInt64) (z5 : UInt64) (w0 : Int32) (M1 : mo_S) (h1 : fs_Hp) (H : Heap) (locs : List Loc) (ls : Array Slot), q_MO_workPair_J42 z1 z2 z3 z5 w0 M1 = some r → fs_P G.1 fs_cl (fs_A s00) h1 H → va_S (fs_A s00) s00.heap H locs → mo_at G h1 a ad M1 → mo_fr a ad h h1 → lv_has ls 10 [(0, .ref a), (1, .int z1), (2, .int z2), (3, .double z3), (5, .double z5)] → W p l e { frames := 1, cells := 0, slots := 0, locals := 17 } s m ([.ref a, .int x1, .int x2] : List Value).toArray below meth c H locs 0 0 (fx_MQ below (fs_Qc s00 G (fun o h' => o = .inl none ∧ mo_at G h' a ad r ∧ mo_fr a ad h h')) ([.ref a, .int x1, .int x2] : List Value).toArray s 0 0 (fs_A s00)) (F0 m 42 ls (.int w0 :: [])) := by
    intro z1 z2 z3 z5 w0 M1 h1 H locs ls hq hP hS hM hf hl
    rw [q_MO_workPair_J42] at hq
    refine lv_istore (lv' := [(7, .int w0), (0, .ref a), (1, .int z1), (2, .int z2), (3, .double z3), (5, .double z5)]) hx hb d_MO_workPair_42 hl (by decide) rfl (fun ls hl => ?_)
    refine lv_dconst0 hx hb d_MO_workPair_44 ?_
    refine lv_dstore (lv' := [(8, .double FP.dconst0), (7, .int w0), (0, .ref a), (1, .int z1), (2, .int z2), (3, .double z3), (5, .double z5)]) hx hb d_MO_workPair_45 hl (by decide) rfl (fun ls hl => ?_)
    refine lv_iload_n hx hb d_MO_workPair_47 rfl (lv_at hl 3 rfl) ?_
    by_cases c_862 : z1 = 35
    · have hq := fs_ifp c_862 hq
      refine lv_tableIn (off := 197) (tgt := 245) hx hb d_MO_workPair_48 (by rw [c_862]; decide) (by rw [c_862]; decide) (by rw [c_862]; decide) (by decide) ?_
      refine lv_dload_n hx hb d_MO_workPair_245 rfl (lv_at hl 5 rfl) ?_
      refine lv_dload hx hb d_MO_workPair_246 (lv_at hl 6 rfl) ?_
      refine lv_dcmp hx hb d_MO_workPair_248 ?_
      refine lv_if_eq (tgt := 256) hx hb d_MO_workPair_249 (by decide) (fun c_863 => ?_) (fun c_863 => ?_)
      · have hq := fs_ifp c_863 hq
        refine lv_iconst (v := 0) hx hb d_MO_workPair_256 (by decide) ?_
        exact hJ257 z2 w0 0 M1 _ _ _ _ hq hP hS hM hf (lv_sub hl [2, 4, 1] rfl)
      · have hq := fs_ifn c_863 hq
        refine lv_iconst (v := 1) hx hb d_MO_workPair_252 (by decide) ?_
        refine lv_goto (tgt := 257) hx hb d_MO_workPair_253 (by decide) ?_
        exact hJ257 z2 w0 1 M1 _ _ _ _ hq hP hS hM hf (lv_sub hl [2, 4, 1] rfl)
    · have hq := fs_ifn c_862 hq
      by_cases c_864 : z1 = 38
      · have hq := fs_ifp c_864 hq
        refine lv_tableIn (off := 257) (tgt := 305) hx hb d_MO_workPair_48 (by rw [c_864]; decide) (by rw [c_864]; decide) (by rw [c_864]; decide) (by decide) ?_
        refine lv_dload_n hx hb d_MO_workPair_305 rfl (lv_at hl 5 rfl) ?_
        refine lv_dconst0 hx hb d_MO_workPair_306 ?_
        refine lv_dcmp hx hb d_MO_workPair_307 ?_
        refine lv_if_eq (tgt := 322) hx hb d_MO_workPair_308 (by decide) (fun c_865 => ?_) (fun c_865 => ?_)
        · have hq := fs_ifp c_865 hq
          exact hJ322 z2 w0 M1 _ _ _ _ hq hP hS hM hf (lv_sub hl [2, 4, 1] rfl)
        · have hq := fs_ifn c_865 hq
          refine lv_dload hx hb d_MO_workPair_311 (lv_at hl 6 rfl) ?_
          refine lv_dconst0 hx hb d_MO_workPair_313 ?_
          refine lv_dcmp hx hb d_MO_workPair_314 ?_
          refine lv_if_eq (tgt := 322) hx hb d_MO_workPair_315 (by decide) (fun c_866 => ?_) (fun c_866 => ?_)
          · have hq := fs_ifp c_866 hq
            exact hJ322 z2 w0 M1 _ _ _ _ hq hP hS hM hf (lv_sub hl [2, 4, 1] rfl)
          · have hq := fs_ifn c_866 hq
            refine lv_iconst (v := 1) hx hb d_MO_workPair_318 (by decide) ?_
            refine lv_goto (tgt := 323) hx hb d_MO_workPair_319 (by decide) ?_
            exact hJ323 z2 w0 1 M1 _ _ _ _ hq hP hS hM hf (lv_sub hl [2, 4, 1] rfl)
      · have hq := fs_ifn c_864 hq
        by_cases c_867 : z1 = 42
        · have hq := fs_ifp c_867 hq
          refine lv_tableIn (off := 146) (tgt := 194) hx hb d_MO_workPair_48 (by rw [c_867]; decide) (by rw [c_867]; decide) (by rw [c_867]; decide) (by decide) ?_
          refine lv_dload_n hx hb d_MO_workPair_194 rfl (lv_at hl 5 rfl) ?_
          refine lv_dload hx hb d_MO_workPair_195 (lv_at hl 6 rfl) ?_
          obtain ⟨hk_, hq⟩ := fs_okp_some hq
          refine lv_dmul hx hb d_MO_workPair_197 hk_ ?_
          refine lv_dstore (lv' := [(8, .double (FP.dmul z3 z5)), (7, .int w0), (0, .ref a), (1, .int z1), (2, .int z2), (3, .double z3), (5, .double z5)]) hx hb d_MO_workPair_198 hl (by decide) rfl (fun ls hl => ?_)
          refine lv_goto (tgt := 354) hx hb d_MO_workPair_200 (by decide) ?_
          exact hJ354 z2 w0 (FP.dmul z3 z5) M1 _ _ _ _ hq hP hS hM hf (lv_sub hl [2, 4, 1, 0] rfl)
        · have hq := fs_ifn c_867 hq
          by_cases c_868 : z1 = 43
          · have hq := fs_ifp c_868 hq
            refine lv_tableIn (off := 128) (tgt := 176) hx hb d_MO_workPair_48 (by rw [c_868]; decide) (by rw [c_868]; decide) (by rw [c_868]; decide) (by decide) ?_
            refine lv_dload_n hx hb d_MO_workPair_176 rfl (lv_at hl 5 rfl) ?_
            refine lv_dload hx hb d_MO_workPair_177 (lv_at hl 6 rfl) ?_
            obtain ⟨hk_, hq⟩ := fs_okp_some hq
            refine lv_dadd hx hb d_MO_workPair_179 hk_ ?_
            refine lv_dstore (lv' := [(8, .double (FP.dadd z3 z5)), (7, .int w0), (0, .ref a), (1, .int z1), (2, .int z2), (3, .double z3), (5, .double z5)]) hx hb d_MO_workPair_180 hl (by decide) rfl (fun ls hl => ?_)
            refine lv_goto (tgt := 354) hx hb d_MO_workPair_182 (by decide) ?_
            exact hJ354 z2 w0 (FP.dadd z3 z5) M1 _ _ _ _ hq hP hS hM hf (lv_sub hl [2, 4, 1, 0] rfl)
          · have hq := fs_ifn c_868 hq
            by_cases c_869 : z1 = 45
            · have hq := fs_ifp c_869 hq
              refine lv_tableIn (off := 137) (tgt := 185) hx hb d_MO_workPair_48 (by rw [c_869]; decide) (by rw [c_869]; decide) (by rw [c_869]; decide) (by decide) ?_
              refine lv_dload_n hx hb d_MO_workPair_185 rfl (lv_at hl 5 rfl) ?_
              refine lv_dload hx hb d_MO_workPair_186 (lv_at hl 6 rfl) ?_
              obtain ⟨hk_, hq⟩ := fs_okp_some hq
              refine lv_dsub hx hb d_MO_workPair_188 hk_ ?_
              refine lv_dstore (lv' := [(8, .double (FP.dsub z3 z5)), (7, .int w0), (0, .ref a), (1, .int z1), (2, .int z2), (3, .double z3), (5, .double z5)]) hx hb d_MO_workPair_189 hl (by decide) rfl (fun ls hl => ?_)
              refine lv_goto (tgt := 354) hx hb d_MO_workPair_191 (by decide) ?_
              exact hJ354 z2 w0 (FP.dsub z3 z5) M1 _ _ _ _ hq hP hS hM hf (lv_sub hl [2, 4, 1, 0] rfl)
            · have hq := fs_ifn c_869 hq
              by_cases c_870 : z1 = 47
              · have hq := fs_ifp c_870 hq
                refine lv_tableIn (off := 155) (tgt := 203) hx hb d_MO_workPair_48 (by rw [c_870]; decide) (by rw [c_870]; decide) (by rw [c_870]; decide) (by decide) ?_
                refine lv_dload hx hb d_MO_workPair_203 (lv_at hl 6 rfl) ?_
                refine lv_dconst0 hx hb d_MO_workPair_205 ?_
                refine lv_dcmp hx hb d_MO_workPair_206 ?_
                refine lv_if_ne (tgt := 216) hx hb d_MO_workPair_207 (by decide) (fun c_871 => ?_) (fun c_871 => ?_)
                · have hq := fs_ifn c_871 hq
                  refine lv_dload_n hx hb d_MO_workPair_216 rfl (lv_at hl 5 rfl) ?_
                  refine lv_dload hx hb d_MO_workPair_217 (lv_at hl 6 rfl) ?_
                  obtain ⟨hk_, hq⟩ := fs_okp_some hq
                  refine lv_ddiv hx hb d_MO_workPair_219 hk_ ?_
                  refine lv_dstore (lv' := [(8, .double (FP.ddiv z3 z5)), (7, .int w0), (0, .ref a), (1, .int z1), (2, .int z2), (3, .double z3), (5, .double z5)]) hx hb d_MO_workPair_220 hl (by decide) rfl (fun ls hl => ?_)
                  refine lv_goto (tgt := 354) hx hb d_MO_workPair_222 (by decide) ?_
                  exact hJ354 z2 w0 (FP.ddiv z3 z5) M1 _ _ _ _ hq hP hS hM hf (lv_sub hl [2, 4, 1, 0] rfl)
                · have hq := fs_ifp c_871 hq
                  refine lv_iconst (v := 1) hx hb d_MO_workPair_210 (by decide) ?_
                  refine lv_istore (lv' := [(7, .int 1), (8, .double FP.dconst0), (0, .ref a), (1, .int z1), (2, .int z2), (3, .double z3), (5, .double z5)]) hx hb d_MO_workPair_211 hl (by decide) rfl (fun ls hl => ?_)
                  refine lv_goto (tgt := 354) hx hb d_MO_workPair_213 (by decide) ?_
                  exact hJ354 z2 1 FP.dconst0 M1 _ _ _ _ hq hP hS hM hf (lv_sub hl [2, 4, 0, 1] rfl)
              · have hq := fs_ifn c_870 hq
                by_cases c_872 : z1 = 60
                · have hq := fs_ifp c_872 hq
                  refine lv_tableIn (off := 217) (tgt := 265) hx hb d_MO_workPair_48 (by rw [c_872]; decide) (by rw [c_872]; decide) (by rw [c_872]; decide) (by decide) ?_
                  refine lv_dload_n hx hb d_MO_workPair_265 rfl (lv_at hl 5 rfl) ?_
                  refine lv_dload hx hb d_MO_workPair_266 (lv_at hl 6 rfl) ?_
                  refine lv_dcmp hx hb d_MO_workPair_268 ?_
                  refine lv_if_ge (tgt := 276) hx hb d_MO_workPair_269 (by decide) (fun c_873 => ?_) (fun c_873 => ?_)
                  · have hq := fs_ifp c_873 hq
                    refine lv_iconst (v := 0) hx hb d_MO_workPair_276 (by decide) ?_
                    exact hJ277 z2 w0 0 M1 _ _ _ _ hq hP hS hM hf (lv_sub hl [2, 4, 1] rfl)
                  · have hq := fs_ifn c_873 hq
                    refine lv_iconst (v := 1) hx hb d_MO_workPair_272 (by decide) ?_
                    refine lv_goto (tgt := 277) hx hb d_MO_workPair_273 (by decide) ?_
                    exact hJ277 z2 w0 1 M1 _ _ _ _ hq hP hS hM hf (lv_sub hl [2, 4, 1] rfl)
                · have hq := fs_ifn c_872 hq
                  by_cases c_874 : z1 = 61
                  · have hq := fs_ifp c_874 hq
                    refine lv_tableIn (off := 177) (tgt := 225) hx hb d_MO_workPair_48 (by rw [c_874]; decide) (by rw [c_874]; decide) (by rw [c_874]; decide) (by decide) ?_
                    refine lv_dload_n hx hb d_MO_workPair_225 rfl (lv_at hl 5 rfl) ?_
                    refine lv_dload hx hb d_MO_workPair_226 (lv_at hl 6 rfl) ?_
                    refine lv_dcmp hx hb d_MO_workPair_228 ?_
                    refine lv_if_ne (tgt := 236) hx hb d_MO_workPair_229 (by decide) (fun c_875 => ?_) (fun c_875 => ?_)
                    · have hq := fs_ifn c_875 hq
                      refine lv_iconst (v := 0) hx hb d_MO_workPair_236 (by decide) ?_
                      exact hJ237 z2 w0 0 M1 _ _ _ _ hq hP hS hM hf (lv_sub hl [2, 4, 1] rfl)
                    · have hq := fs_ifp c_875 hq
                      refine lv_iconst (v := 1) hx hb d_MO_workPair_232 (by decide) ?_
                      refine lv_goto (tgt := 237) hx hb d_MO_workPair_233 (by decide) ?_
                      exact hJ237 z2 w0 1 M1 _ _ _ _ hq hP hS hM hf (lv_sub hl [2, 4, 1] rfl)
                  · have hq := fs_ifn c_874 hq
                    by_cases c_876 : z1 = 62
                    · have hq := fs_ifp c_876 hq
                      refine lv_tableIn (off := 237) (tgt := 285) hx hb d_MO_workPair_48 (by rw [c_876]; decide) (by rw [c_876]; decide) (by rw [c_876]; decide) (by decide) ?_
                      refine lv_dload_n hx hb d_MO_workPair_285 rfl (lv_at hl 5 rfl) ?_
                      refine lv_dload hx hb d_MO_workPair_286 (lv_at hl 6 rfl) ?_
                      refine lv_dcmp hx hb d_MO_workPair_288 ?_
                      refine lv_if_le (tgt := 296) hx hb d_MO_workPair_289 (by decide) (fun c_877 => ?_) (fun c_877 => ?_)
                      · have hq := fs_ifp c_877 hq
                        refine lv_iconst (v := 0) hx hb d_MO_workPair_296 (by decide) ?_
                        exact hJ297 z2 w0 0 M1 _ _ _ _ hq hP hS hM hf (lv_sub hl [2, 4, 1] rfl)
                      · have hq := fs_ifn c_877 hq
                        refine lv_iconst (v := 1) hx hb d_MO_workPair_292 (by decide) ?_
                        refine lv_goto (tgt := 297) hx hb d_MO_workPair_293 (by decide) ?_
                        exact hJ297 z2 w0 1 M1 _ _ _ _ hq hP hS hM hf (lv_sub hl [2, 4, 1] rfl)
                    · have hq := fs_ifn c_876 hq
                      have hd_ : ¬ Int32.toInt z1 < 35 → ¬ 62 < Int32.toInt z1 → (#[197, 283, 283, 257, 283, 283, 283, 146, 128, 283, 137, 283, 155, 283, 283, 283, 283, 283, 283, 283, 283, 283, 283, 283, 283, 217, 177, 237] : Array Int)[(Int32.toInt z1 - 35).toNat]? = some 283 := by
                        intro h1_ h2_
                        have key : ∀ n : Nat, n < 28 → n = 0 ∨ n = 3 ∨ n = 7 ∨ n = 8 ∨ n = 10 ∨ n = 12 ∨ n = 25 ∨ n = 26 ∨ n = 27 ∨ (#[197, 283, 283, 257, 283, 283, 283, 146, 128, 283, 137, 283, 155, 283, 283, 283, 283, 283, 283, 283, 283, 283, 283, 283, 283, 217, 177, 237] : Array Int)[n]? = some 283 := by decide
                        have hn_ : (Int32.toInt z1 - 35).toNat < 28 := by omega
                        rcases key _ hn_ with h_ | h_ | h_ | h_ | h_ | h_ | h_ | h_ | h_ | h_
                        · exact absurd (Int32.toInt_inj.mp (by rw [show Int32.toInt 35 = 35 by decide]; omega)) c_862
                        · exact absurd (Int32.toInt_inj.mp (by rw [show Int32.toInt 38 = 38 by decide]; omega)) c_864
                        · exact absurd (Int32.toInt_inj.mp (by rw [show Int32.toInt 42 = 42 by decide]; omega)) c_867
                        · exact absurd (Int32.toInt_inj.mp (by rw [show Int32.toInt 43 = 43 by decide]; omega)) c_868
                        · exact absurd (Int32.toInt_inj.mp (by rw [show Int32.toInt 45 = 45 by decide]; omega)) c_869
                        · exact absurd (Int32.toInt_inj.mp (by rw [show Int32.toInt 47 = 47 by decide]; omega)) c_870
                        · exact absurd (Int32.toInt_inj.mp (by rw [show Int32.toInt 60 = 60 by decide]; omega)) c_872
                        · exact absurd (Int32.toInt_inj.mp (by rw [show Int32.toInt 61 = 61 by decide]; omega)) c_874
                        · exact absurd (Int32.toInt_inj.mp (by rw [show Int32.toInt 62 = 62 by decide]; omega)) c_876
                        · exact h_
                      refine fs_tabD (tgt := 331) hx hb d_MO_workPair_48 hd_ (by decide) ?_
                      refine lv_dload_n hx hb d_MO_workPair_331 rfl (lv_at hl 5 rfl) ?_
                      refine lv_dconst0 hx hb d_MO_workPair_332 ?_
                      refine lv_dcmp hx hb d_MO_workPair_333 ?_
                      refine lv_if_ne (tgt := 344) hx hb d_MO_workPair_334 (by decide) (fun c_878 => ?_) (fun c_878 => ?_)
                      · have hq := fs_ifn c_878 hq
                        exact hJ344 z2 w0 M1 _ _ _ _ hq hP hS hM hf (lv_sub hl [2, 4, 1] rfl)
                      · have hq := fs_ifp c_878 hq
                        refine lv_dload hx hb d_MO_workPair_337 (lv_at hl 6 rfl) ?_
                        refine lv_dconst0 hx hb d_MO_workPair_339 ?_
                        refine lv_dcmp hx hb d_MO_workPair_340 ?_
                        refine lv_if_eq (tgt := 348) hx hb d_MO_workPair_341 (by decide) (fun c_879 => ?_) (fun c_879 => ?_)
                        · have hq := fs_ifp c_879 hq
                          refine lv_iconst (v := 0) hx hb d_MO_workPair_348 (by decide) ?_
                          exact hJ349 z2 w0 0 M1 _ _ _ _ hq hP hS hM hf (lv_sub hl [2, 4, 1] rfl)
                        · have hq := fs_ifn c_879 hq
                          exact hJ344 z2 w0 M1 _ _ _ _ hq hP hS hM hf (lv_sub hl [2, 4, 1] rfl)
  have hJ37 : ∀ (z1 : Int32) (z2 : Int32) (z3 : UInt64) (z5 : UInt64) (M1 : mo_S) (h1 : fs_Hp) (H : Heap) (locs : List Loc) (ls : Array Slot), q_MO_workPair_J37 z1 z2 z3 z5 M1 = some r → fs_P G.1 fs_cl (fs_A s00) h1 H → va_S (fs_A s00) s00.heap H locs → mo_at G h1 a ad M1 → mo_fr a ad h h1 → lv_has ls 10 [(0, .ref a), (1, .int z1), (2, .int z2), (3, .double z3), (5, .double z5)] → W p l e { frames := 1, cells := 0, slots := 0, locals := 17 } s m ([.ref a, .int x1, .int x2] : List Value).toArray below meth c H locs 0 0 (fx_MQ below (fs_Qc s00 G (fun o h' => o = .inl none ∧ mo_at G h' a ad r ∧ mo_fr a ad h h')) ([.ref a, .int x1, .int x2] : List Value).toArray s 0 0 (fs_A s00)) (F0 m 37 ls ([])) := by
    intro z1 z2 z3 z5 M1 h1 H locs ls hq hP hS hM hf hl
    rw [q_MO_workPair_J37] at hq
    refine lv_iconst (v := 1) hx hb d_MO_workPair_37 (by decide) ?_
    refine lv_goto (tgt := 42) hx hb d_MO_workPair_38 (by decide) ?_
    exact hJ42 z1 z2 z3 z5 1 M1 _ _ _ _ hq hP hS hM hf (lv_sub hl [0, 1, 2, 3, 4] rfl)
  have hl := lv_entry ([.ref a, .int x1, .int x2]) (n := 10) (Nat.le_of_ble_eq_true rfl)
  rw [lg_entry_eq]
  generalize (lg_sl ([.ref a, .int x1, .int x2]) ++ List.replicate (10 - (lg_sl ([.ref a, .int x1, .int x2])).length) Slot.unset).toArray = ls at hl ⊢
  have hl : lv_has ls 10 [(0, .ref a), (1, .int x1), (2, .int x2)] := hl
  have hf : mo_fr a ad h h := mo_fr.rf
  rw [q_MO_workPair] at hq
  refine lv_aload_n hx hb d_MO_workPair_0 rfl (lv_at hl 0 rfl) ?_
  refine fs_get (v := .ref (ad 20)) hx hb hts hown hK c_MO hP hM.1 20 (by decide) (hts _ (fs_tb_at 1476 tw_1476 rfl)) (fun _ h9 => h9) rfl d_MO_workPair_1 ?_
  refine lv_iload_n hx hb d_MO_workPair_4 rfl (lv_at hl 2 rfl) ?_
  obtain ⟨hi_, hq⟩ := fs_okp_some hq
  refine fs_dald (f := M.2.2.2 20) hx hb hK hP 2 (hM.2.1 20 2 44 rfl) rfl hi_ d_MO_workPair_5 ?_
  refine lv_dstore_n (lv' := [(3, .double (M.2.2.2 20 (Int32.toNatClampNeg x2))), (0, .ref a), (1, .int x1), (2, .int x2)]) hx hb d_MO_workPair_6 rfl hl (by decide) rfl (fun ls hl => ?_)
  refine lv_aload_n hx hb d_MO_workPair_7 rfl (lv_at hl 1 rfl) ?_
  refine fs_get (v := .ref (ad 20)) hx hb hts hown hK c_MO hP hM.1 20 (by decide) (hts _ (fs_tb_at 1476 tw_1476 rfl)) (fun _ h9 => h9) rfl d_MO_workPair_8 ?_
  refine lv_iload_n hx hb d_MO_workPair_11 rfl (lv_at hl 3 rfl) ?_
  refine lv_iconst (v := 1) hx hb d_MO_workPair_12 (by decide) ?_
  refine lv_iadd hx hb d_MO_workPair_13 ?_
  obtain ⟨hi_, hq⟩ := fs_okp_some hq
  refine fs_dald (f := M.2.2.2 20) hx hb hK hP 2 (hM.2.1 20 2 44 rfl) rfl hi_ d_MO_workPair_14 ?_
  refine lv_dstore (lv' := [(5, .double (M.2.2.2 20 (Int32.toNatClampNeg (x2 + 1)))), (3, .double (M.2.2.2 20 (Int32.toNatClampNeg x2))), (0, .ref a), (1, .int x1), (2, .int x2)]) hx hb d_MO_workPair_15 hl (by decide) rfl (fun ls hl => ?_)
  refine lv_aload_n hx hb d_MO_workPair_17 rfl (lv_at hl 2 rfl) ?_
  refine fs_get (v := .ref (ad 21)) hx hb hts hown hK c_MO hP hM.1 21 (by decide) (hts _ (fs_tb_at 1477 tw_1477 rfl)) (fun _ h9 => h9) rfl d_MO_workPair_18 ?_
  refine lv_iload_n hx hb d_MO_workPair_21 rfl (lv_at hl 4 rfl) ?_
  obtain ⟨hi_, hq⟩ := fs_okp_some hq
  refine fs_zald (f := M.2.1 21) hx hb hK hP 3 (hM.2.1 21 3 44 rfl) rfl hi_ d_MO_workPair_22 ?_
  refine lv_if_ne (tgt := 37) hx hb d_MO_workPair_23 (by decide) (fun c_880 => ?_) (fun c_880 => ?_)
  · have hq := fs_ifn c_880 hq
    exact hJ37 x1 x2 (M.2.2.2 20 (Int32.toNatClampNeg x2)) (M.2.2.2 20 (Int32.toNatClampNeg (x2 + 1))) M _ _ _ _ hq hP hS hM hf (lv_sub hl [2, 3, 4, 1, 0] rfl)
  · have hq := fs_ifp c_880 hq
    refine lv_aload_n hx hb d_MO_workPair_26 rfl (lv_at hl 2 rfl) ?_
    refine fs_get (v := .ref (ad 21)) hx hb hts hown hK c_MO hP hM.1 21 (by decide) (hts _ (fs_tb_at 1477 tw_1477 rfl)) (fun _ h9 => h9) rfl d_MO_workPair_27 ?_
    refine lv_iload_n hx hb d_MO_workPair_30 rfl (lv_at hl 4 rfl) ?_
    refine lv_iconst (v := 1) hx hb d_MO_workPair_31 (by decide) ?_
    refine lv_iadd hx hb d_MO_workPair_32 ?_
    obtain ⟨hi_, hq⟩ := fs_okp_some hq
    refine fs_zald (f := M.2.1 21) hx hb hK hP 3 (hM.2.1 21 3 44 rfl) rfl hi_ d_MO_workPair_33 ?_
    refine lv_if_eq (tgt := 41) hx hb d_MO_workPair_34 (by decide) (fun c_881 => ?_) (fun c_881 => ?_)
    · have hq := fs_ifp c_881 hq
      refine lv_iconst (v := 0) hx hb d_MO_workPair_41 (by decide) ?_
      exact hJ42 x1 x2 (M.2.2.2 20 (Int32.toNatClampNeg x2)) (M.2.2.2 20 (Int32.toNatClampNeg (x2 + 1))) 0 M _ _ _ _ hq hP hS hM hf (lv_sub hl [2, 3, 4, 1, 0] rfl)
    · have hq := fs_ifn c_881 hq
      exact hJ37 x1 x2 (M.2.2.2 20 (Int32.toNatClampNeg x2)) (M.2.2.2 20 (Int32.toNatClampNeg (x2 + 1))) M _ _ _ _ hq hP hS hM hf (lv_sub hl [2, 3, 4, 1, 0] rfl)
noncomputable def q_MO_workSingle_J69 (z2 : Int32) (z3 : UInt64) (M1 : mo_S) : Option (mo_S) := fs_okp (vp_in z2 44) ((if (M1.2.1 21 (Int32.toNatClampNeg z2)) = 0 then fs_okp (vp_in z2 44) (some (mo_d M1 20 (Int32.toNatClampNeg z2) z3)) else fs_okp (vp_in z2 44) (some (mo_d M1 20 (Int32.toNatClampNeg z2) FP.dconst0))))
noncomputable def q_MO_workSingle_J61 (z2 : Int32) (w0 : UInt64) (M1 : mo_S) : Option (mo_S) := q_MO_workSingle_J69 z2 w0 M1
noncomputable def q_MO_workSingle_J24 (z2 : Int32) (w0 : Int32) (M1 : mo_S) : Option (mo_S) := q_MO_workSingle_J69 z2 (p_MO_truth w0) M1
noncomputable def q_MO_workSingle (M : mo_S) (x1 : Int32) (x2 : Int32) : Option (mo_S) := fs_okp (vp_in x2 44) ((if x1 = 33 then (if (Op.cmpValue (FP.dcmp (M.2.2.2 20 (Int32.toNatClampNeg x2)) FP.dconst0) .l) = 0 then q_MO_workSingle_J24 x2 1 M else q_MO_workSingle_J24 x2 0 M) else (if x1 = 10 then q_MO_workSingle_J69 x2 (FP.dneg (M.2.2.2 20 (Int32.toNatClampNeg x2))) M else (if x1 = 7 then (if 0 ≤ (Op.cmpValue (FP.dcmp (M.2.2.2 20 (Int32.toNatClampNeg x2)) FP.dconst0) .g) then q_MO_workSingle_J61 x2 (M.2.2.2 20 (Int32.toNatClampNeg x2)) M else q_MO_workSingle_J61 x2 (FP.dneg (M.2.2.2 20 (Int32.toNatClampNeg x2))) M) else q_MO_workSingle_J69 x2 (FP.l2d (FP.d2l (M.2.2.2 20 (Int32.toNatClampNeg x2)))) M))))
set_option maxHeartbeats 4000000 in
set_option maxRecDepth 100000 in
theorem k_MO_workSingle {l : Launch} {s00 : State} {G : fs_G} (hSt : fs_St l s00 G) {h : fs_Hp} {a : Nat} {ad : Nat → Nat} {M : mo_S} (hM : mo_at G h a ad M) (x1 : Int32) (x2 : Int32) {r : mo_S} (hq : q_MO_workSingle M x1 x2 = some r) : fs_Ct l s00 G y_MO_workSingle (.code y_MO_workSingle b_MO_workSingle 5 none) { frames := 1, cells := 0, slots := 0, locals := 12 } [.ref a, .int x1, .int x2] h (fun o h' => o = .inl none ∧ mo_at G h' a ad r ∧ mo_fr a ad h h') := by
  refine fs_Ct.ofW hSt (by decide) ?_
  intro p e s m below meth c B hout hP
  obtain ⟨hx, hb, hr, hml, hown, hts, hlocks, hname, hK, hw, htr⟩ := id B
  have hown : s.vm.findClass "FormulaSheetModel" = some m.cls := hown
  have hS := hw.S
  have hA : ∀ q : Nat, s00.heap.size ≤ q → fs_A s00 q := fun _ h9 => h9
  generalize hH : s.heap = H at hP hS ⊢
  have hH0 : s.heap.size ≤ H.size := by rw [hH]; exact Nat.le_refl _
  have hJ69 : ∀ (z2 : Int32) (z3 : UInt64) (M1 : mo_S) (h1 : fs_Hp) (H : Heap) (locs : List Loc) (ls : Array Slot), q_MO_workSingle_J69 z2 z3 M1 = some r → fs_P G.1 fs_cl (fs_A s00) h1 H → va_S (fs_A s00) s00.heap H locs → mo_at G h1 a ad M1 → mo_fr a ad h h1 → lv_has ls 5 [(0, .ref a), (2, .int z2), (3, .double z3)] → W p l e { frames := 1, cells := 0, slots := 0, locals := 12 } s m ([.ref a, .int x1, .int x2] : List Value).toArray below meth c H locs 0 0 (fx_MQ below (fs_Qc s00 G (fun o h' => o = .inl none ∧ mo_at G h' a ad r ∧ mo_fr a ad h h')) ([.ref a, .int x1, .int x2] : List Value).toArray s 0 0 (fs_A s00)) (F0 m 69 ls ([])) := by
    intro z2 z3 M1 h1 H locs ls hq hP hS hM hf hl
    rw [q_MO_workSingle_J69] at hq
    refine lv_aload_n hx hb d_MO_workSingle_69 rfl (lv_at hl 0 rfl) ?_
    refine fs_get (v := .ref (ad 20)) hx hb hts hown hK c_MO hP hM.1 20 (by decide) (hts _ (fs_tb_at 1476 tw_1476 rfl)) (fun _ h9 => h9) rfl d_MO_workSingle_70 ?_
    refine lv_iload_n hx hb d_MO_workSingle_73 rfl (lv_at hl 1 rfl) ?_
    refine lv_aload_n hx hb d_MO_workSingle_74 rfl (lv_at hl 0 rfl) ?_
    refine fs_get (v := .ref (ad 21)) hx hb hts hown hK c_MO hP hM.1 21 (by decide) (hts _ (fs_tb_at 1477 tw_1477 rfl)) (fun _ h9 => h9) rfl d_MO_workSingle_75 ?_
    refine lv_iload_n hx hb d_MO_workSingle_78 rfl (lv_at hl 1 rfl) ?_
    obtain ⟨hi_, hq⟩ := fs_okp_some hq
    refine fs_zald (f := M1.2.1 21) hx hb hK hP 3 (hM.2.1 21 3 44 rfl) rfl hi_ d_MO_workSingle_79 ?_
    refine lv_if_eq (tgt := 87) hx hb d_MO_workSingle_80 (by decide) (fun c_893 => ?_) (fun c_893 => ?_)
    · have hq := fs_ifp c_893 hq
      refine lv_dload_n hx hb d_MO_workSingle_87 rfl (lv_at hl 2 rfl) ?_
      obtain ⟨hi_, hq⟩ := fs_okp_some hq
      refine fs_dast hx hb hK hP hS 2 (hM.2.1 20 2 44 rfl) rfl hi_ d_MO_workSingle_88 (fun H locs hP hS => ?_)
      obtain ⟨h894, hP, hM, hf⟩ : ∃ x, fs_P G.1 fs_cl (fs_A s00) x H ∧ mo_at G x a ad (mo_d M1 20 (Int32.toNatClampNeg z2) z3) ∧ mo_fr a ad h x := ⟨_, hP, hM.D (j := 20) (k := (Int32.toNatClampNeg z2)) (x := z3) rfl, hf.arr (j := 20) (by decide)⟩
      cases hq
      exact fs_vret hx hb hr hlocks hw hP hS (by omega) (by omega) (⟨rfl, hM, hf⟩) d_MO_workSingle_89
    · have hq := fs_ifn c_893 hq
      refine lv_dconst0 hx hb d_MO_workSingle_83 ?_
      refine lv_goto (tgt := 88) hx hb d_MO_workSingle_84 (by decide) ?_
      obtain ⟨hi_, hq⟩ := fs_okp_some hq
      refine fs_dast hx hb hK hP hS 2 (hM.2.1 20 2 44 rfl) rfl hi_ d_MO_workSingle_88 (fun H locs hP hS => ?_)
      obtain ⟨h895, hP, hM, hf⟩ : ∃ x, fs_P G.1 fs_cl (fs_A s00) x H ∧ mo_at G x a ad (mo_d M1 20 (Int32.toNatClampNeg z2) FP.dconst0) ∧ mo_fr a ad h x := ⟨_, hP, hM.D (j := 20) (k := (Int32.toNatClampNeg z2)) (x := FP.dconst0) rfl, hf.arr (j := 20) (by decide)⟩
      cases hq
      exact fs_vret hx hb hr hlocks hw hP hS (by omega) (by omega) (⟨rfl, hM, hf⟩) d_MO_workSingle_89
  have hJ61 : ∀ (z2 : Int32) (w0 : UInt64) (M1 : mo_S) (h1 : fs_Hp) (H : Heap) (locs : List Loc) (ls : Array Slot), q_MO_workSingle_J61 z2 w0 M1 = some r → fs_P G.1 fs_cl (fs_A s00) h1 H → va_S (fs_A s00) s00.heap H locs → mo_at G h1 a ad M1 → mo_fr a ad h h1 → lv_has ls 5 [(0, .ref a), (2, .int z2)] → W p l e { frames := 1, cells := 0, slots := 0, locals := 12 } s m ([.ref a, .int x1, .int x2] : List Value).toArray below meth c H locs 0 0 (fx_MQ below (fs_Qc s00 G (fun o h' => o = .inl none ∧ mo_at G h' a ad r ∧ mo_fr a ad h h')) ([.ref a, .int x1, .int x2] : List Value).toArray s 0 0 (fs_A s00)) (F0 m 61 ls (.double w0 :: [])) := by
    intro z2 w0 M1 h1 H locs ls hq hP hS hM hf hl
    rw [q_MO_workSingle_J61] at hq
    refine lv_dstore_n (lv' := [(3, .double w0), (0, .ref a), (2, .int z2)]) hx hb d_MO_workSingle_61 rfl hl (by decide) rfl (fun ls hl => ?_)
    refine lv_goto (tgt := 69) hx hb d_MO_workSingle_62 (by decide) ?_
    exact hJ69 z2 w0 M1 _ _ _ _ hq hP hS hM hf (lv_sub hl [1, 2, 0] rfl)
  have hJ24 : ∀ (z2 : Int32) (w0 : Int32) (M1 : mo_S) (h1 : fs_Hp) (H : Heap) (locs : List Loc) (ls : Array Slot), q_MO_workSingle_J24 z2 w0 M1 = some r → fs_P G.1 fs_cl (fs_A s00) h1 H → va_S (fs_A s00) s00.heap H locs → mo_at G h1 a ad M1 → mo_fr a ad h h1 → lv_has ls 5 [(0, .ref a), (2, .int z2)] → W p l e { frames := 1, cells := 0, slots := 0, locals := 12 } s m ([.ref a, .int x1, .int x2] : List Value).toArray below meth c H locs 0 0 (fx_MQ below (fs_Qc s00 G (fun o h' => o = .inl none ∧ mo_at G h' a ad r ∧ mo_fr a ad h h')) ([.ref a, .int x1, .int x2] : List Value).toArray s 0 0 (fs_A s00)) (F0 m 24 ls (.int w0 :: [])) := by
    intro z2 w0 M1 h1 H locs ls hq hP hS hM hf hl
    rw [q_MO_workSingle_J24] at hq
    refine fs_cS B hl.1 hP hS (k_MO_truth hSt w0) (fs_tb_at 1732 tw_1732 rfl) (fs_tb_at 1733 tw_1733 rfl) (fs_tb_at 96 tw_96 rfl) (fs_tb_at 1734 tw_1734 rfl) (by decide) (show (parseMethodDescriptor y_MO_truth.desc).map (fun d => d.parameters.length) = some 1 by decide +kernel) rfl d_MO_workSingle_24 ⟨Nat.le_of_ble_eq_true rfl, Nat.le_of_ble_eq_true rfl, Nat.le_of_ble_eq_true rfl, Nat.le_of_ble_eq_true rfl⟩ (fun v_ h_ H locs hc_ hP hS => ?_) (fun C_ a_ h_ H locs hc_ => absurd hc_.1 (fun h9 => by cases h9))
    obtain ⟨ev, eh⟩ := hc_
    cases ev
    rw [eh] at hP
    refine W.widen (k := 0) (n := 0) (Nat.le_of_ble_eq_true rfl) (Nat.le_of_ble_eq_true rfl) ?_
    refine W.eq (g2 := F0 m 27 ls (.double (p_MO_truth w0) :: [])) rfl ?_
    refine lv_dstore_n (lv' := [(3, .double (p_MO_truth w0)), (0, .ref a), (2, .int z2)]) hx hb d_MO_workSingle_27 rfl hl (by decide) rfl (fun ls hl => ?_)
    refine lv_goto (tgt := 69) hx hb d_MO_workSingle_28 (by decide) ?_
    exact hJ69 z2 (p_MO_truth w0) M1 _ _ _ _ hq hP hS hM hf (lv_sub hl [1, 2, 0] rfl)
  have hl := lv_entry ([.ref a, .int x1, .int x2]) (n := 5) (Nat.le_of_ble_eq_true rfl)
  rw [lg_entry_eq]
  generalize (lg_sl ([.ref a, .int x1, .int x2]) ++ List.replicate (5 - (lg_sl ([.ref a, .int x1, .int x2])).length) Slot.unset).toArray = ls at hl ⊢
  have hl : lv_has ls 5 [(0, .ref a), (1, .int x1), (2, .int x2)] := hl
  have hf : mo_fr a ad h h := mo_fr.rf
  rw [q_MO_workSingle] at hq
  refine lv_aload_n hx hb d_MO_workSingle_0 rfl (lv_at hl 0 rfl) ?_
  refine fs_get (v := .ref (ad 20)) hx hb hts hown hK c_MO hP hM.1 20 (by decide) (hts _ (fs_tb_at 1476 tw_1476 rfl)) (fun _ h9 => h9) rfl d_MO_workSingle_1 ?_
  refine lv_iload_n hx hb d_MO_workSingle_4 rfl (lv_at hl 2 rfl) ?_
  obtain ⟨hi_, hq⟩ := fs_okp_some hq
  refine fs_dald (f := M.2.2.2 20) hx hb hK hP 2 (hM.2.1 20 2 44 rfl) rfl hi_ d_MO_workSingle_5 ?_
  refine lv_dstore_n (lv' := [(3, .double (M.2.2.2 20 (Int32.toNatClampNeg x2))), (0, .ref a), (1, .int x1), (2, .int x2)]) hx hb d_MO_workSingle_6 rfl hl (by decide) rfl (fun ls hl => ?_)
  refine lv_iload_n hx hb d_MO_workSingle_7 rfl (lv_at hl 2 rfl) ?_
  refine lv_bipush (v := 33) hx hb d_MO_workSingle_8 (by decide) ?_
  refine lv_icmp_ne (tgt := 31) hx hb d_MO_workSingle_10 (by decide) (fun c_896 => ?_) (fun c_896 => ?_)
  · have hq := fs_ifn c_896 hq
    refine lv_iload_n hx hb d_MO_workSingle_31 rfl (lv_at hl 2 rfl) ?_
    refine lv_bipush (v := 10) hx hb d_MO_workSingle_32 (by decide) ?_
    refine lv_icmp_ne (tgt := 43) hx hb d_MO_workSingle_34 (by decide) (fun c_897 => ?_) (fun c_897 => ?_)
    · have hq := fs_ifn c_897 hq
      refine lv_iload_n hx hb d_MO_workSingle_43 rfl (lv_at hl 2 rfl) ?_
      refine lv_bipush (v := 7) hx hb d_MO_workSingle_44 (by decide) ?_
      refine lv_icmp_ne (tgt := 65) hx hb d_MO_workSingle_46 (by decide) (fun c_898 => ?_) (fun c_898 => ?_)
      · have hq := fs_ifn c_898 hq
        refine lv_dload_n hx hb d_MO_workSingle_65 rfl (lv_at hl 0 rfl) ?_
        refine lv_d2l hx hb d_MO_workSingle_66 ?_
        refine lv_l2d hx hb d_MO_workSingle_67 ?_
        refine lv_dstore_n (lv' := [(3, .double (FP.l2d (FP.d2l (M.2.2.2 20 (Int32.toNatClampNeg x2))))), (0, .ref a), (1, .int x1), (2, .int x2)]) hx hb d_MO_workSingle_68 rfl hl (by decide) rfl (fun ls hl => ?_)
        exact hJ69 x2 (FP.l2d (FP.d2l (M.2.2.2 20 (Int32.toNatClampNeg x2)))) M _ _ _ _ hq hP hS hM hf (lv_sub hl [1, 3, 0] rfl)
      · have hq := fs_ifp c_898 hq
        refine lv_dload_n hx hb d_MO_workSingle_49 rfl (lv_at hl 0 rfl) ?_
        refine lv_dconst0 hx hb d_MO_workSingle_50 ?_
        refine lv_dcmp hx hb d_MO_workSingle_51 ?_
        refine lv_if_ge (tgt := 60) hx hb d_MO_workSingle_52 (by decide) (fun c_899 => ?_) (fun c_899 => ?_)
        · have hq := fs_ifp c_899 hq
          refine lv_dload_n hx hb d_MO_workSingle_60 rfl (lv_at hl 0 rfl) ?_
          exact hJ61 x2 (M.2.2.2 20 (Int32.toNatClampNeg x2)) M _ _ _ _ hq hP hS hM hf (lv_sub hl [1, 3] rfl)
        · have hq := fs_ifn c_899 hq
          refine lv_dload_n hx hb d_MO_workSingle_55 rfl (lv_at hl 0 rfl) ?_
          refine lv_dneg hx hb d_MO_workSingle_56 ?_
          refine lv_goto (tgt := 61) hx hb d_MO_workSingle_57 (by decide) ?_
          exact hJ61 x2 (FP.dneg (M.2.2.2 20 (Int32.toNatClampNeg x2))) M _ _ _ _ hq hP hS hM hf (lv_sub hl [1, 3] rfl)
    · have hq := fs_ifp c_897 hq
      refine lv_dload_n hx hb d_MO_workSingle_37 rfl (lv_at hl 0 rfl) ?_
      refine lv_dneg hx hb d_MO_workSingle_38 ?_
      refine lv_dstore_n (lv' := [(3, .double (FP.dneg (M.2.2.2 20 (Int32.toNatClampNeg x2)))), (0, .ref a), (1, .int x1), (2, .int x2)]) hx hb d_MO_workSingle_39 rfl hl (by decide) rfl (fun ls hl => ?_)
      refine lv_goto (tgt := 69) hx hb d_MO_workSingle_40 (by decide) ?_
      exact hJ69 x2 (FP.dneg (M.2.2.2 20 (Int32.toNatClampNeg x2))) M _ _ _ _ hq hP hS hM hf (lv_sub hl [1, 3, 0] rfl)
  · have hq := fs_ifp c_896 hq
    refine lv_dload_n hx hb d_MO_workSingle_13 rfl (lv_at hl 0 rfl) ?_
    refine lv_dconst0 hx hb d_MO_workSingle_14 ?_
    refine lv_dcmp hx hb d_MO_workSingle_15 ?_
    refine lv_if_ne (tgt := 23) hx hb d_MO_workSingle_16 (by decide) (fun c_900 => ?_) (fun c_900 => ?_)
    · have hq := fs_ifn c_900 hq
      refine lv_iconst (v := 0) hx hb d_MO_workSingle_23 (by decide) ?_
      exact hJ24 x2 0 M _ _ _ _ hq hP hS hM hf (lv_sub hl [1, 3] rfl)
    · have hq := fs_ifp c_900 hq
      refine lv_iconst (v := 1) hx hb d_MO_workSingle_19 (by decide) ?_
      refine lv_goto (tgt := 24) hx hb d_MO_workSingle_20 (by decide) ?_
      exact hJ24 x2 1 M _ _ _ _ hq hP hS hM hf (lv_sub hl [1, 3] rfl)
