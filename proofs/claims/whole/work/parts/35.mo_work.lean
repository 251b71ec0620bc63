/-! The reference: work and what asks for it, checked. -/
abbrev b_MO_workFormula : ByteArray := prog_14_method_45_code
def y_MO_workFormula : MethodName := ⟨"FormulaSheetModel", "workFormula", "(I)V"⟩
theorem d_MO_workFormula_0 : decode b_MO_workFormula 0 = .ok (.iconst 0, 1) := by decide +kernel
theorem d_MO_workFormula_1 : decode b_MO_workFormula 1 = .ok (.istore_n 2, 1) := by decide +kernel
theorem d_MO_workFormula_2 : decode b_MO_workFormula 2 = .ok (.bipush 40, 2) := by decide +kernel
theorem d_MO_workFormula_4 : decode b_MO_workFormula 4 = .ok (.iload_n 1, 1) := by decide +kernel
theorem d_MO_workFormula_5 : decode b_MO_workFormula 5 = .ok (.imul, 1) := by decide +kernel
theorem d_MO_workFormula_6 : decode b_MO_workFormula 6 = .ok (.istore_n 3, 1) := by decide +kernel
theorem d_MO_workFormula_7 : decode b_MO_workFormula 7 = .ok (.iload_n 3, 1) := by decide +kernel
theorem d_MO_workFormula_8 : decode b_MO_workFormula 8 = .ok (.bipush 40, 2) := by decide +kernel
theorem d_MO_workFormula_10 : decode b_MO_workFormula 10 = .ok (.iload_n 1, 1) := by decide +kernel
theorem d_MO_workFormula_11 : decode b_MO_workFormula 11 = .ok (.imul, 1) := by decide +kernel
theorem d_MO_workFormula_12 : decode b_MO_workFormula 12 = .ok (.aload_n 0, 1) := by decide +kernel
theorem d_MO_workFormula_13 : decode b_MO_workFormula 13 = .ok (.getfield 13, 3) := by decide +kernel
theorem d_MO_workFormula_16 : decode b_MO_workFormula 16 = .ok (.iload_n 1, 1) := by decide +kernel
theorem d_MO_workFormula_17 : decode b_MO_workFormula 17 = .ok (.iaload, 1) := by decide +kernel
theorem d_MO_workFormula_18 : decode b_MO_workFormula 18 = .ok (.iadd, 1) := by decide +kernel
theorem d_MO_workFormula_19 : decode b_MO_workFormula 19 = .ok (.if_icmp .ge 258, 3) := by decide +kernel
theorem d_MO_workFormula_22 : decode b_MO_workFormula 22 = .ok (.aload_n 0, 1) := by decide +kernel
theorem d_MO_workFormula_23 : decode b_MO_workFormula 23 = .ok (.getfield 20, 3) := by decide +kernel
theorem d_MO_workFormula_26 : decode b_MO_workFormula 26 = .ok (.iload_n 3, 1) := by decide +kernel
theorem d_MO_workFormula_27 : decode b_MO_workFormula 27 = .ok (.iaload, 1) := by decide +kernel
theorem d_MO_workFormula_28 : decode b_MO_workFormula 28 = .ok (.istore 4, 2) := by decide +kernel
theorem d_MO_workFormula_30 : decode b_MO_workFormula 30 = .ok (.iload 4, 2) := by decide +kernel
theorem d_MO_workFormula_32 : decode b_MO_workFormula 32 = .ok (.ifCond .ne 56, 3) := by decide +kernel
theorem d_MO_workFormula_35 : decode b_MO_workFormula 35 = .ok (.dconst 1, 1) := by decide +kernel
theorem d_MO_workFormula_36 : decode b_MO_workFormula 36 = .ok (.dstore 5, 2) := by decide +kernel
theorem d_MO_workFormula_38 : decode b_MO_workFormula 38 = .ok (.iconst 0, 1) := by decide +kernel
theorem d_MO_workFormula_39 : decode b_MO_workFormula 39 = .ok (.istore 7, 2) := by decide +kernel
theorem d_MO_workFormula_41 : decode b_MO_workFormula 41 = .ok (.iload 7, 2) := by decide +kernel
theorem d_MO_workFormula_43 : decode b_MO_workFormula 43 = .ok (.aload_n 0, 1) := by decide +kernel
theorem d_MO_workFormula_44 : decode b_MO_workFormula 44 = .ok (.getfield 23, 3) := by decide +kernel
theorem d_MO_workFormula_47 : decode b_MO_workFormula 47 = .ok (.iload_n 3, 1) := by decide +kernel
theorem d_MO_workFormula_48 : decode b_MO_workFormula 48 = .ok (.iaload, 1) := by decide +kernel
theorem d_MO_workFormula_49 : decode b_MO_workFormula 49 = .ok (.if_icmp .ge 17, 3) := by decide +kernel
theorem d_MO_workFormula_52 : decode b_MO_workFormula 52 = .ok (.dload 5, 2) := by decide +kernel
theorem d_MO_workFormula_54 : decode b_MO_workFormula 54 = .ok (.ldc2_w 241, 3) := by decide +kernel
theorem d_MO_workFormula_57 : decode b_MO_workFormula 57 = .ok (.dmul, 1) := by decide +kernel
theorem d_MO_workFormula_58 : decode b_MO_workFormula 58 = .ok (.dstore 5, 2) := by decide +kernel
theorem d_MO_workFormula_60 : decode b_MO_workFormula 60 = .ok (.iinc 7 1, 3) := by decide +kernel
theorem d_MO_workFormula_63 : decode b_MO_workFormula 63 = .ok (.goto (-22), 3) := by decide +kernel
theorem d_MO_workFormula_66 : decode b_MO_workFormula 66 = .ok (.aload_n 0, 1) := by decide +kernel
theorem d_MO_workFormula_67 : decode b_MO_workFormula 67 = .ok (.iload_n 2, 1) := by decide +kernel
theorem d_MO_workFormula_68 : decode b_MO_workFormula 68 = .ok (.aload_n 0, 1) := by decide +kernel
theorem d_MO_workFormula_69 : decode b_MO_workFormula 69 = .ok (.getfield 29, 3) := by decide +kernel
theorem d_MO_workFormula_72 : decode b_MO_workFormula 72 = .ok (.iload_n 3, 1) := by decide +kernel
theorem d_MO_workFormula_73 : decode b_MO_workFormula 73 = .ok (.laload, 1) := by decide +kernel
theorem d_MO_workFormula_74 : decode b_MO_workFormula 74 = .ok (.l2d, 1) := by decide +kernel
theorem d_MO_workFormula_75 : decode b_MO_workFormula 75 = .ok (.dload 5, 2) := by decide +kernel
theorem d_MO_workFormula_77 : decode b_MO_workFormula 77 = .ok (.ddiv, 1) := by decide +kernel
theorem d_MO_workFormula_78 : decode b_MO_workFormula 78 = .ok (.iconst 0, 1) := by decide +kernel
theorem d_MO_workFormula_79 : decode b_MO_workFormula 79 = .ok (.invokevirtual 233, 3) := by decide +kernel
theorem d_MO_workFormula_82 : decode b_MO_workFormula 82 = .ok (.iinc 2 1, 3) := by decide +kernel
theorem d_MO_workFormula_85 : decode b_MO_workFormula 85 = .ok (.goto 186, 3) := by decide +kernel
theorem d_MO_workFormula_88 : decode b_MO_workFormula 88 = .ok (.iload 4, 2) := by decide +kernel
theorem d_MO_workFormula_90 : decode b_MO_workFormula 90 = .ok (.iconst 1, 1) := by decide +kernel
theorem d_MO_workFormula_91 : decode b_MO_workFormula 91 = .ok (.if_icmp .ne 20, 3) := by decide +kernel
theorem d_MO_workFormula_94 : decode b_MO_workFormula 94 = .ok (.aload_n 0, 1) := by decide +kernel
theorem d_MO_workFormula_95 : decode b_MO_workFormula 95 = .ok (.aload_n 0, 1) := by decide +kernel
theorem d_MO_workFormula_96 : decode b_MO_workFormula 96 = .ok (.getfield 23, 3) := by decide +kernel
theorem d_MO_workFormula_99 : decode b_MO_workFormula 99 = .ok (.iload_n 3, 1) := by decide +kernel
theorem d_MO_workFormula_100 : decode b_MO_workFormula 100 = .ok (.iaload, 1) := by decide +kernel
theorem d_MO_workFormula_101 : decode b_MO_workFormula 101 = .ok (.iload_n 2, 1) := by decide +kernel
theorem d_MO_workFormula_102 : decode b_MO_workFormula 102 = .ok (.invokevirtual 243, 3) := by decide +kernel
theorem d_MO_workFormula_105 : decode b_MO_workFormula 105 = .ok (.iinc 2 1, 3) := by decide +kernel
theorem d_MO_workFormula_108 : decode b_MO_workFormula 108 = .ok (.goto 163, 3) := by decide +kernel
theorem d_MO_workFormula_111 : decode b_MO_workFormula 111 = .ok (.iload 4, 2) := by decide +kernel
theorem d_MO_workFormula_113 : decode b_MO_workFormula 113 = .ok (.invokestatic 218, 3) := by decide +kernel
theorem d_MO_workFormula_116 : decode b_MO_workFormula 116 = .ok (.ifCond .eq 28, 3) := by decide +kernel
theorem d_MO_workFormula_119 : decode b_MO_workFormula 119 = .ok (.aload_n 0, 1) := by decide +kernel
theorem d_MO_workFormula_120 : decode b_MO_workFormula 120 = .ok (.iload 4, 2) := by decide +kernel
theorem d_MO_workFormula_122 : decode b_MO_workFormula 122 = .ok (.aload_n 0, 1) := by decide +kernel
theorem d_MO_workFormula_123 : decode b_MO_workFormula 123 = .ok (.getfield 23, 3) := by decide +kernel
theorem d_MO_workFormula_126 : decode b_MO_workFormula 126 = .ok (.iload_n 3, 1) := by decide +kernel
theorem d_MO_workFormula_127 : decode b_MO_workFormula 127 = .ok (.iaload, 1) := by decide +kernel
theorem d_MO_workFormula_128 : decode b_MO_workFormula 128 = .ok (.aload_n 0, 1) := by decide +kernel
theorem d_MO_workFormula_129 : decode b_MO_workFormula 129 = .ok (.getfield 26, 3) := by decide +kernel
theorem d_MO_workFormula_132 : decode b_MO_workFormula 132 = .ok (.iload_n 3, 1) := by decide +kernel
theorem d_MO_workFormula_133 : decode b_MO_workFormula 133 = .ok (.iaload, 1) := by decide +kernel
theorem d_MO_workFormula_134 : decode b_MO_workFormula 134 = .ok (.iload_n 2, 1) := by decide +kernel
theorem d_MO_workFormula_135 : decode b_MO_workFormula 135 = .ok (.invokevirtual 246, 3) := by decide +kernel
theorem d_MO_workFormula_138 : decode b_MO_workFormula 138 = .ok (.iinc 2 1, 3) := by decide +kernel
theorem d_MO_workFormula_141 : decode b_MO_workFormula 141 = .ok (.goto 130, 3) := by decide +kernel
theorem d_MO_workFormula_144 : decode b_MO_workFormula 144 = .ok (.iload 4, 2) := by decide +kernel
theorem d_MO_workFormula_146 : decode b_MO_workFormula 146 = .ok (.bipush 9, 2) := by decide +kernel
theorem d_MO_workFormula_148 : decode b_MO_workFormula 148 = .ok (.if_icmp .ne 71, 3) := by decide +kernel
theorem d_MO_workFormula_151 : decode b_MO_workFormula 151 = .ok (.iinc 2 (-2), 3) := by decide +kernel
theorem d_MO_workFormula_154 : decode b_MO_workFormula 154 = .ok (.aload_n 0, 1) := by decide +kernel
theorem d_MO_workFormula_155 : decode b_MO_workFormula 155 = .ok (.getfield 69, 3) := by decide +kernel
theorem d_MO_workFormula_158 : decode b_MO_workFormula 158 = .ok (.iload_n 2, 1) := by decide +kernel
theorem d_MO_workFormula_159 : decode b_MO_workFormula 159 = .ok (.iconst 1, 1) := by decide +kernel
theorem d_MO_workFormula_160 : decode b_MO_workFormula 160 = .ok (.isub, 1) := by decide +kernel
theorem d_MO_workFormula_161 : decode b_MO_workFormula 161 = .ok (.daload, 1) := by decide +kernel
theorem d_MO_workFormula_162 : decode b_MO_workFormula 162 = .ok (.dconst 0, 1) := by decide +kernel
theorem d_MO_workFormula_163 : decode b_MO_workFormula 163 = .ok (.dcmp .l, 1) := by decide +kernel
theorem d_MO_workFormula_164 : decode b_MO_workFormula 164 = .ok (.ifCond .eq 7, 3) := by decide +kernel
theorem d_MO_workFormula_167 : decode b_MO_workFormula 167 = .ok (.iload_n 2, 1) := by decide +kernel
theorem d_MO_workFormula_168 : decode b_MO_workFormula 168 = .ok (.goto 6, 3) := by decide +kernel
theorem d_MO_workFormula_171 : decode b_MO_workFormula 171 = .ok (.iload_n 2, 1) := by decide +kernel
theorem d_MO_workFormula_172 : decode b_MO_workFormula 172 = .ok (.iconst 1, 1) := by decide +kernel
theorem d_MO_workFormula_173 : decode b_MO_workFormula 173 = .ok (.iadd, 1) := by decide +kernel
theorem d_MO_workFormula_174 : decode b_MO_workFormula 174 = .ok (.istore 5, 2) := by decide +kernel
theorem d_MO_workFormula_176 : decode b_MO_workFormula 176 = .ok (.aload_n 0, 1) := by decide +kernel
theorem d_MO_workFormula_177 : decode b_MO_workFormula 177 = .ok (.iload_n 2, 1) := by decide +kernel
theorem d_MO_workFormula_178 : decode b_MO_workFormula 178 = .ok (.iconst 1, 1) := by decide +kernel
theorem d_MO_workFormula_179 : decode b_MO_workFormula 179 = .ok (.isub, 1) := by decide +kernel
theorem d_MO_workFormula_180 : decode b_MO_workFormula 180 = .ok (.aload_n 0, 1) := by decide +kernel
theorem d_MO_workFormula_181 : decode b_MO_workFormula 181 = .ok (.getfield 69, 3) := by decide +kernel
theorem d_MO_workFormula_184 : decode b_MO_workFormula 184 = .ok (.iload 5, 2) := by decide +kernel
theorem d_MO_workFormula_186 : decode b_MO_workFormula 186 = .ok (.daload, 1) := by decide +kernel
theorem d_MO_workFormula_187 : decode b_MO_workFormula 187 = .ok (.aload_n 0, 1) := by decide +kernel
theorem d_MO_workFormula_188 : decode b_MO_workFormula 188 = .ok (.getfield 72, 3) := by decide +kernel
theorem d_MO_workFormula_191 : decode b_MO_workFormula 191 = .ok (.iload_n 2, 1) := by decide +kernel
theorem d_MO_workFormula_192 : decode b_MO_workFormula 192 = .ok (.iconst 1, 1) := by decide +kernel
theorem d_MO_workFormula_193 : decode b_MO_workFormula 193 = .ok (.isub, 1) := by decide +kernel
theorem d_MO_workFormula_194 : decode b_MO_workFormula 194 = .ok (.baload, 1) := by decide +kernel
theorem d_MO_workFormula_195 : decode b_MO_workFormula 195 = .ok (.ifCond .ne 13, 3) := by decide +kernel
theorem d_MO_workFormula_198 : decode b_MO_workFormula 198 = .ok (.aload_n 0, 1) := by decide +kernel
theorem d_MO_workFormula_199 : decode b_MO_workFormula 199 = .ok (.getfield 72, 3) := by decide +kernel
theorem d_MO_workFormula_202 : decode b_MO_workFormula 202 = .ok (.iload 5, 2) := by decide +kernel
theorem d_MO_workFormula_204 : decode b_MO_workFormula 204 = .ok (.baload, 1) := by decide +kernel
theorem d_MO_workFormula_205 : decode b_MO_workFormula 205 = .ok (.ifCond .eq 7, 3) := by decide +kernel
theorem d_MO_workFormula_208 : decode b_MO_workFormula 208 = .ok (.iconst 1, 1) := by decide +kernel
theorem d_MO_workFormula_209 : decode b_MO_workFormula 209 = .ok (.goto 4, 3) := by decide +kernel
theorem d_MO_workFormula_212 : decode b_MO_workFormula 212 = .ok (.iconst 0, 1) := by decide +kernel
theorem d_MO_workFormula_213 : decode b_MO_workFormula 213 = .ok (.invokevirtual 233, 3) := by decide +kernel
theorem d_MO_workFormula_216 : decode b_MO_workFormula 216 = .ok (.goto 55, 3) := by decide +kernel
theorem d_MO_workFormula_219 : decode b_MO_workFormula 219 = .ok (.iload 4, 2) := by decide +kernel
theorem d_MO_workFormula_221 : decode b_MO_workFormula 221 = .ok (.bipush 33, 2) := by decide +kernel
theorem d_MO_workFormula_223 : decode b_MO_workFormula 223 = .ok (.if_icmp .eq 24, 3) := by decide +kernel
theorem d_MO_workFormula_226 : decode b_MO_workFormula 226 = .ok (.iload 4, 2) := by decide +kernel
theorem d_MO_workFormula_228 : decode b_MO_workFormula 228 = .ok (.bipush 10, 2) := by decide +kernel
theorem d_MO_workFormula_230 : decode b_MO_workFormula 230 = .ok (.if_icmp .eq 17, 3) := by decide +kernel
theorem d_MO_workFormula_233 : decode b_MO_workFormula 233 = .ok (.iload 4, 2) := by decide +kernel
theorem d_MO_workFormula_235 : decode b_MO_workFormula 235 = .ok (.bipush 7, 2) := by decide +kernel
theorem d_MO_workFormula_237 : decode b_MO_workFormula 237 = .ok (.if_icmp .eq 10, 3) := by decide +kernel
theorem d_MO_workFormula_240 : decode b_MO_workFormula 240 = .ok (.iload 4, 2) := by decide +kernel
theorem d_MO_workFormula_242 : decode b_MO_workFormula 242 = .ok (.bipush 8, 2) := by decide +kernel
theorem d_MO_workFormula_244 : decode b_MO_workFormula 244 = .ok (.if_icmp .ne 15, 3) := by decide +kernel
theorem d_MO_workFormula_247 : decode b_MO_workFormula 247 = .ok (.aload_n 0, 1) := by decide +kernel
theorem d_MO_workFormula_248 : decode b_MO_workFormula 248 = .ok (.iload 4, 2) := by decide +kernel
theorem d_MO_workFormula_250 : decode b_MO_workFormula 250 = .ok (.iload_n 2, 1) := by decide +kernel
theorem d_MO_workFormula_251 : decode b_MO_workFormula 251 = .ok (.iconst 1, 1) := by decide +kernel
theorem d_MO_workFormula_252 : decode b_MO_workFormula 252 = .ok (.isub, 1) := by decide +kernel
theorem d_MO_workFormula_253 : decode b_MO_workFormula 253 = .ok (.invokevirtual 250, 3) := by decide +kernel
theorem d_MO_workFormula_256 : decode b_MO_workFormula 256 = .ok (.goto 15, 3) := by decide +kernel
theorem d_MO_workFormula_259 : decode b_MO_workFormula 259 = .ok (.iinc 2 (-1), 3) := by decide +kernel
theorem d_MO_workFormula_262 : decode b_MO_workFormula 262 = .ok (.aload_n 0, 1) := by decide +kernel
theorem d_MO_workFormula_263 : decode b_MO_workFormula 263 = .ok (.iload 4, 2) := by decide +kernel
theorem d_MO_workFormula_265 : decode b_MO_workFormula 265 = .ok (.iload_n 2, 1) := by decide +kernel
theorem d_MO_workFormula_266 : decode b_MO_workFormula 266 = .ok (.iconst 1, 1) := by decide +kernel
theorem d_MO_workFormula_267 : decode b_MO_workFormula 267 = .ok (.isub, 1) := by decide +kernel
theorem d_MO_workFormula_268 : decode b_MO_workFormula 268 = .ok (.invokevirtual 253, 3) := by decide +kernel
theorem d_MO_workFormula_271 : decode b_MO_workFormula 271 = .ok (.iinc 3 1, 3) := by decide +kernel
theorem d_MO_workFormula_274 : decode b_MO_workFormula 274 = .ok (.goto (-267), 3) := by decide +kernel
theorem d_MO_workFormula_277 : decode b_MO_workFormula 277 = .ok (.aload_n 0, 1) := by decide +kernel
theorem d_MO_workFormula_278 : decode b_MO_workFormula 278 = .ok (.getfield 59, 3) := by decide +kernel
theorem d_MO_workFormula_281 : decode b_MO_workFormula 281 = .ok (.iload_n 1, 1) := by decide +kernel
theorem d_MO_workFormula_282 : decode b_MO_workFormula 282 = .ok (.aload_n 0, 1) := by decide +kernel
theorem d_MO_workFormula_283 : decode b_MO_workFormula 283 = .ok (.getfield 69, 3) := by decide +kernel
theorem d_MO_workFormula_286 : decode b_MO_workFormula 286 = .ok (.iconst 0, 1) := by decide +kernel
theorem d_MO_workFormula_287 : decode b_MO_workFormula 287 = .ok (.daload, 1) := by decide +kernel
theorem d_MO_workFormula_288 : decode b_MO_workFormula 288 = .ok (.dastore, 1) := by decide +kernel
theorem d_MO_workFormula_289 : decode b_MO_workFormula 289 = .ok (.aload_n 0, 1) := by decide +kernel
theorem d_MO_workFormula_290 : decode b_MO_workFormula 290 = .ok (.getfield 62, 3) := by decide +kernel
theorem d_MO_workFormula_293 : decode b_MO_workFormula 293 = .ok (.iload_n 1, 1) := by decide +kernel
theorem d_MO_workFormula_294 : decode b_MO_workFormula 294 = .ok (.aload_n 0, 1) := by decide +kernel
theorem d_MO_workFormula_295 : decode b_MO_workFormula 295 = .ok (.getfield 72, 3) := by decide +kernel
theorem d_MO_workFormula_298 : decode b_MO_workFormula 298 = .ok (.iconst 0, 1) := by decide +kernel
theorem d_MO_workFormula_299 : decode b_MO_workFormula 299 = .ok (.baload, 1) := by decide +kernel
theorem d_MO_workFormula_300 : decode b_MO_workFormula 300 = .ok (.bastore, 1) := by decide +kernel
theorem d_MO_workFormula_301 : decode b_MO_workFormula 301 = .ok (.return_, 1) := by decide +kernel
abbrev b_MO_work : ByteArray := prog_14_method_46_code
def y_MO_work : MethodName := ⟨"FormulaSheetModel", "work", "()V"⟩
theorem d_MO_work_0 : decode b_MO_work 0 = .ok (.aload_n 0, 1) := by decide +kernel
theorem d_MO_work_1 : decode b_MO_work 1 = .ok (.getfield 43, 3) := by decide +kernel
theorem d_MO_work_4 : decode b_MO_work 4 = .ok (.ifCond .ne 4, 3) := by decide +kernel
theorem d_MO_work_7 : decode b_MO_work 7 = .ok (.return_, 1) := by decide +kernel
theorem d_MO_work_8 : decode b_MO_work 8 = .ok (.aload_n 0, 1) := by decide +kernel
theorem d_MO_work_9 : decode b_MO_work 9 = .ok (.iconst 0, 1) := by decide +kernel
theorem d_MO_work_10 : decode b_MO_work 10 = .ok (.putfield 43, 3) := by decide +kernel
theorem d_MO_work_13 : decode b_MO_work 13 = .ok (.aload_n 0, 1) := by decide +kernel
theorem d_MO_work_14 : decode b_MO_work 14 = .ok (.invokevirtual 256, 3) := by decide +kernel
theorem d_MO_work_17 : decode b_MO_work 17 = .ok (.iconst 0, 1) := by decide +kernel
theorem d_MO_work_18 : decode b_MO_work 18 = .ok (.istore_n 1, 1) := by decide +kernel
theorem d_MO_work_19 : decode b_MO_work 19 = .ok (.iload_n 1, 1) := by decide +kernel
theorem d_MO_work_20 : decode b_MO_work 20 = .ok (.bipush 80, 2) := by decide +kernel
theorem d_MO_work_22 : decode b_MO_work 22 = .ok (.if_icmp .ge 94, 3) := by decide +kernel
theorem d_MO_work_25 : decode b_MO_work 25 = .ok (.aload_n 0, 1) := by decide +kernel
theorem d_MO_work_26 : decode b_MO_work 26 = .ok (.getfield 59, 3) := by decide +kernel
theorem d_MO_work_29 : decode b_MO_work 29 = .ok (.iload_n 1, 1) := by decide +kernel
theorem d_MO_work_30 : decode b_MO_work 30 = .ok (.aload_n 0, 1) := by decide +kernel
theorem d_MO_work_31 : decode b_MO_work 31 = .ok (.getfield 7, 3) := by decide +kernel
theorem d_MO_work_34 : decode b_MO_work 34 = .ok (.iload_n 1, 1) := by decide +kernel
theorem d_MO_work_35 : decode b_MO_work 35 = .ok (.iaload, 1) := by decide +kernel
theorem d_MO_work_36 : decode b_MO_work 36 = .ok (.iconst 1, 1) := by decide +kernel
theorem d_MO_work_37 : decode b_MO_work 37 = .ok (.if_icmp .ne 12, 3) := by decide +kernel
theorem d_MO_work_40 : decode b_MO_work 40 = .ok (.aload_n 0, 1) := by decide +kernel
theorem d_MO_work_41 : decode b_MO_work 41 = .ok (.getfield 16, 3) := by decide +kernel
theorem d_MO_work_44 : decode b_MO_work 44 = .ok (.iload_n 1, 1) := by decide +kernel
theorem d_MO_work_45 : decode b_MO_work 45 = .ok (.daload, 1) := by decide +kernel
theorem d_MO_work_46 : decode b_MO_work 46 = .ok (.goto 4, 3) := by decide +kernel
theorem d_MO_work_49 : decode b_MO_work 49 = .ok (.dconst 0, 1) := by decide +kernel
theorem d_MO_work_50 : decode b_MO_work 50 = .ok (.dastore, 1) := by decide +kernel
theorem d_MO_work_51 : decode b_MO_work 51 = .ok (.aload_n 0, 1) := by decide +kernel
theorem d_MO_work_52 : decode b_MO_work 52 = .ok (.getfield 62, 3) := by decide +kernel
theorem d_MO_work_55 : decode b_MO_work 55 = .ok (.iload_n 1, 1) := by decide +kernel
theorem d_MO_work_56 : decode b_MO_work 56 = .ok (.aload_n 0, 1) := by decide +kernel
theorem d_MO_work_57 : decode b_MO_work 57 = .ok (.getfield 7, 3) := by decide +kernel
theorem d_MO_work_60 : decode b_MO_work 60 = .ok (.iload_n 1, 1) := by decide +kernel
theorem d_MO_work_61 : decode b_MO_work 61 = .ok (.iaload, 1) := by decide +kernel
theorem d_MO_work_62 : decode b_MO_work 62 = .ok (.iconst 2, 1) := by decide +kernel
theorem d_MO_work_63 : decode b_MO_work 63 = .ok (.if_icmp .ne 15, 3) := by decide +kernel
theorem d_MO_work_66 : decode b_MO_work 66 = .ok (.aload_n 0, 1) := by decide +kernel
theorem d_MO_work_67 : decode b_MO_work 67 = .ok (.iload_n 1, 1) := by decide +kernel
theorem d_MO_work_68 : decode b_MO_work 68 = .ok (.invokevirtual 259, 3) := by decide +kernel
theorem d_MO_work_71 : decode b_MO_work 71 = .ok (.ifCond .eq 7, 3) := by decide +kernel
theorem d_MO_work_74 : decode b_MO_work 74 = .ok (.iconst 1, 1) := by decide +kernel
theorem d_MO_work_75 : decode b_MO_work 75 = .ok (.goto 4, 3) := by decide +kernel
theorem d_MO_work_78 : decode b_MO_work 78 = .ok (.iconst 0, 1) := by decide +kernel
theorem d_MO_work_79 : decode b_MO_work 79 = .ok (.bastore, 1) := by decide +kernel
theorem d_MO_work_80 : decode b_MO_work 80 = .ok (.aload_n 0, 1) := by decide +kernel
theorem d_MO_work_81 : decode b_MO_work 81 = .ok (.getfield 66, 3) := by decide +kernel
theorem d_MO_work_84 : decode b_MO_work 84 = .ok (.iload_n 1, 1) := by decide +kernel
theorem d_MO_work_85 : decode b_MO_work 85 = .ok (.aload_n 0, 1) := by decide +kernel
theorem d_MO_work_86 : decode b_MO_work 86 = .ok (.getfield 7, 3) := by decide +kernel
theorem d_MO_work_89 : decode b_MO_work 89 = .ok (.iload_n 1, 1) := by decide +kernel
theorem d_MO_work_90 : decode b_MO_work 90 = .ok (.iaload, 1) := by decide +kernel
theorem d_MO_work_91 : decode b_MO_work 91 = .ok (.iconst 2, 1) := by decide +kernel
theorem d_MO_work_92 : decode b_MO_work 92 = .ok (.if_icmp .lt 12, 3) := by decide +kernel
theorem d_MO_work_95 : decode b_MO_work 95 = .ok (.aload_n 0, 1) := by decide +kernel
theorem d_MO_work_96 : decode b_MO_work 96 = .ok (.getfield 62, 3) := by decide +kernel
theorem d_MO_work_99 : decode b_MO_work 99 = .ok (.iload_n 1, 1) := by decide +kernel
theorem d_MO_work_100 : decode b_MO_work 100 = .ok (.baload, 1) := by decide +kernel
theorem d_MO_work_101 : decode b_MO_work 101 = .ok (.ifCond .eq 7, 3) := by decide +kernel
theorem d_MO_work_104 : decode b_MO_work 104 = .ok (.iconst 1, 1) := by decide +kernel
theorem d_MO_work_105 : decode b_MO_work 105 = .ok (.goto 4, 3) := by decide +kernel
theorem d_MO_work_108 : decode b_MO_work 108 = .ok (.iconst 0, 1) := by decide +kernel
theorem d_MO_work_109 : decode b_MO_work 109 = .ok (.bastore, 1) := by decide +kernel
theorem d_MO_work_110 : decode b_MO_work 110 = .ok (.iinc 1 1, 3) := by decide +kernel
theorem d_MO_work_113 : decode b_MO_work 113 = .ok (.goto (-94), 3) := by decide +kernel
theorem d_MO_work_116 : decode b_MO_work 116 = .ok (.iconst 1, 1) := by decide +kernel
theorem d_MO_work_117 : decode b_MO_work 117 = .ok (.istore_n 1, 1) := by decide +kernel
theorem d_MO_work_118 : decode b_MO_work 118 = .ok (.iload_n 1, 1) := by decide +kernel
theorem d_MO_work_119 : decode b_MO_work 119 = .ok (.ifCond .eq 56, 3) := by decide +kernel
theorem d_MO_work_122 : decode b_MO_work 122 = .ok (.iconst 0, 1) := by decide +kernel
theorem d_MO_work_123 : decode b_MO_work 123 = .ok (.istore_n 1, 1) := by decide +kernel
theorem d_MO_work_124 : decode b_MO_work 124 = .ok (.iconst 0, 1) := by decide +kernel
theorem d_MO_work_125 : decode b_MO_work 125 = .ok (.istore_n 2, 1) := by decide +kernel
theorem d_MO_work_126 : decode b_MO_work 126 = .ok (.iload_n 2, 1) := by decide +kernel
theorem d_MO_work_127 : decode b_MO_work 127 = .ok (.bipush 80, 2) := by decide +kernel
theorem d_MO_work_129 : decode b_MO_work 129 = .ok (.if_icmp .ge 43, 3) := by decide +kernel
theorem d_MO_work_132 : decode b_MO_work 132 = .ok (.aload_n 0, 1) := by decide +kernel
theorem d_MO_work_133 : decode b_MO_work 133 = .ok (.getfield 66, 3) := by decide +kernel
theorem d_MO_work_136 : decode b_MO_work 136 = .ok (.iload_n 2, 1) := by decide +kernel
theorem d_MO_work_137 : decode b_MO_work 137 = .ok (.baload, 1) := by decide +kernel
theorem d_MO_work_138 : decode b_MO_work 138 = .ok (.ifCond .ne 28, 3) := by decide +kernel
theorem d_MO_work_141 : decode b_MO_work 141 = .ok (.aload_n 0, 1) := by decide +kernel
theorem d_MO_work_142 : decode b_MO_work 142 = .ok (.iload_n 2, 1) := by decide +kernel
theorem d_MO_work_143 : decode b_MO_work 143 = .ok (.invokevirtual 262, 3) := by decide +kernel
theorem d_MO_work_146 : decode b_MO_work 146 = .ok (.ifCond .ne 6, 3) := by decide +kernel
theorem d_MO_work_149 : decode b_MO_work 149 = .ok (.goto 17, 3) := by decide +kernel
theorem d_MO_work_152 : decode b_MO_work 152 = .ok (.aload_n 0, 1) := by decide +kernel
theorem d_MO_work_153 : decode b_MO_work 153 = .ok (.iload_n 2, 1) := by decide +kernel
theorem d_MO_work_154 : decode b_MO_work 154 = .ok (.invokevirtual 265, 3) := by decide +kernel
theorem d_MO_work_157 : decode b_MO_work 157 = .ok (.aload_n 0, 1) := by decide +kernel
theorem d_MO_work_158 : decode b_MO_work 158 = .ok (.getfield 66, 3) := by decide +kernel
theorem d_MO_work_161 : decode b_MO_work 161 = .ok (.iload_n 2, 1) := by decide +kernel
theorem d_MO_work_162 : decode b_MO_work 162 = .ok (.iconst 1, 1) := by decide +kernel
theorem d_MO_work_163 : decode b_MO_work 163 = .ok (.bastore, 1) := by decide +kernel
theorem d_MO_work_164 : decode b_MO_work 164 = .ok (.iconst 1, 1) := by decide +kernel
theorem d_MO_work_165 : decode b_MO_work 165 = .ok (.istore_n 1, 1) := by decide +kernel
theorem d_MO_work_166 : decode b_MO_work 166 = .ok (.iinc 2 1, 3) := by decide +kernel
theorem d_MO_work_169 : decode b_MO_work 169 = .ok (.goto (-43), 3) := by decide +kernel
theorem d_MO_work_172 : decode b_MO_work 172 = .ok (.goto (-54), 3) := by decide +kernel
theorem d_MO_work_175 : decode b_MO_work 175 = .ok (.return_, 1) := by decide +kernel
abbrev b_MO_enter : ByteArray := prog_14_method_24_code
def y_MO_enter : MethodName := ⟨"FormulaSheetModel", "enter", "(II)I"⟩
theorem d_MO_enter_0 : decode b_MO_enter 0 = .ok (.aload_n 0, 1) := by decide +kernel
theorem d_MO_enter_1 : decode b_MO_enter 1 = .ok (.iconst 0, 1) := by decide +kernel
theorem d_MO_enter_2 : decode b_MO_enter 2 = .ok (.putfield 96, 3) := by decide +kernel
theorem d_MO_enter_5 : decode b_MO_enter 5 = .ok (.iload_n 1, 1) := by decide +kernel
theorem d_MO_enter_6 : decode b_MO_enter 6 = .ok (.iload_n 2, 1) := by decide +kernel
theorem d_MO_enter_7 : decode b_MO_enter 7 = .ok (.invokestatic 182, 3) := by decide +kernel
theorem d_MO_enter_10 : decode b_MO_enter 10 = .ok (.ifCond .eq 9, 3) := by decide +kernel
theorem d_MO_enter_13 : decode b_MO_enter 13 = .ok (.aload_n 0, 1) := by decide +kernel
theorem d_MO_enter_14 : decode b_MO_enter 14 = .ok (.iconst 1, 1) := by decide +kernel
theorem d_MO_enter_15 : decode b_MO_enter 15 = .ok (.invokevirtual 99, 3) := by decide +kernel
theorem d_MO_enter_18 : decode b_MO_enter 18 = .ok (.ireturn, 1) := by decide +kernel
theorem d_MO_enter_19 : decode b_MO_enter 19 = .ok (.aload_n 0, 1) := by decide +kernel
theorem d_MO_enter_20 : decode b_MO_enter 20 = .ok (.invokevirtual 186, 3) := by decide +kernel
theorem d_MO_enter_23 : decode b_MO_enter 23 = .ok (.istore_n 3, 1) := by decide +kernel
theorem d_MO_enter_24 : decode b_MO_enter 24 = .ok (.aload_n 0, 1) := by decide +kernel
theorem d_MO_enter_25 : decode b_MO_enter 25 = .ok (.iload_n 3, 1) := by decide +kernel
theorem d_MO_enter_26 : decode b_MO_enter 26 = .ok (.putfield 39, 3) := by decide +kernel
theorem d_MO_enter_29 : decode b_MO_enter 29 = .ok (.aload_n 0, 1) := by decide +kernel
theorem d_MO_enter_30 : decode b_MO_enter 30 = .ok (.iconst 0, 1) := by decide +kernel
theorem d_MO_enter_31 : decode b_MO_enter 31 = .ok (.putfield 103, 3) := by decide +kernel
theorem d_MO_enter_34 : decode b_MO_enter 34 = .ok (.iload_n 3, 1) := by decide +kernel
theorem d_MO_enter_35 : decode b_MO_enter 35 = .ok (.ifCond .lt 9, 3) := by decide +kernel
theorem d_MO_enter_38 : decode b_MO_enter 38 = .ok (.aload_n 0, 1) := by decide +kernel
theorem d_MO_enter_39 : decode b_MO_enter 39 = .ok (.iconst 2, 1) := by decide +kernel
theorem d_MO_enter_40 : decode b_MO_enter 40 = .ok (.invokevirtual 99, 3) := by decide +kernel
theorem d_MO_enter_43 : decode b_MO_enter 43 = .ok (.ireturn, 1) := by decide +kernel
theorem d_MO_enter_44 : decode b_MO_enter 44 = .ok (.bipush 10, 2) := by decide +kernel
theorem d_MO_enter_46 : decode b_MO_enter 46 = .ok (.iload_n 1, 1) := by decide +kernel
theorem d_MO_enter_47 : decode b_MO_enter 47 = .ok (.imul, 1) := by decide +kernel
theorem d_MO_enter_48 : decode b_MO_enter 48 = .ok (.iload_n 2, 1) := by decide +kernel
theorem d_MO_enter_49 : decode b_MO_enter 49 = .ok (.iadd, 1) := by decide +kernel
theorem d_MO_enter_50 : decode b_MO_enter 50 = .ok (.istore 4, 2) := by decide +kernel
theorem d_MO_enter_52 : decode b_MO_enter 52 = .ok (.aload_n 0, 1) := by decide +kernel
theorem d_MO_enter_53 : decode b_MO_enter 53 = .ok (.getfield 7, 3) := by decide +kernel
theorem d_MO_enter_56 : decode b_MO_enter 56 = .ok (.bipush 80, 2) := by decide +kernel
theorem d_MO_enter_58 : decode b_MO_enter 58 = .ok (.iconst 2, 1) := by decide +kernel
theorem d_MO_enter_59 : decode b_MO_enter 59 = .ok (.iastore, 1) := by decide +kernel
theorem d_MO_enter_60 : decode b_MO_enter 60 = .ok (.aload_n 0, 1) := by decide +kernel
theorem d_MO_enter_61 : decode b_MO_enter 61 = .ok (.getfield 13, 3) := by decide +kernel
theorem d_MO_enter_64 : decode b_MO_enter 64 = .ok (.bipush 80, 2) := by decide +kernel
theorem d_MO_enter_66 : decode b_MO_enter 66 = .ok (.aload_n 0, 1) := by decide +kernel
theorem d_MO_enter_67 : decode b_MO_enter 67 = .ok (.getfield 109, 3) := by decide +kernel
theorem d_MO_enter_70 : decode b_MO_enter 70 = .ok (.iastore, 1) := by decide +kernel
theorem d_MO_enter_71 : decode b_MO_enter 71 = .ok (.aload_n 0, 1) := by decide +kernel
theorem d_MO_enter_72 : decode b_MO_enter 72 = .ok (.bipush 80, 2) := by decide +kernel
theorem d_MO_enter_74 : decode b_MO_enter 74 = .ok (.iload 4, 2) := by decide +kernel
theorem d_MO_enter_76 : decode b_MO_enter 76 = .ok (.invokevirtual 189, 3) := by decide +kernel
theorem d_MO_enter_79 : decode b_MO_enter 79 = .ok (.aload_n 0, 1) := by decide +kernel
theorem d_MO_enter_80 : decode b_MO_enter 80 = .ok (.iconst 1, 1) := by decide +kernel
theorem d_MO_enter_81 : decode b_MO_enter 81 = .ok (.putfield 43, 3) := by decide +kernel
theorem d_MO_enter_84 : decode b_MO_enter 84 = .ok (.aload_n 0, 1) := by decide +kernel
theorem d_MO_enter_85 : decode b_MO_enter 85 = .ok (.invokevirtual 193, 3) := by decide +kernel
theorem d_MO_enter_88 : decode b_MO_enter 88 = .ok (.iconst 0, 1) := by decide +kernel
theorem d_MO_enter_89 : decode b_MO_enter 89 = .ok (.istore 5, 2) := by decide +kernel
theorem d_MO_enter_91 : decode b_MO_enter 91 = .ok (.iconst 0, 1) := by decide +kernel
theorem d_MO_enter_92 : decode b_MO_enter 92 = .ok (.istore 6, 2) := by decide +kernel
theorem d_MO_enter_94 : decode b_MO_enter 94 = .ok (.iload 6, 2) := by decide +kernel
theorem d_MO_enter_96 : decode b_MO_enter 96 = .ok (.bipush 80, 2) := by decide +kernel
theorem d_MO_enter_98 : decode b_MO_enter 98 = .ok (.if_icmp .ge 34, 3) := by decide +kernel
theorem d_MO_enter_101 : decode b_MO_enter 101 = .ok (.aload_n 0, 1) := by decide +kernel
theorem d_MO_enter_102 : decode b_MO_enter 102 = .ok (.getfield 47, 3) := by decide +kernel
theorem d_MO_enter_105 : decode b_MO_enter 105 = .ok (.iload 4, 2) := by decide +kernel
theorem d_MO_enter_107 : decode b_MO_enter 107 = .ok (.laload, 1) := by decide +kernel
theorem d_MO_enter_108 : decode b_MO_enter 108 = .ok (.aload_n 0, 1) := by decide +kernel
theorem d_MO_enter_109 : decode b_MO_enter 109 = .ok (.getfield 50, 3) := by decide +kernel
theorem d_MO_enter_112 : decode b_MO_enter 112 = .ok (.iload 4, 2) := by decide +kernel
theorem d_MO_enter_114 : decode b_MO_enter 114 = .ok (.laload, 1) := by decide +kernel
theorem d_MO_enter_115 : decode b_MO_enter 115 = .ok (.iload 6, 2) := by decide +kernel
theorem d_MO_enter_117 : decode b_MO_enter 117 = .ok (.invokestatic 196, 3) := by decide +kernel
theorem d_MO_enter_120 : decode b_MO_enter 120 = .ok (.ifCond .eq 6, 3) := by decide +kernel
theorem d_MO_enter_123 : decode b_MO_enter 123 = .ok (.iinc 5 1, 3) := by decide +kernel
theorem d_MO_enter_126 : decode b_MO_enter 126 = .ok (.iinc 6 1, 3) := by decide +kernel
theorem d_MO_enter_129 : decode b_MO_enter 129 = .ok (.goto (-35), 3) := by decide +kernel
theorem d_MO_enter_132 : decode b_MO_enter 132 = .ok (.iload 5, 2) := by decide +kernel
theorem d_MO_enter_134 : decode b_MO_enter 134 = .ok (.ireturn, 1) := by decide +kernel
abbrev b_MO_value : ByteArray := prog_14_method_60_code
def y_MO_value : MethodName := ⟨"FormulaSheetModel", "value", "(II)D"⟩
theorem d_MO_value_0 : decode b_MO_value 0 = .ok (.aload_n 0, 1) := by decide +kernel
theorem d_MO_value_1 : decode b_MO_value 1 = .ok (.iconst 0, 1) := by decide +kernel
theorem d_MO_value_2 : decode b_MO_value 2 = .ok (.putfield 96, 3) := by decide +kernel
theorem d_MO_value_5 : decode b_MO_value 5 = .ok (.iload_n 1, 1) := by decide +kernel
theorem d_MO_value_6 : decode b_MO_value 6 = .ok (.iload_n 2, 1) := by decide +kernel
theorem d_MO_value_7 : decode b_MO_value 7 = .ok (.invokestatic 182, 3) := by decide +kernel
theorem d_MO_value_10 : decode b_MO_value 10 = .ok (.ifCond .eq 10, 3) := by decide +kernel
theorem d_MO_value_13 : decode b_MO_value 13 = .ok (.aload_n 0, 1) := by decide +kernel
theorem d_MO_value_14 : decode b_MO_value 14 = .ok (.iconst 1, 1) := by decide +kernel
theorem d_MO_value_15 : decode b_MO_value 15 = .ok (.invokevirtual 99, 3) := by decide +kernel
theorem d_MO_value_18 : decode b_MO_value 18 = .ok (.i2d, 1) := by decide +kernel
theorem d_MO_value_19 : decode b_MO_value 19 = .ok (.dreturn, 1) := by decide +kernel
theorem d_MO_value_20 : decode b_MO_value 20 = .ok (.bipush 10, 2) := by decide +kernel
theorem d_MO_value_22 : decode b_MO_value 22 = .ok (.iload_n 1, 1) := by decide +kernel
theorem d_MO_value_23 : decode b_MO_value 23 = .ok (.imul, 1) := by decide +kernel
theorem d_MO_value_24 : decode b_MO_value 24 = .ok (.iload_n 2, 1) := by decide +kernel
theorem d_MO_value_25 : decode b_MO_value 25 = .ok (.iadd, 1) := by decide +kernel
theorem d_MO_value_26 : decode b_MO_value 26 = .ok (.istore_n 3, 1) := by decide +kernel
theorem d_MO_value_27 : decode b_MO_value 27 = .ok (.aload_n 0, 1) := by decide +kernel
theorem d_MO_value_28 : decode b_MO_value 28 = .ok (.getfield 7, 3) := by decide +kernel
theorem d_MO_value_31 : decode b_MO_value 31 = .ok (.iload_n 3, 1) := by decide +kernel
theorem d_MO_value_32 : decode b_MO_value 32 = .ok (.iaload, 1) := by decide +kernel
theorem d_MO_value_33 : decode b_MO_value 33 = .ok (.ifCond .ne 10, 3) := by decide +kernel
theorem d_MO_value_36 : decode b_MO_value 36 = .ok (.aload_n 0, 1) := by decide +kernel
theorem d_MO_value_37 : decode b_MO_value 37 = .ok (.iconst 2, 1) := by decide +kernel
theorem d_MO_value_38 : decode b_MO_value 38 = .ok (.invokevirtual 99, 3) := by decide +kernel
theorem d_MO_value_41 : decode b_MO_value 41 = .ok (.i2d, 1) := by decide +kernel
theorem d_MO_value_42 : decode b_MO_value 42 = .ok (.dreturn, 1) := by decide +kernel
theorem d_MO_value_43 : decode b_MO_value 43 = .ok (.aload_n 0, 1) := by decide +kernel
theorem d_MO_value_44 : decode b_MO_value 44 = .ok (.invokevirtual 193, 3) := by decide +kernel
theorem d_MO_value_47 : decode b_MO_value 47 = .ok (.aload_n 0, 1) := by decide +kernel
theorem d_MO_value_48 : decode b_MO_value 48 = .ok (.iload_n 3, 1) := by decide +kernel
theorem d_MO_value_49 : decode b_MO_value 49 = .ok (.invokevirtual 259, 3) := by decide +kernel
theorem d_MO_value_52 : decode b_MO_value 52 = .ok (.ifCond .eq 10, 3) := by decide +kernel
theorem d_MO_value_55 : decode b_MO_value 55 = .ok (.aload_n 0, 1) := by decide +kernel
theorem d_MO_value_56 : decode b_MO_value 56 = .ok (.iconst 3, 1) := by decide +kernel
theorem d_MO_value_57 : decode b_MO_value 57 = .ok (.invokevirtual 99, 3) := by decide +kernel
theorem d_MO_value_60 : decode b_MO_value 60 = .ok (.i2d, 1) := by decide +kernel
theorem d_MO_value_61 : decode b_MO_value 61 = .ok (.dreturn, 1) := by decide +kernel
theorem d_MO_value_62 : decode b_MO_value 62 = .ok (.aload_n 0, 1) := by decide +kernel
theorem d_MO_value_63 : decode b_MO_value 63 = .ok (.getfield 62, 3) := by decide +kernel
theorem d_MO_value_66 : decode b_MO_value 66 = .ok (.iload_n 3, 1) := by decide +kernel
theorem d_MO_value_67 : decode b_MO_value 67 = .ok (.baload, 1) := by decide +kernel
theorem d_MO_value_68 : decode b_MO_value 68 = .ok (.ifCond .eq 12, 3) := by decide +kernel
theorem d_MO_value_71 : decode b_MO_value 71 = .ok (.aload_n 0, 1) := by decide +kernel
theorem d_MO_value_72 : decode b_MO_value 72 = .ok (.iconst 4, 1) := by decide +kernel
theorem d_MO_value_73 : decode b_MO_value 73 = .ok (.invokevirtual 99, 3) := by decide +kernel
theorem d_MO_value_76 : decode b_MO_value 76 = .ok (.i2d, 1) := by decide +kernel
theorem d_MO_value_77 : decode b_MO_value 77 = .ok (.goto 9, 3) := by decide +kernel
theorem d_MO_value_80 : decode b_MO_value 80 = .ok (.aload_n 0, 1) := by decide +kernel
theorem d_MO_value_81 : decode b_MO_value 81 = .ok (.getfield 59, 3) := by decide +kernel
theorem d_MO_value_84 : decode b_MO_value 84 = .ok (.iload_n 3, 1) := by decide +kernel
theorem d_MO_value_85 : decode b_MO_value 85 = .ok (.daload, 1) := by decide +kernel
theorem d_MO_value_86 : decode b_MO_value 86 = .ok (.dreturn, 1) := by decide +kernel
abbrev b_MO_kind : ByteArray := prog_14_method_62_code
def y_MO_kind : MethodName := ⟨"FormulaSheetModel", "kind", "(II)I"⟩
theorem d_MO_kind_0 : decode b_MO_kind 0 = .ok (.aload_n 0, 1) := by decide +kernel
theorem d_MO_kind_1 : decode b_MO_kind 1 = .ok (.iconst 0, 1) := by decide +kernel
theorem d_MO_kind_2 : decode b_MO_kind 2 = .ok (.putfield 96, 3) := by decide +kernel
theorem d_MO_kind_5 : decode b_MO_kind 5 = .ok (.iload_n 1, 1) := by decide +kernel
theorem d_MO_kind_6 : decode b_MO_kind 6 = .ok (.iload_n 2, 1) := by decide +kernel
theorem d_MO_kind_7 : decode b_MO_kind 7 = .ok (.invokestatic 182, 3) := by decide +kernel
theorem d_MO_kind_10 : decode b_MO_kind 10 = .ok (.ifCond .eq 9, 3) := by decide +kernel
theorem d_MO_kind_13 : decode b_MO_kind 13 = .ok (.aload_n 0, 1) := by decide +kernel
theorem d_MO_kind_14 : decode b_MO_kind 14 = .ok (.iconst 1, 1) := by decide +kernel
theorem d_MO_kind_15 : decode b_MO_kind 15 = .ok (.invokevirtual 99, 3) := by decide +kernel
theorem d_MO_kind_18 : decode b_MO_kind 18 = .ok (.ireturn, 1) := by decide +kernel
theorem d_MO_kind_19 : decode b_MO_kind 19 = .ok (.aload_n 0, 1) := by decide +kernel
theorem d_MO_kind_20 : decode b_MO_kind 20 = .ok (.invokevirtual 193, 3) := by decide +kernel
theorem d_MO_kind_23 : decode b_MO_kind 23 = .ok (.aload_n 0, 1) := by decide +kernel
theorem d_MO_kind_24 : decode b_MO_kind 24 = .ok (.bipush 10, 2) := by decide +kernel
theorem d_MO_kind_26 : decode b_MO_kind 26 = .ok (.iload_n 1, 1) := by decide +kernel
theorem d_MO_kind_27 : decode b_MO_kind 27 = .ok (.imul, 1) := by decide +kernel
theorem d_MO_kind_28 : decode b_MO_kind 28 = .ok (.iload_n 2, 1) := by decide +kernel
theorem d_MO_kind_29 : decode b_MO_kind 29 = .ok (.iadd, 1) := by decide +kernel
theorem d_MO_kind_30 : decode b_MO_kind 30 = .ok (.invokevirtual 291, 3) := by decide +kernel
theorem d_MO_kind_33 : decode b_MO_kind 33 = .ok (.ireturn, 1) := by decide +kernel
abbrev b_MO_reaches : ByteArray := prog_14_method_63_code
def y_MO_reaches : MethodName := ⟨"FormulaSheetModel", "reaches", "(IIII)Z"⟩
theorem d_MO_reaches_0 : decode b_MO_reaches 0 = .ok (.aload_n 0, 1) := by decide +kernel
theorem d_MO_reaches_1 : decode b_MO_reaches 1 = .ok (.iconst 0, 1) := by decide +kernel
theorem d_MO_reaches_2 : decode b_MO_reaches 2 = .ok (.putfield 96, 3) := by decide +kernel
theorem d_MO_reaches_5 : decode b_MO_reaches 5 = .ok (.iload_n 1, 1) := by decide +kernel
theorem d_MO_reaches_6 : decode b_MO_reaches 6 = .ok (.iload_n 2, 1) := by decide +kernel
theorem d_MO_reaches_7 : decode b_MO_reaches 7 = .ok (.invokestatic 182, 3) := by decide +kernel
theorem d_MO_reaches_10 : decode b_MO_reaches 10 = .ok (.ifCond .ne 12, 3) := by decide +kernel
theorem d_MO_reaches_13 : decode b_MO_reaches 13 = .ok (.iload_n 3, 1) := by decide +kernel
theorem d_MO_reaches_14 : decode b_MO_reaches 14 = .ok (.iload 4, 2) := by decide +kernel
theorem d_MO_reaches_16 : decode b_MO_reaches 16 = .ok (.invokestatic 182, 3) := by decide +kernel
theorem d_MO_reaches_19 : decode b_MO_reaches 19 = .ok (.ifCond .eq 10, 3) := by decide +kernel
theorem d_MO_reaches_22 : decode b_MO_reaches 22 = .ok (.aload_n 0, 1) := by decide +kernel
theorem d_MO_reaches_23 : decode b_MO_reaches 23 = .ok (.iconst 1, 1) := by decide +kernel
theorem d_MO_reaches_24 : decode b_MO_reaches 24 = .ok (.putfield 96, 3) := by decide +kernel
theorem d_MO_reaches_27 : decode b_MO_reaches 27 = .ok (.iconst 0, 1) := by decide +kernel
theorem d_MO_reaches_28 : decode b_MO_reaches 28 = .ok (.ireturn, 1) := by decide +kernel
theorem d_MO_reaches_29 : decode b_MO_reaches 29 = .ok (.aload_n 0, 1) := by decide +kernel
theorem d_MO_reaches_30 : decode b_MO_reaches 30 = .ok (.invokevirtual 193, 3) := by decide +kernel
theorem d_MO_reaches_33 : decode b_MO_reaches 33 = .ok (.bipush 10, 2) := by decide +kernel
theorem d_MO_reaches_35 : decode b_MO_reaches 35 = .ok (.iload_n 1, 1) := by decide +kernel
theorem d_MO_reaches_36 : decode b_MO_reaches 36 = .ok (.imul, 1) := by decide +kernel
theorem d_MO_reaches_37 : decode b_MO_reaches 37 = .ok (.iload_n 2, 1) := by decide +kernel
theorem d_MO_reaches_38 : decode b_MO_reaches 38 = .ok (.iadd, 1) := by decide +kernel
theorem d_MO_reaches_39 : decode b_MO_reaches 39 = .ok (.istore 5, 2) := by decide +kernel
theorem d_MO_reaches_41 : decode b_MO_reaches 41 = .ok (.aload_n 0, 1) := by decide +kernel
theorem d_MO_reaches_42 : decode b_MO_reaches 42 = .ok (.getfield 53, 3) := by decide +kernel
theorem d_MO_reaches_45 : decode b_MO_reaches 45 = .ok (.iload 5, 2) := by decide +kernel
theorem d_MO_reaches_47 : decode b_MO_reaches 47 = .ok (.laload, 1) := by decide +kernel
theorem d_MO_reaches_48 : decode b_MO_reaches 48 = .ok (.aload_n 0, 1) := by decide +kernel
theorem d_MO_reaches_49 : decode b_MO_reaches 49 = .ok (.getfield 56, 3) := by decide +kernel
theorem d_MO_reaches_52 : decode b_MO_reaches 52 = .ok (.iload 5, 2) := by decide +kernel
theorem d_MO_reaches_54 : decode b_MO_reaches 54 = .ok (.laload, 1) := by decide +kernel
theorem d_MO_reaches_55 : decode b_MO_reaches 55 = .ok (.bipush 10, 2) := by decide +kernel
theorem d_MO_reaches_57 : decode b_MO_reaches 57 = .ok (.iload_n 3, 1) := by decide +kernel
theorem d_MO_reaches_58 : decode b_MO_reaches 58 = .ok (.imul, 1) := by decide +kernel
theorem d_MO_reaches_59 : decode b_MO_reaches 59 = .ok (.iload 4, 2) := by decide +kernel
theorem d_MO_reaches_61 : decode b_MO_reaches 61 = .ok (.iadd, 1) := by decide +kernel
theorem d_MO_reaches_62 : decode b_MO_reaches 62 = .ok (.invokestatic 196, 3) := by decide +kernel
theorem d_MO_reaches_65 : decode b_MO_reaches 65 = .ok (.ireturn, 1) := by decide +kernel
theorem tw_41 : lw_tbl[41]? = some (Cond.selects "FormulaSheetModel" ⟨"FormulaSheetModel", "fault", "()I"⟩ ⟨"FormulaSheetModel", "fault", "()I"⟩) := by decide +kernel
theorem tw_58 : lw_tbl[58]? = some (Cond.selects "FormulaSheetModel" ⟨"FormulaSheetModel", "work", "()V"⟩ ⟨"FormulaSheetModel", "work", "()V"⟩) := by decide +kernel
theorem tw_59 : lw_tbl[59]? = some (Cond.selects "FormulaSheetModel" ⟨"FormulaSheetModel", "findReferences", "()V"⟩ ⟨"FormulaSheetModel", "findReferences", "()V"⟩) := by decide +kernel
theorem tw_63 : lw_tbl[63]? = some (Cond.selects "FormulaSheetModel" ⟨"FormulaSheetModel", "ready", "(I)Z"⟩ ⟨"FormulaSheetModel", "ready", "(I)Z"⟩) := by decide +kernel
theorem tw_64 : lw_tbl[64]? = some (Cond.selects "FormulaSheetModel" ⟨"FormulaSheetModel", "workFormula", "(I)V"⟩ ⟨"FormulaSheetModel", "workFormula", "(I)V"⟩) := by decide +kernel
theorem tw_66 : lw_tbl[66]? = some (Cond.selects "FormulaSheetModel" ⟨"FormulaSheetModel", "workReference", "(II)V"⟩ ⟨"FormulaSheetModel", "workReference", "(II)V"⟩) := by decide +kernel
theorem tw_67 : lw_tbl[67]? = some (Cond.selects "FormulaSheetModel" ⟨"FormulaSheetModel", "workRange", "(IIII)V"⟩ ⟨"FormulaSheetModel", "workRange", "(IIII)V"⟩) := by decide +kernel
theorem tw_68 : lw_tbl[68]? = some (Cond.selects "FormulaSheetModel" ⟨"FormulaSheetModel", "workSingle", "(II)V"⟩ ⟨"FormulaSheetModel", "workSingle", "(II)V"⟩) := by decide +kernel
theorem tw_69 : lw_tbl[69]? = some (Cond.selects "FormulaSheetModel" ⟨"FormulaSheetModel", "workPair", "(II)V"⟩ ⟨"FormulaSheetModel", "workPair", "(II)V"⟩) := by decide +kernel
theorem tw_74 : lw_tbl[74]? = some (Cond.selects "FormulaSheetModel" ⟨"FormulaSheetModel", "kindOf", "(I)I"⟩ ⟨"FormulaSheetModel", "kindOf", "(I)I"⟩) := by decide +kernel
theorem tw_1585 : lw_tbl[1585]? = some (Jvm.Cond.methodLink "FormulaSheetModel" (186 : Nat) ({ cls := "FormulaSheetModel", name := "fault", desc := "()I" } : Jvm.MethodName)) := by decide +kernel
theorem tw_1587 : lw_tbl[1587]? = some (Jvm.Cond.instanceMethod ({ cls := "FormulaSheetModel", name := "fault", desc := "()I" } : Jvm.MethodName)) := by decide +kernel
theorem tw_1588 : lw_tbl[1588]? = some (Jvm.Cond.code ({ cls := "FormulaSheetModel", name := "fault", desc := "()I" } : Jvm.MethodName) prog_14_method_23_code (1 : Nat) (Option.some Jvm.ClassFile.FieldType.int)) := by decide +kernel
theorem tw_1661 : lw_tbl[1661]? = some (Jvm.Cond.methodLink "FormulaSheetModel" (193 : Nat) ({ cls := "FormulaSheetModel", name := "work", desc := "()V" } : Jvm.MethodName)) := by decide +kernel
theorem tw_1663 : lw_tbl[1663]? = some (Jvm.Cond.instanceMethod ({ cls := "FormulaSheetModel", name := "work", desc := "()V" } : Jvm.MethodName)) := by decide +kernel
theorem tw_1664 : lw_tbl[1664]? = some (Jvm.Cond.code ({ cls := "FormulaSheetModel", name := "work", desc := "()V" } : Jvm.MethodName) prog_14_method_46_code (3 : Nat) (Option.none : Option Jvm.ClassFile.FieldType)) := by decide +kernel
theorem tw_1665 : lw_tbl[1665]? = some (Jvm.Cond.methodLink "FormulaSheetModel" (256 : Nat) ({ cls := "FormulaSheetModel", name := "findReferences", desc := "()V" } : Jvm.MethodName)) := by decide +kernel
theorem tw_1667 : lw_tbl[1667]? = some (Jvm.Cond.instanceMethod ({ cls := "FormulaSheetModel", name := "findReferences", desc := "()V" } : Jvm.MethodName)) := by decide +kernel
theorem tw_1668 : lw_tbl[1668]? = some (Jvm.Cond.code ({ cls := "FormulaSheetModel", name := "findReferences", desc := "()V" } : Jvm.MethodName) prog_14_method_35_code (3 : Nat) (Option.none : Option Jvm.ClassFile.FieldType)) := by decide +kernel
theorem tw_1702 : lw_tbl[1702]? = some (Jvm.Cond.methodLink "FormulaSheetModel" (262 : Nat) ({ cls := "FormulaSheetModel", name := "ready", desc := "(I)Z" } : Jvm.MethodName)) := by decide +kernel
theorem tw_1704 : lw_tbl[1704]? = some (Jvm.Cond.instanceMethod ({ cls := "FormulaSheetModel", name := "ready", desc := "(I)Z" } : Jvm.MethodName)) := by decide +kernel
theorem tw_1705 : lw_tbl[1705]? = some (Jvm.Cond.code ({ cls := "FormulaSheetModel", name := "ready", desc := "(I)Z" } : Jvm.MethodName) prog_14_method_37_code (3 : Nat) (Option.some Jvm.ClassFile.FieldType.boolean)) := by decide +kernel
theorem tw_1706 : lw_tbl[1706]? = some (Jvm.Cond.methodLink "FormulaSheetModel" (265 : Nat) ({ cls := "FormulaSheetModel", name := "workFormula", desc := "(I)V" } : Jvm.MethodName)) := by decide +kernel
theorem tw_1708 : lw_tbl[1708]? = some (Jvm.Cond.instanceMethod ({ cls := "FormulaSheetModel", name := "workFormula", desc := "(I)V" } : Jvm.MethodName)) := by decide +kernel
theorem tw_1709 : lw_tbl[1709]? = some (Jvm.Cond.code ({ cls := "FormulaSheetModel", name := "workFormula", desc := "(I)V" } : Jvm.MethodName) prog_14_method_45_code (8 : Nat) (Option.none : Option Jvm.ClassFile.FieldType)) := by decide +kernel
theorem tw_1710 : lw_tbl[1710]? = some (Jvm.Cond.constantDouble "FormulaSheetModel" (241 : Nat) (4621819117588971520 : UInt64)) := by decide +kernel
theorem tw_1715 : lw_tbl[1715]? = some (Jvm.Cond.methodLink "FormulaSheetModel" (243 : Nat) ({ cls := "FormulaSheetModel", name := "workReference", desc := "(II)V" } : Jvm.MethodName)) := by decide +kernel
theorem tw_1717 : lw_tbl[1717]? = some (Jvm.Cond.instanceMethod ({ cls := "FormulaSheetModel", name := "workReference", desc := "(II)V" } : Jvm.MethodName)) := by decide +kernel
theorem tw_1718 : lw_tbl[1718]? = some (Jvm.Cond.code ({ cls := "FormulaSheetModel", name := "workReference", desc := "(II)V" } : Jvm.MethodName) prog_14_method_41_code (4 : Nat) (Option.none : Option Jvm.ClassFile.FieldType)) := by decide +kernel
theorem tw_1719 : lw_tbl[1719]? = some (Jvm.Cond.methodLink "FormulaSheetModel" (246 : Nat) ({ cls := "FormulaSheetModel", name := "workRange", desc := "(IIII)V" } : Jvm.MethodName)) := by decide +kernel
theorem tw_1721 : lw_tbl[1721]? = some (Jvm.Cond.instanceMethod ({ cls := "FormulaSheetModel", name := "workRange", desc := "(IIII)V" } : Jvm.MethodName)) := by decide +kernel
theorem tw_1722 : lw_tbl[1722]? = some (Jvm.Cond.code ({ cls := "FormulaSheetModel", name := "workRange", desc := "(IIII)V" } : Jvm.MethodName) prog_14_method_40_code (15 : Nat) (Option.none : Option Jvm.ClassFile.FieldType)) := by decide +kernel
theorem tw_1728 : lw_tbl[1728]? = some (Jvm.Cond.methodLink "FormulaSheetModel" (250 : Nat) ({ cls := "FormulaSheetModel", name := "workSingle", desc := "(II)V" } : Jvm.MethodName)) := by decide +kernel
theorem tw_1730 : lw_tbl[1730]? = some (Jvm.Cond.instanceMethod ({ cls := "FormulaSheetModel", name := "workSingle", desc := "(II)V" } : Jvm.MethodName)) := by decide +kernel
theorem tw_1731 : lw_tbl[1731]? = some (Jvm.Cond.code ({ cls := "FormulaSheetModel", name := "workSingle", desc := "(II)V" } : Jvm.MethodName) prog_14_method_44_code (5 : Nat) (Option.none : Option Jvm.ClassFile.FieldType)) := by decide +kernel
theorem tw_1735 : lw_tbl[1735]? = some (Jvm.Cond.methodLink "FormulaSheetModel" (253 : Nat) ({ cls := "FormulaSheetModel", name := "workPair", desc := "(II)V" } : Jvm.MethodName)) := by decide +kernel
theorem tw_1737 : lw_tbl[1737]? = some (Jvm.Cond.instanceMethod ({ cls := "FormulaSheetModel", name := "workPair", desc := "(II)V" } : Jvm.MethodName)) := by decide +kernel
theorem tw_1738 : lw_tbl[1738]? = some (Jvm.Cond.code ({ cls := "FormulaSheetModel", name := "workPair", desc := "(II)V" } : Jvm.MethodName) prog_14_method_43_code (10 : Nat) (Option.none : Option Jvm.ClassFile.FieldType)) := by decide +kernel
theorem tw_1796 : lw_tbl[1796]? = some (Jvm.Cond.methodLink "FormulaSheetModel" (291 : Nat) ({ cls := "FormulaSheetModel", name := "kindOf", desc := "(I)I" } : Jvm.MethodName)) := by decide +kernel
theorem tw_1798 : lw_tbl[1798]? = some (Jvm.Cond.instanceMethod ({ cls := "FormulaSheetModel", name := "kindOf", desc := "(I)I" } : Jvm.MethodName)) := by decide +kernel
theorem tw_1799 : lw_tbl[1799]? = some (Jvm.Cond.code ({ cls := "FormulaSheetModel", name := "kindOf", desc := "(I)I" } : Jvm.MethodName) prog_14_method_61_code (2 : Nat) (Option.some Jvm.ClassFile.FieldType.int)) := by decide +kernel
noncomputable def q_MO_workFormula_L7_J247 (self : Int32 → Int32 → Int32 → mo_S → Option (mo_S)) (z1 : Int32) (z2 : Int32) (z3 : Int32) (z4 : Int32) (M1 : mo_S) : Option (mo_S) := Option.bind (q_MO_workSingle M1 z4 (z2 - 1)) (fun R928 => self z1 z2 (z3 + 1) R928)
noncomputable def q_MO_workFormula_L7_J208 (self : Int32 → Int32 → Int32 → mo_S → Option (mo_S)) (z1 : Int32) (z2 : Int32) (z3 : Int32) (w0 : UInt64) (w1 : Int32) (M1 : mo_S) : Option (mo_S) := fs_okp ((0 ≤ (Int32.toInt w1)) ∧ ((Int32.toInt w1) < 44)) (fs_let (p_MO_hold M1 w1 w0 1) (fun R929 => self z1 z2 (z3 + 1) R929))
noncomputable def q_MO_workFormula_L7_J174 (self : Int32 → Int32 → Int32 → mo_S → Option (mo_S)) (z1 : Int32) (z2 : Int32) (z3 : Int32) (w0 : Int32) (M1 : mo_S) : Option (mo_S) := fs_okp (vp_in w0 44) (fs_okp (vp_in (z2 - 1) 44) ((if (M1.2.1 21 (Int32.toNatClampNeg (z2 - 1))) = 0 then fs_okp (vp_in w0 44) ((if (M1.2.1 21 (Int32.toNatClampNeg w0)) = 0 then fs_okp ((0 ≤ (Int32.toInt (z2 - 1))) ∧ ((Int32.toInt (z2 - 1)) < 44)) (fs_let (p_MO_hold M1 (z2 - 1) (M1.2.2.2 20 (Int32.toNatClampNeg w0)) 0) (fun R932 => self z1 z2 (z3 + 1) R932)) else q_MO_workFormula_L7_J208 self z1 z2 z3 (M1.2.2.2 20 (Int32.toNatClampNeg w0)) (z2 - 1) M1)) else q_MO_workFormula_L7_J208 self z1 z2 z3 (M1.2.2.2 20 (Int32.toNatClampNeg w0)) (z2 - 1) M1)))
noncomputable def q_MO_workFormula_L41 : Nat → Int32 → Int32 → Int32 → UInt64 → Int32 → mo_S → Option (UInt64)
  | 0, _, _, _, _, _, _ => none
  | n + 1, z1, z2, z3, z5, z7, M1 => fs_okp (vp_in z3 3240) ((if (M1.2.1 4 (Int32.toNatClampNeg z3)) ≤ z7 then some (z5) else fs_okp (vf_n64 (FP.dmul z5 4621819117588971520)) ((q_MO_workFormula_L41 n) z1 z2 z3 (FP.dmul z5 4621819117588971520) (z7 + 1) M1)))
noncomputable def q_MO_workFormula_L7 : Nat → Int32 → Int32 → Int32 → mo_S → Option (mo_S)
  | 0, _, _, _, _ => none
  | n + 1, z1, z2, z3, M1 => fs_okp (vp_in z1 81) ((if ((40 * z1) + (M1.2.1 1 (Int32.toNatClampNeg z1))) ≤ z3 then some (M1) else fs_okp (vp_in z3 3240) ((if (M1.2.1 3 (Int32.toNatClampNeg z3)) = 0 then Option.bind (q_MO_workFormula_L41 5 z1 z2 z3 FP.dconst1 0 M1) (fun R947 => fs_okp (vp_in z3 3240) (fs_okp (vf_n64 (FP.ddiv (FP.l2d (M1.2.2.1 6 (Int32.toNatClampNeg z3))) R947)) (fs_okp ((0 ≤ (Int32.toInt z2)) ∧ ((Int32.toInt z2) < 44)) (fs_let (p_MO_hold M1 z2 (FP.ddiv (FP.l2d (M1.2.2.1 6 (Int32.toNatClampNeg z3))) R947) 0) (fun R948 => (q_MO_workFormula_L7 n) z1 (z2 + 1) (z3 + 1) R948))))) else (if (M1.2.1 3 (Int32.toNatClampNeg z3)) = 1 then fs_okp (vp_in z3 3240) (Option.bind (q_MO_workReference M1 (M1.2.1 4 (Int32.toNatClampNeg z3)) z2) (fun R945 => (q_MO_workFormula_L7 n) z1 (z2 + 1) (z3 + 1) R945)) else (if (p_MO_isRange (M1.2.1 3 (Int32.toNatClampNeg z3))) = 0 then (if (M1.2.1 3 (Int32.toNatClampNeg z3)) = 9 then fs_okp (vp_in ((z2 - 2) - 1) 44) ((if (Op.cmpValue (FP.dcmp (M1.2.2.2 20 (Int32.toNatClampNeg ((z2 - 2) - 1))) FP.dconst0) .l) = 0 then q_MO_workFormula_L7_J174 (q_MO_workFormula_L7 n) z1 (z2 - 2) z3 ((z2 - 2) + 1) M1 else q_MO_workFormula_L7_J174 (q_MO_workFormula_L7 n) z1 (z2 - 2) z3 (z2 - 2) M1)) else (if (M1.2.1 3 (Int32.toNatClampNeg z3)) = 33 then q_MO_workFormula_L7_J247 (q_MO_workFormula_L7 n) z1 z2 z3 (M1.2.1 3 (Int32.toNatClampNeg z3)) M1 else (if (M1.2.1 3 (Int32.toNatClampNeg z3)) = 10 then q_MO_workFormula_L7_J247 (q_MO_workFormula_L7 n) z1 z2 z3 (M1.2.1 3 (Int32.toNatClampNeg z3)) M1 else (if (M1.2.1 3 (Int32.toNatClampNeg z3)) = 7 then q_MO_workFormula_L7_J247 (q_MO_workFormula_L7 n) z1 z2 z3 (M1.2.1 3 (Int32.toNatClampNeg z3)) M1 else (if (M1.2.1 3 (Int32.toNatClampNeg z3)) = 8 then q_MO_workFormula_L7_J247 (q_MO_workFormula_L7 n) z1 z2 z3 (M1.2.1 3 (Int32.toNatClampNeg z3)) M1 else Option.bind (q_MO_workPair M1 (M1.2.1 3 (Int32.toNatClampNeg z3)) ((z2 - 1) - 1)) (fun R942 => (q_MO_workFormula_L7 n) z1 (z2 - 1) (z3 + 1) R942)))))) else fs_okp (vp_in z3 3240) (fs_okp (vp_in z3 3240) (Option.bind (q_MO_workRange M1 (M1.2.1 3 (Int32.toNatClampNeg z3)) (M1.2.1 4 (Int32.toNatClampNeg z3)) (M1.2.1 5 (Int32.toNatClampNeg z3)) z2) (fun R944 => (q_MO_workFormula_L7 n) z1 (z2 + 1) (z3 + 1) R944)))))))))
noncomputable def q_MO_workFormula (M : mo_S) (x1 : Int32) : Option (mo_S) := Option.bind (q_MO_workFormula_L7 41 x1 0 (40 * x1) M) (fun R949 => fs_okp (vp_in 0 44) (fs_okp (vp_in x1 80) (fs_okp (vp_in 0 44) (fs_okp (vp_in x1 80) (some (mo_i (mo_d R949 17 (Int32.toNatClampNeg x1) (R949.2.2.2 20 (Int32.toNatClampNeg 0))) 18 (Int32.toNatClampNeg x1) (vp_nar .boolean (R949.2.1 21 (Int32.toNatClampNeg 0)))))))))
set_option maxHeartbeats 4000000 in
set_option maxRecDepth 100000 in
theorem l_MO_workFormula_41 {p : Program} {l : Launch} {e : Env} {R : Room} {s : State} {m : MethodId} {args : Array Value} {below : List Frame} {meth : Method} {c : Code} {Q : State → Prop} {s00 : State} {G : fs_G} (hSt : fs_St l s00 G) (B : fs_B p l e s m args meth c s00 G y_MO_workFormula b_MO_workFormula 8 none) {h : fs_Hp} {a : Nat} {ad : Nat → Nat} (hR : 2 ≤ R.frames ∧ 42 ≤ R.locals) : ∀ (n : Nat) (z1 : Int32) (z2 : Int32) (z3 : Int32) (z5 : UInt64) (z7 : Int32) (M1 : mo_S) (h1 : fs_Hp) (H : Heap) (locs : List Loc) (ls : Array Slot) (r : UInt64), q_MO_workFormula_L41 n z1 z2 z3 z5 z7 M1 = some r → fs_P G.1 fs_cl (fs_A s00) h1 H → va_S (fs_A s00) s00.heap H locs → mo_at G h1 a ad M1 → mo_fr a ad h h1 → lv_has ls 8 [(0, .ref a), (1, .int z1), (2, .int z2), (3, .int z3), (5, .double z5), (7, .int z7)] → (∀ (h' : fs_Hp) (H : Heap) (locs : List Loc) (ls : Array Slot), fs_P G.1 fs_cl (fs_A s00) h' H → va_S (fs_A s00) s00.heap H locs → mo_at G h' a ad M1 → mo_fr a ad h h' → lv_has ls 8 [(0, .ref a), (1, .int z1), (2, .int z2), (3, .int z3), (5, .double r)] → W p l e R s m args below meth c H locs 0 0 Q (F0 m 66 ls [])) → W p l e R s m args below meth c H locs 0 0 Q (F0 m 41 ls []) := by
  obtain ⟨hx, hb, hr, hml, hown, hts, hlocks, hname, hK, hw, htr⟩ := id B
  have hown : s.vm.findClass "FormulaSheetModel" = some m.cls := hown
  intro n
  induction n with
  | zero => intro z1 z2 z3 z5 z7 M1 h1 H locs ls r hq; rw [q_MO_workFormula_L41] at hq; cases hq
  | succ n ih =>
    intro z1 z2 z3 z5 z7 M1 h1 H locs ls r hq hP hS hM hf hl kk
    rw [q_MO_workFormula_L41] at hq
    refine lv_iload hx hb d_MO_workFormula_41 (lv_at hl 5 rfl) ?_
    refine lv_aload_n hx hb d_MO_workFormula_43 rfl (lv_at hl 0 rfl) ?_
    refine fs_get (v := .ref (ad 4)) hx hb hts hown hK c_MO hP hM.1 4 (by decide) (hts _ (fs_tb_at 1460 tw_1460 rfl)) (fun _ h9 => h9) rfl d_MO_workFormula_44 ?_
    refine lv_iload_n hx hb d_MO_workFormula_47 rfl (lv_at hl 3 rfl) ?_
    obtain ⟨hi_, hq⟩ := fs_okp_some hq
    refine fs_iald (f := M1.2.1 4) hx hb hK hP 0 (hM.2.1 4 0 3240 rfl) rfl hi_ d_MO_workFormula_48 ?_
    refine lv_icmp_ge (tgt := 66) hx hb d_MO_workFormula_49 (by decide) (fun c_946 => ?_) (fun c_946 => ?_)
    · have hq := fs_ifp c_946 hq
      cases hq
      exact kk _ _ _ _ hP hS hM hf (lv_sub hl [0, 1, 2, 3, 4] rfl)
    · have hq := fs_ifn c_946 hq
      refine lv_dload hx hb d_MO_workFormula_52 (lv_at hl 4 rfl) ?_
      refine lv_ldc2d (v := 4621819117588971520) hx hb hown (hts _ (fs_tb_at 1710 tw_1710 rfl)) d_MO_workFormula_54 ?_
      obtain ⟨hk_, hq⟩ := fs_okp_some hq
      refine lv_dmul hx hb d_MO_workFormula_57 hk_ ?_
      refine lv_dstore (lv' := [(5, .double (FP.dmul z5 4621819117588971520)), (0, .ref a), (1, .int z1), (2, .int z2), (3, .int z3), (7, .int z7)]) hx hb d_MO_workFormula_58 hl (by decide) rfl (fun ls hl => ?_)
      refine lv_iinc (v := z7 + 1) (lv' := [(7, .int (z7 + 1)), (5, .double (FP.dmul z5 4621819117588971520)), (0, .ref a), (1, .int z1), (2, .int z2), (3, .int z3)]) hx hb d_MO_workFormula_60 hl (k := 5) rfl rfl (by decide) rfl (fun ls hl => ?_)
      refine lv_goto (tgt := 41) hx hb d_MO_workFormula_63 (by decide) ?_
      exact ih z1 z2 z3 (FP.dmul z5 4621819117588971520) (z7 + 1) M1 _ _ _ _ r hq hP hS hM hf (lv_sub hl [2, 3, 4, 5, 1, 0] rfl) kk
set_option maxHeartbeats 4000000 in
set_option maxRecDepth 100000 in
theorem l_MO_workFormula_7 {p : Program} {l : Launch} {e : Env} {R : Room} {s : State} {m : MethodId} {args : Array Value} {below : List Frame} {meth : Method} {c : Code} {Q : State → Prop} {s00 : State} {G : fs_G} (hSt : fs_St l s00 G) (B : fs_B p l e s m args meth c s00 G y_MO_workFormula b_MO_workFormula 8 none) {h : fs_Hp} {a : Nat} {ad : Nat → Nat} (hR : 2 ≤ R.frames ∧ 42 ≤ R.locals) : ∀ (n : Nat) (z1 : Int32) (z2 : Int32) (z3 : Int32) (M1 : mo_S) (h1 : fs_Hp) (H : Heap) (locs : List Loc) (ls : Array Slot) (r : mo_S), q_MO_workFormula_L7 n z1 z2 z3 M1 = some r → fs_P G.1 fs_cl (fs_A s00) h1 H → va_S (fs_A s00) s00.heap H locs → mo_at G h1 a ad M1 → mo_fr a ad h h1 → lv_has ls 8 [(0, .ref a), (1, .int z1), (2, .int z2), (3, .int z3)] → (∀ (h' : fs_Hp) (H : Heap) (locs : List Loc) (ls : Array Slot), fs_P G.1 fs_cl (fs_A s00) h' H → va_S (fs_A s00) s00.heap H locs → mo_at G h' a ad r → mo_fr a ad h h' → lv_has ls 8 [(0, .ref a), (1, .int z1)] → W p l e R s m args below meth c H locs 0 0 Q (F0 m 277 ls [])) → W p l e R s m args below meth c H locs 0 0 Q (F0 m 7 ls []) := by
  obtain ⟨hx, hb, hr, hml, hown, hts, hlocks, hname, hK, hw, htr⟩ := id B
  have hown : s.vm.findClass "FormulaSheetModel" = some m.cls := hown
  intro n
  induction n with
  | zero => intro z1 z2 z3 M1 h1 H locs ls r hq; rw [q_MO_workFormula_L7] at hq; cases hq
  | succ n ih =>
    intro z1 z2 z3 M1 h1 H locs ls r hq hP hS hM hf hl kk
    rw [q_MO_workFormula_L7] at hq
    have hJ247 : ∀ (z2 : Int32) (z3 : Int32) (z4 : Int32) (M1 : mo_S) (h1 : fs_Hp) (H : Heap) (locs : List Loc) (ls : Array Slot), q_MO_workFormula_L7_J247 (q_MO_workFormula_L7 n) z1 z2 z3 z4 M1 = some r → fs_P G.1 fs_cl (fs_A s00) h1 H → va_S (fs_A s00) s00.heap H locs → mo_at G h1 a ad M1 → mo_fr a ad h h1 → lv_has ls 8 [(0, .ref a), (1, .int z1), (2, .int z2), (3, .int z3), (4, .int z4)] → W p l e R s m args below meth c H locs 0 0 Q (F0 m 247 ls ([])) := by
      intro z2 z3 z4 M1 h1 H locs ls hq hP hS hM hf hl
      rw [q_MO_workFormula_L7_J247] at hq
      refine lv_aload_n hx hb d_MO_workFormula_247 rfl (lv_at hl 0 rfl) ?_
      refine lv_iload hx hb d_MO_workFormula_248 (lv_at hl 4 rfl) ?_
      refine lv_iload_n hx hb d_MO_workFormula_250 rfl (lv_at hl 2 rfl) ?_
      refine lv_iconst (v := 1) hx hb d_MO_workFormula_251 (by decide) ?_
      refine lv_isub hx hb d_MO_workFormula_252 ?_
      obtain ⟨R928, eR928, hq⟩ := fs_bind_some hq
      refine fs_cV B hl.1 hP hS (k_MO_workSingle hSt hM z4 (z2 - 1) eR928) (fs_tb_at 1728 tw_1728 rfl) hM.1 rfl (fs_tb_at 1730 tw_1730 rfl) (fs_tb_at 68 tw_68 rfl) (fs_tb_at 96 tw_96 rfl) (fs_tb_at 1731 tw_1731 rfl) (by decide) (show (parseMethodDescriptor y_MO_workSingle.desc).map (fun d => d.parameters.length) = some 2 by decide +kernel) rfl d_MO_workFormula_253 ⟨Nat.le_trans (Nat.le_of_ble_eq_true rfl) hR.1, Nat.le_trans (Nat.le_of_ble_eq_true rfl) hR.2, Nat.zero_le _, Nat.zero_le _⟩ (fun v_ h_ H locs hc_ hP hS => ?_) (fun C_ a_ h_ H locs hc_ => absurd hc_.1 (fun h9 => by cases h9))
      obtain ⟨ev, hM, hf2⟩ := hc_
      cases ev
      have hf := hf.trans hf2
      refine W.widen (k := 0) (n := 0) (Nat.le_of_ble_eq_true rfl) (Nat.le_of_ble_eq_true rfl) ?_
      refine W.eq (g2 := F0 m 256 ls ([])) rfl ?_
      refine lv_goto (tgt := 271) hx hb d_MO_workFormula_256 (by decide) ?_
      refine lv_iinc (v := z3 + 1) (lv' := [(3, .int (z3 + 1)), (0, .ref a), (1, .int z1), (2, .int z2), (4, .int z4)]) hx hb d_MO_workFormula_271 hl (k := 3) rfl rfl (by decide) rfl (fun ls hl => ?_)
      refine lv_goto (tgt := 7) hx hb d_MO_workFormula_274 (by decide) ?_
      exact ih z1 z2 (z3 + 1) R928 _ _ _ _ r hq hP hS hM hf (lv_sub hl [1, 2, 3, 0] rfl) kk
    have hJ208 : ∀ (z2 : Int32) (z3 : Int32) (w0 : UInt64) (w1 : Int32) (M1 : mo_S) (h1 : fs_Hp) (H : Heap) (locs : List Loc) (ls : Array Slot), q_MO_workFormula_L7_J208 (q_MO_workFormula_L7 n) z1 z2 z3 w0 w1 M1 = some r → fs_P G.1 fs_cl (fs_A s00) h1 H → va_S (fs_A s00) s00.heap H locs → mo_at G h1 a ad M1 → mo_fr a ad h h1 → lv_has ls 8 [(0, .ref a), (1, .int z1), (2, .int z2), (3, .int z3)] → W p l e R s m args below meth c H locs 0 0 Q (F0 m 208 ls (.double w0 :: .int w1 :: .ref a :: [])) := by
      intro z2 z3 w0 w1 M1 h1 H locs ls hq hP hS hM hf hl
      rw [q_MO_workFormula_L7_J208] at hq
      refine lv_iconst (v := 1) hx hb d_MO_workFormula_208 (by decide) ?_
      refine lv_goto (tgt := 213) hx hb d_MO_workFormula_209 (by decide) ?_
      obtain ⟨⟨b0_, b1_⟩, hq⟩ := fs_okp_some hq
      obtain ⟨R929, eR929, hq⟩ := fs_let_some hq
      refine fs_cV B hl.1 hP hS (k_MO_hold hSt hM w1 w0 1 b0_ b1_) (fs_tb_at 1711 tw_1711 rfl) hM.1 rfl (fs_tb_at 1713 tw_1713 rfl) (fs_tb_at 65 tw_65 rfl) (fs_tb_at 96 tw_96 rfl) (fs_tb_at 1714 tw_1714 rfl) (by decide) (show (parseMethodDescriptor y_MO_hold.desc).map (fun d => d.parameters.length) = some 3 by decide +kernel) rfl d_MO_workFormula_213 ⟨Nat.le_trans (Nat.le_of_ble_eq_true rfl) hR.1, Nat.le_trans (Nat.le_of_ble_eq_true rfl) hR.2, Nat.zero_le _, Nat.zero_le _⟩ (fun v_ h_ H locs hc_ hP hS => ?_) (fun C_ a_ h_ H locs hc_ => absurd hc_.1 (fun h9 => by cases h9))
      obtain ⟨ev, hM, hf2⟩ := hc_
      cases ev
      have hf := hf.trans hf2
      rw [← eR929] at hM
      refine W.widen (k := 0) (n := 0) (Nat.le_of_ble_eq_true rfl) (Nat.le_of_ble_eq_true rfl) ?_
      refine W.eq (g2 := F0 m 216 ls ([])) rfl ?_
      refine lv_goto (tgt := 271) hx hb d_MO_workFormula_216 (by decide) ?_
      refine lv_iinc (v := z3 + 1) (lv' := [(3, .int (z3 + 1)), (0, .ref a), (1, .int z1), (2, .int z2)]) hx hb d_MO_workFormula_271 hl (k := 3) rfl rfl (by decide) rfl (fun ls hl => ?_)
      refine lv_goto (tgt := 7) hx hb d_MO_workFormula_274 (by decide) ?_
      exact ih z1 z2 (z3 + 1) R929 _ _ _ _ r hq hP hS hM hf (lv_sub hl [1, 2, 3, 0] rfl) kk
    have hJ174 : ∀ (z2 : Int32) (z3 : Int32) (w0 : Int32) (M1 : mo_S) (h1 : fs_Hp) (H : Heap) (locs : List Loc) (ls : Array Slot), q_MO_workFormula_L7_J174 (q_MO_workFormula_L7 n) z1 z2 z3 w0 M1 = some r → fs_P G.1 fs_cl (fs_A s00) h1 H → va_S (fs_A s00) s00.heap H locs → mo_at G h1 a ad M1 → mo_fr a ad h h1 → lv_has ls 8 [(0, .ref a), (1, .int z1), (2, .int z2), (3, .int z3)] → W p l e R s m args below meth c H locs 0 0 Q (F0 m 174 ls (.int w0 :: [])) := by
      intro z2 z3 w0 M1 h1 H locs ls hq hP hS hM hf hl
      rw [q_MO_workFormula_L7_J174] at hq
      refine lv_istore (lv' := [(5, .int w0), (0, .ref a), (1, .int z1), (2, .int z2), (3, .int z3)]) hx hb d_MO_workFormula_174 hl (by decide) rfl (fun ls hl => ?_)
      refine lv_aload_n hx hb d_MO_workFormula_176 rfl (lv_at hl 1 rfl) ?_
      refine lv_iload_n hx hb d_MO_workFormula_177 rfl (lv_at hl 3 rfl) ?_
      refine lv_iconst (v := 1) hx hb d_MO_workFormula_178 (by decide) ?_
      refine lv_isub hx hb d_MO_workFormula_179 ?_
      refine lv_aload_n hx hb d_MO_workFormula_180 rfl (lv_at hl 1 rfl) ?_
      refine fs_get (v := .ref (ad 20)) hx hb hts hown hK c_MO hP hM.1 20 (by decide) (hts _ (fs_tb_at 1476 tw_1476 rfl)) (fun _ h9 => h9) rfl d_MO_workFormula_181 ?_
      refine lv_iload hx hb d_MO_workFormula_184 (lv_at hl 0 rfl) ?_
      obtain ⟨hi_, hq⟩ := fs_okp_some hq
      refine fs_dald (f := M1.2.2.2 20) hx hb hK hP 2 (hM.2.1 20 2 44 rfl) rfl hi_ d_MO_workFormula_186 ?_
      refine lv_aload_n hx hb d_MO_workFormula_187 rfl (lv_at hl 1 rfl) ?_
      refine fs_get (v := .ref (ad 21)) hx hb hts hown hK c_MO hP hM.1 21 (by decide) (hts _ (fs_tb_at 1477 tw_1477 rfl)) (fun _ h9 => h9) rfl d_MO_workFormula_188 ?_
      refine lv_iload_n hx hb d_MO_workFormula_191 rfl (lv_at hl 3 rfl) ?_
      refine lv_iconst (v := 1) hx hb d_MO_workFormula_192 (by decide) ?_
      refine lv_isub hx hb d_MO_workFormula_193 ?_
      obtain ⟨hi_, hq⟩ := fs_okp_some hq
      refine fs_zald (f := M1.2.1 21) hx hb hK hP 3 (hM.2.1 21 3 44 rfl) rfl hi_ d_MO_workFormula_194 ?_
      refine lv_if_ne (tgt := 208) hx hb d_MO_workFormula_195 (by decide) (fun c_930 => ?_) (fun c_930 => ?_)
      · have hq := fs_ifn c_930 hq
        exact hJ208 z2 z3 (M1.2.2.2 20 (Int32.toNatClampNeg w0)) (z2 - 1) M1 _ _ _ _ hq hP hS hM hf (lv_sub hl [1, 2, 3, 4] rfl)
      · have hq := fs_ifp c_930 hq
        refine lv_aload_n hx hb d_MO_workFormula_198 rfl (lv_at hl 1 rfl) ?_
        refine fs_get (v := .ref (ad 21)) hx hb hts hown hK c_MO hP hM.1 21 (by decide) (hts _ (fs_tb_at 1477 tw_1477 rfl)) (fun _ h9 => h9) rfl d_MO_workFormula_199 ?_
        refine lv_iload hx hb d_MO_workFormula_202 (lv_at hl 0 rfl) ?_
        obtain ⟨hi_, hq⟩ := fs_okp_some hq
        refine fs_zald (f := M1.2.1 21) hx hb hK hP 3 (hM.2.1 21 3 44 rfl) rfl hi_ d_MO_workFormula_204 ?_
        refine lv_if_eq (tgt := 212) hx hb d_MO_workFormula_205 (by decide) (fun c_931 => ?_) (fun c_931 => ?_)
        · have hq := fs_ifp c_931 hq
          refine lv_iconst (v := 0) hx hb d_MO_workFormula_212 (by decide) ?_
          obtain ⟨⟨b0_, b1_⟩, hq⟩ := fs_okp_some hq
          obtain ⟨R932, eR932, hq⟩ := fs_let_some hq
          refine fs_cV B hl.1 hP hS (k_MO_hold hSt hM (z2 - 1) (M1.2.2.2 20 (Int32.toNatClampNeg w0)) 0 b0_ b1_) (fs_tb_at 1711 tw_1711 rfl) hM.1 rfl (fs_tb_at 1713 tw_1713 rfl) (fs_tb_at 65 tw_65 rfl) (fs_tb_at 96 tw_96 rfl) (fs_tb_at 1714 tw_1714 rfl) (by decide) (show (parseMethodDescriptor y_MO_hold.desc).map (fun d => d.parameters.length) = some 3 by decide +kernel) rfl d_MO_workFormula_213 ⟨Nat.le_trans (Nat.le_of_ble_eq_true rfl) hR.1, Nat.le_trans (Nat.le_of_ble_eq_true rfl) hR.2, Nat.zero_le _, Nat.zero_le _⟩ (fun v_ h_ H locs hc_ hP hS => ?_) (fun C_ a_ h_ H locs hc_ => absurd hc_.1 (fun h9 => by cases h9))
          obtain ⟨ev, hM, hf2⟩ := hc_
          cases ev
          have hf := hf.trans hf2
          rw [← eR932] at hM
          refine W.widen (k := 0) (n := 0) (Nat.le_of_ble_eq_true rfl) (Nat.le_of_ble_eq_true rfl) ?_
          refine W.eq (g2 := F0 m 216 ls ([])) rfl ?_
          refine lv_goto (tgt := 271) hx hb d_MO_workFormula_216 (by decide) ?_
          refine lv_iinc (v := z3 + 1) (lv' := [(3, .int (z3 + 1)), (5, .int w0), (0, .ref a), (1, .int z1), (2, .int z2)]) hx hb d_MO_workFormula_271 hl (k := 4) rfl rfl (by decide) rfl (fun ls hl => ?_)
          refine lv_goto (tgt := 7) hx hb d_MO_workFormula_274 (by decide) ?_
          exact ih z1 z2 (z3 + 1) R932 _ _ _ _ r hq hP hS hM hf (lv_sub hl [2, 3, 4, 0] rfl) kk
        · have hq := fs_ifn c_931 hq
          exact hJ208 z2 z3 (M1.2.2.2 20 (Int32.toNatClampNeg w0)) (z2 - 1) M1 _ _ _ _ hq hP hS hM hf (lv_sub hl [1, 2, 3, 4] rfl)
    refine lv_iload_n hx hb d_MO_workFormula_7 rfl (lv_at hl 3 rfl) ?_
    refine lv_bipush (v := 40) hx hb d_MO_workFormula_8 (by decide) ?_
    refine lv_iload_n hx hb d_MO_workFormula_10 rfl (lv_at hl 1 rfl) ?_
    refine lv_imul hx hb d_MO_workFormula_11 ?_
    refine lv_aload_n hx hb d_MO_workFormula_12 rfl (lv_at hl 0 rfl) ?_
    refine fs_get (v := .ref (ad 1)) hx hb hts hown hK c_MO hP hM.1 1 (by decide) (hts _ (fs_tb_at 1457 tw_1457 rfl)) (fun _ h9 => h9) rfl d_MO_workFormula_13 ?_
    refine lv_iload_n hx hb d_MO_workFormula_16 rfl (lv_at hl 1 rfl) ?_
    obtain ⟨hi_, hq⟩ := fs_okp_some hq
    refine fs_iald (f := M1.2.1 1) hx hb hK hP 0 (hM.2.1 1 0 81 rfl) rfl hi_ d_MO_workFormula_17 ?_
    refine lv_iadd hx hb d_MO_workFormula_18 ?_
    refine lv_icmp_ge (tgt := 277) hx hb d_MO_workFormula_19 (by decide) (fun c_933 => ?_) (fun c_933 => ?_)
    · have hq := fs_ifp c_933 hq
      cases hq
      exact kk _ _ _ _ hP hS hM hf (lv_sub hl [0, 1] rfl)
    · have hq := fs_ifn c_933 hq
      refine lv_aload_n hx hb d_MO_workFormula_22 rfl (lv_at hl 0 rfl) ?_
      refine fs_get (v := .ref (ad 3)) hx hb hts hown hK c_MO hP hM.1 3 (by decide) (hts _ (fs_tb_at 1459 tw_1459 rfl)) (fun _ h9 => h9) rfl d_MO_workFormula_23 ?_
      refine lv_iload_n hx hb d_MO_workFormula_26 rfl (lv_at hl 3 rfl) ?_
      obtain ⟨hi_, hq⟩ := fs_okp_some hq
      refine fs_iald (f := M1.2.1 3) hx hb hK hP 0 (hM.2.1 3 0 3240 rfl) rfl hi_ d_MO_workFormula_27 ?_
      refine lv_istore (lv' := [(4, .int (M1.2.1 3 (Int32.toNatClampNeg z3))), (0, .ref a), (1, .int z1), (2, .int z2), (3, .int z3)]) hx hb d_MO_workFormula_28 hl (by decide) rfl (fun ls hl => ?_)
      refine lv_iload hx hb d_MO_workFormula_30 (lv_at hl 0 rfl) ?_
      refine lv_if_ne (tgt := 88) hx hb d_MO_workFormula_32 (by decide) (fun c_934 => ?_) (fun c_934 => ?_)
      · have hq := fs_ifn c_934 hq
        refine lv_iload hx hb d_MO_workFormula_88 (lv_at hl 0 rfl) ?_
        refine lv_iconst (v := 1) hx hb d_MO_workFormula_90 (by decide) ?_
        refine lv_icmp_ne (tgt := 111) hx hb d_MO_workFormula_91 (by decide) (fun c_935 => ?_) (fun c_935 => ?_)
        · have hq := fs_ifn c_935 hq
          refine lv_iload hx hb d_MO_workFormula_111 (lv_at hl 0 rfl) ?_
          refine fs_cS B hl.1 hP hS (k_MO_isRange hSt (M1.2.1 3 (Int32.toNatClampNeg z3))) (fs_tb_at 1682 tw_1682 rfl) (fs_tb_at 1683 tw_1683 rfl) (fs_tb_at 96 tw_96 rfl) (fs_tb_at 1684 tw_1684 rfl) (by decide) (show (parseMethodDescriptor y_MO_isRange.desc).map (fun d => d.parameters.length) = some 1 by decide +kernel) rfl d_MO_workFormula_113 ⟨Nat.le_trans (Nat.le_of_ble_eq_true rfl) hR.1, Nat.le_trans (Nat.le_of_ble_eq_true rfl) hR.2, Nat.zero_le _, Nat.zero_le _⟩ (fun v_ h_ H locs hc_ hP hS => ?_) (fun C_ a_ h_ H locs hc_ => absurd hc_.1 (fun h9 => by cases h9))
          obtain ⟨ev, eh⟩ := hc_
          cases ev
          rw [eh] at hP
          refine W.widen (k := 0) (n := 0) (Nat.le_of_ble_eq_true rfl) (Nat.le_of_ble_eq_true rfl) ?_
          refine W.eq (g2 := F0 m 116 ls (.int (p_MO_isRange (M1.2.1 3 (Int32.toNatClampNeg z3))) :: [])) rfl ?_
          refine lv_if_eq (tgt := 144) hx hb d_MO_workFormula_116 (by decide) (fun c_936 => ?_) (fun c_936 => ?_)
          · have hq := fs_ifp c_936 hq
            refine lv_iload hx hb d_MO_workFormula_144 (lv_at hl 0 rfl) ?_
            refine lv_bipush (v := 9) hx hb d_MO_workFormula_146 (by decide) ?_
            refine lv_icmp_ne (tgt := 219) hx hb d_MO_workFormula_148 (by decide) (fun c_937 => ?_) (fun c_937 => ?_)
            · have hq := fs_ifn c_937 hq
              refine lv_iload hx hb d_MO_workFormula_219 (lv_at hl 0 rfl) ?_
              refine lv_bipush (v := 33) hx hb d_MO_workFormula_221 (by decide) ?_
              refine lv_icmp_eq (tgt := 247) hx hb d_MO_workFormula_223 (by decide) (fun c_938 => ?_) (fun c_938 => ?_)
              · have hq := fs_ifp c_938 hq
                exact hJ247 z2 z3 (M1.2.1 3 (Int32.toNatClampNeg z3)) M1 _ _ _ _ hq hP hS hM hf (lv_sub hl [1, 2, 3, 4, 0] rfl)
              · have hq := fs_ifn c_938 hq
                refine lv_iload hx hb d_MO_workFormula_226 (lv_at hl 0 rfl) ?_
                refine lv_bipush (v := 10) hx hb d_MO_workFormula_228 (by decide) ?_
                refine lv_icmp_eq (tgt := 247) hx hb d_MO_workFormula_230 (by decide) (fun c_939 => ?_) (fun c_939 => ?_)
                · have hq := fs_ifp c_939 hq
                  exact hJ247 z2 z3 (M1.2.1 3 (Int32.toNatClampNeg z3)) M1 _ _ _ _ hq hP hS hM hf (lv_sub hl [1, 2, 3, 4, 0] rfl)
                · have hq := fs_ifn c_939 hq
                  refine lv_iload hx hb d_MO_workFormula_233 (lv_at hl 0 rfl) ?_
                  refine lv_bipush (v := 7) hx hb d_MO_workFormula_235 (by decide) ?_
                  refine lv_icmp_eq (tgt := 247) hx hb d_MO_workFormula_237 (by decide) (fun c_940 => ?_) (fun c_940 => ?_)
                  · have hq := fs_ifp c_940 hq
                    exact hJ247 z2 z3 (M1.2.1 3 (Int32.toNatClampNeg z3)) M1 _ _ _ _ hq hP hS hM hf (lv_sub hl [1, 2, 3, 4, 0] rfl)
                  · have hq := fs_ifn c_940 hq
                    refine lv_iload hx hb d_MO_workFormula_240 (lv_at hl 0 rfl) ?_
                    refine lv_bipush (v := 8) hx hb d_MO_workFormula_242 (by decide) ?_
                    refine lv_icmp_ne (tgt := 259) hx hb d_MO_workFormula_244 (by decide) (fun c_941 => ?_) (fun c_941 => ?_)
                    · have hq := fs_ifn c_941 hq
                      refine lv_iinc (v := z2 - 1) (lv' := [(2, .int (z2 - 1)), (4, .int (M1.2.1 3 (Int32.toNatClampNeg z3))), (0, .ref a), (1, .int z1), (3, .int z3)]) hx hb d_MO_workFormula_259 hl (k := 3) rfl (fs_dec1 _) (by decide) rfl (fun ls hl => ?_)
                      refine lv_aload_n hx hb d_MO_workFormula_262 rfl (lv_at hl 2 rfl) ?_
                      refine lv_iload hx hb d_MO_workFormula_263 (lv_at hl 1 rfl) ?_
                      refine lv_iload_n hx hb d_MO_workFormula_265 rfl (lv_at hl 0 rfl) ?_
                      refine lv_iconst (v := 1) hx hb d_MO_workFormula_266 (by decide) ?_
                      refine lv_isub hx hb d_MO_workFormula_267 ?_
                      obtain ⟨R942, eR942, hq⟩ := fs_bind_some hq
                      refine fs_cV B hl.1 hP hS (k_MO_workPair hSt hM (M1.2.1 3 (Int32.toNatClampNeg z3)) ((z2 - 1) - 1) eR942) (fs_tb_at 1735 tw_1735 rfl) hM.1 rfl (fs_tb_at 1737 tw_1737 rfl) (fs_tb_at 69 tw_69 rfl) (fs_tb_at 96 tw_96 rfl) (fs_tb_at 1738 tw_1738 rfl) (by decide) (show (parseMethodDescriptor y_MO_workPair.desc).map (fun d => d.parameters.length) = some 2 by decide +kernel) rfl d_MO_workFormula_268 ⟨Nat.le_trans (Nat.le_of_ble_eq_true rfl) hR.1, Nat.le_trans (Nat.le_of_ble_eq_true rfl) hR.2, Nat.zero_le _, Nat.zero_le _⟩ (fun v_ h_ H locs hc_ hP hS => ?_) (fun C_ a_ h_ H locs hc_ => absurd hc_.1 (fun h9 => by cases h9))
                      obtain ⟨ev, hM, hf2⟩ := hc_
                      cases ev
                      have hf := hf.trans hf2
                      refine W.widen (k := 0) (n := 0) (Nat.le_of_ble_eq_true rfl) (Nat.le_of_ble_eq_true rfl) ?_
                      refine W.eq (g2 := F0 m 271 ls ([])) rfl ?_
                      refine lv_iinc (v := z3 + 1) (lv' := [(3, .int (z3 + 1)), (2, .int (z2 - 1)), (4, .int (M1.2.1 3 (Int32.toNatClampNeg z3))), (0, .ref a), (1, .int z1)]) hx hb d_MO_workFormula_271 hl (k := 4) rfl rfl (by decide) rfl (fun ls hl => ?_)
                      refine lv_goto (tgt := 7) hx hb d_MO_workFormula_274 (by decide) ?_
                      exact ih z1 (z2 - 1) (z3 + 1) R942 _ _ _ _ r hq hP hS hM hf (lv_sub hl [3, 4, 1, 0] rfl) kk
                    · have hq := fs_ifp c_941 hq
                      exact hJ247 z2 z3 (M1.2.1 3 (Int32.toNatClampNeg z3)) M1 _ _ _ _ hq hP hS hM hf (lv_sub hl [1, 2, 3, 4, 0] rfl)
            · have hq := fs_ifp c_937 hq
              refine lv_iinc (v := z2 - 2) (lv' := [(2, .int (z2 - 2)), (4, .int (M1.2.1 3 (Int32.toNatClampNeg z3))), (0, .ref a), (1, .int z1), (3, .int z3)]) hx hb d_MO_workFormula_151 hl (k := 3) rfl (fs_dec2 _) (by decide) rfl (fun ls hl => ?_)
              refine lv_aload_n hx hb d_MO_workFormula_154 rfl (lv_at hl 2 rfl) ?_
              refine fs_get (v := .ref (ad 20)) hx hb hts hown hK c_MO hP hM.1 20 (by decide) (hts _ (fs_tb_at 1476 tw_1476 rfl)) (fun _ h9 => h9) rfl d_MO_workFormula_155 ?_
              refine lv_iload_n hx hb d_MO_workFormula_158 rfl (lv_at hl 0 rfl) ?_
              refine lv_iconst (v := 1) hx hb d_MO_workFormula_159 (by decide) ?_
              refine lv_isub hx hb d_MO_workFormula_160 ?_
              obtain ⟨hi_, hq⟩ := fs_okp_some hq
              refine fs_dald (f := M1.2.2.2 20) hx hb hK hP 2 (hM.2.1 20 2 44 rfl) rfl hi_ d_MO_workFormula_161 ?_
              refine lv_dconst0 hx hb d_MO_workFormula_162 ?_
              refine lv_dcmp hx hb d_MO_workFormula_163 ?_
              refine lv_if_eq (tgt := 171) hx hb d_MO_workFormula_164 (by decide) (fun c_943 => ?_) (fun c_943 => ?_)
              · have hq := fs_ifp c_943 hq
                refine lv_iload_n hx hb d_MO_workFormula_171 rfl (lv_at hl 0 rfl) ?_
                refine lv_iconst (v := 1) hx hb d_MO_workFormula_172 (by decide) ?_
                refine lv_iadd hx hb d_MO_workFormula_173 ?_
                exact hJ174 (z2 - 2) z3 ((z2 - 2) + 1) M1 _ _ _ _ hq hP hS hM hf (lv_sub hl [2, 3, 0, 4] rfl)
              · have hq := fs_ifn c_943 hq
                refine lv_iload_n hx hb d_MO_workFormula_167 rfl (lv_at hl 0 rfl) ?_
                refine lv_goto (tgt := 174) hx hb d_MO_workFormula_168 (by decide) ?_
                exact hJ174 (z2 - 2) z3 (z2 - 2) M1 _ _ _ _ hq hP hS hM hf (lv_sub hl [2, 3, 0, 4] rfl)
          · have hq := fs_ifn c_936 hq
            refine lv_aload_n hx hb d_MO_workFormula_119 rfl (lv_at hl 1 rfl) ?_
            refine lv_iload hx hb d_MO_workFormula_120 (lv_at hl 0 rfl) ?_
            refine lv_aload_n hx hb d_MO_workFormula_122 rfl (lv_at hl 1 rfl) ?_
            refine fs_get (v := .ref (ad 4)) hx hb hts hown hK c_MO hP hM.1 4 (by decide) (hts _ (fs_tb_at 1460 tw_1460 rfl)) (fun _ h9 => h9) rfl d_MO_workFormula_123 ?_
            refine lv_iload_n hx hb d_MO_workFormula_126 rfl (lv_at hl 4 rfl) ?_
            obtain ⟨hi_, hq⟩ := fs_okp_some hq
            refine fs_iald (f := M1.2.1 4) hx hb hK hP 0 (hM.2.1 4 0 3240 rfl) rfl hi_ d_MO_workFormula_127 ?_
            refine lv_aload_n hx hb d_MO_workFormula_128 rfl (lv_at hl 1 rfl) ?_
            refine fs_get (v := .ref (ad 5)) hx hb hts hown hK c_MO hP hM.1 5 (by decide) (hts _ (fs_tb_at 1461 tw_1461 rfl)) (fun _ h9 => h9) rfl d_MO_workFormula_129 ?_
            refine lv_iload_n hx hb d_MO_workFormula_132 rfl (lv_at hl 4 rfl) ?_
            obtain ⟨hi_, hq⟩ := fs_okp_some hq
            refine fs_iald (f := M1.2.1 5) hx hb hK hP 0 (hM.2.1 5 0 3240 rfl) rfl hi_ d_MO_workFormula_133 ?_
            refine lv_iload_n hx hb d_MO_workFormula_134 rfl (lv_at hl 3 rfl) ?_
            obtain ⟨R944, eR944, hq⟩ := fs_bind_some hq
            refine fs_cV B hl.1 hP hS (k_MO_workRange hSt hM (M1.2.1 3 (Int32.toNatClampNeg z3)) (M1.2.1 4 (Int32.toNatClampNeg z3)) (M1.2.1 5 (Int32.toNatClampNeg z3)) z2 eR944) (fs_tb_at 1719 tw_1719 rfl) hM.1 rfl (fs_tb_at 1721 tw_1721 rfl) (fs_tb_at 67 tw_67 rfl) (fs_tb_at 96 tw_96 rfl) (fs_tb_at 1722 tw_1722 rfl) (by decide) (show (parseMethodDescriptor y_MO_workRange.desc).map (fun d => d.parameters.length) = some 4 by decide +kernel) rfl d_MO_workFormula_135 ⟨Nat.le_trans (Nat.le_of_ble_eq_true rfl) hR.1, Nat.le_trans (Nat.le_of_ble_eq_true rfl) hR.2, Nat.zero_le _, Nat.zero_le _⟩ (fun v_ h_ H locs hc_ hP hS => ?_) (fun C_ a_ h_ H locs hc_ => absurd hc_.1 (fun h9 => by cases h9))
            obtain ⟨ev, hM, hf2⟩ := hc_
            cases ev
            have hf := hf.trans hf2
            refine W.widen (k := 0) (n := 0) (Nat.le_of_ble_eq_true rfl) (Nat.le_of_ble_eq_true rfl) ?_
            refine W.eq (g2 := F0 m 138 ls ([])) rfl ?_
            refine lv_iinc (v := z2 + 1) (lv' := [(2, .int (z2 + 1)), (4, .int (M1.2.1 3 (Int32.toNatClampNeg z3))), (0, .ref a), (1, .int z1), (3, .int z3)]) hx hb d_MO_workFormula_138 hl (k := 3) rfl rfl (by decide) rfl (fun ls hl => ?_)
            refine lv_goto (tgt := 271) hx hb d_MO_workFormula_141 (by decide) ?_
            refine lv_iinc (v := z3 + 1) (lv' := [(3, .int (z3 + 1)), (2, .int (z2 + 1)), (4, .int (M1.2.1 3 (Int32.toNatClampNeg z3))), (0, .ref a), (1, .int z1)]) hx hb d_MO_workFormula_271 hl (k := 4) rfl rfl (by decide) rfl (fun ls hl => ?_)
            refine lv_goto (tgt := 7) hx hb d_MO_workFormula_274 (by decide) ?_
            exact ih z1 (z2 + 1) (z3 + 1) R944 _ _ _ _ r hq hP hS hM hf (lv_sub hl [3, 4, 1, 0] rfl) kk
        · have hq := fs_ifp c_935 hq
          refine lv_aload_n hx hb d_MO_workFormula_94 rfl (lv_at hl 1 rfl) ?_
          refine lv_aload_n hx hb d_MO_workFormula_95 rfl (lv_at hl 1 rfl) ?_
          refine fs_get (v := .ref (ad 4)) hx hb hts hown hK c_MO hP hM.1 4 (by decide) (hts _ (fs_tb_at 1460 tw_1460 rfl)) (fun _ h9 => h9) rfl d_MO_workFormula_96 ?_
          refine lv_iload_n hx hb d_MO_workFormula_99 rfl (lv_at hl 4 rfl) ?_
          obtain ⟨hi_, hq⟩ := fs_okp_some hq
          refine fs_iald (f := M1.2.1 4) hx hb hK hP 0 (hM.2.1 4 0 3240 rfl) rfl hi_ d_MO_workFormula_100 ?_
          refine lv_iload_n hx hb d_MO_workFormula_101 rfl (lv_at hl 3 rfl) ?_
          obtain ⟨R945, eR945, hq⟩ := fs_bind_some hq
          refine fs_cV B hl.1 hP hS (k_MO_workReference hSt hM (M1.2.1 4 (Int32.toNatClampNeg z3)) z2 eR945) (fs_tb_at 1715 tw_1715 rfl) hM.1 rfl (fs_tb_at 1717 tw_1717 rfl) (fs_tb_at 66 tw_66 rfl) (fs_tb_at 96 tw_96 rfl) (fs_tb_at 1718 tw_1718 rfl) (by decide) (show (parseMethodDescriptor y_MO_workReference.desc).map (fun d => d.parameters.length) = some 2 by decide +kernel) rfl d_MO_workFormula_102 ⟨Nat.le_trans (Nat.le_of_ble_eq_true rfl) hR.1, Nat.le_trans (Nat.le_of_ble_eq_true rfl) hR.2, Nat.zero_le _, Nat.zero_le _⟩ (fun v_ h_ H locs hc_ hP hS => ?_) (fun C_ a_ h_ H locs hc_ => absurd hc_.1 (fun h9 => by cases h9))
          obtain ⟨ev, hM, hf2⟩ := hc_
          cases ev
          have hf := hf.trans hf2
          refine W.widen (k := 0) (n := 0) (Nat.le_of_ble_eq_true rfl) (Nat.le_of_ble_eq_true rfl) ?_
          refine W.eq (g2 := F0 m 105 ls ([])) rfl ?_
          refine lv_iinc (v := z2 + 1) (lv' := [(2, .int (z2 + 1)), (4, .int (M1.2.1 3 (Int32.toNatClampNeg z3))), (0, .ref a), (1, .int z1), (3, .int z3)]) hx hb d_MO_workFormula_105 hl (k := 3) rfl rfl (by decide) rfl (fun ls hl => ?_)
          refine lv_goto (tgt := 271) hx hb d_MO_workFormula_108 (by decide) ?_
          refine lv_iinc (v := z3 + 1) (lv' := [(3, .int (z3 + 1)), (2, .int (z2 + 1)), (4, .int (M1.2.1 3 (Int32.toNatClampNeg z3))), (0, .ref a), (1, .int z1)]) hx hb d_MO_workFormula_271 hl (k := 4) rfl rfl (by decide) rfl (fun ls hl => ?_)
          refine lv_goto (tgt := 7) hx hb d_MO_workFormula_274 (by decide) ?_
          exact ih z1 (z2 + 1) (z3 + 1) R945 _ _ _ _ r hq hP hS hM hf (lv_sub hl [3, 4, 1, 0] rfl) kk
      · have hq := fs_ifp c_934 hq
        refine lv_dconst1 hx hb d_MO_workFormula_35 ?_
        refine lv_dstore (lv' := [(5, .double FP.dconst1), (4, .int (M1.2.1 3 (Int32.toNatClampNeg z3))), (0, .ref a), (1, .int z1), (2, .int z2), (3, .int z3)]) hx hb d_MO_workFormula_36 hl (by decide) rfl (fun ls hl => ?_)
        refine lv_iconst (v := 0) hx hb d_MO_workFormula_38 (by decide) ?_
        refine lv_istore (lv' := [(7, .int 0), (5, .double FP.dconst1), (4, .int (M1.2.1 3 (Int32.toNatClampNeg z3))), (0, .ref a), (1, .int z1), (2, .int z2), (3, .int z3)]) hx hb d_MO_workFormula_39 hl (by decide) rfl (fun ls hl => ?_)
        obtain ⟨R947, eR947, hq⟩ := fs_bind_some hq
        refine l_MO_workFormula_41 hSt B ⟨Nat.le_trans (Nat.le_of_ble_eq_true rfl) hR.1, Nat.le_trans (Nat.le_of_ble_eq_true rfl) hR.2⟩ 5 z1 z2 z3 FP.dconst1 0 M1 _ _ _ _ R947 eR947 hP hS hM hf (lv_sub hl [3, 4, 5, 6, 1, 0] rfl) (fun h_ H locs ls hP hS hM hf hl => ?_)
        refine lv_aload_n hx hb d_MO_workFormula_66 rfl (lv_at hl 0 rfl) ?_
        refine lv_iload_n hx hb d_MO_workFormula_67 rfl (lv_at hl 2 rfl) ?_
        refine lv_aload_n hx hb d_MO_workFormula_68 rfl (lv_at hl 0 rfl) ?_
        refine fs_get (v := .ref (ad 6)) hx hb hts hown hK c_MO hP hM.1 6 (by decide) (hts _ (fs_tb_at 1462 tw_1462 rfl)) (fun _ h9 => h9) rfl d_MO_workFormula_69 ?_
        refine lv_iload_n hx hb d_MO_workFormula_72 rfl (lv_at hl 3 rfl) ?_
        obtain ⟨hi_, hq⟩ := fs_okp_some hq
        refine fs_lald (f := M1.2.2.1 6) hx hb hK hP 1 (hM.2.1 6 1 3240 rfl) rfl hi_ d_MO_workFormula_73 ?_
        refine lv_l2d hx hb d_MO_workFormula_74 ?_
        refine lv_dload hx hb d_MO_workFormula_75 (lv_at hl 4 rfl) ?_
        obtain ⟨hk_, hq⟩ := fs_okp_some hq
        refine lv_ddiv hx hb d_MO_workFormula_77 hk_ ?_
        refine lv_iconst (v := 0) hx hb d_MO_workFormula_78 (by decide) ?_
        obtain ⟨⟨b0_, b1_⟩, hq⟩ := fs_okp_some hq
        obtain ⟨R948, eR948, hq⟩ := fs_let_some hq
        refine fs_cV B hl.1 hP hS (k_MO_hold hSt hM z2 (FP.ddiv (FP.l2d (M1.2.2.1 6 (Int32.toNatClampNeg z3))) R947) 0 b0_ b1_) (fs_tb_at 1711 tw_1711 rfl) hM.1 rfl (fs_tb_at 1713 tw_1713 rfl) (fs_tb_at 65 tw_65 rfl) (fs_tb_at 96 tw_96 rfl) (fs_tb_at 1714 tw_1714 rfl) (by decide) (show (parseMethodDescriptor y_MO_hold.desc).map (fun d => d.parameters.length) = some 3 by decide +kernel) rfl d_MO_workFormula_79 ⟨Nat.le_trans (Nat.le_of_ble_eq_true rfl) hR.1, Nat.le_trans (Nat.le_of_ble_eq_true rfl) hR.2, Nat.zero_le _, Nat.zero_le _⟩ (fun v_ h_ H locs hc_ hP hS => ?_) (fun C_ a_ h_ H locs hc_ => absurd hc_.1 (fun h9 => by cases h9))
        obtain ⟨ev, hM, hf2⟩ := hc_
        cases ev
        have hf := hf.trans hf2
        rw [← eR948] at hM
        refine W.widen (k := 0) (n := 0) (Nat.le_of_ble_eq_true rfl) (Nat.le_of_ble_eq_true rfl) ?_
        refine W.eq (g2 := F0 m 82 ls ([])) rfl ?_
        refine lv_iinc (v := z2 + 1) (lv' := [(2, .int (z2 + 1)), (0, .ref a), (1, .int z1), (3, .int z3), (5, .double R947)]) hx hb d_MO_workFormula_82 hl (k := 2) rfl rfl (by decide) rfl (fun ls hl => ?_)
        refine lv_goto (tgt := 271) hx hb d_MO_workFormula_85 (by decide) ?_
        refine lv_iinc (v := z3 + 1) (lv' := [(3, .int (z3 + 1)), (2, .int (z2 + 1)), (0, .ref a), (1, .int z1), (5, .double R947)]) hx hb d_MO_workFormula_271 hl (k := 3) rfl rfl (by decide) rfl (fun ls hl => ?_)
        refine lv_goto (tgt := 7) hx hb d_MO_workFormula_274 (by decide) ?_
        exact ih z1 (z2 + 1) (z3 + 1) R948 _ _ _ _ r hq hP hS hM hf (lv_sub hl [2, 3, 1, 0] rfl) kk
set_option maxHeartbeats 4000000 in
set_option maxRecDepth 100000 in
theorem k_MO_workFormula {l : Launch} {s00 : State} {G : fs_G} (hSt : fs_St l s00 G) {h : fs_Hp} {a : Nat} {ad : Nat → Nat} {M : mo_S} (hM : mo_at G h a ad M) (x1 : Int32) {r : mo_S} (hq : q_MO_workFormula M x1 = some r) : fs_Ct l s00 G y_MO_workFormula (.code y_MO_workFormula b_MO_workFormula 8 none) { frames := 2, cells := 0, slots := 0, locals := 42 } [.ref a, .int x1] h (fun o h' => o = .inl none ∧ mo_at G h' a ad r ∧ mo_fr a ad h h') := by
  refine fs_Ct.ofW hSt (by decide) ?_
  intro p e s m below meth c B hout hP
  obtain ⟨hx, hb, hr, hml, hown, hts, hlocks, hname, hK, hw, htr⟩ := id B
  have hown : s.vm.findClass "FormulaSheetModel" = some m.cls := hown
  have hS := hw.S
  have hA : ∀ q : Nat, s00.heap.size ≤ q → fs_A s00 q := fun _ h9 => h9
  generalize hH : s.heap = H at hP hS ⊢
  have hH0 : s.heap.size ≤ H.size := by rw [hH]; exact Nat.le_refl _
  have hl := lv_entry ([.ref a, .int x1]) (n := 8) (Nat.le_of_ble_eq_true rfl)
  rw [lg_entry_eq]
  generalize (lg_sl ([.ref a, .int x1]) ++ List.replicate (8 - (lg_sl ([.ref a, .int x1])).length) Slot.unset).toArray = ls at hl ⊢
  have hl : lv_has ls 8 [(0, .ref a), (1, .int x1)] := hl
  have hf : mo_fr a ad h h := mo_fr.rf
  rw [q_MO_workFormula] at hq
  refine lv_iconst (v := 0) hx hb d_MO_workFormula_0 (by decide) ?_
  refine lv_istore_n (lv' := [(2, .int 0), (0, .ref a), (1, .int x1)]) hx hb d_MO_workFormula_1 rfl hl (by decide) rfl (fun ls hl => ?_)
  refine lv_bipush (v := 40) hx hb d_MO_workFormula_2 (by decide) ?_
  refine lv_iload_n hx hb d_MO_workFormula_4 rfl (lv_at hl 2 rfl) ?_
  refine lv_imul hx hb d_MO_workFormula_5 ?_
  refine lv_istore_n (lv' := [(3, .int (40 * x1)), (2, .int 0), (0, .ref a), (1, .int x1)]) hx hb d_MO_workFormula_6 rfl hl (by decide) rfl (fun ls hl => ?_)
  obtain ⟨R949, eR949, hq⟩ := fs_bind_some hq
  refine l_MO_workFormula_7 hSt B ⟨Nat.le_of_ble_eq_true rfl, Nat.le_of_ble_eq_true rfl⟩ 41 x1 0 (40 * x1) M _ _ _ _ R949 eR949 hP hS hM hf (lv_sub hl [2, 3, 1, 0] rfl) (fun h_ H locs ls hP hS hM hf hl => ?_)
  refine lv_aload_n hx hb d_MO_workFormula_277 rfl (lv_at hl 0 rfl) ?_
  refine fs_get (v := .ref (ad 17)) hx hb hts hown hK c_MO hP hM.1 17 (by decide) (hts _ (fs_tb_at 1473 tw_1473 rfl)) (fun _ h9 => h9) rfl d_MO_workFormula_278 ?_
  refine lv_iload_n hx hb d_MO_workFormula_281 rfl (lv_at hl 1 rfl) ?_
  refine lv_aload_n hx hb d_MO_workFormula_282 rfl (lv_at hl 0 rfl) ?_
  refine fs_get (v := .ref (ad 20)) hx hb hts hown hK c_MO hP hM.1 20 (by decide) (hts _ (fs_tb_at 1476 tw_1476 rfl)) (fun _ h9 => h9) rfl d_MO_workFormula_283 ?_
  refine lv_iconst (v := 0) hx hb d_MO_workFormula_286 (by decide) ?_
  obtain ⟨hi_, hq⟩ := fs_okp_some hq
  refine fs_dald (f := R949.2.2.2 20) hx hb hK hP 2 (hM.2.1 20 2 44 rfl) rfl hi_ d_MO_workFormula_287 ?_
  obtain ⟨hi_, hq⟩ := fs_okp_some hq
  refine fs_dast hx hb hK hP hS 2 (hM.2.1 17 2 80 rfl) rfl hi_ d_MO_workFormula_288 (fun H locs hP hS => ?_)
  obtain ⟨h950, hP, hM, hf⟩ : ∃ x, fs_P G.1 fs_cl (fs_A s00) x H ∧ mo_at G x a ad (mo_d R949 17 (Int32.toNatClampNeg x1) (R949.2.2.2 20 (Int32.toNatClampNeg 0))) ∧ mo_fr a ad h x := ⟨_, hP, hM.D (j := 17) (k := (Int32.toNatClampNeg x1)) (x := (R949.2.2.2 20 (Int32.toNatClampNeg 0))) rfl, hf.arr (j := 17) (by decide)⟩
  refine lv_aload_n hx hb d_MO_workFormula_289 rfl (lv_at hl 0 rfl) ?_
  refine fs_get (v := .ref (ad 18)) hx hb hts hown hK c_MO hP hM.1 18 (by decide) (hts _ (fs_tb_at 1474 tw_1474 rfl)) (fun _ h9 => h9) rfl d_MO_workFormula_290 ?_
  refine lv_iload_n hx hb d_MO_workFormula_293 rfl (lv_at hl 1 rfl) ?_
  refine lv_aload_n hx hb d_MO_workFormula_294 rfl (lv_at hl 0 rfl) ?_
  refine fs_get (v := .ref (ad 21)) hx hb hts hown hK c_MO hP hM.1 21 (by decide) (hts _ (fs_tb_at 1477 tw_1477 rfl)) (fun _ h9 => h9) rfl d_MO_workFormula_295 ?_
  refine lv_iconst (v := 0) hx hb d_MO_workFormula_298 (by decide) ?_
  obtain ⟨hi_, hq⟩ := fs_okp_some hq
  refine fs_zald (f := R949.2.1 21) hx hb hK hP 3 (hM.2.1 21 3 44 rfl) rfl hi_ d_MO_workFormula_299 ?_
  obtain ⟨hi_, hq⟩ := fs_okp_some hq
  refine fs_zast hx hb hK hP hS 3 (hM.2.1 18 3 80 rfl) rfl hi_ d_MO_workFormula_300 (fun H locs hP hS => ?_)
  obtain ⟨h951, hP, hM, hf⟩ : ∃ x, fs_P G.1 fs_cl (fs_A s00) x H ∧ mo_at G x a ad (mo_i (mo_d R949 17 (Int32.toNatClampNeg x1) (R949.2.2.2 20 (Int32.toNatClampNeg 0))) 18 (Int32.toNatClampNeg x1) (vp_nar .boolean (R949.2.1 21 (Int32.toNatClampNeg 0)))) ∧ mo_fr a ad h x := ⟨_, hP, hM.I (j := 18) (t := 3) (k := (Int32.toNatClampNeg x1)) (x := (vp_nar .boolean (R949.2.1 21 (Int32.toNatClampNeg 0)))) rfl (fun _ => rfl), hf.arr (j := 18) (by decide)⟩
  cases hq
  exact fs_vret hx hb hr hlocks hw hP hS (by omega) (by omega) (⟨rfl, hM, hf⟩) d_MO_workFormula_301
noncomputable def q_MO_work_L19_J79 (self : Int32 → mo_S → Option (mo_S)) (z1 : Int32) (w0 : Int32) (w1 : Int32) (M1 : mo_S) : Option (mo_S) := fs_okp (vp_in w1 80) (fs_okp (vp_in z1 81) ((if (M1.2.1 0 (Int32.toNatClampNeg z1)) < 2 then fs_okp (vp_in z1 80) (self (z1 + 1) (mo_i (mo_i M1 18 (Int32.toNatClampNeg w1) (vp_nar .boolean w0)) 19 (Int32.toNatClampNeg z1) (vp_nar .boolean 1))) else fs_okp (vp_in z1 80) ((if ((mo_i M1 18 (Int32.toNatClampNeg w1) (vp_nar .boolean w0)).2.1 18 (Int32.toNatClampNeg z1)) = 0 then fs_okp (vp_in z1 80) (self (z1 + 1) (mo_i (mo_i M1 18 (Int32.toNatClampNeg w1) (vp_nar .boolean w0)) 19 (Int32.toNatClampNeg z1) (vp_nar .boolean 0))) else fs_okp (vp_in z1 80) (self (z1 + 1) (mo_i (mo_i M1 18 (Int32.toNatClampNeg w1) (vp_nar .boolean w0)) 19 (Int32.toNatClampNeg z1) (vp_nar .boolean 1))))))))
noncomputable def q_MO_work_L19_J78 (self : Int32 → mo_S → Option (mo_S)) (z1 : Int32) (w0 : Int32) (M1 : mo_S) : Option (mo_S) := q_MO_work_L19_J79 self z1 0 w0 M1
noncomputable def q_MO_work_L19_J50 (self : Int32 → mo_S → Option (mo_S)) (z1 : Int32) (w0 : UInt64) (w1 : Int32) (M1 : mo_S) : Option (mo_S) := fs_okp (vp_in w1 80) (fs_okp (vp_in z1 81) ((if (M1.2.1 0 (Int32.toNatClampNeg z1)) = 2 then fs_okp ((0 ≤ (Int32.toInt z1)) ∧ ((Int32.toInt z1) < 80)) ((if ((p_MO_circular (mo_d M1 17 (Int32.toNatClampNeg w1) w0) z1).1) = 0 then q_MO_work_L19_J78 self z1 z1 (mo_d M1 17 (Int32.toNatClampNeg w1) w0) else q_MO_work_L19_J79 self z1 1 z1 (mo_d M1 17 (Int32.toNatClampNeg w1) w0))) else q_MO_work_L19_J78 self z1 z1 (mo_d M1 17 (Int32.toNatClampNeg w1) w0))))
noncomputable def q_MO_work_L19 : Nat → Int32 → mo_S → Option (mo_S)
  | 0, _, _ => none
  | n + 1, z1, M1 => (if 80 ≤ z1 then some (M1) else fs_okp (vp_in z1 81) ((if (M1.2.1 0 (Int32.toNatClampNeg z1)) = 1 then fs_okp (vp_in z1 81) (q_MO_work_L19_J50 (q_MO_work_L19 n) z1 (M1.2.2.2 2 (Int32.toNatClampNeg z1)) z1 M1) else q_MO_work_L19_J50 (q_MO_work_L19 n) z1 FP.dconst0 z1 M1)))
noncomputable def q_MO_work_L126 : Nat → Int32 → Int32 → mo_S → Option (Int32 × mo_S)
  | 0, _, _, _ => none
  | n + 1, z1, z2, M1 => (if 80 ≤ z2 then some (z1, M1) else fs_okp (vp_in z2 80) ((if (M1.2.1 19 (Int32.toNatClampNeg z2)) = 0 then fs_okp ((0 ≤ (Int32.toInt z2)) ∧ ((Int32.toInt z2) < 80)) (fs_let (p_MO_ready M1 z2) (fun R1000 => (if R1000.1 = 0 then (q_MO_work_L126 n) z1 (z2 + 1) R1000.2 else Option.bind (q_MO_workFormula R1000.2 z2) (fun R1002 => fs_okp (vp_in z2 80) ((q_MO_work_L126 n) 1 (z2 + 1) (mo_i R1002 19 (Int32.toNatClampNeg z2) (vp_nar .boolean 1))))))) else (q_MO_work_L126 n) z1 (z2 + 1) M1)))
noncomputable def q_MO_work_L118 : Nat → Int32 → mo_S → Option (mo_S)
  | 0, _, _ => none
  | n + 1, z1, M1 => (if z1 = 0 then some (M1) else Option.bind (q_MO_work_L126 81 0 0 M1) (fun R1004 => (q_MO_work_L118 n) R1004.1 R1004.2))
noncomputable def q_MO_work (M : mo_S)  : Option (mo_S) := (if (M.1 12) = 0 then some M else fs_okp ((mo_sz (mo_f M 12 0))) (fs_let (p_MO_findReferences (mo_f M 12 0) ) (fun R984 => Option.bind (q_MO_work_L19 81 0 R984) (fun R996 => Option.bind (q_MO_work_L118 82 1 R996) (fun R1005 => some R1005)))))
set_option maxHeartbeats 4000000 in
set_option maxRecDepth 100000 in
theorem l_MO_work_19 {p : Program} {l : Launch} {e : Env} {R : Room} {s : State} {m : MethodId} {args : Array Value} {below : List Frame} {meth : Method} {c : Code} {Q : State → Prop} {s00 : State} {G : fs_G} (hSt : fs_St l s00 G) (B : fs_B p l e s m args meth c s00 G y_MO_work b_MO_work 3 none) {h : fs_Hp} {a : Nat} {ad : Nat → Nat} (hR : 3 ≤ R.frames ∧ 61 ≤ R.locals) : ∀ (n : Nat) (z1 : Int32) (M1 : mo_S) (h1 : fs_Hp) (H : Heap) (locs : List Loc) (ls : Array Slot) (r : mo_S), q_MO_work_L19 n z1 M1 = some r → fs_P G.1 fs_cl (fs_A s00) h1 H → va_S (fs_A s00) s00.heap H locs → mo_at G h1 a ad M1 → mo_fr a ad h h1 → lv_has ls 3 [(0, .ref a), (1, .int z1)] → (∀ (h' : fs_Hp) (H : Heap) (locs : List Loc) (ls : Array Slot), fs_P G.1 fs_cl (fs_A s00) h' H → va_S (fs_A s00) s00.heap H locs → mo_at G h' a ad r → mo_fr a ad h h' → lv_has ls 3 [(0, .ref a)] → W p l e R s m args below meth c H locs 0 0 Q (F0 m 116 ls [])) → W p l e R s m args below meth c H locs 0 0 Q (F0 m 19 ls []) := by
  obtain ⟨hx, hb, hr, hml, hown, hts, hlocks, hname, hK, hw, htr⟩ := id B
  have hown : s.vm.findClass "FormulaSheetModel" = some m.cls := hown
  intro n
  induction n with
  | zero => intro z1 M1 h1 H locs ls r hq; rw [q_MO_work_L19] at hq; cases hq
  | succ n ih =>
    intro z1 M1 h1 H locs ls r hq hP hS hM hf hl kk
    rw [q_MO_work_L19] at hq
    have hJ79 : ∀ (z1 : Int32) (w0 : Int32) (w1 : Int32) (M1 : mo_S) (h1 : fs_Hp) (H : Heap) (locs : List Loc) (ls : Array Slot), q_MO_work_L19_J79 (q_MO_work_L19 n) z1 w0 w1 M1 = some r → fs_P G.1 fs_cl (fs_A s00) h1 H → va_S (fs_A s00) s00.heap H locs → mo_at G h1 a ad M1 → mo_fr a ad h h1 → lv_has ls 3 [(0, .ref a), (1, .int z1)] → W p l e R s m args below meth c H locs 0 0 Q (F0 m 79 ls (.int w0 :: .int w1 :: .ref (ad 18) :: [])) := by
      intro z1 w0 w1 M1 h1 H locs ls hq hP hS hM hf hl
      rw [q_MO_work_L19_J79] at hq
      obtain ⟨hi_, hq⟩ := fs_okp_some hq
      refine fs_zast hx hb hK hP hS 3 (hM.2.1 18 3 80 rfl) rfl hi_ d_MO_work_79 (fun H locs hP hS => ?_)
      obtain ⟨h985, hP, hM, hf⟩ : ∃ x, fs_P G.1 fs_cl (fs_A s00) x H ∧ mo_at G x a ad (mo_i M1 18 (Int32.toNatClampNeg w1) (vp_nar .boolean w0)) ∧ mo_fr a ad h x := ⟨_, hP, hM.I (j := 18) (t := 3) (k := (Int32.toNatClampNeg w1)) (x := (vp_nar .boolean w0)) rfl (fun _ => rfl), hf.arr (j := 18) (by decide)⟩
      refine lv_aload_n hx hb d_MO_work_80 rfl (lv_at hl 0 rfl) ?_
      refine fs_get (v := .ref (ad 19)) hx hb hts hown hK c_MO hP hM.1 19 (by decide) (hts _ (fs_tb_at 1475 tw_1475 rfl)) (fun _ h9 => h9) rfl d_MO_work_81 ?_
      refine lv_iload_n hx hb d_MO_work_84 rfl (lv_at hl 1 rfl) ?_
      refine lv_aload_n hx hb d_MO_work_85 rfl (lv_at hl 0 rfl) ?_
      refine fs_get (v := .ref (ad 0)) hx hb hts hown hK c_MO hP hM.1 0 (by decide) (hts _ (fs_tb_at 1456 tw_1456 rfl)) (fun _ h9 => h9) rfl d_MO_work_86 ?_
      refine lv_iload_n hx hb d_MO_work_89 rfl (lv_at hl 1 rfl) ?_
      obtain ⟨hi_, hq⟩ := fs_okp_some hq
      refine fs_iald (f := M1.2.1 0) hx hb hK hP 0 (hM.2.1 0 0 81 rfl) rfl hi_ d_MO_work_90 ?_
      refine lv_iconst (v := 2) hx hb d_MO_work_91 (by decide) ?_
      refine lv_icmp_lt (tgt := 104) hx hb d_MO_work_92 (by decide) (fun c_986 => ?_) (fun c_986 => ?_)
      · have hq := fs_ifp c_986 hq
        refine lv_iconst (v := 1) hx hb d_MO_work_104 (by decide) ?_
        refine lv_goto (tgt := 109) hx hb d_MO_work_105 (by decide) ?_
        obtain ⟨hi_, hq⟩ := fs_okp_some hq
        refine fs_zast hx hb hK hP hS 3 (hM.2.1 19 3 80 rfl) rfl hi_ d_MO_work_109 (fun H locs hP hS => ?_)
        obtain ⟨h987, hP, hM, hf⟩ : ∃ x, fs_P G.1 fs_cl (fs_A s00) x H ∧ mo_at G x a ad (mo_i (mo_i M1 18 (Int32.toNatClampNeg w1) (vp_nar .boolean w0)) 19 (Int32.toNatClampNeg z1) (vp_nar .boolean 1)) ∧ mo_fr a ad h x := ⟨_, hP, hM.I (j := 19) (t := 3) (k := (Int32.toNatClampNeg z1)) (x := (vp_nar .boolean 1)) rfl (fun _ => rfl), hf.arr (j := 19) (by decide)⟩
        refine lv_iinc (v := z1 + 1) (lv' := [(1, .int (z1 + 1)), (0, .ref a)]) hx hb d_MO_work_110 hl (k := 1) rfl rfl (by decide) rfl (fun ls hl => ?_)
        refine lv_goto (tgt := 19) hx hb d_MO_work_113 (by decide) ?_
        exact ih (z1 + 1) (mo_i (mo_i M1 18 (Int32.toNatClampNeg w1) (vp_nar .boolean w0)) 19 (Int32.toNatClampNeg z1) (vp_nar .boolean 1)) _ _ _ _ r hq hP hS hM hf (lv_sub hl [1, 0] rfl) kk
      · have hq := fs_ifn c_986 hq
        refine lv_aload_n hx hb d_MO_work_95 rfl (lv_at hl 0 rfl) ?_
        refine fs_get (v := .ref (ad 18)) hx hb hts hown hK c_MO hP hM.1 18 (by decide) (hts _ (fs_tb_at 1474 tw_1474 rfl)) (fun _ h9 => h9) rfl d_MO_work_96 ?_
        refine lv_iload_n hx hb d_MO_work_99 rfl (lv_at hl 1 rfl) ?_
        obtain ⟨hi_, hq⟩ := fs_okp_some hq
        refine fs_zald (f := (mo_i M1 18 (Int32.toNatClampNeg w1) (vp_nar .boolean w0)).2.1 18) hx hb hK hP 3 (hM.2.1 18 3 80 rfl) rfl hi_ d_MO_work_100 ?_
        refine lv_if_eq (tgt := 108) hx hb d_MO_work_101 (by decide) (fun c_988 => ?_) (fun c_988 => ?_)
        · have hq := fs_ifp c_988 hq
          refine lv_iconst (v := 0) hx hb d_MO_work_108 (by decide) ?_
          obtain ⟨hi_, hq⟩ := fs_okp_some hq
          refine fs_zast hx hb hK hP hS 3 (hM.2.1 19 3 80 rfl) rfl hi_ d_MO_work_109 (fun H locs hP hS => ?_)
          obtain ⟨h989, hP, hM, hf⟩ : ∃ x, fs_P G.1 fs_cl (fs_A s00) x H ∧ mo_at G x a ad (mo_i (mo_i M1 18 (Int32.toNatClampNeg w1) (vp_nar .boolean w0)) 19 (Int32.toNatClampNeg z1) (vp_nar .boolean 0)) ∧ mo_fr a ad h x := ⟨_, hP, hM.I (j := 19) (t := 3) (k := (Int32.toNatClampNeg z1)) (x := (vp_nar .boolean 0)) rfl (fun _ => rfl), hf.arr (j := 19) (by decide)⟩
          refine lv_iinc (v := z1 + 1) (lv' := [(1, .int (z1 + 1)), (0, .ref a)]) hx hb d_MO_work_110 hl (k := 1) rfl rfl (by decide) rfl (fun ls hl => ?_)
          refine lv_goto (tgt := 19) hx hb d_MO_work_113 (by decide) ?_
          exact ih (z1 + 1) (mo_i (mo_i M1 18 (Int32.toNatClampNeg w1) (vp_nar .boolean w0)) 19 (Int32.toNatClampNeg z1) (vp_nar .boolean 0)) _ _ _ _ r hq hP hS hM hf (lv_sub hl [1, 0] rfl) kk
        · have hq := fs_ifn c_988 hq
          refine lv_iconst (v := 1) hx hb d_MO_work_104 (by decide) ?_
          refine lv_goto (tgt := 109) hx hb d_MO_work_105 (by decide) ?_
          obtain ⟨hi_, hq⟩ := fs_okp_some hq
          refine fs_zast hx hb hK hP hS 3 (hM.2.1 19 3 80 rfl) rfl hi_ d_MO_work_109 (fun H locs hP hS => ?_)
          obtain ⟨h990, hP, hM, hf⟩ : ∃ x, fs_P G.1 fs_cl (fs_A s00) x H ∧ mo_at G x a ad (mo_i (mo_i M1 18 (Int32.toNatClampNeg w1) (vp_nar .boolean w0)) 19 (Int32.toNatClampNeg z1) (vp_nar .boolean 1)) ∧ mo_fr a ad h x := ⟨_, hP, hM.I (j := 19) (t := 3) (k := (Int32.toNatClampNeg z1)) (x := (vp_nar .boolean 1)) rfl (fun _ => rfl), hf.arr (j := 19) (by decide)⟩
          refine lv_iinc (v := z1 + 1) (lv' := [(1, .int (z1 + 1)), (0, .ref a)]) hx hb d_MO_work_110 hl (k := 1) rfl rfl (by decide) rfl (fun ls hl => ?_)
          refine lv_goto (tgt := 19) hx hb d_MO_work_113 (by decide) ?_
          exact ih (z1 + 1) (mo_i (mo_i M1 18 (Int32.toNatClampNeg w1) (vp_nar .boolean w0)) 19 (Int32.toNatClampNeg z1) (vp_nar .boolean 1)) _ _ _ _ r hq hP hS hM hf (lv_sub hl [1, 0] rfl) kk
    have hJ78 : ∀ (z1 : Int32) (w0 : Int32) (M1 : mo_S) (h1 : fs_Hp) (H : Heap) (locs : List Loc) (ls : Array Slot), q_MO_work_L19_J78 (q_MO_work_L19 n) z1 w0 M1 = some r → fs_P G.1 fs_cl (fs_A s00) h1 H → va_S (fs_A s00) s00.heap H locs → mo_at G h1 a ad M1 → mo_fr a ad h h1 → lv_has ls 3 [(0, .ref a), (1, .int z1)] → W p l e R s m args below meth c H locs 0 0 Q (F0 m 78 ls (.int w0 :: .ref (ad 18) :: [])) := by
      intro z1 w0 M1 h1 H locs ls hq hP hS hM hf hl
      rw [q_MO_work_L19_J78] at hq
      refine lv_iconst (v := 0) hx hb d_MO_work_78 (by decide) ?_
      exact hJ79 z1 0 w0 M1 _ _ _ _ hq hP hS hM hf (lv_sub hl [0, 1] rfl)
    have hJ50 : ∀ (z1 : Int32) (w0 : UInt64) (w1 : Int32) (M1 : mo_S) (h1 : fs_Hp) (H : Heap) (locs : List Loc) (ls : Array Slot), q_MO_work_L19_J50 (q_MO_work_L19 n) z1 w0 w1 M1 = some r → fs_P G.1 fs_cl (fs_A s00) h1 H → va_S (fs_A s00) s00.heap H locs → mo_at G h1 a ad M1 → mo_fr a ad h h1 → lv_has ls 3 [(0, .ref a), (1, .int z1)] → W p l e R s m args below meth c H locs 0 0 Q (F0 m 50 ls (.double w0 :: .int w1 :: .ref (ad 17) :: [])) := by
      intro z1 w0 w1 M1 h1 H locs ls hq hP hS hM hf hl
      rw [q_MO_work_L19_J50] at hq
      obtain ⟨hi_, hq⟩ := fs_okp_some hq
      refine fs_dast hx hb hK hP hS 2 (hM.2.1 17 2 80 rfl) rfl hi_ d_MO_work_50 (fun H locs hP hS => ?_)
      obtain ⟨h991, hP, hM, hf⟩ : ∃ x, fs_P G.1 fs_cl (fs_A s00) x H ∧ mo_at G x a ad (mo_d M1 17 (Int32.toNatClampNeg w1) w0) ∧ mo_fr a ad h x := ⟨_, hP, hM.D (j := 17) (k := (Int32.toNatClampNeg w1)) (x := w0) rfl, hf.arr (j := 17) (by decide)⟩
      refine lv_aload_n hx hb d_MO_work_51 rfl (lv_at hl 0 rfl) ?_
      refine fs_get (v := .ref (ad 18)) hx hb hts hown hK c_MO hP hM.1 18 (by decide) (hts _ (fs_tb_at 1474 tw_1474 rfl)) (fun _ h9 => h9) rfl d_MO_work_52 ?_
      refine lv_iload_n hx hb d_MO_work_55 rfl (lv_at hl 1 rfl) ?_
      refine lv_aload_n hx hb d_MO_work_56 rfl (lv_at hl 0 rfl) ?_
      refine fs_get (v := .ref (ad 0)) hx hb hts hown hK c_MO hP hM.1 0 (by decide) (hts _ (fs_tb_at 1456 tw_1456 rfl)) (fun _ h9 => h9) rfl d_MO_work_57 ?_
      refine lv_iload_n hx hb d_MO_work_60 rfl (lv_at hl 1 rfl) ?_
      obtain ⟨hi_, hq⟩ := fs_okp_some hq
      refine fs_iald (f := M1.2.1 0) hx hb hK hP 0 (hM.2.1 0 0 81 rfl) rfl hi_ d_MO_work_61 ?_
      refine lv_iconst (v := 2) hx hb d_MO_work_62 (by decide) ?_
      refine lv_icmp_ne (tgt := 78) hx hb d_MO_work_63 (by decide) (fun c_992 => ?_) (fun c_992 => ?_)
      · have hq := fs_ifn c_992 hq
        exact hJ78 z1 z1 (mo_d M1 17 (Int32.toNatClampNeg w1) w0) _ _ _ _ hq hP hS hM hf (lv_sub hl [0, 1] rfl)
      · have hq := fs_ifp c_992 hq
        refine lv_aload_n hx hb d_MO_work_66 rfl (lv_at hl 0 rfl) ?_
        refine lv_iload_n hx hb d_MO_work_67 rfl (lv_at hl 1 rfl) ?_
        obtain ⟨⟨b0_, b1_⟩, hq⟩ := fs_okp_some hq
        refine fs_cV B hl.1 hP hS (k_MO_circular hSt hM z1 b0_ b1_) (fs_tb_at 1698 tw_1698 rfl) hM.1 rfl (fs_tb_at 1700 tw_1700 rfl) (fs_tb_at 62 tw_62 rfl) (fs_tb_at 96 tw_96 rfl) (fs_tb_at 1701 tw_1701 rfl) (by decide) (show (parseMethodDescriptor y_MO_circular.desc).map (fun d => d.parameters.length) = some 1 by decide +kernel) rfl d_MO_work_68 ⟨Nat.le_trans (Nat.le_of_ble_eq_true rfl) hR.1, Nat.le_trans (Nat.le_of_ble_eq_true rfl) hR.2, Nat.zero_le _, Nat.zero_le _⟩ (fun v_ h_ H locs hc_ hP hS => ?_) (fun C_ a_ h_ H locs hc_ => absurd hc_.1 (fun h9 => by cases h9))
        obtain ⟨ev, hM, hf2⟩ := hc_
        cases ev
        have hf := hf.trans hf2
        rw [ke_MO_circular] at hM
        refine W.widen (k := 0) (n := 0) (Nat.le_of_ble_eq_true rfl) (Nat.le_of_ble_eq_true rfl) ?_
        refine W.eq (g2 := F0 m 71 ls (.int ((p_MO_circular (mo_d M1 17 (Int32.toNatClampNeg w1) w0) z1).1) :: .int z1 :: .ref (ad 18) :: [])) rfl ?_
        refine lv_if_eq (tgt := 78) hx hb d_MO_work_71 (by decide) (fun c_993 => ?_) (fun c_993 => ?_)
        · have hq := fs_ifp c_993 hq
          exact hJ78 z1 z1 (mo_d M1 17 (Int32.toNatClampNeg w1) w0) _ _ _ _ hq hP hS hM hf (lv_sub hl [0, 1] rfl)
        · have hq := fs_ifn c_993 hq
          refine lv_iconst (v := 1) hx hb d_MO_work_74 (by decide) ?_
          refine lv_goto (tgt := 79) hx hb d_MO_work_75 (by decide) ?_
          exact hJ79 z1 1 z1 (mo_d M1 17 (Int32.toNatClampNeg w1) w0) _ _ _ _ hq hP hS hM hf (lv_sub hl [0, 1] rfl)
    refine lv_iload_n hx hb d_MO_work_19 rfl (lv_at hl 1 rfl) ?_
    refine lv_bipush (v := 80) hx hb d_MO_work_20 (by decide) ?_
    refine lv_icmp_ge (tgt := 116) hx hb d_MO_work_22 (by decide) (fun c_994 => ?_) (fun c_994 => ?_)
    · have hq := fs_ifp c_994 hq
      cases hq
      exact kk _ _ _ _ hP hS hM hf (lv_sub hl [0] rfl)
    · have hq := fs_ifn c_994 hq
      refine lv_aload_n hx hb d_MO_work_25 rfl (lv_at hl 0 rfl) ?_
      refine fs_get (v := .ref (ad 17)) hx hb hts hown hK c_MO hP hM.1 17 (by decide) (hts _ (fs_tb_at 1473 tw_1473 rfl)) (fun _ h9 => h9) rfl d_MO_work_26 ?_
      refine lv_iload_n hx hb d_MO_work_29 rfl (lv_at hl 1 rfl) ?_
      refine lv_aload_n hx hb d_MO_work_30 rfl (lv_at hl 0 rfl) ?_
      refine fs_get (v := .ref (ad 0)) hx hb hts hown hK c_MO hP hM.1 0 (by decide) (hts _ (fs_tb_at 1456 tw_1456 rfl)) (fun _ h9 => h9) rfl d_MO_work_31 ?_
      refine lv_iload_n hx hb d_MO_work_34 rfl (lv_at hl 1 rfl) ?_
      obtain ⟨hi_, hq⟩ := fs_okp_some hq
      refine fs_iald (f := M1.2.1 0) hx hb hK hP 0 (hM.2.1 0 0 81 rfl) rfl hi_ d_MO_work_35 ?_
      refine lv_iconst (v := 1) hx hb d_MO_work_36 (by decide) ?_
      refine lv_icmp_ne (tgt := 49) hx hb d_MO_work_37 (by decide) (fun c_995 => ?_) (fun c_995 => ?_)
      · have hq := fs_ifn c_995 hq
        refine lv_dconst0 hx hb d_MO_work_49 ?_
        exact hJ50 z1 FP.dconst0 z1 M1 _ _ _ _ hq hP hS hM hf (lv_sub hl [0, 1] rfl)
      · have hq := fs_ifp c_995 hq
        refine lv_aload_n hx hb d_MO_work_40 rfl (lv_at hl 0 rfl) ?_
        refine fs_get (v := .ref (ad 2)) hx hb hts hown hK c_MO hP hM.1 2 (by decide) (hts _ (fs_tb_at 1458 tw_1458 rfl)) (fun _ h9 => h9) rfl d_MO_work_41 ?_
        refine lv_iload_n hx hb d_MO_work_44 rfl (lv_at hl 1 rfl) ?_
        obtain ⟨hi_, hq⟩ := fs_okp_some hq
        refine fs_dald (f := M1.2.2.2 2) hx hb hK hP 2 (hM.2.1 2 2 81 rfl) rfl hi_ d_MO_work_45 ?_
        refine lv_goto (tgt := 50) hx hb d_MO_work_46 (by decide) ?_
        exact hJ50 z1 (M1.2.2.2 2 (Int32.toNatClampNeg z1)) z1 M1 _ _ _ _ hq hP hS hM hf (lv_sub hl [0, 1] rfl)
set_option maxHeartbeats 4000000 in
set_option maxRecDepth 100000 in
theorem l_MO_work_126 {p : Program} {l : Launch} {e : Env} {R : Room} {s : State} {m : MethodId} {args : Array Value} {below : List Frame} {meth : Method} {c : Code} {Q : State → Prop} {s00 : State} {G : fs_G} (hSt : fs_St l s00 G) (B : fs_B p l e s m args meth c s00 G y_MO_work b_MO_work 3 none) {h : fs_Hp} {a : Nat} {ad : Nat → Nat} (hR : 3 ≤ R.frames ∧ 61 ≤ R.locals) : ∀ (n : Nat) (z1 : Int32) (z2 : Int32) (M1 : mo_S) (h1 : fs_Hp) (H : Heap) (locs : List Loc) (ls : Array Slot) (r : Int32 × mo_S), q_MO_work_L126 n z1 z2 M1 = some r → fs_P G.1 fs_cl (fs_A s00) h1 H → va_S (fs_A s00) s00.heap H locs → mo_at G h1 a ad M1 → mo_fr a ad h h1 → lv_has ls 3 [(0, .ref a), (1, .int z1), (2, .int z2)] → (∀ (h' : fs_Hp) (H : Heap) (locs : List Loc) (ls : Array Slot), fs_P G.1 fs_cl (fs_A s00) h' H → va_S (fs_A s00) s00.heap H locs → mo_at G h' a ad r.2 → mo_fr a ad h h' → lv_has ls 3 [(0, .ref a), (1, .int r.1)] → W p l e R s m args below meth c H locs 0 0 Q (F0 m 172 ls [])) → W p l e R s m args below meth c H locs 0 0 Q (F0 m 126 ls []) := by
  obtain ⟨hx, hb, hr, hml, hown, hts, hlocks, hname, hK, hw, htr⟩ := id B
  have hown : s.vm.findClass "FormulaSheetModel" = some m.cls := hown
  intro n
  induction n with
  | zero => intro z1 z2 M1 h1 H locs ls r hq; rw [q_MO_work_L126] at hq; cases hq
  | succ n ih =>
    intro z1 z2 M1 h1 H locs ls r hq hP hS hM hf hl kk
    rw [q_MO_work_L126] at hq
    refine lv_iload_n hx hb d_MO_work_126 rfl (lv_at hl 2 rfl) ?_
    refine lv_bipush (v := 80) hx hb d_MO_work_127 (by decide) ?_
    refine lv_icmp_ge (tgt := 172) hx hb d_MO_work_129 (by decide) (fun c_998 => ?_) (fun c_998 => ?_)
    · have hq := fs_ifp c_998 hq
      cases hq
      exact kk _ _ _ _ hP hS hM hf (lv_sub hl [0, 1] rfl)
    · have hq := fs_ifn c_998 hq
      refine lv_aload_n hx hb d_MO_work_132 rfl (lv_at hl 0 rfl) ?_
      refine fs_get (v := .ref (ad 19)) hx hb hts hown hK c_MO hP hM.1 19 (by decide) (hts _ (fs_tb_at 1475 tw_1475 rfl)) (fun _ h9 => h9) rfl d_MO_work_133 ?_
      refine lv_iload_n hx hb d_MO_work_136 rfl (lv_at hl 2 rfl) ?_
      obtain ⟨hi_, hq⟩ := fs_okp_some hq
      refine fs_zald (f := M1.2.1 19) hx hb hK hP 3 (hM.2.1 19 3 80 rfl) rfl hi_ d_MO_work_137 ?_
      refine lv_if_ne (tgt := 166) hx hb d_MO_work_138 (by decide) (fun c_999 => ?_) (fun c_999 => ?_)
      · have hq := fs_ifn c_999 hq
        refine lv_iinc (v := z2 + 1) (lv' := [(2, .int (z2 + 1)), (0, .ref a), (1, .int z1)]) hx hb d_MO_work_166 hl (k := 2) rfl rfl (by decide) rfl (fun ls hl => ?_)
        refine lv_goto (tgt := 126) hx hb d_MO_work_169 (by decide) ?_
        exact ih z1 (z2 + 1) M1 _ _ _ _ r hq hP hS hM hf (lv_sub hl [1, 2, 0] rfl) kk
      · have hq := fs_ifp c_999 hq
        refine lv_aload_n hx hb d_MO_work_141 rfl (lv_at hl 0 rfl) ?_
        refine lv_iload_n hx hb d_MO_work_142 rfl (lv_at hl 2 rfl) ?_
        obtain ⟨⟨b0_, b1_⟩, hq⟩ := fs_okp_some hq
        obtain ⟨R1000, eR1000, hq⟩ := fs_let_some hq
        refine fs_cV B hl.1 hP hS (k_MO_ready hSt hM z2 b0_ b1_) (fs_tb_at 1702 tw_1702 rfl) hM.1 rfl (fs_tb_at 1704 tw_1704 rfl) (fs_tb_at 63 tw_63 rfl) (fs_tb_at 96 tw_96 rfl) (fs_tb_at 1705 tw_1705 rfl) (by decide) (show (parseMethodDescriptor y_MO_ready.desc).map (fun d => d.parameters.length) = some 1 by decide +kernel) rfl d_MO_work_143 ⟨Nat.le_trans (Nat.le_of_ble_eq_true rfl) hR.1, Nat.le_trans (Nat.le_of_ble_eq_true rfl) hR.2, Nat.zero_le _, Nat.zero_le _⟩ (fun v_ h_ H locs hc_ hP hS => ?_) (fun C_ a_ h_ H locs hc_ => absurd hc_.1 (fun h9 => by cases h9))
        obtain ⟨ev, hM, hf2⟩ := hc_
        cases ev
        have hf := hf.trans hf2
        rw [← eR1000] at hM
        refine W.widen (k := 0) (n := 0) (Nat.le_of_ble_eq_true rfl) (Nat.le_of_ble_eq_true rfl) ?_
        refine W.eq (g2 := F0 m 146 ls (.int R1000.1 :: [])) (by rw [eR1000]; rfl) ?_
        refine lv_if_ne (tgt := 152) hx hb d_MO_work_146 (by decide) (fun c_1001 => ?_) (fun c_1001 => ?_)
        · have hq := fs_ifn c_1001 hq
          refine lv_aload_n hx hb d_MO_work_152 rfl (lv_at hl 0 rfl) ?_
          refine lv_iload_n hx hb d_MO_work_153 rfl (lv_at hl 2 rfl) ?_
          obtain ⟨R1002, eR1002, hq⟩ := fs_bind_some hq
          refine fs_cV B hl.1 hP hS (k_MO_workFormula hSt hM z2 eR1002) (fs_tb_at 1706 tw_1706 rfl) hM.1 rfl (fs_tb_at 1708 tw_1708 rfl) (fs_tb_at 64 tw_64 rfl) (fs_tb_at 96 tw_96 rfl) (fs_tb_at 1709 tw_1709 rfl) (by decide) (show (parseMethodDescriptor y_MO_workFormula.desc).map (fun d => d.parameters.length) = some 1 by decide +kernel) rfl d_MO_work_154 ⟨Nat.le_trans (Nat.le_of_ble_eq_true rfl) hR.1, Nat.le_trans (Nat.le_of_ble_eq_true rfl) hR.2, Nat.zero_le _, Nat.zero_le _⟩ (fun v_ h_ H locs hc_ hP hS => ?_) (fun C_ a_ h_ H locs hc_ => absurd hc_.1 (fun h9 => by cases h9))
          obtain ⟨ev, hM, hf2⟩ := hc_
          cases ev
          have hf := hf.trans hf2
          refine W.widen (k := 0) (n := 0) (Nat.le_of_ble_eq_true rfl) (Nat.le_of_ble_eq_true rfl) ?_
          refine W.eq (g2 := F0 m 157 ls ([])) rfl ?_
          refine lv_aload_n hx hb d_MO_work_157 rfl (lv_at hl 0 rfl) ?_
          refine fs_get (v := .ref (ad 19)) hx hb hts hown hK c_MO hP hM.1 19 (by decide) (hts _ (fs_tb_at 1475 tw_1475 rfl)) (fun _ h9 => h9) rfl d_MO_work_158 ?_
          refine lv_iload_n hx hb d_MO_work_161 rfl (lv_at hl 2 rfl) ?_
          refine lv_iconst (v := 1) hx hb d_MO_work_162 (by decide) ?_
          obtain ⟨hi_, hq⟩ := fs_okp_some hq
          refine fs_zast hx hb hK hP hS 3 (hM.2.1 19 3 80 rfl) rfl hi_ d_MO_work_163 (fun H locs hP hS => ?_)
          obtain ⟨h1003, hP, hM, hf⟩ : ∃ x, fs_P G.1 fs_cl (fs_A s00) x H ∧ mo_at G x a ad (mo_i R1002 19 (Int32.toNatClampNeg z2) (vp_nar .boolean 1)) ∧ mo_fr a ad h x := ⟨_, hP, hM.I (j := 19) (t := 3) (k := (Int32.toNatClampNeg z2)) (x := (vp_nar .boolean 1)) rfl (fun _ => rfl), hf.arr (j := 19) (by decide)⟩
          refine lv_iconst (v := 1) hx hb d_MO_work_164 (by decide) ?_
          refine lv_istore_n (lv' := [(1, .int 1), (0, .ref a), (2, .int z2)]) hx hb d_MO_work_165 rfl hl (by decide) rfl (fun ls hl => ?_)
          refine lv_iinc (v := z2 + 1) (lv' := [(2, .int (z2 + 1)), (1, .int 1), (0, .ref a)]) hx hb d_MO_work_166 hl (k := 2) rfl rfl (by decide) rfl (fun ls hl => ?_)
          refine lv_goto (tgt := 126) hx hb d_MO_work_169 (by decide) ?_
          exact ih 1 (z2 + 1) (mo_i R1002 19 (Int32.toNatClampNeg z2) (vp_nar .boolean 1)) _ _ _ _ r hq hP hS hM hf (lv_sub hl [2, 1, 0] rfl) kk
        · have hq := fs_ifp c_1001 hq
          refine lv_goto (tgt := 166) hx hb d_MO_work_149 (by decide) ?_
          refine lv_iinc (v := z2 + 1) (lv' := [(2, .int (z2 + 1)), (0, .ref a), (1, .int z1)]) hx hb d_MO_work_166 hl (k := 2) rfl rfl (by decide) rfl (fun ls hl => ?_)
          refine lv_goto (tgt := 126) hx hb d_MO_work_169 (by decide) ?_
          exact ih z1 (z2 + 1) R1000.2 _ _ _ _ r hq hP hS hM hf (lv_sub hl [1, 2, 0] rfl) kk
set_option maxHeartbeats 4000000 in
set_option maxRecDepth 100000 in
theorem l_MO_work_118 {p : Program} {l : Launch} {e : Env} {R : Room} {s : State} {m : MethodId} {args : Array Value} {below : List Frame} {meth : Method} {c : Code} {Q : State → Prop} {s00 : State} {G : fs_G} (hSt : fs_St l s00 G) (B : fs_B p l e s m args meth c s00 G y_MO_work b_MO_work 3 none) {h : fs_Hp} {a : Nat} {ad : Nat → Nat} (hR : 3 ≤ R.frames ∧ 61 ≤ R.locals) : ∀ (n : Nat) (z1 : Int32) (M1 : mo_S) (h1 : fs_Hp) (H : Heap) (locs : List Loc) (ls : Array Slot) (r : mo_S), q_MO_work_L118 n z1 M1 = some r → fs_P G.1 fs_cl (fs_A s00) h1 H → va_S (fs_A s00) s00.heap H locs → mo_at G h1 a ad M1 → mo_fr a ad h h1 → lv_has ls 3 [(0, .ref a), (1, .int z1)] → (∀ (h' : fs_Hp) (H : Heap) (locs : List Loc) (ls : Array Slot), fs_P G.1 fs_cl (fs_A s00) h' H → va_S (fs_A s00) s00.heap H locs → mo_at G h' a ad r → mo_fr a ad h h' → lv_has ls 3 [(0, .ref a)] → W p l e R s m args below meth c H locs 0 0 Q (F0 m 175 ls [])) → W p l e R s m args below meth c H locs 0 0 Q (F0 m 118 ls []) := by
  obtain ⟨hx, hb, hr, hml, hown, hts, hlocks, hname, hK, hw, htr⟩ := id B
  have hown : s.vm.findClass "FormulaSheetModel" = some m.cls := hown
  intro n
  induction n with
  | zero => intro z1 M1 h1 H locs ls r hq; rw [q_MO_work_L118] at hq; cases hq
  | succ n ih =>
    intro z1 M1 h1 H locs ls r hq hP hS hM hf hl kk
    rw [q_MO_work_L118] at hq
    refine lv_iload_n hx hb d_MO_work_118 rfl (lv_at hl 1 rfl) ?_
    refine lv_if_eq (tgt := 175) hx hb d_MO_work_119 (by decide) (fun c_997 => ?_) (fun c_997 => ?_)
    · have hq := fs_ifp c_997 hq
      cases hq
      exact kk _ _ _ _ hP hS hM hf (lv_sub hl [0] rfl)
    · have hq := fs_ifn c_997 hq
      refine lv_iconst (v := 0) hx hb d_MO_work_122 (by decide) ?_
      refine lv_istore_n (lv' := [(1, .int 0), (0, .ref a)]) hx hb d_MO_work_123 rfl hl (by decide) rfl (fun ls hl => ?_)
      refine lv_iconst (v := 0) hx hb d_MO_work_124 (by decide) ?_
      refine lv_istore_n (lv' := [(2, .int 0), (1, .int 0), (0, .ref a)]) hx hb d_MO_work_125 rfl hl (by decide) rfl (fun ls hl => ?_)
      obtain ⟨R1004, eR1004, hq⟩ := fs_bind_some hq
      refine l_MO_work_126 hSt B ⟨Nat.le_trans (Nat.le_of_ble_eq_true rfl) hR.1, Nat.le_trans (Nat.le_of_ble_eq_true rfl) hR.2⟩ 81 0 0 M1 _ _ _ _ R1004 eR1004 hP hS hM hf (lv_sub hl [2, 1, 0] rfl) (fun h_ H locs ls hP hS hM hf hl => ?_)
      refine lv_goto (tgt := 118) hx hb d_MO_work_172 (by decide) ?_
      exact ih R1004.1 R1004.2 _ _ _ _ r hq hP hS hM hf (lv_sub hl [0, 1] rfl) kk
set_option maxHeartbeats 4000000 in
set_option maxRecDepth 100000 in
theorem k_MO_work {l : Launch} {s00 : State} {G : fs_G} (hSt : fs_St l s00 G) {h : fs_Hp} {a : Nat} {ad : Nat → Nat} {M : mo_S} (hM : mo_at G h a ad M)  {r : mo_S} (hq : q_MO_work M  = some r) : fs_Ct l s00 G y_MO_work (.code y_MO_work b_MO_work 3 none) { frames := 3, cells := 0, slots := 0, locals := 61 } [.ref a] h (fun o h' => o = .inl none ∧ mo_at G h' a ad r ∧ mo_fr a ad h h') := by
  refine fs_Ct.ofW hSt (by decide) ?_
  intro p e s m below meth c B hout hP
  obtain ⟨hx, hb, hr, hml, hown, hts, hlocks, hname, hK, hw, htr⟩ := id B
  have hown : s.vm.findClass "FormulaSheetModel" = some m.cls := hown
  have hS := hw.S
  have hA : ∀ q : Nat, s00.heap.size ≤ q → fs_A s00 q := fun _ h9 => h9
  generalize hH : s.heap = H at hP hS ⊢
  have hH0 : s.heap.size ≤ H.size := by rw [hH]; exact Nat.le_refl _
  have hl := lv_entry ([.ref a]) (n := 3) (Nat.le_of_ble_eq_true rfl)
  rw [lg_entry_eq]
  generalize (lg_sl ([.ref a]) ++ List.replicate (3 - (lg_sl ([.ref a])).length) Slot.unset).toArray = ls at hl ⊢
  have hl : lv_has ls 3 [(0, .ref a)] := hl
  have hf : mo_fr a ad h h := mo_fr.rf
  rw [q_MO_work] at hq
  refine lv_aload_n hx hb d_MO_work_0 rfl (lv_at hl 0 rfl) ?_
  refine fs_get (v := .int (M.1 12)) hx hb hts hown hK c_MO hP hM.1 12 (by decide) (hts _ (fs_tb_at 1468 tw_1468 rfl)) (fun _ h9 => h9) rfl d_MO_work_1 ?_
  refine lv_if_ne (tgt := 8) hx hb d_MO_work_4 (by decide) (fun c_982 => ?_) (fun c_982 => ?_)
  · have hq := fs_ifn c_982 hq
    refine lv_aload_n hx hb d_MO_work_8 rfl (lv_at hl 0 rfl) ?_
    refine lv_iconst (v := 0) hx hb d_MO_work_9 (by decide) ?_
    refine fs_put hx hb hts hown hK c_MO hP hS hM.1 12 (by decide) (hts _ (fs_tb_at 1468 tw_1468 rfl)) (fun _ h9 => h9) rfl rfl rfl (Nat.le_of_ble_eq_true rfl) d_MO_work_10 (fun H locs hP hS => ?_)
    obtain ⟨h983, hP, hM, hf⟩ : ∃ x, fs_P G.1 fs_cl (fs_A s00) x H ∧ mo_at G x a ad (mo_f M 12 0) ∧ mo_fr a ad h x := ⟨_, hP, hM.F (mo_F12 ad M 0), hf.self⟩
    refine lv_aload_n hx hb d_MO_work_13 rfl (lv_at hl 0 rfl) ?_
    obtain ⟨b0_, hq⟩ := fs_okp_some hq
    obtain ⟨R984, eR984, hq⟩ := fs_let_some hq
    refine fs_cV B hl.1 hP hS (k_MO_findReferences hSt hM  b0_) (fs_tb_at 1665 tw_1665 rfl) hM.1 rfl (fs_tb_at 1667 tw_1667 rfl) (fs_tb_at 59 tw_59 rfl) (fs_tb_at 96 tw_96 rfl) (fs_tb_at 1668 tw_1668 rfl) (by decide) (show (parseMethodDescriptor y_MO_findReferences.desc).map (fun d => d.parameters.length) = some 0 by decide +kernel) rfl d_MO_work_14 ⟨Nat.le_of_ble_eq_true rfl, Nat.le_of_ble_eq_true rfl, Nat.le_of_ble_eq_true rfl, Nat.le_of_ble_eq_true rfl⟩ (fun v_ h_ H locs hc_ hP hS => ?_) (fun C_ a_ h_ H locs hc_ => absurd hc_.1 (fun h9 => by cases h9))
    obtain ⟨ev, hM, hf2⟩ := hc_
    cases ev
    have hf := hf.trans hf2
    rw [← eR984] at hM
    refine W.widen (k := 0) (n := 0) (Nat.le_of_ble_eq_true rfl) (Nat.le_of_ble_eq_true rfl) ?_
    refine W.eq (g2 := F0 m 17 ls ([])) rfl ?_
    refine lv_iconst (v := 0) hx hb d_MO_work_17 (by decide) ?_
    refine lv_istore_n (lv' := [(1, .int 0), (0, .ref a)]) hx hb d_MO_work_18 rfl hl (by decide) rfl (fun ls hl => ?_)
    obtain ⟨R996, eR996, hq⟩ := fs_bind_some hq
    refine l_MO_work_19 hSt B ⟨Nat.le_of_ble_eq_true rfl, Nat.le_of_ble_eq_true rfl⟩ 81 0 R984 _ _ _ _ R996 eR996 hP hS hM hf (lv_sub hl [1, 0] rfl) (fun h_ H locs ls hP hS hM hf hl => ?_)
    refine lv_iconst (v := 1) hx hb d_MO_work_116 (by decide) ?_
    refine lv_istore_n (lv' := [(1, .int 1), (0, .ref a)]) hx hb d_MO_work_117 rfl hl (by decide) rfl (fun ls hl => ?_)
    obtain ⟨R1005, eR1005, hq⟩ := fs_bind_some hq
    refine l_MO_work_118 hSt B ⟨Nat.le_of_ble_eq_true rfl, Nat.le_of_ble_eq_true rfl⟩ 82 1 R996 _ _ _ _ R1005 eR1005 hP hS hM hf (lv_sub hl [1, 0] rfl) (fun h_ H locs ls hP hS hM hf hl => ?_)
    cases hq
    exact fs_vret hx hb hr hlocks hw hP hS (by omega) (by omega) (⟨rfl, hM, hf⟩) d_MO_work_175
  · have hq := fs_ifp c_982 hq
    cases hq
    exact fs_vret hx hb hr hlocks hw hP hS (by omega) (by omega) (⟨rfl, hM, hf⟩) d_MO_work_7
noncomputable def q_MO_enter_L94 : Nat → Int32 → Int32 → Int32 → mo_S → Option (Int32)
  | 0, _, _, _, _ => none
  | n + 1, z4, z5, z6, M1 => (if 80 ≤ z6 then some (z5) else fs_okp (vp_in z4 80) (fs_okp (vp_in z4 80) ((if (p_MO_in (M1.2.2.1 13 (Int32.toNatClampNeg z4)) (M1.2.2.1 14 (Int32.toNatClampNeg z4)) z6) = 0 then (q_MO_enter_L94 n) z4 z5 (z6 + 1) M1 else (q_MO_enter_L94 n) z4 (z5 + 1) (z6 + 1) M1))))
noncomputable def q_MO_enter (M : mo_S) (x1 : Int32) (x2 : Int32) : Option (Int32 × mo_S) := (if (p_MO_out x1 x2) = 0 then Option.bind (q_MO_fault (mo_f M 11 0) ) (fun R1023 => (if R1023.1 < 0 then fs_okp (vp_in 80 81) (fs_okp (vp_in 80 81) (fs_okp ((0 ≤ (Int32.toInt 80)) ∧ ((Int32.toInt 80) < 81) ∧ (0 ≤ (Int32.toInt ((10 * x1) + x2))) ∧ ((Int32.toInt ((10 * x1) + x2)) < 81)) (fs_let (p_MO_copyCell (mo_i (mo_i (mo_f (mo_f R1023.2 10 R1023.1) 9 0) 0 (Int32.toNatClampNeg 80) 2) 1 (Int32.toNatClampNeg 80) (R1023.2.1 30)) 80 ((10 * x1) + x2)) (fun R1029 => Option.bind (q_MO_work (mo_f R1029 12 1) ) (fun R1031 => Option.bind (q_MO_enter_L94 81 ((10 * x1) + x2) 0 0 R1031) (fun R1034 => some (R1034, R1031))))))) else fs_let (p_MO_fail (mo_f (mo_f R1023.2 10 R1023.1) 9 0) 2) (fun R1035 => some (R1035.1, R1035.2)))) else fs_let (p_MO_fail (mo_f M 11 0) 1) (fun R1036 => some (R1036.1, R1036.2)))
set_option maxHeartbeats 4000000 in
set_option maxRecDepth 100000 in
theorem l_MO_enter_94 {p : Program} {l : Launch} {e : Env} {R : Room} {s : State} {m : MethodId} {args : Array Value} {below : List Frame} {meth : Method} {c : Code} {Q : State → Prop} {s00 : State} {G : fs_G} (hSt : fs_St l s00 G) (B : fs_B p l e s m args meth c s00 G y_MO_enter b_MO_enter 7 (some .int)) {h : fs_Hp} {a : Nat} {ad : Nat → Nat} (hR : 6 ≤ R.frames ∧ 81 ≤ R.locals) : ∀ (n : Nat) (z4 : Int32) (z5 : Int32) (z6 : Int32) (M1 : mo_S) (h1 : fs_Hp) (H : Heap) (locs : List Loc) (ls : Array Slot) (r : Int32), q_MO_enter_L94 n z4 z5 z6 M1 = some r → fs_P G.1 fs_cl (fs_A s00) h1 H → va_S (fs_A s00) s00.heap H locs → mo_at G h1 a ad M1 → mo_fr a ad h h1 → lv_has ls 7 [(0, .ref a), (4, .int z4), (5, .int z5), (6, .int z6)] → (∀ (h' : fs_Hp) (H : Heap) (locs : List Loc) (ls : Array Slot), fs_P G.1 fs_cl (fs_A s00) h' H → va_S (fs_A s00) s00.heap H locs → mo_at G h' a ad M1 → mo_fr a ad h h' → lv_has ls 7 [(0, .ref a), (4, .int z4), (5, .int r)] → W p l e R s m args below meth c H locs 0 0 Q (F0 m 132 ls [])) → W p l e R s m args below meth c H locs 0 0 Q (F0 m 94 ls []) := by
  obtain ⟨hx, hb, hr, hml, hown, hts, hlocks, hname, hK, hw, htr⟩ := id B
  have hown : s.vm.findClass "FormulaSheetModel" = some m.cls := hown
  intro n
  induction n with
  | zero => intro z4 z5 z6 M1 h1 H locs ls r hq; rw [q_MO_enter_L94] at hq; cases hq
  | succ n ih =>
    intro z4 z5 z6 M1 h1 H locs ls r hq hP hS hM hf hl kk
    rw [q_MO_enter_L94] at hq
    refine lv_iload hx hb d_MO_enter_94 (lv_at hl 3 rfl) ?_
    refine lv_bipush (v := 80) hx hb d_MO_enter_96 (by decide) ?_
    refine lv_icmp_ge (tgt := 132) hx hb d_MO_enter_98 (by decide) (fun c_1032 => ?_) (fun c_1032 => ?_)
    · have hq := fs_ifp c_1032 hq
      cases hq
      exact kk _ _ _ _ hP hS hM hf (lv_sub hl [0, 1, 2] rfl)
    · have hq := fs_ifn c_1032 hq
      refine lv_aload_n hx hb d_MO_enter_101 rfl (lv_at hl 0 rfl) ?_
      refine fs_get (v := .ref (ad 13)) hx hb hts hown hK c_MO hP hM.1 13 (by decide) (hts _ (fs_tb_at 1469 tw_1469 rfl)) (fun _ h9 => h9) rfl d_MO_enter_102 ?_
      refine lv_iload hx hb d_MO_enter_105 (lv_at hl 1 rfl) ?_
      obtain ⟨hi_, hq⟩ := fs_okp_some hq
      refine fs_lald (f := M1.2.2.1 13) hx hb hK hP 1 (hM.2.1 13 1 80 rfl) rfl hi_ d_MO_enter_107 ?_
      refine lv_aload_n hx hb d_MO_enter_108 rfl (lv_at hl 0 rfl) ?_
      refine fs_get (v := .ref (ad 14)) hx hb hts hown hK c_MO hP hM.1 14 (by decide) (hts _ (fs_tb_at 1470 tw_1470 rfl)) (fun _ h9 => h9) rfl d_MO_enter_109 ?_
      refine lv_iload hx hb d_MO_enter_112 (lv_at hl 1 rfl) ?_
      obtain ⟨hi_, hq⟩ := fs_okp_some hq
      refine fs_lald (f := M1.2.2.1 14) hx hb hK hP 1 (hM.2.1 14 1 80 rfl) rfl hi_ d_MO_enter_114 ?_
      refine lv_iload hx hb d_MO_enter_115 (lv_at hl 3 rfl) ?_
      refine fs_cS B hl.1 hP hS (k_MO_in hSt (M1.2.2.1 13 (Int32.toNatClampNeg z4)) (M1.2.2.1 14 (Int32.toNatClampNeg z4)) z6) (fs_tb_at 1695 tw_1695 rfl) (fs_tb_at 1696 tw_1696 rfl) (fs_tb_at 96 tw_96 rfl) (fs_tb_at 1697 tw_1697 rfl) (by decide) (show (parseMethodDescriptor y_MO_in.desc).map (fun d => d.parameters.length) = some 3 by decide +kernel) rfl d_MO_enter_117 ⟨Nat.le_trans (Nat.le_of_ble_eq_true rfl) hR.1, Nat.le_trans (Nat.le_of_ble_eq_true rfl) hR.2, Nat.zero_le _, Nat.zero_le _⟩ (fun v_ h_ H locs hc_ hP hS => ?_) (fun C_ a_ h_ H locs hc_ => absurd hc_.1 (fun h9 => by cases h9))
      obtain ⟨ev, eh⟩ := hc_
      cases ev
      rw [eh] at hP
      refine W.widen (k := 0) (n := 0) (Nat.le_of_ble_eq_true rfl) (Nat.le_of_ble_eq_true rfl) ?_
      refine W.eq (g2 := F0 m 120 ls (.int (p_MO_in (M1.2.2.1 13 (Int32.toNatClampNeg z4)) (M1.2.2.1 14 (Int32.toNatClampNeg z4)) z6) :: [])) rfl ?_
      refine lv_if_eq (tgt := 126) hx hb d_MO_enter_120 (by decide) (fun c_1033 => ?_) (fun c_1033 => ?_)
      · have hq := fs_ifp c_1033 hq
        refine lv_iinc (v := z6 + 1) (lv' := [(6, .int (z6 + 1)), (0, .ref a), (4, .int z4), (5, .int z5)]) hx hb d_MO_enter_126 hl (k := 3) rfl rfl (by decide) rfl (fun ls hl => ?_)
        refine lv_goto (tgt := 94) hx hb d_MO_enter_129 (by decide) ?_
        exact ih z4 z5 (z6 + 1) M1 _ _ _ _ r hq hP hS hM hf (lv_sub hl [1, 2, 3, 0] rfl) kk
      · have hq := fs_ifn c_1033 hq
        refine lv_iinc (v := z5 + 1) (lv' := [(5, .int (z5 + 1)), (0, .ref a), (4, .int z4), (6, .int z6)]) hx hb d_MO_enter_123 hl (k := 2) rfl rfl (by decide) rfl (fun ls hl => ?_)
        refine lv_iinc (v := z6 + 1) (lv' := [(6, .int (z6 + 1)), (5, .int (z5 + 1)), (0, .ref a), (4, .int z4)]) hx hb d_MO_enter_126 hl (k := 3) rfl rfl (by decide) rfl (fun ls hl => ?_)
        refine lv_goto (tgt := 94) hx hb d_MO_enter_129 (by decide) ?_
        exact ih z4 (z5 + 1) (z6 + 1) M1 _ _ _ _ r hq hP hS hM hf (lv_sub hl [2, 3, 1, 0] rfl) kk
set_option maxHeartbeats 4000000 in
set_option maxRecDepth 100000 in
theorem k_MO_enter {l : Launch} {s00 : State} {G : fs_G} (hSt : fs_St l s00 G) {h : fs_Hp} {a : Nat} {ad : Nat → Nat} {M : mo_S} (hM : mo_at G h a ad M) (x1 : Int32) (x2 : Int32) {r : Int32 × mo_S} (hq : q_MO_enter M x1 x2 = some r) : fs_Ct l s00 G y_MO_enter (.code y_MO_enter b_MO_enter 7 (some .int)) { frames := 6, cells := 0, slots := 0, locals := 81 } [.ref a, .int x1, .int x2] h (fun o h' => o = .inl (some (.int r.1)) ∧ mo_at G h' a ad r.2 ∧ mo_fr a ad h h') := by
  refine fs_Ct.ofW hSt (by decide) ?_
  intro p e s m below meth c B hout hP
  obtain ⟨hx, hb, hr, hml, hown, hts, hlocks, hname, hK, hw, htr⟩ := id B
  have hown : s.vm.findClass "FormulaSheetModel" = some m.cls := hown
  have hS := hw.S
  have hA : ∀ q : Nat, s00.heap.size ≤ q → fs_A s00 q := fun _ h9 => h9
  generalize hH : s.heap = H at hP hS ⊢
  have hH0 : s.heap.size ≤ H.size := by rw [hH]; exact Nat.le_refl _
  have hl := lv_entry ([.ref a, .int x1, .int x2]) (n := 7) (Nat.le_of_ble_eq_true rfl)
  rw [lg_entry_eq]
  generalize (lg_sl ([.ref a, .int x1, .int x2]) ++ List.replicate (7 - (lg_sl ([.ref a, .int x1, .int x2])).length) Slot.unset).toArray = ls at hl ⊢
  have hl : lv_has ls 7 [(0, .ref a), (1, .int x1), (2, .int x2)] := hl
  have hf : mo_fr a ad h h := mo_fr.rf
  rw [q_MO_enter] at hq
  refine lv_aload_n hx hb d_MO_enter_0 rfl (lv_at hl 0 rfl) ?_
  refine lv_iconst (v := 0) hx hb d_MO_enter_1 (by decide) ?_
  refine fs_put hx hb hts hown hK c_MO hP hS hM.1 11 (by decide) (hts _ (fs_tb_at 1467 tw_1467 rfl)) (fun _ h9 => h9) rfl rfl rfl (Nat.le_of_ble_eq_true rfl) d_MO_enter_2 (fun H locs hP hS => ?_)
  obtain ⟨h1021, hP, hM, hf⟩ : ∃ x, fs_P G.1 fs_cl (fs_A s00) x H ∧ mo_at G x a ad (mo_f M 11 0) ∧ mo_fr a ad h x := ⟨_, hP, hM.F (mo_F11 ad M 0), hf.self⟩
  refine lv_iload_n hx hb d_MO_enter_5 rfl (lv_at hl 1 rfl) ?_
  refine lv_iload_n hx hb d_MO_enter_6 rfl (lv_at hl 2 rfl) ?_
  refine fs_cS B hl.1 hP hS (k_MO_out hSt x1 x2) (fs_tb_at 1582 tw_1582 rfl) (fs_tb_at 1583 tw_1583 rfl) (fs_tb_at 96 tw_96 rfl) (fs_tb_at 1584 tw_1584 rfl) (by decide) (show (parseMethodDescriptor y_MO_out.desc).map (fun d => d.parameters.length) = some 2 by decide +kernel) rfl d_MO_enter_7 ⟨Nat.le_of_ble_eq_true rfl, Nat.le_of_ble_eq_true rfl, Nat.le_of_ble_eq_true rfl, Nat.le_of_ble_eq_true rfl⟩ (fun v_ h_ H locs hc_ hP hS => ?_) (fun C_ a_ h_ H locs hc_ => absurd hc_.1 (fun h9 => by cases h9))
  obtain ⟨ev, eh⟩ := hc_
  cases ev
  rw [eh] at hP
  refine W.widen (k := 0) (n := 0) (Nat.le_of_ble_eq_true rfl) (Nat.le_of_ble_eq_true rfl) ?_
  refine W.eq (g2 := F0 m 10 ls (.int (p_MO_out x1 x2) :: [])) rfl ?_
  refine lv_if_eq (tgt := 19) hx hb d_MO_enter_10 (by decide) (fun c_1022 => ?_) (fun c_1022 => ?_)
  · have hq := fs_ifp c_1022 hq
    refine lv_aload_n hx hb d_MO_enter_19 rfl (lv_at hl 0 rfl) ?_
    obtain ⟨R1023, eR1023, hq⟩ := fs_bind_some hq
    refine fs_cV B hl.1 hP hS (k_MO_fault hSt hM  eR1023) (fs_tb_at 1585 tw_1585 rfl) hM.1 rfl (fs_tb_at 1587 tw_1587 rfl) (fs_tb_at 41 tw_41 rfl) (fs_tb_at 96 tw_96 rfl) (fs_tb_at 1588 tw_1588 rfl) (by decide) (show (parseMethodDescriptor y_MO_fault.desc).map (fun d => d.parameters.length) = some 0 by decide +kernel) rfl d_MO_enter_20 ⟨Nat.le_of_ble_eq_true rfl, Nat.le_of_ble_eq_true rfl, Nat.le_of_ble_eq_true rfl, Nat.le_of_ble_eq_true rfl⟩ (fun v_ h_ H locs hc_ hP hS => ?_) (fun C_ a_ h_ H locs hc_ => absurd hc_.1 (fun h9 => by cases h9))
    obtain ⟨ev, hM, hf2⟩ := hc_
    cases ev
    have hf := hf.trans hf2
    refine W.widen (k := 0) (n := 0) (Nat.le_of_ble_eq_true rfl) (Nat.le_of_ble_eq_true rfl) ?_
    refine W.eq (g2 := F0 m 23 ls (.int R1023.1 :: [])) rfl ?_
    refine lv_istore_n (lv' := [(3, .int R1023.1), (0, .ref a), (1, .int x1), (2, .int x2)]) hx hb d_MO_enter_23 rfl hl (by decide) rfl (fun ls hl => ?_)
    refine lv_aload_n hx hb d_MO_enter_24 rfl (lv_at hl 1 rfl) ?_
    refine lv_iload_n hx hb d_MO_enter_25 rfl (lv_at hl 0 rfl) ?_
    refine fs_put hx hb hts hown hK c_MO hP hS hM.1 10 (by decide) (hts _ (fs_tb_at 1466 tw_1466 rfl)) (fun _ h9 => h9) rfl rfl rfl (Nat.le_of_ble_eq_true rfl) d_MO_enter_26 (fun H locs hP hS => ?_)
    obtain ⟨h1024, hP, hM, hf⟩ : ∃ x, fs_P G.1 fs_cl (fs_A s00) x H ∧ mo_at G x a ad (mo_f R1023.2 10 R1023.1) ∧ mo_fr a ad h x := ⟨_, hP, hM.F (mo_F10 ad R1023.2 R1023.1), hf.self⟩
    refine lv_aload_n hx hb d_MO_enter_29 rfl (lv_at hl 1 rfl) ?_
    refine lv_iconst (v := 0) hx hb d_MO_enter_30 (by decide) ?_
    refine fs_put hx hb hts hown hK c_MO hP hS hM.1 9 (by decide) (hts _ (fs_tb_at 1465 tw_1465 rfl)) (fun _ h9 => h9) rfl rfl rfl (Nat.le_of_ble_eq_true rfl) d_MO_enter_31 (fun H locs hP hS => ?_)
    obtain ⟨h1025, hP, hM, hf⟩ : ∃ x, fs_P G.1 fs_cl (fs_A s00) x H ∧ mo_at G x a ad (mo_f (mo_f R1023.2 10 R1023.1) 9 0) ∧ mo_fr a ad h x := ⟨_, hP, hM.F (mo_F9 ad (mo_f R1023.2 10 R1023.1) 0), hf.self⟩
    refine lv_iload_n hx hb d_MO_enter_34 rfl (lv_at hl 0 rfl) ?_
    refine lv_if_lt (tgt := 44) hx hb d_MO_enter_35 (by decide) (fun c_1026 => ?_) (fun c_1026 => ?_)
    · have hq := fs_ifp c_1026 hq
      refine lv_bipush (v := 10) hx hb d_MO_enter_44 (by decide) ?_
      refine lv_iload_n hx hb d_MO_enter_46 rfl (lv_at hl 2 rfl) ?_
      refine lv_imul hx hb d_MO_enter_47 ?_
      refine lv_iload_n hx hb d_MO_enter_48 rfl (lv_at hl 3 rfl) ?_
      refine lv_iadd hx hb d_MO_enter_49 ?_
      refine lv_istore (lv' := [(4, .int ((10 * x1) + x2)), (3, .int R1023.1), (0, .ref a), (1, .int x1), (2, .int x2)]) hx hb d_MO_enter_50 hl (by decide) rfl (fun ls hl => ?_)
      refine lv_aload_n hx hb d_MO_enter_52 rfl (lv_at hl 2 rfl) ?_
      refine fs_get (v := .ref (ad 0)) hx hb hts hown hK c_MO hP hM.1 0 (by decide) (hts _ (fs_tb_at 1456 tw_1456 rfl)) (fun _ h9 => h9) rfl d_MO_enter_53 ?_
      refine lv_bipush (v := 80) hx hb d_MO_enter_56 (by decide) ?_
      refine lv_iconst (v := 2) hx hb d_MO_enter_58 (by decide) ?_
      obtain ⟨hi_, hq⟩ := fs_okp_some hq
      refine fs_iast hx hb hK hP hS 0 (hM.2.1 0 0 81 rfl) rfl hi_ d_MO_enter_59 (fun H locs hP hS => ?_)
      obtain ⟨h1027, hP, hM, hf⟩ : ∃ x, fs_P G.1 fs_cl (fs_A s00) x H ∧ mo_at G x a ad (mo_i (mo_f (mo_f R1023.2 10 R1023.1) 9 0) 0 (Int32.toNatClampNeg 80) 2) ∧ mo_fr a ad h x := ⟨_, hP, hM.I (j := 0) (k := (Int32.toNatClampNeg 80)) (x := 2) rfl (fun _ => rfl), hf.arr (j := 0) (by decide)⟩
      refine lv_aload_n hx hb d_MO_enter_60 rfl (lv_at hl 2 rfl) ?_
      refine fs_get (v := .ref (ad 1)) hx hb hts hown hK c_MO hP hM.1 1 (by decide) (hts _ (fs_tb_at 1457 tw_1457 rfl)) (fun _ h9 => h9) rfl d_MO_enter_61 ?_
      refine lv_bipush (v := 80) hx hb d_MO_enter_64 (by decide) ?_
      refine lv_aload_n hx hb d_MO_enter_66 rfl (lv_at hl 2 rfl) ?_
      refine fs_get (v := .int (R1023.2.1 30)) hx hb hts hown hK c_MO hP hM.1 30 (by decide) (hts _ (fs_tb_at 1486 tw_1486 rfl)) (fun _ h9 => h9) rfl d_MO_enter_67 ?_
      obtain ⟨hi_, hq⟩ := fs_okp_some hq
      refine fs_iast hx hb hK hP hS 0 (hM.2.1 1 0 81 rfl) rfl hi_ d_MO_enter_70 (fun H locs hP hS => ?_)
      obtain ⟨h1028, hP, hM, hf⟩ : ∃ x, fs_P G.1 fs_cl (fs_A s00) x H ∧ mo_at G x a ad (mo_i (mo_i (mo_f (mo_f R1023.2 10 R1023.1) 9 0) 0 (Int32.toNatClampNeg 80) 2) 1 (Int32.toNatClampNeg 80) (R1023.2.1 30)) ∧ mo_fr a ad h x := ⟨_, hP, hM.I (j := 1) (k := (Int32.toNatClampNeg 80)) (x := (R1023.2.1 30)) rfl (fun _ => rfl), hf.arr (j := 1) (by decide)⟩
      refine lv_aload_n hx hb d_MO_enter_71 rfl (lv_at hl 2 rfl) ?_
      refine lv_bipush (v := 80) hx hb d_MO_enter_72 (by decide) ?_
      refine lv_iload hx hb d_MO_enter_74 (lv_at hl 0 rfl) ?_
      obtain ⟨⟨b0_, b1_, b2_, b3_⟩, hq⟩ := fs_okp_some hq
      obtain ⟨R1029, eR1029, hq⟩ := fs_let_some hq
      refine fs_cV B hl.1 hP hS (k_MO_copyCell hSt hM 80 ((10 * x1) + x2) b0_ b1_ b2_ b3_) (fs_tb_at 1657 tw_1657 rfl) hM.1 rfl (fs_tb_at 1659 tw_1659 rfl) (fs_tb_at 57 tw_57 rfl) (fs_tb_at 96 tw_96 rfl) (fs_tb_at 1660 tw_1660 rfl) (by decide) (show (parseMethodDescriptor y_MO_copyCell.desc).map (fun d => d.parameters.length) = some 2 by decide +kernel) rfl d_MO_enter_76 ⟨Nat.le_of_ble_eq_true rfl, Nat.le_of_ble_eq_true rfl, Nat.le_of_ble_eq_true rfl, Nat.le_of_ble_eq_true rfl⟩ (fun v_ h_ H locs hc_ hP hS => ?_) (fun C_ a_ h_ H locs hc_ => absurd hc_.1 (fun h9 => by cases h9))
      obtain ⟨ev, hM, hf2⟩ := hc_
      cases ev
      have hf := hf.trans hf2
      rw [← eR1029] at hM
      refine W.widen (k := 0) (n := 0) (Nat.le_of_ble_eq_true rfl) (Nat.le_of_ble_eq_true rfl) ?_
      refine W.eq (g2 := F0 m 79 ls ([])) rfl ?_
      refine lv_aload_n hx hb d_MO_enter_79 rfl (lv_at hl 2 rfl) ?_
      refine lv_iconst (v := 1) hx hb d_MO_enter_80 (by decide) ?_
      refine fs_put hx hb hts hown hK c_MO hP hS hM.1 12 (by decide) (hts _ (fs_tb_at 1468 tw_1468 rfl)) (fun _ h9 => h9) rfl rfl rfl (Nat.le_of_ble_eq_true rfl) d_MO_enter_81 (fun H locs hP hS => ?_)
      obtain ⟨h1030, hP, hM, hf⟩ : ∃ x, fs_P G.1 fs_cl (fs_A s00) x H ∧ mo_at G x a ad (mo_f R1029 12 1) ∧ mo_fr a ad h x := ⟨_, hP, hM.F (mo_F12 ad R1029 1), hf.self⟩
      refine lv_aload_n hx hb d_MO_enter_84 rfl (lv_at hl 2 rfl) ?_
      obtain ⟨R1031, eR1031, hq⟩ := fs_bind_some hq
      refine fs_cV B hl.1 hP hS (k_MO_work hSt hM  eR1031) (fs_tb_at 1661 tw_1661 rfl) hM.1 rfl (fs_tb_at 1663 tw_1663 rfl) (fs_tb_at 58 tw_58 rfl) (fs_tb_at 96 tw_96 rfl) (fs_tb_at 1664 tw_1664 rfl) (by decide) (show (parseMethodDescriptor y_MO_work.desc).map (fun d => d.parameters.length) = some 0 by decide +kernel) rfl d_MO_enter_85 ⟨Nat.le_of_ble_eq_true rfl, Nat.le_of_ble_eq_true rfl, Nat.le_of_ble_eq_true rfl, Nat.le_of_ble_eq_true rfl⟩ (fun v_ h_ H locs hc_ hP hS => ?_) (fun C_ a_ h_ H locs hc_ => absurd hc_.1 (fun h9 => by cases h9))
      obtain ⟨ev, hM, hf2⟩ := hc_
      cases ev
      have hf := hf.trans hf2
      refine W.widen (k := 0) (n := 0) (Nat.le_of_ble_eq_true rfl) (Nat.le_of_ble_eq_true rfl) ?_
      refine W.eq (g2 := F0 m 88 ls ([])) rfl ?_
      refine lv_iconst (v := 0) hx hb d_MO_enter_88 (by decide) ?_
      refine lv_istore (lv' := [(5, .int 0), (4, .int ((10 * x1) + x2)), (3, .int R1023.1), (0, .ref a), (1, .int x1), (2, .int x2)]) hx hb d_MO_enter_89 hl (by decide) rfl (fun ls hl => ?_)
      refine lv_iconst (v := 0) hx hb d_MO_enter_91 (by decide) ?_
      refine lv_istore (lv' := [(6, .int 0), (5, .int 0), (4, .int ((10 * x1) + x2)), (3, .int R1023.1), (0, .ref a), (1, .int x1), (2, .int x2)]) hx hb d_MO_enter_92 hl (by decide) rfl (fun ls hl => ?_)
      obtain ⟨R1034, eR1034, hq⟩ := fs_bind_some hq
      refine l_MO_enter_94 hSt B ⟨Nat.le_of_ble_eq_true rfl, Nat.le_of_ble_eq_true rfl⟩ 81 ((10 * x1) + x2) 0 0 R1031 _ _ _ _ R1034 eR1034 hP hS hM hf (lv_sub hl [4, 2, 1, 0] rfl) (fun h_ H locs ls hP hS hM hf hl => ?_)
      refine lv_iload hx hb d_MO_enter_132 (lv_at hl 2 rfl) ?_
      cases hq
      exact fs_iret hx hb hr hlocks hw hP hS (vp_nar_int _) (by omega) (by omega) (⟨rfl, hM, hf⟩) d_MO_enter_134
    · have hq := fs_ifn c_1026 hq
      refine lv_aload_n hx hb d_MO_enter_38 rfl (lv_at hl 1 rfl) ?_
      refine lv_iconst (v := 2) hx hb d_MO_enter_39 (by decide) ?_
      obtain ⟨R1035, eR1035, hq⟩ := fs_let_some hq
      refine fs_cV B hl.1 hP hS (k_MO_fail hSt hM 2 ) (fs_tb_at 1574 tw_1574 rfl) hM.1 rfl (fs_tb_at 1576 tw_1576 rfl) (fs_tb_at 40 tw_40 rfl) (fs_tb_at 96 tw_96 rfl) (fs_tb_at 1577 tw_1577 rfl) (by decide) (show (parseMethodDescriptor y_MO_fail.desc).map (fun d => d.parameters.length) = some 1 by decide +kernel) rfl d_MO_enter_40 ⟨Nat.le_of_ble_eq_true rfl, Nat.le_of_ble_eq_true rfl, Nat.le_of_ble_eq_true rfl, Nat.le_of_ble_eq_true rfl⟩ (fun v_ h_ H locs hc_ hP hS => ?_) (fun C_ a_ h_ H locs hc_ => absurd hc_.1 (fun h9 => by cases h9))
      obtain ⟨ev, hM, hf2⟩ := hc_
      cases ev
      have hf := hf.trans hf2
      rw [← eR1035] at hM
      refine W.widen (k := 0) (n := 0) (Nat.le_of_ble_eq_true rfl) (Nat.le_of_ble_eq_true rfl) ?_
      refine W.eq (g2 := F0 m 43 ls (.int R1035.1 :: [])) (by rw [eR1035]; rfl) ?_
      cases hq
      exact fs_iret hx hb hr hlocks hw hP hS (vp_nar_int _) (by omega) (by omega) (⟨rfl, hM, hf⟩) d_MO_enter_43
  · have hq := fs_ifn c_1022 hq
    refine lv_aload_n hx hb d_MO_enter_13 rfl (lv_at hl 0 rfl) ?_
    refine lv_iconst (v := 1) hx hb d_MO_enter_14 (by decide) ?_
    obtain ⟨R1036, eR1036, hq⟩ := fs_let_some hq
    refine fs_cV B hl.1 hP hS (k_MO_fail hSt hM 1 ) (fs_tb_at 1574 tw_1574 rfl) hM.1 rfl (fs_tb_at 1576 tw_1576 rfl) (fs_tb_at 40 tw_40 rfl) (fs_tb_at 96 tw_96 rfl) (fs_tb_at 1577 tw_1577 rfl) (by decide) (show (parseMethodDescriptor y_MO_fail.desc).map (fun d => d.parameters.length) = some 1 by decide +kernel) rfl d_MO_enter_15 ⟨Nat.le_of_ble_eq_true rfl, Nat.le_of_ble_eq_true rfl, Nat.le_of_ble_eq_true rfl, Nat.le_of_ble_eq_true rfl⟩ (fun v_ h_ H locs hc_ hP hS => ?_) (fun C_ a_ h_ H locs hc_ => absurd hc_.1 (fun h9 => by cases h9))
    obtain ⟨ev, hM, hf2⟩ := hc_
    cases ev
    have hf := hf.trans hf2
    rw [← eR1036] at hM
    refine W.widen (k := 0) (n := 0) (Nat.le_of_ble_eq_true rfl) (Nat.le_of_ble_eq_true rfl) ?_
    refine W.eq (g2 := F0 m 18 ls (.int R1036.1 :: [])) (by rw [eR1036]; rfl) ?_
    cases hq
    exact fs_iret hx hb hr hlocks hw hP hS (vp_nar_int _) (by omega) (by omega) (⟨rfl, hM, hf⟩) d_MO_enter_18
noncomputable def q_MO_value (M : mo_S) (x1 : Int32) (x2 : Int32) : Option (UInt64 × mo_S) := (if (p_MO_out x1 x2) = 0 then fs_okp (vp_in ((10 * x1) + x2) 81) ((if (M.2.1 0 (Int32.toNatClampNeg ((10 * x1) + x2))) = 0 then fs_let (p_MO_fail (mo_f M 11 0) 2) (fun R1055 => some (FP.i2d R1055.1, R1055.2)) else Option.bind (q_MO_work (mo_f M 11 0) ) (fun R1050 => fs_okp ((0 ≤ (Int32.toInt ((10 * x1) + x2))) ∧ ((Int32.toInt ((10 * x1) + x2)) < 80)) ((if ((p_MO_circular R1050 ((10 * x1) + x2)).1) = 0 then fs_okp (vp_in ((10 * x1) + x2) 80) ((if (R1050.2.1 18 (Int32.toNatClampNeg ((10 * x1) + x2))) = 0 then fs_okp (vp_in ((10 * x1) + x2) 80) (some (R1050.2.2.2 17 (Int32.toNatClampNeg ((10 * x1) + x2)), R1050)) else fs_let (p_MO_fail R1050 4) (fun R1053 => some (FP.i2d R1053.1, R1053.2)))) else fs_let (p_MO_fail R1050 3) (fun R1054 => some (FP.i2d R1054.1, R1054.2))))))) else fs_let (p_MO_fail (mo_f M 11 0) 1) (fun R1056 => some (FP.i2d R1056.1, R1056.2)))
set_option maxHeartbeats 4000000 in
set_option maxRecDepth 100000 in
theorem k_MO_value {l : Launch} {s00 : State} {G : fs_G} (hSt : fs_St l s00 G) {h : fs_Hp} {a : Nat} {ad : Nat → Nat} {M : mo_S} (hM : mo_at G h a ad M) (x1 : Int32) (x2 : Int32) {r : UInt64 × mo_S} (hq : q_MO_value M x1 x2 = some r) : fs_Ct l s00 G y_MO_value (.code y_MO_value b_MO_value 4 (some .double)) { frames := 4, cells := 0, slots := 0, locals := 75 } [.ref a, .int x1, .int x2] h (fun o h' => o = .inl (some (.double r.1)) ∧ mo_at G h' a ad r.2 ∧ mo_fr a ad h h') := by
  refine fs_Ct.ofW hSt (by decide) ?_
  intro p e s m below meth c B hout hP
  obtain ⟨hx, hb, hr, hml, hown, hts, hlocks, hname, hK, hw, htr⟩ := id B
  have hown : s.vm.findClass "FormulaSheetModel" = some m.cls := hown
  have hS := hw.S
  have hA : ∀ q : Nat, s00.heap.size ≤ q → fs_A s00 q := fun _ h9 => h9
  generalize hH : s.heap = H at hP hS ⊢
  have hH0 : s.heap.size ≤ H.size := by rw [hH]; exact Nat.le_refl _
  have hl := lv_entry ([.ref a, .int x1, .int x2]) (n := 4) (Nat.le_of_ble_eq_true rfl)
  rw [lg_entry_eq]
  generalize (lg_sl ([.ref a, .int x1, .int x2]) ++ List.replicate (4 - (lg_sl ([.ref a, .int x1, .int x2])).length) Slot.unset).toArray = ls at hl ⊢
  have hl : lv_has ls 4 [(0, .ref a), (1, .int x1), (2, .int x2)] := hl
  have hf : mo_fr a ad h h := mo_fr.rf
  rw [q_MO_value] at hq
  refine lv_aload_n hx hb d_MO_value_0 rfl (lv_at hl 0 rfl) ?_
  refine lv_iconst (v := 0) hx hb d_MO_value_1 (by decide) ?_
  refine fs_put hx hb hts hown hK c_MO hP hS hM.1 11 (by decide) (hts _ (fs_tb_at 1467 tw_1467 rfl)) (fun _ h9 => h9) rfl rfl rfl (Nat.le_of_ble_eq_true rfl) d_MO_value_2 (fun H locs hP hS => ?_)
  obtain ⟨h1047, hP, hM, hf⟩ : ∃ x, fs_P G.1 fs_cl (fs_A s00) x H ∧ mo_at G x a ad (mo_f M 11 0) ∧ mo_fr a ad h x := ⟨_, hP, hM.F (mo_F11 ad M 0), hf.self⟩
  refine lv_iload_n hx hb d_MO_value_5 rfl (lv_at hl 1 rfl) ?_
  refine lv_iload_n hx hb d_MO_value_6 rfl (lv_at hl 2 rfl) ?_
  refine fs_cS B hl.1 hP hS (k_MO_out hSt x1 x2) (fs_tb_at 1582 tw_1582 rfl) (fs_tb_at 1583 tw_1583 rfl) (fs_tb_at 96 tw_96 rfl) (fs_tb_at 1584 tw_1584 rfl) (by decide) (show (parseMethodDescriptor y_MO_out.desc).map (fun d => d.parameters.length) = some 2 by decide +kernel) rfl d_MO_value_7 ⟨Nat.le_of_ble_eq_true rfl, Nat.le_of_ble_eq_true rfl, Nat.le_of_ble_eq_true rfl, Nat.le_of_ble_eq_true rfl⟩ (fun v_ h_ H locs hc_ hP hS => ?_) (fun C_ a_ h_ H locs hc_ => absurd hc_.1 (fun h9 => by cases h9))
  obtain ⟨ev, eh⟩ := hc_
  cases ev
  rw [eh] at hP
  refine W.widen (k := 0) (n := 0) (Nat.le_of_ble_eq_true rfl) (Nat.le_of_ble_eq_true rfl) ?_
  refine W.eq (g2 := F0 m 10 ls (.int (p_MO_out x1 x2) :: [])) rfl ?_
  refine lv_if_eq (tgt := 20) hx hb d_MO_value_10 (by decide) (fun c_1048 => ?_) (fun c_1048 => ?_)
  · have hq := fs_ifp c_1048 hq
    refine lv_bipush (v := 10) hx hb d_MO_value_20 (by decide) ?_
    refine lv_iload_n hx hb d_MO_value_22 rfl (lv_at hl 1 rfl) ?_
    refine lv_imul hx hb d_MO_value_23 ?_
    refine lv_iload_n hx hb d_MO_value_24 rfl (lv_at hl 2 rfl) ?_
    refine lv_iadd hx hb d_MO_value_25 ?_
    refine lv_istore_n (lv' := [(3, .int ((10 * x1) + x2)), (0, .ref a), (1, .int x1), (2, .int x2)]) hx hb d_MO_value_26 rfl hl (by decide) rfl (fun ls hl => ?_)
    refine lv_aload_n hx hb d_MO_value_27 rfl (lv_at hl 1 rfl) ?_
    refine fs_get (v := .ref (ad 0)) hx hb hts hown hK c_MO hP hM.1 0 (by decide) (hts _ (fs_tb_at 1456 tw_1456 rfl)) (fun _ h9 => h9) rfl d_MO_value_28 ?_
    refine lv_iload_n hx hb d_MO_value_31 rfl (lv_at hl 0 rfl) ?_
    obtain ⟨hi_, hq⟩ := fs_okp_some hq
    refine fs_iald (f := M.2.1 0) hx hb hK hP 0 (hM.2.1 0 0 81 rfl) rfl hi_ d_MO_value_32 ?_
    refine lv_if_ne (tgt := 43) hx hb d_MO_value_33 (by decide) (fun c_1049 => ?_) (fun c_1049 => ?_)
    · have hq := fs_ifn c_1049 hq
      refine lv_aload_n hx hb d_MO_value_43 rfl (lv_at hl 1 rfl) ?_
      obtain ⟨R1050, eR1050, hq⟩ := fs_bind_some hq
      refine fs_cV B hl.1 hP hS (k_MO_work hSt hM  eR1050) (fs_tb_at 1661 tw_1661 rfl) hM.1 rfl (fs_tb_at 1663 tw_1663 rfl) (fs_tb_at 58 tw_58 rfl) (fs_tb_at 96 tw_96 rfl) (fs_tb_at 1664 tw_1664 rfl) (by decide) (show (parseMethodDescriptor y_MO_work.desc).map (fun d => d.parameters.length) = some 0 by decide +kernel) rfl d_MO_value_44 ⟨Nat.le_of_ble_eq_true rfl, Nat.le_of_ble_eq_true rfl, Nat.le_of_ble_eq_true rfl, Nat.le_of_ble_eq_true rfl⟩ (fun v_ h_ H locs hc_ hP hS => ?_) (fun C_ a_ h_ H locs hc_ => absurd hc_.1 (fun h9 => by cases h9))
      obtain ⟨ev, hM, hf2⟩ := hc_
      cases ev
      have hf := hf.trans hf2
      refine W.widen (k := 0) (n := 0) (Nat.le_of_ble_eq_true rfl) (Nat.le_of_ble_eq_true rfl) ?_
      refine W.eq (g2 := F0 m 47 ls ([])) rfl ?_
      refine lv_aload_n hx hb d_MO_value_47 rfl (lv_at hl 1 rfl) ?_
      refine lv_iload_n hx hb d_MO_value_48 rfl (lv_at hl 0 rfl) ?_
      obtain ⟨⟨b0_, b1_⟩, hq⟩ := fs_okp_some hq
      refine fs_cV B hl.1 hP hS (k_MO_circular hSt hM ((10 * x1) + x2) b0_ b1_) (fs_tb_at 1698 tw_1698 rfl) hM.1 rfl (fs_tb_at 1700 tw_1700 rfl) (fs_tb_at 62 tw_62 rfl) (fs_tb_at 96 tw_96 rfl) (fs_tb_at 1701 tw_1701 rfl) (by decide) (show (parseMethodDescriptor y_MO_circular.desc).map (fun d => d.parameters.length) = some 1 by decide +kernel) rfl d_MO_value_49 ⟨Nat.le_of_ble_eq_true rfl, Nat.le_of_ble_eq_true rfl, Nat.le_of_ble_eq_true rfl, Nat.le_of_ble_eq_true rfl⟩ (fun v_ h_ H locs hc_ hP hS => ?_) (fun C_ a_ h_ H locs hc_ => absurd hc_.1 (fun h9 => by cases h9))
      obtain ⟨ev, hM, hf2⟩ := hc_
      cases ev
      have hf := hf.trans hf2
      rw [ke_MO_circular] at hM
      refine W.widen (k := 0) (n := 0) (Nat.le_of_ble_eq_true rfl) (Nat.le_of_ble_eq_true rfl) ?_
      refine W.eq (g2 := F0 m 52 ls (.int ((p_MO_circular R1050 ((10 * x1) + x2)).1) :: [])) rfl ?_
      refine lv_if_eq (tgt := 62) hx hb d_MO_value_52 (by decide) (fun c_1051 => ?_) (fun c_1051 => ?_)
      · have hq := fs_ifp c_1051 hq
        refine lv_aload_n hx hb d_MO_value_62 rfl (lv_at hl 1 rfl) ?_
        refine fs_get (v := .ref (ad 18)) hx hb hts hown hK c_MO hP hM.1 18 (by decide) (hts _ (fs_tb_at 1474 tw_1474 rfl)) (fun _ h9 => h9) rfl d_MO_value_63 ?_
        refine lv_iload_n hx hb d_MO_value_66 rfl (lv_at hl 0 rfl) ?_
        obtain ⟨hi_, hq⟩ := fs_okp_some hq
        refine fs_zald (f := R1050.2.1 18) hx hb hK hP 3 (hM.2.1 18 3 80 rfl) rfl hi_ d_MO_value_67 ?_
        refine lv_if_eq (tgt := 80) hx hb d_MO_value_68 (by decide) (fun c_1052 => ?_) (fun c_1052 => ?_)
        · have hq := fs_ifp c_1052 hq
          refine lv_aload_n hx hb d_MO_value_80 rfl (lv_at hl 1 rfl) ?_
          refine fs_get (v := .ref (ad 17)) hx hb hts hown hK c_MO hP hM.1 17 (by decide) (hts _ (fs_tb_at 1473 tw_1473 rfl)) (fun _ h9 => h9) rfl d_MO_value_81 ?_
          refine lv_iload_n hx hb d_MO_value_84 rfl (lv_at hl 0 rfl) ?_
          obtain ⟨hi_, hq⟩ := fs_okp_some hq
          refine fs_dald (f := R1050.2.2.2 17) hx hb hK hP 2 (hM.2.1 17 2 80 rfl) rfl hi_ d_MO_value_85 ?_
          cases hq
          exact fs_dret hx hb hr hlocks hw hP hS (by omega) (by omega) (⟨rfl, hM, hf⟩) d_MO_value_86
        · have hq := fs_ifn c_1052 hq
          refine lv_aload_n hx hb d_MO_value_71 rfl (lv_at hl 1 rfl) ?_
          refine lv_iconst (v := 4) hx hb d_MO_value_72 (by decide) ?_
          obtain ⟨R1053, eR1053, hq⟩ := fs_let_some hq
          refine fs_cV B hl.1 hP hS (k_MO_fail hSt hM 4 ) (fs_tb_at 1574 tw_1574 rfl) hM.1 rfl (fs_tb_at 1576 tw_1576 rfl) (fs_tb_at 40 tw_40 rfl) (fs_tb_at 96 tw_96 rfl) (fs_tb_at 1577 tw_1577 rfl) (by decide) (show (parseMethodDescriptor y_MO_fail.desc).map (fun d => d.parameters.length) = some 1 by decide +kernel) rfl d_MO_value_73 ⟨Nat.le_of_ble_eq_true rfl, Nat.le_of_ble_eq_true rfl, Nat.le_of_ble_eq_true rfl, Nat.le_of_ble_eq_true rfl⟩ (fun v_ h_ H locs hc_ hP hS => ?_) (fun C_ a_ h_ H locs hc_ => absurd hc_.1 (fun h9 => by cases h9))
          obtain ⟨ev, hM, hf2⟩ := hc_
          cases ev
          have hf := hf.trans hf2
          rw [← eR1053] at hM
          refine W.widen (k := 0) (n := 0) (Nat.le_of_ble_eq_true rfl) (Nat.le_of_ble_eq_true rfl) ?_
          refine W.eq (g2 := F0 m 76 ls (.int R1053.1 :: [])) (by rw [eR1053]; rfl) ?_
          refine lv_i2d hx hb d_MO_value_76 ?_
          refine lv_goto (tgt := 86) hx hb d_MO_value_77 (by decide) ?_
          cases hq
          exact fs_dret hx hb hr hlocks hw hP hS (by omega) (by omega) (⟨rfl, hM, hf⟩) d_MO_value_86
      · have hq := fs_ifn c_1051 hq
        refine lv_aload_n hx hb d_MO_value_55 rfl (lv_at hl 1 rfl) ?_
        refine lv_iconst (v := 3) hx hb d_MO_value_56 (by decide) ?_
        obtain ⟨R1054, eR1054, hq⟩ := fs_let_some hq
        refine fs_cV B hl.1 hP hS (k_MO_fail hSt hM 3 ) (fs_tb_at 1574 tw_1574 rfl) hM.1 rfl (fs_tb_at 1576 tw_1576 rfl) (fs_tb_at 40 tw_40 rfl) (fs_tb_at 96 tw_96 rfl) (fs_tb_at 1577 tw_1577 rfl) (by decide) (show (parseMethodDescriptor y_MO_fail.desc).map (fun d => d.parameters.length) = some 1 by decide +kernel) rfl d_MO_value_57 ⟨Nat.le_of_ble_eq_true rfl, Nat.le_of_ble_eq_true rfl, Nat.le_of_ble_eq_true rfl, Nat.le_of_ble_eq_true rfl⟩ (fun v_ h_ H locs hc_ hP hS => ?_) (fun C_ a_ h_ H locs hc_ => absurd hc_.1 (fun h9 => by cases h9))
        obtain ⟨ev, hM, hf2⟩ := hc_
        cases ev
        have hf := hf.trans hf2
        rw [← eR1054] at hM
        refine W.widen (k := 0) (n := 0) (Nat.le_of_ble_eq_true rfl) (Nat.le_of_ble_eq_true rfl) ?_
        refine W.eq (g2 := F0 m 60 ls (.int R1054.1 :: [])) (by rw [eR1054]; rfl) ?_
        refine lv_i2d hx hb d_MO_value_60 ?_
        cases hq
        exact fs_dret hx hb hr hlocks hw hP hS (by omega) (by omega) (⟨rfl, hM, hf⟩) d_MO_value_61
    · have hq := fs_ifp c_1049 hq
      refine lv_aload_n hx hb d_MO_value_36 rfl (lv_at hl 1 rfl) ?_
      refine lv_iconst (v := 2) hx hb d_MO_value_37 (by decide) ?_
      obtain ⟨R1055, eR1055, hq⟩ := fs_let_some hq
      refine fs_cV B hl.1 hP hS (k_MO_fail hSt hM 2 ) (fs_tb_at 1574 tw_1574 rfl) hM.1 rfl (fs_tb_at 1576 tw_1576 rfl) (fs_tb_at 40 tw_40 rfl) (fs_tb_at 96 tw_96 rfl) (fs_tb_at 1577 tw_1577 rfl) (by decide) (show (parseMethodDescriptor y_MO_fail.desc).map (fun d => d.parameters.length) = some 1 by decide +kernel) rfl d_MO_value_38 ⟨Nat.le_of_ble_eq_true rfl, Nat.le_of_ble_eq_true rfl, Nat.le_of_ble_eq_true rfl, Nat.le_of_ble_eq_true rfl⟩ (fun v_ h_ H locs hc_ hP hS => ?_) (fun C_ a_ h_ H locs hc_ => absurd hc_.1 (fun h9 => by cases h9))
      obtain ⟨ev, hM, hf2⟩ := hc_
      cases ev
      have hf := hf.trans hf2
      rw [← eR1055] at hM
      refine W.widen (k := 0) (n := 0) (Nat.le_of_ble_eq_true rfl) (Nat.le_of_ble_eq_true rfl) ?_
      refine W.eq (g2 := F0 m 41 ls (.int R1055.1 :: [])) (by rw [eR1055]; rfl) ?_
      refine lv_i2d hx hb d_MO_value_41 ?_
      cases hq
      exact fs_dret hx hb hr hlocks hw hP hS (by omega) (by omega) (⟨rfl, hM, hf⟩) d_MO_value_42
  · have hq := fs_ifn c_1048 hq
    refine lv_aload_n hx hb d_MO_value_13 rfl (lv_at hl 0 rfl) ?_
    refine lv_iconst (v := 1) hx hb d_MO_value_14 (by decide) ?_
    obtain ⟨R1056, eR1056, hq⟩ := fs_let_some hq
    refine fs_cV B hl.1 hP hS (k_MO_fail hSt hM 1 ) (fs_tb_at 1574 tw_1574 rfl) hM.1 rfl (fs_tb_at 1576 tw_1576 rfl) (fs_tb_at 40 tw_40 rfl) (fs_tb_at 96 tw_96 rfl) (fs_tb_at 1577 tw_1577 rfl) (by decide) (show (parseMethodDescriptor y_MO_fail.desc).map (fun d => d.parameters.length) = some 1 by decide +kernel) rfl d_MO_value_15 ⟨Nat.le_of_ble_eq_true rfl, Nat.le_of_ble_eq_true rfl, Nat.le_of_ble_eq_true rfl, Nat.le_of_ble_eq_true rfl⟩ (fun v_ h_ H locs hc_ hP hS => ?_) (fun C_ a_ h_ H locs hc_ => absurd hc_.1 (fun h9 => by cases h9))
    obtain ⟨ev, hM, hf2⟩ := hc_
    cases ev
    have hf := hf.trans hf2
    rw [← eR1056] at hM
    refine W.widen (k := 0) (n := 0) (Nat.le_of_ble_eq_true rfl) (Nat.le_of_ble_eq_true rfl) ?_
    refine W.eq (g2 := F0 m 18 ls (.int R1056.1 :: [])) (by rw [eR1056]; rfl) ?_
    refine lv_i2d hx hb d_MO_value_18 ?_
    cases hq
    exact fs_dret hx hb hr hlocks hw hP hS (by omega) (by omega) (⟨rfl, hM, hf⟩) d_MO_value_19
noncomputable def q_MO_kind (M : mo_S) (x1 : Int32) (x2 : Int32) : Option (Int32 × mo_S) := (if (p_MO_out x1 x2) = 0 then Option.bind (q_MO_work (mo_f M 11 0) ) (fun R1063 => fs_okp ((0 ≤ (Int32.toInt ((10 * x1) + x2))) ∧ ((Int32.toInt ((10 * x1) + x2)) < 80)) (some ((p_MO_kindOf R1063 ((10 * x1) + x2)).1, R1063))) else fs_let (p_MO_fail (mo_f M 11 0) 1) (fun R1064 => some (R1064.1, R1064.2)))
set_option maxHeartbeats 4000000 in
set_option maxRecDepth 100000 in
theorem k_MO_kind {l : Launch} {s00 : State} {G : fs_G} (hSt : fs_St l s00 G) {h : fs_Hp} {a : Nat} {ad : Nat → Nat} {M : mo_S} (hM : mo_at G h a ad M) (x1 : Int32) (x2 : Int32) {r : Int32 × mo_S} (hq : q_MO_kind M x1 x2 = some r) : fs_Ct l s00 G y_MO_kind (.code y_MO_kind b_MO_kind 3 (some .int)) { frames := 4, cells := 0, slots := 0, locals := 75 } [.ref a, .int x1, .int x2] h (fun o h' => o = .inl (some (.int r.1)) ∧ mo_at G h' a ad r.2 ∧ mo_fr a ad h h') := by
  refine fs_Ct.ofW hSt (by decide) ?_
  intro p e s m below meth c B hout hP
  obtain ⟨hx, hb, hr, hml, hown, hts, hlocks, hname, hK, hw, htr⟩ := id B
  have hown : s.vm.findClass "FormulaSheetModel" = some m.cls := hown
  have hS := hw.S
  have hA : ∀ q : Nat, s00.heap.size ≤ q → fs_A s00 q := fun _ h9 => h9
  generalize hH : s.heap = H at hP hS ⊢
  have hH0 : s.heap.size ≤ H.size := by rw [hH]; exact Nat.le_refl _
  have hl := lv_entry ([.ref a, .int x1, .int x2]) (n := 3) (Nat.le_of_ble_eq_true rfl)
  rw [lg_entry_eq]
  generalize (lg_sl ([.ref a, .int x1, .int x2]) ++ List.replicate (3 - (lg_sl ([.ref a, .int x1, .int x2])).length) Slot.unset).toArray = ls at hl ⊢
  have hl : lv_has ls 3 [(0, .ref a), (1, .int x1), (2, .int x2)] := hl
  have hf : mo_fr a ad h h := mo_fr.rf
  rw [q_MO_kind] at hq
  refine lv_aload_n hx hb d_MO_kind_0 rfl (lv_at hl 0 rfl) ?_
  refine lv_iconst (v := 0) hx hb d_MO_kind_1 (by decide) ?_
  refine fs_put hx hb hts hown hK c_MO hP hS hM.1 11 (by decide) (hts _ (fs_tb_at 1467 tw_1467 rfl)) (fun _ h9 => h9) rfl rfl rfl (Nat.le_of_ble_eq_true rfl) d_MO_kind_2 (fun H locs hP hS => ?_)
  obtain ⟨h1061, hP, hM, hf⟩ : ∃ x, fs_P G.1 fs_cl (fs_A s00) x H ∧ mo_at G x a ad (mo_f M 11 0) ∧ mo_fr a ad h x := ⟨_, hP, hM.F (mo_F11 ad M 0), hf.self⟩
  refine lv_iload_n hx hb d_MO_kind_5 rfl (lv_at hl 1 rfl) ?_
  refine lv_iload_n hx hb d_MO_kind_6 rfl (lv_at hl 2 rfl) ?_
  refine fs_cS B hl.1 hP hS (k_MO_out hSt x1 x2) (fs_tb_at 1582 tw_1582 rfl) (fs_tb_at 1583 tw_1583 rfl) (fs_tb_at 96 tw_96 rfl) (fs_tb_at 1584 tw_1584 rfl) (by decide) (show (parseMethodDescriptor y_MO_out.desc).map (fun d => d.parameters.length) = some 2 by decide +kernel) rfl d_MO_kind_7 ⟨Nat.le_of_ble_eq_true rfl, Nat.le_of_ble_eq_true rfl, Nat.le_of_ble_eq_true rfl, Nat.le_of_ble_eq_true rfl⟩ (fun v_ h_ H locs hc_ hP hS => ?_) (fun C_ a_ h_ H locs hc_ => absurd hc_.1 (fun h9 => by cases h9))
  obtain ⟨ev, eh⟩ := hc_
  cases ev
  rw [eh] at hP
  refine W.widen (k := 0) (n := 0) (Nat.le_of_ble_eq_true rfl) (Nat.le_of_ble_eq_true rfl) ?_
  refine W.eq (g2 := F0 m 10 ls (.int (p_MO_out x1 x2) :: [])) rfl ?_
  refine lv_if_eq (tgt := 19) hx hb d_MO_kind_10 (by decide) (fun c_1062 => ?_) (fun c_1062 => ?_)
  · have hq := fs_ifp c_1062 hq
    refine lv_aload_n hx hb d_MO_kind_19 rfl (lv_at hl 0 rfl) ?_
    obtain ⟨R1063, eR1063, hq⟩ := fs_bind_some hq
    refine fs_cV B hl.1 hP hS (k_MO_work hSt hM  eR1063) (fs_tb_at 1661 tw_1661 rfl) hM.1 rfl (fs_tb_at 1663 tw_1663 rfl) (fs_tb_at 58 tw_58 rfl) (fs_tb_at 96 tw_96 rfl) (fs_tb_at 1664 tw_1664 rfl) (by decide) (show (parseMethodDescriptor y_MO_work.desc).map (fun d => d.parameters.length) = some 0 by decide +kernel) rfl d_MO_kind_20 ⟨Nat.le_of_ble_eq_true rfl, Nat.le_of_ble_eq_true rfl, Nat.le_of_ble_eq_true rfl, Nat.le_of_ble_eq_true rfl⟩ (fun v_ h_ H locs hc_ hP hS => ?_) (fun C_ a_ h_ H locs hc_ => absurd hc_.1 (fun h9 => by cases h9))
    obtain ⟨ev, hM, hf2⟩ := hc_
    cases ev
    have hf := hf.trans hf2
    refine W.widen (k := 0) (n := 0) (Nat.le_of_ble_eq_true rfl) (Nat.le_of_ble_eq_true rfl) ?_
    refine W.eq (g2 := F0 m 23 ls ([])) rfl ?_
    refine lv_aload_n hx hb d_MO_kind_23 rfl (lv_at hl 0 rfl) ?_
    refine lv_bipush (v := 10) hx hb d_MO_kind_24 (by decide) ?_
    refine lv_iload_n hx hb d_MO_kind_26 rfl (lv_at hl 1 rfl) ?_
    refine lv_imul hx hb d_MO_kind_27 ?_
    refine lv_iload_n hx hb d_MO_kind_28 rfl (lv_at hl 2 rfl) ?_
    refine lv_iadd hx hb d_MO_kind_29 ?_
    obtain ⟨⟨b0_, b1_⟩, hq⟩ := fs_okp_some hq
    refine fs_cV B hl.1 hP hS (k_MO_kindOf hSt hM ((10 * x1) + x2) b0_ b1_) (fs_tb_at 1796 tw_1796 rfl) hM.1 rfl (fs_tb_at 1798 tw_1798 rfl) (fs_tb_at 74 tw_74 rfl) (fs_tb_at 96 tw_96 rfl) (fs_tb_at 1799 tw_1799 rfl) (by decide) (show (parseMethodDescriptor y_MO_kindOf.desc).map (fun d => d.parameters.length) = some 1 by decide +kernel) rfl d_MO_kind_30 ⟨Nat.le_of_ble_eq_true rfl, Nat.le_of_ble_eq_true rfl, Nat.le_of_ble_eq_true rfl, Nat.le_of_ble_eq_true rfl⟩ (fun v_ h_ H locs hc_ hP hS => ?_) (fun C_ a_ h_ H locs hc_ => absurd hc_.1 (fun h9 => by cases h9))
    obtain ⟨ev, hM, hf2⟩ := hc_
    cases ev
    have hf := hf.trans hf2
    rw [ke_MO_kindOf] at hM
    refine W.widen (k := 0) (n := 0) (Nat.le_of_ble_eq_true rfl) (Nat.le_of_ble_eq_true rfl) ?_
    refine W.eq (g2 := F0 m 33 ls (.int ((p_MO_kindOf R1063 ((10 * x1) + x2)).1) :: [])) rfl ?_
    cases hq
    exact fs_iret hx hb hr hlocks hw hP hS (vp_nar_int _) (by omega) (by omega) (⟨rfl, hM, hf⟩) d_MO_kind_33
  · have hq := fs_ifn c_1062 hq
    refine lv_aload_n hx hb d_MO_kind_13 rfl (lv_at hl 0 rfl) ?_
    refine lv_iconst (v := 1) hx hb d_MO_kind_14 (by decide) ?_
    obtain ⟨R1064, eR1064, hq⟩ := fs_let_some hq
    refine fs_cV B hl.1 hP hS (k_MO_fail hSt hM 1 ) (fs_tb_at 1574 tw_1574 rfl) hM.1 rfl (fs_tb_at 1576 tw_1576 rfl) (fs_tb_at 40 tw_40 rfl) (fs_tb_at 96 tw_96 rfl) (fs_tb_at 1577 tw_1577 rfl) (by decide) (show (parseMethodDescriptor y_MO_fail.desc).map (fun d => d.parameters.length) = some 1 by decide +kernel) rfl d_MO_kind_15 ⟨Nat.le_of_ble_eq_true rfl, Nat.le_of_ble_eq_true rfl, Nat.le_of_ble_eq_true rfl, Nat.le_of_ble_eq_true rfl⟩ (fun v_ h_ H locs hc_ hP hS => ?_) (fun C_ a_ h_ H locs hc_ => absurd hc_.1 (fun h9 => by cases h9))
    obtain ⟨ev, hM, hf2⟩ := hc_
    cases ev
    have hf := hf.trans hf2
    rw [← eR1064] at hM
    refine W.widen (k := 0) (n := 0) (Nat.le_of_ble_eq_true rfl) (Nat.le_of_ble_eq_true rfl) ?_
    refine W.eq (g2 := F0 m 18 ls (.int R1064.1 :: [])) (by rw [eR1064]; rfl) ?_
    cases hq
    exact fs_iret hx hb hr hlocks hw hP hS (vp_nar_int _) (by omega) (by omega) (⟨rfl, hM, hf⟩) d_MO_kind_18
noncomputable def q_MO_reaches (M : mo_S) (x1 : Int32) (x2 : Int32) (x3 : Int32) (x4 : Int32) : Option (Int32 × mo_S) := (if (p_MO_out x1 x2) = 0 then (if (p_MO_out x3 x4) = 0 then Option.bind (q_MO_work (mo_f M 11 0) ) (fun R1075 => fs_okp (vp_in ((10 * x1) + x2) 80) (fs_okp (vp_in ((10 * x1) + x2) 80) (fs_okp ((p_MO_in (R1075.2.2.1 15 (Int32.toNatClampNeg ((10 * x1) + x2))) (R1075.2.2.1 16 (Int32.toNatClampNeg ((10 * x1) + x2))) ((10 * x3) + x4)) = 0 ∨ (p_MO_in (R1075.2.2.1 15 (Int32.toNatClampNeg ((10 * x1) + x2))) (R1075.2.2.1 16 (Int32.toNatClampNeg ((10 * x1) + x2))) ((10 * x3) + x4)) = 1) (some ((p_MO_in (R1075.2.2.1 15 (Int32.toNatClampNeg ((10 * x1) + x2))) (R1075.2.2.1 16 (Int32.toNatClampNeg ((10 * x1) + x2))) ((10 * x3) + x4)), R1075))))) else some (0, (mo_f (mo_f M 11 0) 11 1))) else some (0, (mo_f (mo_f M 11 0) 11 1)))
set_option maxHeartbeats 4000000 in
set_option maxRecDepth 100000 in
theorem k_MO_reaches {l : Launch} {s00 : State} {G : fs_G} (hSt : fs_St l s00 G) {h : fs_Hp} {a : Nat} {ad : Nat → Nat} {M : mo_S} (hM : mo_at G h a ad M) (x1 : Int32) (x2 : Int32) (x3 : Int32) (x4 : Int32) {r : Int32 × mo_S} (hq : q_MO_reaches M x1 x2 x3 x4 = some r) : fs_Ct l s00 G y_MO_reaches (.code y_MO_reaches b_MO_reaches 6 (some .boolean)) { frames := 4, cells := 0, slots := 0, locals := 75 } [.ref a, .int x1, .int x2, .int x3, .int x4] h (fun o h' => o = .inl (some (.int r.1)) ∧ mo_at G h' a ad r.2 ∧ mo_fr a ad h h') := by
  refine fs_Ct.ofW hSt (by decide) ?_
  intro p e s m below meth c B hout hP
  obtain ⟨hx, hb, hr, hml, hown, hts, hlocks, hname, hK, hw, htr⟩ := id B
  have hown : s.vm.findClass "FormulaSheetModel" = some m.cls := hown
  have hS := hw.S
  have hA : ∀ q : Nat, s00.heap.size ≤ q → fs_A s00 q := fun _ h9 => h9
  generalize hH : s.heap = H at hP hS ⊢
  have hH0 : s.heap.size ≤ H.size := by rw [hH]; exact Nat.le_refl _
  have hl := lv_entry ([.ref a, .int x1, .int x2, .int x3, .int x4]) (n := 6) (Nat.le_of_ble_eq_true rfl)
  rw [lg_entry_eq]
  generalize (lg_sl ([.ref a, .int x1, .int x2, .int x3, .int x4]) ++ List.replicate (6 - (lg_sl ([.ref a, .int x1, .int x2, .int x3, .int x4])).length) Slot.unset).toArray = ls at hl ⊢
  have hl : lv_has ls 6 [(0, .ref a), (1, .int x1), (2, .int x2), (3, .int x3), (4, .int x4)] := hl
  have hf : mo_fr a ad h h := mo_fr.rf
  rw [q_MO_reaches] at hq
  refine lv_aload_n hx hb d_MO_reaches_0 rfl (lv_at hl 0 rfl) ?_
  refine lv_iconst (v := 0) hx hb d_MO_reaches_1 (by decide) ?_
  refine fs_put hx hb hts hown hK c_MO hP hS hM.1 11 (by decide) (hts _ (fs_tb_at 1467 tw_1467 rfl)) (fun _ h9 => h9) rfl rfl rfl (Nat.le_of_ble_eq_true rfl) d_MO_reaches_2 (fun H locs hP hS => ?_)
  obtain ⟨h1071, hP, hM, hf⟩ : ∃ x, fs_P G.1 fs_cl (fs_A s00) x H ∧ mo_at G x a ad (mo_f M 11 0) ∧ mo_fr a ad h x := ⟨_, hP, hM.F (mo_F11 ad M 0), hf.self⟩
  refine lv_iload_n hx hb d_MO_reaches_5 rfl (lv_at hl 1 rfl) ?_
  refine lv_iload_n hx hb d_MO_reaches_6 rfl (lv_at hl 2 rfl) ?_
  refine fs_cS B hl.1 hP hS (k_MO_out hSt x1 x2) (fs_tb_at 1582 tw_1582 rfl) (fs_tb_at 1583 tw_1583 rfl) (fs_tb_at 96 tw_96 rfl) (fs_tb_at 1584 tw_1584 rfl) (by decide) (show (parseMethodDescriptor y_MO_out.desc).map (fun d => d.parameters.length) = some 2 by decide +kernel) rfl d_MO_reaches_7 ⟨Nat.le_of_ble_eq_true rfl, Nat.le_of_ble_eq_true rfl, Nat.le_of_ble_eq_true rfl, Nat.le_of_ble_eq_true rfl⟩ (fun v_ h_ H locs hc_ hP hS => ?_) (fun C_ a_ h_ H locs hc_ => absurd hc_.1 (fun h9 => by cases h9))
  obtain ⟨ev, eh⟩ := hc_
  cases ev
  rw [eh] at hP
  refine W.widen (k := 0) (n := 0) (Nat.le_of_ble_eq_true rfl) (Nat.le_of_ble_eq_true rfl) ?_
  refine W.eq (g2 := F0 m 10 ls (.int (p_MO_out x1 x2) :: [])) rfl ?_
  refine lv_if_ne (tgt := 22) hx hb d_MO_reaches_10 (by decide) (fun c_1072 => ?_) (fun c_1072 => ?_)
  · have hq := fs_ifn c_1072 hq
    refine lv_aload_n hx hb d_MO_reaches_22 rfl (lv_at hl 0 rfl) ?_
    refine lv_iconst (v := 1) hx hb d_MO_reaches_23 (by decide) ?_
    refine fs_put hx hb hts hown hK c_MO hP hS hM.1 11 (by decide) (hts _ (fs_tb_at 1467 tw_1467 rfl)) (fun _ h9 => h9) rfl rfl rfl (Nat.le_of_ble_eq_true rfl) d_MO_reaches_24 (fun H locs hP hS => ?_)
    obtain ⟨h1073, hP, hM, hf⟩ : ∃ x, fs_P G.1 fs_cl (fs_A s00) x H ∧ mo_at G x a ad (mo_f (mo_f M 11 0) 11 1) ∧ mo_fr a ad h x := ⟨_, hP, hM.F (mo_F11 ad (mo_f M 11 0) 1), hf.self⟩
    refine lv_iconst (v := 0) hx hb d_MO_reaches_27 (by decide) ?_
    cases hq
    exact fs_iret hx hb hr hlocks hw hP hS rfl (by omega) (by omega) (⟨rfl, hM, hf⟩) d_MO_reaches_28
  · have hq := fs_ifp c_1072 hq
    refine lv_iload_n hx hb d_MO_reaches_13 rfl (lv_at hl 3 rfl) ?_
    refine lv_iload hx hb d_MO_reaches_14 (lv_at hl 4 rfl) ?_
    refine fs_cS B hl.1 hP hS (k_MO_out hSt x3 x4) (fs_tb_at 1582 tw_1582 rfl) (fs_tb_at 1583 tw_1583 rfl) (fs_tb_at 96 tw_96 rfl) (fs_tb_at 1584 tw_1584 rfl) (by decide) (show (parseMethodDescriptor y_MO_out.desc).map (fun d => d.parameters.length) = some 2 by decide +kernel) rfl d_MO_reaches_16 ⟨Nat.le_of_ble_eq_true rfl, Nat.le_of_ble_eq_true rfl, Nat.le_of_ble_eq_true rfl, Nat.le_of_ble_eq_true rfl⟩ (fun v_ h_ H locs hc_ hP hS => ?_) (fun C_ a_ h_ H locs hc_ => absurd hc_.1 (fun h9 => by cases h9))
    obtain ⟨ev, eh⟩ := hc_
    cases ev
    rw [eh] at hP
    refine W.widen (k := 0) (n := 0) (Nat.le_of_ble_eq_true rfl) (Nat.le_of_ble_eq_true rfl) ?_
    refine W.eq (g2 := F0 m 19 ls (.int (p_MO_out x3 x4) :: [])) rfl ?_
    refine lv_if_eq (tgt := 29) hx hb d_MO_reaches_19 (by decide) (fun c_1074 => ?_) (fun c_1074 => ?_)
    · have hq := fs_ifp c_1074 hq
      refine lv_aload_n hx hb d_MO_reaches_29 rfl (lv_at hl 0 rfl) ?_
      obtain ⟨R1075, eR1075, hq⟩ := fs_bind_some hq
      refine fs_cV B hl.1 hP hS (k_MO_work hSt hM  eR1075) (fs_tb_at 1661 tw_1661 rfl) hM.1 rfl (fs_tb_at 1663 tw_1663 rfl) (fs_tb_at 58 tw_58 rfl) (fs_tb_at 96 tw_96 rfl) (fs_tb_at 1664 tw_1664 rfl) (by decide) (show (parseMethodDescriptor y_MO_work.desc).map (fun d => d.parameters.length) = some 0 by decide +kernel) rfl d_MO_reaches_30 ⟨Nat.le_of_ble_eq_true rfl, Nat.le_of_ble_eq_true rfl, Nat.le_of_ble_eq_true rfl, Nat.le_of_ble_eq_true rfl⟩ (fun v_ h_ H locs hc_ hP hS => ?_) (fun C_ a_ h_ H locs hc_ => absurd hc_.1 (fun h9 => by cases h9))
      obtain ⟨ev, hM, hf2⟩ := hc_
      cases ev
      have hf := hf.trans hf2
      refine W.widen (k := 0) (n := 0) (Nat.le_of_ble_eq_true rfl) (Nat.le_of_ble_eq_true rfl) ?_
      refine W.eq (g2 := F0 m 33 ls ([])) rfl ?_
      refine lv_bipush (v := 10) hx hb d_MO_reaches_33 (by decide) ?_
      refine lv_iload_n hx hb d_MO_reaches_35 rfl (lv_at hl 1 rfl) ?_
      refine lv_imul hx hb d_MO_reaches_36 ?_
      refine lv_iload_n hx hb d_MO_reaches_37 rfl (lv_at hl 2 rfl) ?_
      refine lv_iadd hx hb d_MO_reaches_38 ?_
      refine lv_istore (lv' := [(5, .int ((10 * x1) + x2)), (0, .ref a), (1, .int x1), (2, .int x2), (3, .int x3), (4, .int x4)]) hx hb d_MO_reaches_39 hl (by decide) rfl (fun ls hl => ?_)
      refine lv_aload_n hx hb d_MO_reaches_41 rfl (lv_at hl 1 rfl) ?_
      refine fs_get (v := .ref (ad 15)) hx hb hts hown hK c_MO hP hM.1 15 (by decide) (hts _ (fs_tb_at 1471 tw_1471 rfl)) (fun _ h9 => h9) rfl d_MO_reaches_42 ?_
      refine lv_iload hx hb d_MO_reaches_45 (lv_at hl 0 rfl) ?_
      obtain ⟨hi_, hq⟩ := fs_okp_some hq
      refine fs_lald (f := R1075.2.2.1 15) hx hb hK hP 1 (hM.2.1 15 1 80 rfl) rfl hi_ d_MO_reaches_47 ?_
      refine lv_aload_n hx hb d_MO_reaches_48 rfl (lv_at hl 1 rfl) ?_
      refine fs_get (v := .ref (ad 16)) hx hb hts hown hK c_MO hP hM.1 16 (by decide) (hts _ (fs_tb_at 1472 tw_1472 rfl)) (fun _ h9 => h9) rfl d_MO_reaches_49 ?_
      refine lv_iload hx hb d_MO_reaches_52 (lv_at hl 0 rfl) ?_
      obtain ⟨hi_, hq⟩ := fs_okp_some hq
      refine fs_lald (f := R1075.2.2.1 16) hx hb hK hP 1 (hM.2.1 16 1 80 rfl) rfl hi_ d_MO_reaches_54 ?_
      refine lv_bipush (v := 10) hx hb d_MO_reaches_55 (by decide) ?_
      refine lv_iload_n hx hb d_MO_reaches_57 rfl (lv_at hl 4 rfl) ?_
      refine lv_imul hx hb d_MO_reaches_58 ?_
      refine lv_iload hx hb d_MO_reaches_59 (lv_at hl 5 rfl) ?_
      refine lv_iadd hx hb d_MO_reaches_61 ?_
      refine fs_cS B hl.1 hP hS (k_MO_in hSt (R1075.2.2.1 15 (Int32.toNatClampNeg ((10 * x1) + x2))) (R1075.2.2.1 16 (Int32.toNatClampNeg ((10 * x1) + x2))) ((10 * x3) + x4)) (fs_tb_at 1695 tw_1695 rfl) (fs_tb_at 1696 tw_1696 rfl) (fs_tb_at 96 tw_96 rfl) (fs_tb_at 1697 tw_1697 rfl) (by decide) (show (parseMethodDescriptor y_MO_in.desc).map (fun d => d.parameters.length) = some 3 by decide +kernel) rfl d_MO_reaches_62 ⟨Nat.le_of_ble_eq_true rfl, Nat.le_of_ble_eq_true rfl, Nat.le_of_ble_eq_true rfl, Nat.le_of_ble_eq_true rfl⟩ (fun v_ h_ H locs hc_ hP hS => ?_) (fun C_ a_ h_ H locs hc_ => absurd hc_.1 (fun h9 => by cases h9))
      obtain ⟨ev, eh⟩ := hc_
      cases ev
      rw [eh] at hP
      refine W.widen (k := 0) (n := 0) (Nat.le_of_ble_eq_true rfl) (Nat.le_of_ble_eq_true rfl) ?_
      refine W.eq (g2 := F0 m 65 ls (.int (p_MO_in (R1075.2.2.1 15 (Int32.toNatClampNeg ((10 * x1) + x2))) (R1075.2.2.1 16 (Int32.toNatClampNeg ((10 * x1) + x2))) ((10 * x3) + x4)) :: [])) rfl ?_
      obtain ⟨hz_, hq⟩ := fs_okp_some hq
      cases hq
      exact fs_iret hx hb hr hlocks hw hP hS (fs_nbo hz_) (by omega) (by omega) (⟨rfl, hM, hf⟩) d_MO_reaches_65
    · have hq := fs_ifn c_1074 hq
      refine lv_aload_n hx hb d_MO_reaches_22 rfl (lv_at hl 0 rfl) ?_
      refine lv_iconst (v := 1) hx hb d_MO_reaches_23 (by decide) ?_
      refine fs_put hx hb hts hown hK c_MO hP hS hM.1 11 (by decide) (hts _ (fs_tb_at 1467 tw_1467 rfl)) (fun _ h9 => h9) rfl rfl rfl (Nat.le_of_ble_eq_true rfl) d_MO_reaches_24 (fun H locs hP hS => ?_)
      obtain ⟨h1076, hP, hM, hf⟩ : ∃ x, fs_P G.1 fs_cl (fs_A s00) x H ∧ mo_at G x a ad (mo_f (mo_f M 11 0) 11 1) ∧ mo_fr a ad h x := ⟨_, hP, hM.F (mo_F11 ad (mo_f M 11 0) 1), hf.self⟩
      refine lv_iconst (v := 0) hx hb d_MO_reaches_27 (by decide) ?_
      cases hq
      exact fs_iret hx hb hr hlocks hw hP hS rfl (by omega) (by omega) (⟨rfl, hM, hf⟩) d_MO_reaches_28
