/-! The reference's maker, as a condition. -/
abbrev b_MO_init : ByteArray := prog_14_method_1_code
def y_MO_init : MethodName := ⟨"FormulaSheetModel", "<init>", "()V"⟩
theorem d_MO_init_0 : decode b_MO_init 0 = .ok (.aload_n 0, 1) := by decide +kernel
theorem d_MO_init_1 : decode b_MO_init 1 = .ok (.invokespecial 1, 3) := by decide +kernel
theorem d_MO_init_4 : decode b_MO_init 4 = .ok (.aload_n 0, 1) := by decide +kernel
theorem d_MO_init_5 : decode b_MO_init 5 = .ok (.bipush 81, 2) := by decide +kernel
theorem d_MO_init_7 : decode b_MO_init 7 = .ok (.newarray .int, 2) := by decide +kernel
theorem d_MO_init_9 : decode b_MO_init 9 = .ok (.putfield 7, 3) := by decide +kernel
theorem d_MO_init_12 : decode b_MO_init 12 = .ok (.aload_n 0, 1) := by decide +kernel
theorem d_MO_init_13 : decode b_MO_init 13 = .ok (.bipush 81, 2) := by decide +kernel
theorem d_MO_init_15 : decode b_MO_init 15 = .ok (.newarray .int, 2) := by decide +kernel
theorem d_MO_init_17 : decode b_MO_init 17 = .ok (.putfield 13, 3) := by decide +kernel
theorem d_MO_init_20 : decode b_MO_init 20 = .ok (.aload_n 0, 1) := by decide +kernel
theorem d_MO_init_21 : decode b_MO_init 21 = .ok (.bipush 81, 2) := by decide +kernel
theorem d_MO_init_23 : decode b_MO_init 23 = .ok (.newarray .double, 2) := by decide +kernel
theorem d_MO_init_25 : decode b_MO_init 25 = .ok (.putfield 16, 3) := by decide +kernel
theorem d_MO_init_28 : decode b_MO_init 28 = .ok (.aload_n 0, 1) := by decide +kernel
theorem d_MO_init_29 : decode b_MO_init 29 = .ok (.sipush 3240, 3) := by decide +kernel
theorem d_MO_init_32 : decode b_MO_init 32 = .ok (.newarray .int, 2) := by decide +kernel
theorem d_MO_init_34 : decode b_MO_init 34 = .ok (.putfield 20, 3) := by decide +kernel
theorem d_MO_init_37 : decode b_MO_init 37 = .ok (.aload_n 0, 1) := by decide +kernel
theorem d_MO_init_38 : decode b_MO_init 38 = .ok (.sipush 3240, 3) := by decide +kernel
theorem d_MO_init_41 : decode b_MO_init 41 = .ok (.newarray .int, 2) := by decide +kernel
theorem d_MO_init_43 : decode b_MO_init 43 = .ok (.putfield 23, 3) := by decide +kernel
theorem d_MO_init_46 : decode b_MO_init 46 = .ok (.aload_n 0, 1) := by decide +kernel
theorem d_MO_init_47 : decode b_MO_init 47 = .ok (.sipush 3240, 3) := by decide +kernel
theorem d_MO_init_50 : decode b_MO_init 50 = .ok (.newarray .int, 2) := by decide +kernel
theorem d_MO_init_52 : decode b_MO_init 52 = .ok (.putfield 26, 3) := by decide +kernel
theorem d_MO_init_55 : decode b_MO_init 55 = .ok (.aload_n 0, 1) := by decide +kernel
theorem d_MO_init_56 : decode b_MO_init 56 = .ok (.sipush 3240, 3) := by decide +kernel
theorem d_MO_init_59 : decode b_MO_init 59 = .ok (.newarray .long, 2) := by decide +kernel
theorem d_MO_init_61 : decode b_MO_init 61 = .ok (.putfield 29, 3) := by decide +kernel
theorem d_MO_init_64 : decode b_MO_init 64 = .ok (.aload_n 0, 1) := by decide +kernel
theorem d_MO_init_65 : decode b_MO_init 65 = .ok (.bipush 24, 2) := by decide +kernel
theorem d_MO_init_67 : decode b_MO_init 67 = .ok (.newarray .int, 2) := by decide +kernel
theorem d_MO_init_69 : decode b_MO_init 69 = .ok (.dup, 1) := by decide +kernel
theorem d_MO_init_70 : decode b_MO_init 70 = .ok (.iconst 0, 1) := by decide +kernel
theorem d_MO_init_71 : decode b_MO_init 71 = .ok (.bipush 115, 2) := by decide +kernel
theorem d_MO_init_73 : decode b_MO_init 73 = .ok (.iastore, 1) := by decide +kernel
theorem d_MO_init_74 : decode b_MO_init 74 = .ok (.dup, 1) := by decide +kernel
theorem d_MO_init_75 : decode b_MO_init 75 = .ok (.iconst 1, 1) := by decide +kernel
theorem d_MO_init_76 : decode b_MO_init 76 = .ok (.bipush 117, 2) := by decide +kernel
theorem d_MO_init_78 : decode b_MO_init 78 = .ok (.iastore, 1) := by decide +kernel
theorem d_MO_init_79 : decode b_MO_init 79 = .ok (.dup, 1) := by decide +kernel
theorem d_MO_init_80 : decode b_MO_init 80 = .ok (.iconst 2, 1) := by decide +kernel
theorem d_MO_init_81 : decode b_MO_init 81 = .ok (.bipush 109, 2) := by decide +kernel
theorem d_MO_init_83 : decode b_MO_init 83 = .ok (.iastore, 1) := by decide +kernel
theorem d_MO_init_84 : decode b_MO_init 84 = .ok (.dup, 1) := by decide +kernel
theorem d_MO_init_85 : decode b_MO_init 85 = .ok (.iconst 3, 1) := by decide +kernel
theorem d_MO_init_86 : decode b_MO_init 86 = .ok (.bipush 109, 2) := by decide +kernel
theorem d_MO_init_88 : decode b_MO_init 88 = .ok (.iastore, 1) := by decide +kernel
theorem d_MO_init_89 : decode b_MO_init 89 = .ok (.dup, 1) := by decide +kernel
theorem d_MO_init_90 : decode b_MO_init 90 = .ok (.iconst 4, 1) := by decide +kernel
theorem d_MO_init_91 : decode b_MO_init 91 = .ok (.bipush 105, 2) := by decide +kernel
theorem d_MO_init_93 : decode b_MO_init 93 = .ok (.iastore, 1) := by decide +kernel
theorem d_MO_init_94 : decode b_MO_init 94 = .ok (.dup, 1) := by decide +kernel
theorem d_MO_init_95 : decode b_MO_init 95 = .ok (.iconst 5, 1) := by decide +kernel
theorem d_MO_init_96 : decode b_MO_init 96 = .ok (.bipush 110, 2) := by decide +kernel
theorem d_MO_init_98 : decode b_MO_init 98 = .ok (.iastore, 1) := by decide +kernel
theorem d_MO_init_99 : decode b_MO_init 99 = .ok (.dup, 1) := by decide +kernel
theorem d_MO_init_100 : decode b_MO_init 100 = .ok (.bipush 6, 2) := by decide +kernel
theorem d_MO_init_102 : decode b_MO_init 102 = .ok (.bipush 109, 2) := by decide +kernel
theorem d_MO_init_104 : decode b_MO_init 104 = .ok (.iastore, 1) := by decide +kernel
theorem d_MO_init_105 : decode b_MO_init 105 = .ok (.dup, 1) := by decide +kernel
theorem d_MO_init_106 : decode b_MO_init 106 = .ok (.bipush 7, 2) := by decide +kernel
theorem d_MO_init_108 : decode b_MO_init 108 = .ok (.bipush 97, 2) := by decide +kernel
theorem d_MO_init_110 : decode b_MO_init 110 = .ok (.iastore, 1) := by decide +kernel
theorem d_MO_init_111 : decode b_MO_init 111 = .ok (.dup, 1) := by decide +kernel
theorem d_MO_init_112 : decode b_MO_init 112 = .ok (.bipush 8, 2) := by decide +kernel
theorem d_MO_init_114 : decode b_MO_init 114 = .ok (.bipush 120, 2) := by decide +kernel
theorem d_MO_init_116 : decode b_MO_init 116 = .ok (.iastore, 1) := by decide +kernel
theorem d_MO_init_117 : decode b_MO_init 117 = .ok (.dup, 1) := by decide +kernel
theorem d_MO_init_118 : decode b_MO_init 118 = .ok (.bipush 9, 2) := by decide +kernel
theorem d_MO_init_120 : decode b_MO_init 120 = .ok (.bipush 99, 2) := by decide +kernel
theorem d_MO_init_122 : decode b_MO_init 122 = .ok (.iastore, 1) := by decide +kernel
theorem d_MO_init_123 : decode b_MO_init 123 = .ok (.dup, 1) := by decide +kernel
theorem d_MO_init_124 : decode b_MO_init 124 = .ok (.bipush 10, 2) := by decide +kernel
theorem d_MO_init_126 : decode b_MO_init 126 = .ok (.bipush 110, 2) := by decide +kernel
theorem d_MO_init_128 : decode b_MO_init 128 = .ok (.iastore, 1) := by decide +kernel
theorem d_MO_init_129 : decode b_MO_init 129 = .ok (.dup, 1) := by decide +kernel
theorem d_MO_init_130 : decode b_MO_init 130 = .ok (.bipush 11, 2) := by decide +kernel
theorem d_MO_init_132 : decode b_MO_init 132 = .ok (.bipush 116, 2) := by decide +kernel
theorem d_MO_init_134 : decode b_MO_init 134 = .ok (.iastore, 1) := by decide +kernel
theorem d_MO_init_135 : decode b_MO_init 135 = .ok (.dup, 1) := by decide +kernel
theorem d_MO_init_136 : decode b_MO_init 136 = .ok (.bipush 12, 2) := by decide +kernel
theorem d_MO_init_138 : decode b_MO_init 138 = .ok (.bipush 97, 2) := by decide +kernel
theorem d_MO_init_140 : decode b_MO_init 140 = .ok (.iastore, 1) := by decide +kernel
theorem d_MO_init_141 : decode b_MO_init 141 = .ok (.dup, 1) := by decide +kernel
theorem d_MO_init_142 : decode b_MO_init 142 = .ok (.bipush 13, 2) := by decide +kernel
theorem d_MO_init_144 : decode b_MO_init 144 = .ok (.bipush 118, 2) := by decide +kernel
theorem d_MO_init_146 : decode b_MO_init 146 = .ok (.iastore, 1) := by decide +kernel
theorem d_MO_init_147 : decode b_MO_init 147 = .ok (.dup, 1) := by decide +kernel
theorem d_MO_init_148 : decode b_MO_init 148 = .ok (.bipush 14, 2) := by decide +kernel
theorem d_MO_init_150 : decode b_MO_init 150 = .ok (.bipush 103, 2) := by decide +kernel
theorem d_MO_init_152 : decode b_MO_init 152 = .ok (.iastore, 1) := by decide +kernel
theorem d_MO_init_153 : decode b_MO_init 153 = .ok (.dup, 1) := by decide +kernel
theorem d_MO_init_154 : decode b_MO_init 154 = .ok (.bipush 15, 2) := by decide +kernel
theorem d_MO_init_156 : decode b_MO_init 156 = .ok (.bipush 97, 2) := by decide +kernel
theorem d_MO_init_158 : decode b_MO_init 158 = .ok (.iastore, 1) := by decide +kernel
theorem d_MO_init_159 : decode b_MO_init 159 = .ok (.dup, 1) := by decide +kernel
theorem d_MO_init_160 : decode b_MO_init 160 = .ok (.bipush 16, 2) := by decide +kernel
theorem d_MO_init_162 : decode b_MO_init 162 = .ok (.bipush 98, 2) := by decide +kernel
theorem d_MO_init_164 : decode b_MO_init 164 = .ok (.iastore, 1) := by decide +kernel
theorem d_MO_init_165 : decode b_MO_init 165 = .ok (.dup, 1) := by decide +kernel
theorem d_MO_init_166 : decode b_MO_init 166 = .ok (.bipush 17, 2) := by decide +kernel
theorem d_MO_init_168 : decode b_MO_init 168 = .ok (.bipush 115, 2) := by decide +kernel
theorem d_MO_init_170 : decode b_MO_init 170 = .ok (.iastore, 1) := by decide +kernel
theorem d_MO_init_171 : decode b_MO_init 171 = .ok (.dup, 1) := by decide +kernel
theorem d_MO_init_172 : decode b_MO_init 172 = .ok (.bipush 18, 2) := by decide +kernel
theorem d_MO_init_174 : decode b_MO_init 174 = .ok (.bipush 105, 2) := by decide +kernel
theorem d_MO_init_176 : decode b_MO_init 176 = .ok (.iastore, 1) := by decide +kernel
theorem d_MO_init_177 : decode b_MO_init 177 = .ok (.dup, 1) := by decide +kernel
theorem d_MO_init_178 : decode b_MO_init 178 = .ok (.bipush 19, 2) := by decide +kernel
theorem d_MO_init_180 : decode b_MO_init 180 = .ok (.bipush 110, 2) := by decide +kernel
theorem d_MO_init_182 : decode b_MO_init 182 = .ok (.iastore, 1) := by decide +kernel
theorem d_MO_init_183 : decode b_MO_init 183 = .ok (.dup, 1) := by decide +kernel
theorem d_MO_init_184 : decode b_MO_init 184 = .ok (.bipush 20, 2) := by decide +kernel
theorem d_MO_init_186 : decode b_MO_init 186 = .ok (.bipush 116, 2) := by decide +kernel
theorem d_MO_init_188 : decode b_MO_init 188 = .ok (.iastore, 1) := by decide +kernel
theorem d_MO_init_189 : decode b_MO_init 189 = .ok (.dup, 1) := by decide +kernel
theorem d_MO_init_190 : decode b_MO_init 190 = .ok (.bipush 21, 2) := by decide +kernel
theorem d_MO_init_192 : decode b_MO_init 192 = .ok (.bipush 105, 2) := by decide +kernel
theorem d_MO_init_194 : decode b_MO_init 194 = .ok (.iastore, 1) := by decide +kernel
theorem d_MO_init_195 : decode b_MO_init 195 = .ok (.dup, 1) := by decide +kernel
theorem d_MO_init_196 : decode b_MO_init 196 = .ok (.bipush 22, 2) := by decide +kernel
theorem d_MO_init_198 : decode b_MO_init 198 = .ok (.bipush 102, 2) := by decide +kernel
theorem d_MO_init_200 : decode b_MO_init 200 = .ok (.iastore, 1) := by decide +kernel
theorem d_MO_init_201 : decode b_MO_init 201 = .ok (.dup, 1) := by decide +kernel
theorem d_MO_init_202 : decode b_MO_init 202 = .ok (.bipush 23, 2) := by decide +kernel
theorem d_MO_init_204 : decode b_MO_init 204 = .ok (.iconst 0, 1) := by decide +kernel
theorem d_MO_init_205 : decode b_MO_init 205 = .ok (.iastore, 1) := by decide +kernel
theorem d_MO_init_206 : decode b_MO_init 206 = .ok (.putfield 33, 3) := by decide +kernel
theorem d_MO_init_209 : decode b_MO_init 209 = .ok (.aload_n 0, 1) := by decide +kernel
theorem d_MO_init_210 : decode b_MO_init 210 = .ok (.bipush 40, 2) := by decide +kernel
theorem d_MO_init_212 : decode b_MO_init 212 = .ok (.newarray .int, 2) := by decide +kernel
theorem d_MO_init_214 : decode b_MO_init 214 = .ok (.putfield 36, 3) := by decide +kernel
theorem d_MO_init_217 : decode b_MO_init 217 = .ok (.aload_n 0, 1) := by decide +kernel
theorem d_MO_init_218 : decode b_MO_init 218 = .ok (.iconst (-1), 1) := by decide +kernel
theorem d_MO_init_219 : decode b_MO_init 219 = .ok (.putfield 39, 3) := by decide +kernel
theorem d_MO_init_222 : decode b_MO_init 222 = .ok (.aload_n 0, 1) := by decide +kernel
theorem d_MO_init_223 : decode b_MO_init 223 = .ok (.iconst 1, 1) := by decide +kernel
theorem d_MO_init_224 : decode b_MO_init 224 = .ok (.putfield 43, 3) := by decide +kernel
theorem d_MO_init_227 : decode b_MO_init 227 = .ok (.aload_n 0, 1) := by decide +kernel
theorem d_MO_init_228 : decode b_MO_init 228 = .ok (.bipush 80, 2) := by decide +kernel
theorem d_MO_init_230 : decode b_MO_init 230 = .ok (.newarray .long, 2) := by decide +kernel
theorem d_MO_init_232 : decode b_MO_init 232 = .ok (.putfield 47, 3) := by decide +kernel
theorem d_MO_init_235 : decode b_MO_init 235 = .ok (.aload_n 0, 1) := by decide +kernel
theorem d_MO_init_236 : decode b_MO_init 236 = .ok (.bipush 80, 2) := by decide +kernel
theorem d_MO_init_238 : decode b_MO_init 238 = .ok (.newarray .long, 2) := by decide +kernel
theorem d_MO_init_240 : decode b_MO_init 240 = .ok (.putfield 50, 3) := by decide +kernel
theorem d_MO_init_243 : decode b_MO_init 243 = .ok (.aload_n 0, 1) := by decide +kernel
theorem d_MO_init_244 : decode b_MO_init 244 = .ok (.bipush 80, 2) := by decide +kernel
theorem d_MO_init_246 : decode b_MO_init 246 = .ok (.newarray .long, 2) := by decide +kernel
theorem d_MO_init_248 : decode b_MO_init 248 = .ok (.putfield 53, 3) := by decide +kernel
theorem d_MO_init_251 : decode b_MO_init 251 = .ok (.aload_n 0, 1) := by decide +kernel
theorem d_MO_init_252 : decode b_MO_init 252 = .ok (.bipush 80, 2) := by decide +kernel
theorem d_MO_init_254 : decode b_MO_init 254 = .ok (.newarray .long, 2) := by decide +kernel
theorem d_MO_init_256 : decode b_MO_init 256 = .ok (.putfield 56, 3) := by decide +kernel
theorem d_MO_init_259 : decode b_MO_init 259 = .ok (.aload_n 0, 1) := by decide +kernel
theorem d_MO_init_260 : decode b_MO_init 260 = .ok (.bipush 80, 2) := by decide +kernel
theorem d_MO_init_262 : decode b_MO_init 262 = .ok (.newarray .double, 2) := by decide +kernel
theorem d_MO_init_264 : decode b_MO_init 264 = .ok (.putfield 59, 3) := by decide +kernel
theorem d_MO_init_267 : decode b_MO_init 267 = .ok (.aload_n 0, 1) := by decide +kernel
theorem d_MO_init_268 : decode b_MO_init 268 = .ok (.bipush 80, 2) := by decide +kernel
theorem d_MO_init_270 : decode b_MO_init 270 = .ok (.newarray .boolean, 2) := by decide +kernel
theorem d_MO_init_272 : decode b_MO_init 272 = .ok (.putfield 62, 3) := by decide +kernel
theorem d_MO_init_275 : decode b_MO_init 275 = .ok (.aload_n 0, 1) := by decide +kernel
theorem d_MO_init_276 : decode b_MO_init 276 = .ok (.bipush 80, 2) := by decide +kernel
theorem d_MO_init_278 : decode b_MO_init 278 = .ok (.newarray .boolean, 2) := by decide +kernel
theorem d_MO_init_280 : decode b_MO_init 280 = .ok (.putfield 66, 3) := by decide +kernel
theorem d_MO_init_283 : decode b_MO_init 283 = .ok (.aload_n 0, 1) := by decide +kernel
theorem d_MO_init_284 : decode b_MO_init 284 = .ok (.bipush 44, 2) := by decide +kernel
theorem d_MO_init_286 : decode b_MO_init 286 = .ok (.newarray .double, 2) := by decide +kernel
theorem d_MO_init_288 : decode b_MO_init 288 = .ok (.putfield 69, 3) := by decide +kernel
theorem d_MO_init_291 : decode b_MO_init 291 = .ok (.aload_n 0, 1) := by decide +kernel
theorem d_MO_init_292 : decode b_MO_init 292 = .ok (.bipush 44, 2) := by decide +kernel
theorem d_MO_init_294 : decode b_MO_init 294 = .ok (.newarray .boolean, 2) := by decide +kernel
theorem d_MO_init_296 : decode b_MO_init 296 = .ok (.putfield 72, 3) := by decide +kernel
theorem d_MO_init_299 : decode b_MO_init 299 = .ok (.aload_n 0, 1) := by decide +kernel
theorem d_MO_init_300 : decode b_MO_init 300 = .ok (.bipush 8, 2) := by decide +kernel
theorem d_MO_init_302 : decode b_MO_init 302 = .ok (.newarray .int, 2) := by decide +kernel
theorem d_MO_init_304 : decode b_MO_init 304 = .ok (.putfield 75, 3) := by decide +kernel
theorem d_MO_init_307 : decode b_MO_init 307 = .ok (.aload_n 0, 1) := by decide +kernel
theorem d_MO_init_308 : decode b_MO_init 308 = .ok (.bipush 8, 2) := by decide +kernel
theorem d_MO_init_310 : decode b_MO_init 310 = .ok (.newarray .int, 2) := by decide +kernel
theorem d_MO_init_312 : decode b_MO_init 312 = .ok (.putfield 78, 3) := by decide +kernel
theorem d_MO_init_315 : decode b_MO_init 315 = .ok (.aload_n 0, 1) := by decide +kernel
theorem d_MO_init_316 : decode b_MO_init 316 = .ok (.bipush 8, 2) := by decide +kernel
theorem d_MO_init_318 : decode b_MO_init 318 = .ok (.newarray .boolean, 2) := by decide +kernel
theorem d_MO_init_320 : decode b_MO_init 320 = .ok (.putfield 81, 3) := by decide +kernel
theorem d_MO_init_323 : decode b_MO_init 323 = .ok (.aload_n 0, 1) := by decide +kernel
theorem d_MO_init_324 : decode b_MO_init 324 = .ok (.bipush 44, 2) := by decide +kernel
theorem d_MO_init_326 : decode b_MO_init 326 = .ok (.newarray .int, 2) := by decide +kernel
theorem d_MO_init_328 : decode b_MO_init 328 = .ok (.putfield 84, 3) := by decide +kernel
theorem d_MO_init_331 : decode b_MO_init 331 = .ok (.aload_n 0, 1) := by decide +kernel
theorem d_MO_init_332 : decode b_MO_init 332 = .ok (.sipush 400, 3) := by decide +kernel
theorem d_MO_init_335 : decode b_MO_init 335 = .ok (.newarray .int, 2) := by decide +kernel
theorem d_MO_init_337 : decode b_MO_init 337 = .ok (.putfield 87, 3) := by decide +kernel
theorem d_MO_init_340 : decode b_MO_init 340 = .ok (.aload_n 0, 1) := by decide +kernel
theorem d_MO_init_341 : decode b_MO_init 341 = .ok (.bipush 44, 2) := by decide +kernel
theorem d_MO_init_343 : decode b_MO_init 343 = .ok (.newarray .int, 2) := by decide +kernel
theorem d_MO_init_345 : decode b_MO_init 345 = .ok (.putfield 90, 3) := by decide +kernel
theorem d_MO_init_348 : decode b_MO_init 348 = .ok (.aload_n 0, 1) := by decide +kernel
theorem d_MO_init_349 : decode b_MO_init 349 = .ok (.bipush 44, 2) := by decide +kernel
theorem d_MO_init_351 : decode b_MO_init 351 = .ok (.newarray .int, 2) := by decide +kernel
theorem d_MO_init_353 : decode b_MO_init 353 = .ok (.putfield 93, 3) := by decide +kernel
theorem d_MO_init_356 : decode b_MO_init 356 = .ok (.return_, 1) := by decide +kernel
theorem tw_1455 : lw_tbl[1455]? = some (Jvm.Cond.methodLink "FormulaSheetModel" (1 : Nat) ({ cls := "java/lang/Object", name := "<init>", desc := "()V" } : Jvm.MethodName)) := by decide +kernel
theorem tw_1565 : lw_tbl[1565]? = some (Jvm.Cond.arrayClass Jvm.ClassFile.FieldType.long) := by decide +kernel
set_option maxRecDepth 100000 in
def w_MO_init (mc ms : Nat) (E : fs_E) (h : fs_Hp) (a0 : Nat) (Post : fs_Ps) : Prop := ¬ (81 : Int32) < 0 ∧ (Int32.toNatClampNeg 81) * 4 ≤ 536870912 ∧ 1 ≤ mc ∧ (Int32.toNatClampNeg 81) ≤ ms ∧ ∀ a101 : Nat, h a101 = none → (fun h102 : fs_Hp => fs_pw h102 a0 10 0 (.ref a101) (fun h103 => ¬ (81 : Int32) < 0 ∧ (Int32.toNatClampNeg 81) * 4 ≤ 536870912 ∧ 1 ≤ (mc - 1) ∧ (Int32.toNatClampNeg 81) ≤ (ms - (Int32.toNatClampNeg 81)) ∧ ∀ a104 : Nat, h103 a104 = none → (fun h105 : fs_Hp => fs_pw h105 a0 10 1 (.ref a104) (fun h106 => ¬ (81 : Int32) < 0 ∧ (Int32.toNatClampNeg 81) * 8 ≤ 536870912 ∧ 1 ≤ ((mc - 1) - 1) ∧ (Int32.toNatClampNeg 81) ≤ ((ms - (Int32.toNatClampNeg 81)) - (Int32.toNatClampNeg 81)) ∧ ∀ a107 : Nat, h106 a107 = none → (fun h108 : fs_Hp => fs_pw h108 a0 10 2 (.ref a107) (fun h109 => ¬ (3240 : Int32) < 0 ∧ (Int32.toNatClampNeg 3240) * 4 ≤ 536870912 ∧ 1 ≤ (((mc - 1) - 1) - 1) ∧ (Int32.toNatClampNeg 3240) ≤ (((ms - (Int32.toNatClampNeg 81)) - (Int32.toNatClampNeg 81)) - (Int32.toNatClampNeg 81)) ∧ ∀ a110 : Nat, h109 a110 = none → (fun h111 : fs_Hp => fs_pw h111 a0 10 3 (.ref a110) (fun h112 => ¬ (3240 : Int32) < 0 ∧ (Int32.toNatClampNeg 3240) * 4 ≤ 536870912 ∧ 1 ≤ ((((mc - 1) - 1) - 1) - 1) ∧ (Int32.toNatClampNeg 3240) ≤ ((((ms - (Int32.toNatClampNeg 81)) - (Int32.toNatClampNeg 81)) - (Int32.toNatClampNeg 81)) - (Int32.toNatClampNeg 3240)) ∧ ∀ a113 : Nat, h112 a113 = none → (fun h114 : fs_Hp => fs_pw h114 a0 10 4 (.ref a113) (fun h115 => ¬ (3240 : Int32) < 0 ∧ (Int32.toNatClampNeg 3240) * 4 ≤ 536870912 ∧ 1 ≤ (((((mc - 1) - 1) - 1) - 1) - 1) ∧ (Int32.toNatClampNeg 3240) ≤ (((((ms - (Int32.toNatClampNeg 81)) - (Int32.toNatClampNeg 81)) - (Int32.toNatClampNeg 81)) - (Int32.toNatClampNeg 3240)) - (Int32.toNatClampNeg 3240)) ∧ ∀ a116 : Nat, h115 a116 = none → (fun h117 : fs_Hp => fs_pw h117 a0 10 5 (.ref a116) (fun h118 => ¬ (3240 : Int32) < 0 ∧ (Int32.toNatClampNeg 3240) * 8 ≤ 536870912 ∧ 1 ≤ ((((((mc - 1) - 1) - 1) - 1) - 1) - 1) ∧ (Int32.toNatClampNeg 3240) ≤ ((((((ms - (Int32.toNatClampNeg 81)) - (Int32.toNatClampNeg 81)) - (Int32.toNatClampNeg 81)) - (Int32.toNatClampNeg 3240)) - (Int32.toNatClampNeg 3240)) - (Int32.toNatClampNeg 3240)) ∧ ∀ a119 : Nat, h118 a119 = none → (fun h120 : fs_Hp => fs_pw h120 a0 10 6 (.ref a119) (fun h121 => ¬ (24 : Int32) < 0 ∧ (Int32.toNatClampNeg 24) * 4 ≤ 536870912 ∧ 1 ≤ (((((((mc - 1) - 1) - 1) - 1) - 1) - 1) - 1) ∧ (Int32.toNatClampNeg 24) ≤ (((((((ms - (Int32.toNatClampNeg 81)) - (Int32.toNatClampNeg 81)) - (Int32.toNatClampNeg 81)) - (Int32.toNatClampNeg 3240)) - (Int32.toNatClampNeg 3240)) - (Int32.toNatClampNeg 3240)) - (Int32.toNatClampNeg 3240)) ∧ ∀ a122 : Nat, h121 a122 = none → (fun h123 : fs_Hp => fs_si h123 a122 (E.1.2 0) 0 115 (fun h124 => fs_si h124 a122 (E.1.2 0) 1 117 (fun h125 => fs_si h125 a122 (E.1.2 0) 2 109 (fun h126 => fs_si h126 a122 (E.1.2 0) 3 109 (fun h127 => fs_si h127 a122 (E.1.2 0) 4 105 (fun h128 => fs_si h128 a122 (E.1.2 0) 5 110 (fun h129 => fs_si h129 a122 (E.1.2 0) 6 109 (fun h130 => fs_si h130 a122 (E.1.2 0) 7 97 (fun h131 => fs_si h131 a122 (E.1.2 0) 8 120 (fun h132 => fs_si h132 a122 (E.1.2 0) 9 99 (fun h133 => fs_si h133 a122 (E.1.2 0) 10 110 (fun h134 => fs_si h134 a122 (E.1.2 0) 11 116 (fun h135 => fs_si h135 a122 (E.1.2 0) 12 97 (fun h136 => fs_si h136 a122 (E.1.2 0) 13 118 (fun h137 => fs_si h137 a122 (E.1.2 0) 14 103 (fun h138 => fs_si h138 a122 (E.1.2 0) 15 97 (fun h139 => fs_si h139 a122 (E.1.2 0) 16 98 (fun h140 => fs_si h140 a122 (E.1.2 0) 17 115 (fun h141 => fs_si h141 a122 (E.1.2 0) 18 105 (fun h142 => fs_si h142 a122 (E.1.2 0) 19 110 (fun h143 => fs_si h143 a122 (E.1.2 0) 20 116 (fun h144 => fs_si h144 a122 (E.1.2 0) 21 105 (fun h145 => fs_si h145 a122 (E.1.2 0) 22 102 (fun h146 => fs_si h146 a122 (E.1.2 0) 23 0 (fun h147 => fs_pw h147 a0 10 7 (.ref a122) (fun h148 => ¬ (40 : Int32) < 0 ∧ (Int32.toNatClampNeg 40) * 4 ≤ 536870912 ∧ 1 ≤ ((((((((mc - 1) - 1) - 1) - 1) - 1) - 1) - 1) - 1) ∧ (Int32.toNatClampNeg 40) ≤ ((((((((ms - (Int32.toNatClampNeg 81)) - (Int32.toNatClampNeg 81)) - (Int32.toNatClampNeg 81)) - (Int32.toNatClampNeg 3240)) - (Int32.toNatClampNeg 3240)) - (Int32.toNatClampNeg 3240)) - (Int32.toNatClampNeg 3240)) - (Int32.toNatClampNeg 24)) ∧ ∀ a149 : Nat, h148 a149 = none → (fun h150 : fs_Hp => fs_pw h150 a0 10 8 (.ref a149) (fun h151 => fs_pw h151 a0 10 10 (.int (-1)) (fun h152 => fs_pw h152 a0 10 12 (.int 1) (fun h153 => ¬ (80 : Int32) < 0 ∧ (Int32.toNatClampNeg 80) * 8 ≤ 536870912 ∧ 1 ≤ (((((((((mc - 1) - 1) - 1) - 1) - 1) - 1) - 1) - 1) - 1) ∧ (Int32.toNatClampNeg 80) ≤ (((((((((ms - (Int32.toNatClampNeg 81)) - (Int32.toNatClampNeg 81)) - (Int32.toNatClampNeg 81)) - (Int32.toNatClampNeg 3240)) - (Int32.toNatClampNeg 3240)) - (Int32.toNatClampNeg 3240)) - (Int32.toNatClampNeg 3240)) - (Int32.toNatClampNeg 24)) - (Int32.toNatClampNeg 40)) ∧ ∀ a154 : Nat, h153 a154 = none → (fun h155 : fs_Hp => fs_pw h155 a0 10 13 (.ref a154) (fun h156 => ¬ (80 : Int32) < 0 ∧ (Int32.toNatClampNeg 80) * 8 ≤ 536870912 ∧ 1 ≤ ((((((((((mc - 1) - 1) - 1) - 1) - 1) - 1) - 1) - 1) - 1) - 1) ∧ (Int32.toNatClampNeg 80) ≤ ((((((((((ms - (Int32.toNatClampNeg 81)) - (Int32.toNatClampNeg 81)) - (Int32.toNatClampNeg 81)) - (Int32.toNatClampNeg 3240)) - (Int32.toNatClampNeg 3240)) - (Int32.toNatClampNeg 3240)) - (Int32.toNatClampNeg 3240)) - (Int32.toNatClampNeg 24)) - (Int32.toNatClampNeg 40)) - (Int32.toNatClampNeg 80)) ∧ ∀ a157 : Nat, h156 a157 = none → (fun h158 : fs_Hp => fs_pw h158 a0 10 14 (.ref a157) (fun h159 => ¬ (80 : Int32) < 0 ∧ (Int32.toNatClampNeg 80) * 8 ≤ 536870912 ∧ 1 ≤ (((((((((((mc - 1) - 1) - 1) - 1) - 1) - 1) - 1) - 1) - 1) - 1) - 1) ∧ (Int32.toNatClampNeg 80) ≤ (((((((((((ms - (Int32.toNatClampNeg 81)) - (Int32.toNatClampNeg 81)) - (Int32.toNatClampNeg 81)) - (Int32.toNatClampNeg 3240)) - (Int32.toNatClampNeg 3240)) - (Int32.toNatClampNeg 3240)) - (Int32.toNatClampNeg 3240)) - (Int32.toNatClampNeg 24)) - (Int32.toNatClampNeg 40)) - (Int32.toNatClampNeg 80)) - (Int32.toNatClampNeg 80)) ∧ ∀ a160 : Nat, h159 a160 = none → (fun h161 : fs_Hp => fs_pw h161 a0 10 15 (.ref a160) (fun h162 => ¬ (80 : Int32) < 0 ∧ (Int32.toNatClampNeg 80) * 8 ≤ 536870912 ∧ 1 ≤ ((((((((((((mc - 1) - 1) - 1) - 1) - 1) - 1) - 1) - 1) - 1) - 1) - 1) - 1) ∧ (Int32.toNatClampNeg 80) ≤ ((((((((((((ms - (Int32.toNatClampNeg 81)) - (Int32.toNatClampNeg 81)) - (Int32.toNatClampNeg 81)) - (Int32.toNatClampNeg 3240)) - (Int32.toNatClampNeg 3240)) - (Int32.toNatClampNeg 3240)) - (Int32.toNatClampNeg 3240)) - (Int32.toNatClampNeg 24)) - (Int32.toNatClampNeg 40)) - (Int32.toNatClampNeg 80)) - (Int32.toNatClampNeg 80)) - (Int32.toNatClampNeg 80)) ∧ ∀ a163 : Nat, h162 a163 = none → (fun h164 : fs_Hp => fs_pw h164 a0 10 16 (.ref a163) (fun h165 => ¬ (80 : Int32) < 0 ∧ (Int32.toNatClampNeg 80) * 8 ≤ 536870912 ∧ 1 ≤ (((((((((((((mc - 1) - 1) - 1) - 1) - 1) - 1) - 1) - 1) - 1) - 1) - 1) - 1) - 1) ∧ (Int32.toNatClampNeg 80) ≤ (((((((((((((ms - (Int32.toNatClampNeg 81)) - (Int32.toNatClampNeg 81)) - (Int32.toNatClampNeg 81)) - (Int32.toNatClampNeg 3240)) - (Int32.toNatClampNeg 3240)) - (Int32.toNatClampNeg 3240)) - (Int32.toNatClampNeg 3240)) - (Int32.toNatClampNeg 24)) - (Int32.toNatClampNeg 40)) - (Int32.toNatClampNeg 80)) - (Int32.toNatClampNeg 80)) - (Int32.toNatClampNeg 80)) - (Int32.toNatClampNeg 80)) ∧ ∀ a166 : Nat, h165 a166 = none → (fun h167 : fs_Hp => fs_pw h167 a0 10 17 (.ref a166) (fun h168 => ¬ (80 : Int32) < 0 ∧ (Int32.toNatClampNeg 80) * 1 ≤ 536870912 ∧ 1 ≤ ((((((((((((((mc - 1) - 1) - 1) - 1) - 1) - 1) - 1) - 1) - 1) - 1) - 1) - 1) - 1) - 1) ∧ (Int32.toNatClampNeg 80) ≤ ((((((((((((((ms - (Int32.toNatClampNeg 81)) - (Int32.toNatClampNeg 81)) - (Int32.toNatClampNeg 81)) - (Int32.toNatClampNeg 3240)) - (Int32.toNatClampNeg 3240)) - (Int32.toNatClampNeg 3240)) - (Int32.toNatClampNeg 3240)) - (Int32.toNatClampNeg 24)) - (Int32.toNatClampNeg 40)) - (Int32.toNatClampNeg 80)) - (Int32.toNatClampNeg 80)) - (Int32.toNatClampNeg 80)) - (Int32.toNatClampNeg 80)) - (Int32.toNatClampNeg 80)) ∧ ∀ a169 : Nat, h168 a169 = none → (fun h170 : fs_Hp => fs_pw h170 a0 10 18 (.ref a169) (fun h171 => ¬ (80 : Int32) < 0 ∧ (Int32.toNatClampNeg 80) * 1 ≤ 536870912 ∧ 1 ≤ (((((((((((((((mc - 1) - 1) - 1) - 1) - 1) - 1) - 1) - 1) - 1) - 1) - 1) - 1) - 1) - 1) - 1) ∧ (Int32.toNatClampNeg 80) ≤ (((((((((((((((ms - (Int32.toNatClampNeg 81)) - (Int32.toNatClampNeg 81)) - (Int32.toNatClampNeg 81)) - (Int32.toNatClampNeg 3240)) - (Int32.toNatClampNeg 3240)) - (Int32.toNatClampNeg 3240)) - (Int32.toNatClampNeg 3240)) - (Int32.toNatClampNeg 24)) - (Int32.toNatClampNeg 40)) - (Int32.toNatClampNeg 80)) - (Int32.toNatClampNeg 80)) - (Int32.toNatClampNeg 80)) - (Int32.toNatClampNeg 80)) - (Int32.toNatClampNeg 80)) - (Int32.toNatClampNeg 80)) ∧ ∀ a172 : Nat, h171 a172 = none → (fun h173 : fs_Hp => fs_pw h173 a0 10 19 (.ref a172) (fun h174 => ¬ (44 : Int32) < 0 ∧ (Int32.toNatClampNeg 44) * 8 ≤ 536870912 ∧ 1 ≤ ((((((((((((((((mc - 1) - 1) - 1) - 1) - 1) - 1) - 1) - 1) - 1) - 1) - 1) - 1) - 1) - 1) - 1) - 1) ∧ (Int32.toNatClampNeg 44) ≤ ((((((((((((((((ms - (Int32.toNatClampNeg 81)) - (Int32.toNatClampNeg 81)) - (Int32.toNatClampNeg 81)) - (Int32.toNatClampNeg 3240)) - (Int32.toNatClampNeg 3240)) - (Int32.toNatClampNeg 3240)) - (Int32.toNatClampNeg 3240)) - (Int32.toNatClampNeg 24)) - (Int32.toNatClampNeg 40)) - (Int32.toNatClampNeg 80)) - (Int32.toNatClampNeg 80)) - (Int32.toNatClampNeg 80)) - (Int32.toNatClampNeg 80)) - (Int32.toNatClampNeg 80)) - (Int32.toNatClampNeg 80)) - (Int32.toNatClampNeg 80)) ∧ ∀ a175 : Nat, h174 a175 = none → (fun h176 : fs_Hp => fs_pw h176 a0 10 20 (.ref a175) (fun h177 => ¬ (44 : Int32) < 0 ∧ (Int32.toNatClampNeg 44) * 1 ≤ 536870912 ∧ 1 ≤ (((((((((((((((((mc - 1) - 1) - 1) - 1) - 1) - 1) - 1) - 1) - 1) - 1) - 1) - 1) - 1) - 1) - 1) - 1) - 1) ∧ (Int32.toNatClampNeg 44) ≤ (((((((((((((((((ms - (Int32.toNatClampNeg 81)) - (Int32.toNatClampNeg 81)) - (Int32.toNatClampNeg 81)) - (Int32.toNatClampNeg 3240)) - (Int32.toNatClampNeg 3240)) - (Int32.toNatClampNeg 3240)) - (Int32.toNatClampNeg 3240)) - (Int32.toNatClampNeg 24)) - (Int32.toNatClampNeg 40)) - (Int32.toNatClampNeg 80)) - (Int32.toNatClampNeg 80)) - (Int32.toNatClampNeg 80)) - (Int32.toNatClampNeg 80)) - (Int32.toNatClampNeg 80)) - (Int32.toNatClampNeg 80)) - (Int32.toNatClampNeg 80)) - (Int32.toNatClampNeg 44)) ∧ ∀ a178 : Nat, h177 a178 = none → (fun h179 : fs_Hp => fs_pw h179 a0 10 21 (.ref a178) (fun h180 => ¬ (8 : Int32) < 0 ∧ (Int32.toNatClampNeg 8) * 4 ≤ 536870912 ∧ 1 ≤ ((((((((((((((((((mc - 1) - 1) - 1) - 1) - 1) - 1) - 1) - 1) - 1) - 1) - 1) - 1) - 1) - 1) - 1) - 1) - 1) - 1) ∧ (Int32.toNatClampNeg 8) ≤ ((((((((((((((((((ms - (Int32.toNatClampNeg 81)) - (Int32.toNatClampNeg 81)) - (Int32.toNatClampNeg 81)) - (Int32.toNatClampNeg 3240)) - (Int32.toNatClampNeg 3240)) - (Int32.toNatClampNeg 3240)) - (Int32.toNatClampNeg 3240)) - (Int32.toNatClampNeg 24)) - (Int32.toNatClampNeg 40)) - (Int32.toNatClampNeg 80)) - (Int32.toNatClampNeg 80)) - (Int32.toNatClampNeg 80)) - (Int32.toNatClampNeg 80)) - (Int32.toNatClampNeg 80)) - (Int32.toNatClampNeg 80)) - (Int32.toNatClampNeg 80)) - (Int32.toNatClampNeg 44)) - (Int32.toNatClampNeg 44)) ∧ ∀ a181 : Nat, h180 a181 = none → (fun h182 : fs_Hp => fs_pw h182 a0 10 25 (.ref a181) (fun h183 => ¬ (8 : Int32) < 0 ∧ (Int32.toNatClampNeg 8) * 4 ≤ 536870912 ∧ 1 ≤ (((((((((((((((((((mc - 1) - 1) - 1) - 1) - 1) - 1) - 1) - 1) - 1) - 1) - 1) - 1) - 1) - 1) - 1) - 1) - 1) - 1) - 1) ∧ (Int32.toNatClampNeg 8) ≤ (((((((((((((((((((ms - (Int32.toNatClampNeg 81)) - (Int32.toNatClampNeg 81)) - (Int32.toNatClampNeg 81)) - (Int32.toNatClampNeg 3240)) - (Int32.toNatClampNeg 3240)) - (Int32.toNatClampNeg 3240)) - (Int32.toNatClampNeg 3240)) - (Int32.toNatClampNeg 24)) - (Int32.toNatClampNeg 40)) - (Int32.toNatClampNeg 80)) - (Int32.toNatClampNeg 80)) - (Int32.toNatClampNeg 80)) - (Int32.toNatClampNeg 80)) - (Int32.toNatClampNeg 80)) - (Int32.toNatClampNeg 80)) - (Int32.toNatClampNeg 80)) - (Int32.toNatClampNeg 44)) - (Int32.toNatClampNeg 44)) - (Int32.toNatClampNeg 8)) ∧ ∀ a184 : Nat, h183 a184 = none → (fun h185 : fs_Hp => fs_pw h185 a0 10 26 (.ref a184) (fun h186 => ¬ (8 : Int32) < 0 ∧ (Int32.toNatClampNeg 8) * 1 ≤ 536870912 ∧ 1 ≤ ((((((((((((((((((((mc - 1) - 1) - 1) - 1) - 1) - 1) - 1) - 1) - 1) - 1) - 1) - 1) - 1) - 1) - 1) - 1) - 1) - 1) - 1) - 1) ∧ (Int32.toNatClampNeg 8) ≤ ((((((((((((((((((((ms - (Int32.toNatClampNeg 81)) - (Int32.toNatClampNeg 81)) - (Int32.toNatClampNeg 81)) - (Int32.toNatClampNeg 3240)) - (Int32.toNatClampNeg 3240)) - (Int32.toNatClampNeg 3240)) - (Int32.toNatClampNeg 3240)) - (Int32.toNatClampNeg 24)) - (Int32.toNatClampNeg 40)) - (Int32.toNatClampNeg 80)) - (Int32.toNatClampNeg 80)) - (Int32.toNatClampNeg 80)) - (Int32.toNatClampNeg 80)) - (Int32.toNatClampNeg 80)) - (Int32.toNatClampNeg 80)) - (Int32.toNatClampNeg 80)) - (Int32.toNatClampNeg 44)) - (Int32.toNatClampNeg 44)) - (Int32.toNatClampNeg 8)) - (Int32.toNatClampNeg 8)) ∧ ∀ a187 : Nat, h186 a187 = none → (fun h188 : fs_Hp => fs_pw h188 a0 10 27 (.ref a187) (fun h189 => ¬ (44 : Int32) < 0 ∧ (Int32.toNatClampNeg 44) * 4 ≤ 536870912 ∧ 1 ≤ (((((((((((((((((((((mc - 1) - 1) - 1) - 1) - 1) - 1) - 1) - 1) - 1) - 1) - 1) - 1) - 1) - 1) - 1) - 1) - 1) - 1) - 1) - 1) - 1) ∧ (Int32.toNatClampNeg 44) ≤ (((((((((((((((((((((ms - (Int32.toNatClampNeg 81)) - (Int32.toNatClampNeg 81)) - (Int32.toNatClampNeg 81)) - (Int32.toNatClampNeg 3240)) - (Int32.toNatClampNeg 3240)) - (Int32.toNatClampNeg 3240)) - (Int32.toNatClampNeg 3240)) - (Int32.toNatClampNeg 24)) - (Int32.toNatClampNeg 40)) - (Int32.toNatClampNeg 80)) - (Int32.toNatClampNeg 80)) - (Int32.toNatClampNeg 80)) - (Int32.toNatClampNeg 80)) - (Int32.toNatClampNeg 80)) - (Int32.toNatClampNeg 80)) - (Int32.toNatClampNeg 80)) - (Int32.toNatClampNeg 44)) - (Int32.toNatClampNeg 44)) - (Int32.toNatClampNeg 8)) - (Int32.toNatClampNeg 8)) - (Int32.toNatClampNeg 8)) ∧ ∀ a190 : Nat, h189 a190 = none → (fun h191 : fs_Hp => fs_pw h191 a0 10 28 (.ref a190) (fun h192 => ¬ (400 : Int32) < 0 ∧ (Int32.toNatClampNeg 400) * 4 ≤ 536870912 ∧ 1 ≤ ((((((((((((((((((((((mc - 1) - 1) - 1) - 1) - 1) - 1) - 1) - 1) - 1) - 1) - 1) - 1) - 1) - 1) - 1) - 1) - 1) - 1) - 1) - 1) - 1) - 1) ∧ (Int32.toNatClampNeg 400) ≤ ((((((((((((((((((((((ms - (Int32.toNatClampNeg 81)) - (Int32.toNatClampNeg 81)) - (Int32.toNatClampNeg 81)) - (Int32.toNatClampNeg 3240)) - (Int32.toNatClampNeg 3240)) - (Int32.toNatClampNeg 3240)) - (Int32.toNatClampNeg 3240)) - (Int32.toNatClampNeg 24)) - (Int32.toNatClampNeg 40)) - (Int32.toNatClampNeg 80)) - (Int32.toNatClampNeg 80)) - (Int32.toNatClampNeg 80)) - (Int32.toNatClampNeg 80)) - (Int32.toNatClampNeg 80)) - (Int32.toNatClampNeg 80)) - (Int32.toNatClampNeg 80)) - (Int32.toNatClampNeg 44)) - (Int32.toNatClampNeg 44)) - (Int32.toNatClampNeg 8)) - (Int32.toNatClampNeg 8)) - (Int32.toNatClampNeg 8)) - (Int32.toNatClampNeg 44)) ∧ ∀ a193 : Nat, h192 a193 = none → (fun h194 : fs_Hp => fs_pw h194 a0 10 31 (.ref a193) (fun h195 => ¬ (44 : Int32) < 0 ∧ (Int32.toNatClampNeg 44) * 4 ≤ 536870912 ∧ 1 ≤ (((((((((((((((((((((((mc - 1) - 1) - 1) - 1) - 1) - 1) - 1) - 1) - 1) - 1) - 1) - 1) - 1) - 1) - 1) - 1) - 1) - 1) - 1) - 1) - 1) - 1) - 1) ∧ (Int32.toNatClampNeg 44) ≤ (((((((((((((((((((((((ms - (Int32.toNatClampNeg 81)) - (Int32.toNatClampNeg 81)) - (Int32.toNatClampNeg 81)) - (Int32.toNatClampNeg 3240)) - (Int32.toNatClampNeg 3240)) - (Int32.toNatClampNeg 3240)) - (Int32.toNatClampNeg 3240)) - (Int32.toNatClampNeg 24)) - (Int32.toNatClampNeg 40)) - (Int32.toNatClampNeg 80)) - (Int32.toNatClampNeg 80)) - (Int32.toNatClampNeg 80)) - (Int32.toNatClampNeg 80)) - (Int32.toNatClampNeg 80)) - (Int32.toNatClampNeg 80)) - (Int32.toNatClampNeg 80)) - (Int32.toNatClampNeg 44)) - (Int32.toNatClampNeg 44)) - (Int32.toNatClampNeg 8)) - (Int32.toNatClampNeg 8)) - (Int32.toNatClampNeg 8)) - (Int32.toNatClampNeg 44)) - (Int32.toNatClampNeg 400)) ∧ ∀ a196 : Nat, h195 a196 = none → (fun h197 : fs_Hp => fs_pw h197 a0 10 32 (.ref a196) (fun h198 => ¬ (44 : Int32) < 0 ∧ (Int32.toNatClampNeg 44) * 4 ≤ 536870912 ∧ 1 ≤ ((((((((((((((((((((((((mc - 1) - 1) - 1) - 1) - 1) - 1) - 1) - 1) - 1) - 1) - 1) - 1) - 1) - 1) - 1) - 1) - 1) - 1) - 1) - 1) - 1) - 1) - 1) - 1) ∧ (Int32.toNatClampNeg 44) ≤ ((((((((((((((((((((((((ms - (Int32.toNatClampNeg 81)) - (Int32.toNatClampNeg 81)) - (Int32.toNatClampNeg 81)) - (Int32.toNatClampNeg 3240)) - (Int32.toNatClampNeg 3240)) - (Int32.toNatClampNeg 3240)) - (Int32.toNatClampNeg 3240)) - (Int32.toNatClampNeg 24)) - (Int32.toNatClampNeg 40)) - (Int32.toNatClampNeg 80)) - (Int32.toNatClampNeg 80)) - (Int32.toNatClampNeg 80)) - (Int32.toNatClampNeg 80)) - (Int32.toNatClampNeg 80)) - (Int32.toNatClampNeg 80)) - (Int32.toNatClampNeg 80)) - (Int32.toNatClampNeg 44)) - (Int32.toNatClampNeg 44)) - (Int32.toNatClampNeg 8)) - (Int32.toNatClampNeg 8)) - (Int32.toNatClampNeg 8)) - (Int32.toNatClampNeg 44)) - (Int32.toNatClampNeg 400)) - (Int32.toNatClampNeg 44)) ∧ ∀ a199 : Nat, h198 a199 = none → (fun h200 : fs_Hp => fs_pw h200 a0 10 33 (.ref a199) (fun h201 => Post (.inl none) h201)) (fs_up h198 a199 (.inl (E.1.2 0, (Int32.toNatClampNeg 44), .inl (fun _ : Nat => (0 : Int32))))))) (fs_up h195 a196 (.inl (E.1.2 0, (Int32.toNatClampNeg 44), .inl (fun _ : Nat => (0 : Int32))))))) (fs_up h192 a193 (.inl (E.1.2 0, (Int32.toNatClampNeg 400), .inl (fun _ : Nat => (0 : Int32))))))) (fs_up h189 a190 (.inl (E.1.2 0, (Int32.toNatClampNeg 44), .inl (fun _ : Nat => (0 : Int32))))))) (fs_up h186 a187 (.inl (E.1.2 3, (Int32.toNatClampNeg 8), .inl (fun _ : Nat => (0 : Int32))))))) (fs_up h183 a184 (.inl (E.1.2 0, (Int32.toNatClampNeg 8), .inl (fun _ : Nat => (0 : Int32))))))) (fs_up h180 a181 (.inl (E.1.2 0, (Int32.toNatClampNeg 8), .inl (fun _ : Nat => (0 : Int32))))))) (fs_up h177 a178 (.inl (E.1.2 3, (Int32.toNatClampNeg 44), .inl (fun _ : Nat => (0 : Int32))))))) (fs_up h174 a175 (.inl (E.1.2 2, (Int32.toNatClampNeg 44), .inr (.inr (.inr (.inl (fun _ : Nat => (0 : UInt64)))))))))) (fs_up h171 a172 (.inl (E.1.2 3, (Int32.toNatClampNeg 80), .inl (fun _ : Nat => (0 : Int32))))))) (fs_up h168 a169 (.inl (E.1.2 3, (Int32.toNatClampNeg 80), .inl (fun _ : Nat => (0 : Int32))))))) (fs_up h165 a166 (.inl (E.1.2 2, (Int32.toNatClampNeg 80), .inr (.inr (.inr (.inl (fun _ : Nat => (0 : UInt64)))))))))) (fs_up h162 a163 (.inl (E.1.2 1, (Int32.toNatClampNeg 80), .inr (.inl (fun _ : Nat => (0 : Int64)))))))) (fs_up h159 a160 (.inl (E.1.2 1, (Int32.toNatClampNeg 80), .inr (.inl (fun _ : Nat => (0 : Int64)))))))) (fs_up h156 a157 (.inl (E.1.2 1, (Int32.toNatClampNeg 80), .inr (.inl (fun _ : Nat => (0 : Int64)))))))) (fs_up h153 a154 (.inl (E.1.2 1, (Int32.toNatClampNeg 80), .inr (.inl (fun _ : Nat => (0 : Int64)))))))))) (fs_up h148 a149 (.inl (E.1.2 0, (Int32.toNatClampNeg 40), .inl (fun _ : Nat => (0 : Int32))))))))))))))))))))))))))))))) (fs_up h121 a122 (.inl (E.1.2 0, (Int32.toNatClampNeg 24), .inl (fun _ : Nat => (0 : Int32))))))) (fs_up h118 a119 (.inl (E.1.2 1, (Int32.toNatClampNeg 3240), .inr (.inl (fun _ : Nat => (0 : Int64)))))))) (fs_up h115 a116 (.inl (E.1.2 0, (Int32.toNatClampNeg 3240), .inl (fun _ : Nat => (0 : Int32))))))) (fs_up h112 a113 (.inl (E.1.2 0, (Int32.toNatClampNeg 3240), .inl (fun _ : Nat => (0 : Int32))))))) (fs_up h109 a110 (.inl (E.1.2 0, (Int32.toNatClampNeg 3240), .inl (fun _ : Nat => (0 : Int32))))))) (fs_up h106 a107 (.inl (E.1.2 2, (Int32.toNatClampNeg 81), .inr (.inr (.inr (.inl (fun _ : Nat => (0 : UInt64)))))))))) (fs_up h103 a104 (.inl (E.1.2 0, (Int32.toNatClampNeg 81), .inl (fun _ : Nat => (0 : Int32))))))) (fs_up h a101 (.inl (E.1.2 0, (Int32.toNatClampNeg 81), .inl (fun _ : Nat => (0 : Int32)))))
set_option maxHeartbeats 4000000 in
set_option maxRecDepth 100000 in
theorem kw_MO_init {l : Launch} {s00 : State} {E : fs_E} (hE : fs_SE l s00 E) {mc ms : Nat} {h : fs_Hp} {a0 : Nat} {Post : fs_Ps} (hq : w_MO_init mc ms E h a0 Post) : fs_Ct l s00 E.1 y_MO_init (.code y_MO_init b_MO_init 1 none) { frames := 1, cells := mc, slots := ms, locals := 20 } [.ref a0] h Post := by
  refine fs_Ct.ofR hE.1 (by decide) ?_
  intro p e R s m below meth c hRf hRl hRc hRs B hout hP
  skip
  obtain ⟨hx, hb, hr, hml, hown, hts, hlocks, hname, hK, hw, htr⟩ := id B
  have hown : s.vm.findClass "FormulaSheetModel" = some m.cls := hown
  have hS := hw.S
  have hl := lv_entry ([.ref a0]) (n := 1) (Nat.le_of_ble_eq_true rfl)
  rw [lg_entry_eq]
  generalize (lg_sl ([.ref a0]) ++ List.replicate (1 - (lg_sl ([.ref a0])).length) Slot.unset).toArray = ls at hl ⊢
  have hl : lv_has ls 1 [(0, .ref a0)] := hl
  unfold w_MO_init at hq
  refine lv_aload_n hx hb d_MO_init_0 rfl (lv_at hl 0 rfl) ?_
  refine W.objInit hx hb hown (hts _ (fs_tb_at 1455 tw_1455 rfl)) (hts _ (fs_tb_at 131 tw_131 rfl)) (hts _ (fs_tb_at 132 tw_132 rfl)) rfl (by rw [hml]; exact hl.1) rfl d_MO_init_1 (Nat.le_trans (Nat.le_of_ble_eq_true rfl) hRf) (Nat.le_trans (Nat.le_of_ble_eq_true rfl) hRl) ?_
  refine W.eq (g2 := F0 m 4 ls ([])) rfl ?_
  refine lv_aload_n hx hb d_MO_init_4 rfl (lv_at hl 0 rfl) ?_
  refine lv_bipush (v := 81) hx hb d_MO_init_5 (by decide) ?_
  obtain ⟨hn_, hb_, hc_, hs_, hq⟩ := hq
  refine fs_newa (atype := .int) (a0 := ((Int32.toNatClampNeg 81), .inl (fun _ : Nat => (0 : Int32)))) hx hb (hts _ (fs_tb_at 179 tw_179 rfl)) rfl (by intro C9 h9; cases h9) hK 0 rfl hP hS (fun _ h9 => h9) (fun _ => rfl) hn_ rfl hb_ (by omega) (by omega) d_MO_init_7 (fun a101 H hn_ hP hS => ?_)
  have hq := hq a101 hn_
  generalize eh_ : fs_up h a101 (.inl (E.1.2 0, (Int32.toNatClampNeg 81), .inl (fun _ : Nat => (0 : Int32)))) = h102 at hP hq
  obtain ⟨fs_, h103, e_, hl_, eh_, hq⟩ := fs_pw_some hq
  refine fs_putF hx hb hts hown hK c_MO hP hS e_ 0 (by decide) (hts _ (fs_tb_at 1456 tw_1456 rfl)) (fun _ h9 => h9) rfl hname rfl rfl rfl hl_ d_MO_init_9 (fun H locs hP hS => ?_)
  rw [← eh_] at hP
  refine lv_aload_n hx hb d_MO_init_12 rfl (lv_at hl 0 rfl) ?_
  refine lv_bipush (v := 81) hx hb d_MO_init_13 (by decide) ?_
  obtain ⟨hn_, hb_, hc_, hs_, hq⟩ := hq
  refine fs_newa (atype := .int) (a0 := ((Int32.toNatClampNeg 81), .inl (fun _ : Nat => (0 : Int32)))) hx hb (hts _ (fs_tb_at 179 tw_179 rfl)) rfl (by intro C9 h9; cases h9) hK 0 rfl hP hS (fun _ h9 => h9) (fun _ => rfl) hn_ rfl hb_ (by omega) (by omega) d_MO_init_15 (fun a104 H hn_ hP hS => ?_)
  have hq := hq a104 hn_
  generalize eh_ : fs_up h103 a104 (.inl (E.1.2 0, (Int32.toNatClampNeg 81), .inl (fun _ : Nat => (0 : Int32)))) = h105 at hP hq
  obtain ⟨fs_, h106, e_, hl_, eh_, hq⟩ := fs_pw_some hq
  refine fs_putF hx hb hts hown hK c_MO hP hS e_ 1 (by decide) (hts _ (fs_tb_at 1457 tw_1457 rfl)) (fun _ h9 => h9) rfl hname rfl rfl rfl hl_ d_MO_init_17 (fun H locs hP hS => ?_)
  rw [← eh_] at hP
  refine lv_aload_n hx hb d_MO_init_20 rfl (lv_at hl 0 rfl) ?_
  refine lv_bipush (v := 81) hx hb d_MO_init_21 (by decide) ?_
  obtain ⟨hn_, hb_, hc_, hs_, hq⟩ := hq
  refine fs_newa (atype := .double) (a0 := ((Int32.toNatClampNeg 81), .inr (.inr (.inr (.inl (fun _ : Nat => (0 : UInt64))))))) hx hb (hts _ (fs_tb_at 178 tw_178 rfl)) rfl (by intro C9 h9; cases h9) hK 2 rfl hP hS (fun _ h9 => h9) (fun _ => rfl) hn_ rfl hb_ (by omega) (by omega) d_MO_init_23 (fun a107 H hn_ hP hS => ?_)
  have hq := hq a107 hn_
  generalize eh_ : fs_up h106 a107 (.inl (E.1.2 2, (Int32.toNatClampNeg 81), .inr (.inr (.inr (.inl (fun _ : Nat => (0 : UInt64))))))) = h108 at hP hq
  obtain ⟨fs_, h109, e_, hl_, eh_, hq⟩ := fs_pw_some hq
  refine fs_putF hx hb hts hown hK c_MO hP hS e_ 2 (by decide) (hts _ (fs_tb_at 1458 tw_1458 rfl)) (fun _ h9 => h9) rfl hname rfl rfl rfl hl_ d_MO_init_25 (fun H locs hP hS => ?_)
  rw [← eh_] at hP
  refine lv_aload_n hx hb d_MO_init_28 rfl (lv_at hl 0 rfl) ?_
  refine lv_sipush (v := 3240) hx hb d_MO_init_29 (by decide) ?_
  obtain ⟨hn_, hb_, hc_, hs_, hq⟩ := hq
  refine fs_newa (atype := .int) (a0 := ((Int32.toNatClampNeg 3240), .inl (fun _ : Nat => (0 : Int32)))) hx hb (hts _ (fs_tb_at 179 tw_179 rfl)) rfl (by intro C9 h9; cases h9) hK 0 rfl hP hS (fun _ h9 => h9) (fun _ => rfl) hn_ rfl hb_ (by omega) (by omega) d_MO_init_32 (fun a110 H hn_ hP hS => ?_)
  have hq := hq a110 hn_
  generalize eh_ : fs_up h109 a110 (.inl (E.1.2 0, (Int32.toNatClampNeg 3240), .inl (fun _ : Nat => (0 : Int32)))) = h111 at hP hq
  obtain ⟨fs_, h112, e_, hl_, eh_, hq⟩ := fs_pw_some hq
  refine fs_putF hx hb hts hown hK c_MO hP hS e_ 3 (by decide) (hts _ (fs_tb_at 1459 tw_1459 rfl)) (fun _ h9 => h9) rfl hname rfl rfl rfl hl_ d_MO_init_34 (fun H locs hP hS => ?_)
  rw [← eh_] at hP
  refine lv_aload_n hx hb d_MO_init_37 rfl (lv_at hl 0 rfl) ?_
  refine lv_sipush (v := 3240) hx hb d_MO_init_38 (by decide) ?_
  obtain ⟨hn_, hb_, hc_, hs_, hq⟩ := hq
  refine fs_newa (atype := .int) (a0 := ((Int32.toNatClampNeg 3240), .inl (fun _ : Nat => (0 : Int32)))) hx hb (hts _ (fs_tb_at 179 tw_179 rfl)) rfl (by intro C9 h9; cases h9) hK 0 rfl hP hS (fun _ h9 => h9) (fun _ => rfl) hn_ rfl hb_ (by omega) (by omega) d_MO_init_41 (fun a113 H hn_ hP hS => ?_)
  have hq := hq a113 hn_
  generalize eh_ : fs_up h112 a113 (.inl (E.1.2 0, (Int32.toNatClampNeg 3240), .inl (fun _ : Nat => (0 : Int32)))) = h114 at hP hq
  obtain ⟨fs_, h115, e_, hl_, eh_, hq⟩ := fs_pw_some hq
  refine fs_putF hx hb hts hown hK c_MO hP hS e_ 4 (by decide) (hts _ (fs_tb_at 1460 tw_1460 rfl)) (fun _ h9 => h9) rfl hname rfl rfl rfl hl_ d_MO_init_43 (fun H locs hP hS => ?_)
  rw [← eh_] at hP
  refine lv_aload_n hx hb d_MO_init_46 rfl (lv_at hl 0 rfl) ?_
  refine lv_sipush (v := 3240) hx hb d_MO_init_47 (by decide) ?_
  obtain ⟨hn_, hb_, hc_, hs_, hq⟩ := hq
  refine fs_newa (atype := .int) (a0 := ((Int32.toNatClampNeg 3240), .inl (fun _ : Nat => (0 : Int32)))) hx hb (hts _ (fs_tb_at 179 tw_179 rfl)) rfl (by intro C9 h9; cases h9) hK 0 rfl hP hS (fun _ h9 => h9) (fun _ => rfl) hn_ rfl hb_ (by omega) (by omega) d_MO_init_50 (fun a116 H hn_ hP hS => ?_)
  have hq := hq a116 hn_
  generalize eh_ : fs_up h115 a116 (.inl (E.1.2 0, (Int32.toNatClampNeg 3240), .inl (fun _ : Nat => (0 : Int32)))) = h117 at hP hq
  obtain ⟨fs_, h118, e_, hl_, eh_, hq⟩ := fs_pw_some hq
  refine fs_putF hx hb hts hown hK c_MO hP hS e_ 5 (by decide) (hts _ (fs_tb_at 1461 tw_1461 rfl)) (fun _ h9 => h9) rfl hname rfl rfl rfl hl_ d_MO_init_52 (fun H locs hP hS => ?_)
  rw [← eh_] at hP
  refine lv_aload_n hx hb d_MO_init_55 rfl (lv_at hl 0 rfl) ?_
  refine lv_sipush (v := 3240) hx hb d_MO_init_56 (by decide) ?_
  obtain ⟨hn_, hb_, hc_, hs_, hq⟩ := hq
  refine fs_newa (atype := .long) (a0 := ((Int32.toNatClampNeg 3240), .inr (.inl (fun _ : Nat => (0 : Int64))))) hx hb (hts _ (fs_tb_at 1565 tw_1565 rfl)) rfl (by intro C9 h9; cases h9) hK 1 rfl hP hS (fun _ h9 => h9) (fun _ => rfl) hn_ rfl hb_ (by omega) (by omega) d_MO_init_59 (fun a119 H hn_ hP hS => ?_)
  have hq := hq a119 hn_
  generalize eh_ : fs_up h118 a119 (.inl (E.1.2 1, (Int32.toNatClampNeg 3240), .inr (.inl (fun _ : Nat => (0 : Int64))))) = h120 at hP hq
  obtain ⟨fs_, h121, e_, hl_, eh_, hq⟩ := fs_pw_some hq
  refine fs_putF hx hb hts hown hK c_MO hP hS e_ 6 (by decide) (hts _ (fs_tb_at 1462 tw_1462 rfl)) (fun _ h9 => h9) rfl hname rfl rfl rfl hl_ d_MO_init_61 (fun H locs hP hS => ?_)
  rw [← eh_] at hP
  refine lv_aload_n hx hb d_MO_init_64 rfl (lv_at hl 0 rfl) ?_
  refine lv_bipush (v := 24) hx hb d_MO_init_65 (by decide) ?_
  obtain ⟨hn_, hb_, hc_, hs_, hq⟩ := hq
  refine fs_newa (atype := .int) (a0 := ((Int32.toNatClampNeg 24), .inl (fun _ : Nat => (0 : Int32)))) hx hb (hts _ (fs_tb_at 179 tw_179 rfl)) rfl (by intro C9 h9; cases h9) hK 0 rfl hP hS (fun _ h9 => h9) (fun _ => rfl) hn_ rfl hb_ (by omega) (by omega) d_MO_init_67 (fun a122 H hn_ hP hS => ?_)
  have hq := hq a122 hn_
  generalize eh_ : fs_up h121 a122 (.inl (E.1.2 0, (Int32.toNatClampNeg 24), .inl (fun _ : Nat => (0 : Int32)))) = h123 at hP hq
  refine lv_dup hx hb d_MO_init_69 rfl ?_
  refine lv_iconst (v := 0) hx hb d_MO_init_70 (by decide) ?_
  refine lv_bipush (v := 115) hx hb d_MO_init_71 (by decide) ?_
  obtain ⟨n_, f_, h124, e_, hi_, eh_, hq⟩ := fs_si_some hq
  refine fs_iast hx hb hK hP hS 0 e_ rfl hi_ d_MO_init_73 (fun H locs hP hS => ?_)
  rw [← eh_] at hP
  refine lv_dup hx hb d_MO_init_74 rfl ?_
  refine lv_iconst (v := 1) hx hb d_MO_init_75 (by decide) ?_
  refine lv_bipush (v := 117) hx hb d_MO_init_76 (by decide) ?_
  obtain ⟨n_, f_, h125, e_, hi_, eh_, hq⟩ := fs_si_some hq
  refine fs_iast hx hb hK hP hS 0 e_ rfl hi_ d_MO_init_78 (fun H locs hP hS => ?_)
  rw [← eh_] at hP
  refine lv_dup hx hb d_MO_init_79 rfl ?_
  refine lv_iconst (v := 2) hx hb d_MO_init_80 (by decide) ?_
  refine lv_bipush (v := 109) hx hb d_MO_init_81 (by decide) ?_
  obtain ⟨n_, f_, h126, e_, hi_, eh_, hq⟩ := fs_si_some hq
  refine fs_iast hx hb hK hP hS 0 e_ rfl hi_ d_MO_init_83 (fun H locs hP hS => ?_)
  rw [← eh_] at hP
  refine lv_dup hx hb d_MO_init_84 rfl ?_
  refine lv_iconst (v := 3) hx hb d_MO_init_85 (by decide) ?_
  refine lv_bipush (v := 109) hx hb d_MO_init_86 (by decide) ?_
  obtain ⟨n_, f_, h127, e_, hi_, eh_, hq⟩ := fs_si_some hq
  refine fs_iast hx hb hK hP hS 0 e_ rfl hi_ d_MO_init_88 (fun H locs hP hS => ?_)
  rw [← eh_] at hP
  refine lv_dup hx hb d_MO_init_89 rfl ?_
  refine lv_iconst (v := 4) hx hb d_MO_init_90 (by decide) ?_
  refine lv_bipush (v := 105) hx hb d_MO_init_91 (by decide) ?_
  obtain ⟨n_, f_, h128, e_, hi_, eh_, hq⟩ := fs_si_some hq
  refine fs_iast hx hb hK hP hS 0 e_ rfl hi_ d_MO_init_93 (fun H locs hP hS => ?_)
  rw [← eh_] at hP
  refine lv_dup hx hb d_MO_init_94 rfl ?_
  refine lv_iconst (v := 5) hx hb d_MO_init_95 (by decide) ?_
  refine lv_bipush (v := 110) hx hb d_MO_init_96 (by decide) ?_
  obtain ⟨n_, f_, h129, e_, hi_, eh_, hq⟩ := fs_si_some hq
  refine fs_iast hx hb hK hP hS 0 e_ rfl hi_ d_MO_init_98 (fun H locs hP hS => ?_)
  rw [← eh_] at hP
  refine lv_dup hx hb d_MO_init_99 rfl ?_
  refine lv_bipush (v := 6) hx hb d_MO_init_100 (by decide) ?_
  refine lv_bipush (v := 109) hx hb d_MO_init_102 (by decide) ?_
  obtain ⟨n_, f_, h130, e_, hi_, eh_, hq⟩ := fs_si_some hq
  refine fs_iast hx hb hK hP hS 0 e_ rfl hi_ d_MO_init_104 (fun H locs hP hS => ?_)
  rw [← eh_] at hP
  refine lv_dup hx hb d_MO_init_105 rfl ?_
  refine lv_bipush (v := 7) hx hb d_MO_init_106 (by decide) ?_
  refine lv_bipush (v := 97) hx hb d_MO_init_108 (by decide) ?_
  obtain ⟨n_, f_, h131, e_, hi_, eh_, hq⟩ := fs_si_some hq
  refine fs_iast hx hb hK hP hS 0 e_ rfl hi_ d_MO_init_110 (fun H locs hP hS => ?_)
  rw [← eh_] at hP
  refine lv_dup hx hb d_MO_init_111 rfl ?_
  refine lv_bipush (v := 8) hx hb d_MO_init_112 (by decide) ?_
  refine lv_bipush (v := 120) hx hb d_MO_init_114 (by decide) ?_
  obtain ⟨n_, f_, h132, e_, hi_, eh_, hq⟩ := fs_si_some hq
  refine fs_iast hx hb hK hP hS 0 e_ rfl hi_ d_MO_init_116 (fun H locs hP hS => ?_)
  rw [← eh_] at hP
  refine lv_dup hx hb d_MO_init_117 rfl ?_
  refine lv_bipush (v := 9) hx hb d_MO_init_118 (by decide) ?_
  refine lv_bipush (v := 99) hx hb d_MO_init_120 (by decide) ?_
  obtain ⟨n_, f_, h133, e_, hi_, eh_, hq⟩ := fs_si_some hq
  refine fs_iast hx hb hK hP hS 0 e_ rfl hi_ d_MO_init_122 (fun H locs hP hS => ?_)
  rw [← eh_] at hP
  refine lv_dup hx hb d_MO_init_123 rfl ?_
  refine lv_bipush (v := 10) hx hb d_MO_init_124 (by decide) ?_
  refine lv_bipush (v := 110) hx hb d_MO_init_126 (by decide) ?_
  obtain ⟨n_, f_, h134, e_, hi_, eh_, hq⟩ := fs_si_some hq
  refine fs_iast hx hb hK hP hS 0 e_ rfl hi_ d_MO_init_128 (fun H locs hP hS => ?_)
  rw [← eh_] at hP
  refine lv_dup hx hb d_MO_init_129 rfl ?_
  refine lv_bipush (v := 11) hx hb d_MO_init_130 (by decide) ?_
  refine lv_bipush (v := 116) hx hb d_MO_init_132 (by decide) ?_
  obtain ⟨n_, f_, h135, e_, hi_, eh_, hq⟩ := fs_si_some hq
  refine fs_iast hx hb hK hP hS 0 e_ rfl hi_ d_MO_init_134 (fun H locs hP hS => ?_)
  rw [← eh_] at hP
  refine lv_dup hx hb d_MO_init_135 rfl ?_
  refine lv_bipush (v := 12) hx hb d_MO_init_136 (by decide) ?_
  refine lv_bipush (v := 97) hx hb d_MO_init_138 (by decide) ?_
  obtain ⟨n_, f_, h136, e_, hi_, eh_, hq⟩ := fs_si_some hq
  refine fs_iast hx hb hK hP hS 0 e_ rfl hi_ d_MO_init_140 (fun H locs hP hS => ?_)
  rw [← eh_] at hP
  refine lv_dup hx hb d_MO_init_141 rfl ?_
  refine lv_bipush (v := 13) hx hb d_MO_init_142 (by decide) ?_
  refine lv_bipush (v := 118) hx hb d_MO_init_144 (by decide) ?_
  obtain ⟨n_, f_, h137, e_, hi_, eh_, hq⟩ := fs_si_some hq
  refine fs_iast hx hb hK hP hS 0 e_ rfl hi_ d_MO_init_146 (fun H locs hP hS => ?_)
  rw [← eh_] at hP
  refine lv_dup hx hb d_MO_init_147 rfl ?_
  refine lv_bipush (v := 14) hx hb d_MO_init_148 (by decide) ?_
  refine lv_bipush (v := 103) hx hb d_MO_init_150 (by decide) ?_
  obtain ⟨n_, f_, h138, e_, hi_, eh_, hq⟩ := fs_si_some hq
  refine fs_iast hx hb hK hP hS 0 e_ rfl hi_ d_MO_init_152 (fun H locs hP hS => ?_)
  rw [← eh_] at hP
  refine lv_dup hx hb d_MO_init_153 rfl ?_
  refine lv_bipush (v := 15) hx hb d_MO_init_154 (by decide) ?_
  refine lv_bipush (v := 97) hx hb d_MO_init_156 (by decide) ?_
  obtain ⟨n_, f_, h139, e_, hi_, eh_, hq⟩ := fs_si_some hq
  refine fs_iast hx hb hK hP hS 0 e_ rfl hi_ d_MO_init_158 (fun H locs hP hS => ?_)
  rw [← eh_] at hP
  refine lv_dup hx hb d_MO_init_159 rfl ?_
  refine lv_bipush (v := 16) hx hb d_MO_init_160 (by decide) ?_
  refine lv_bipush (v := 98) hx hb d_MO_init_162 (by decide) ?_
  obtain ⟨n_, f_, h140, e_, hi_, eh_, hq⟩ := fs_si_some hq
  refine fs_iast hx hb hK hP hS 0 e_ rfl hi_ d_MO_init_164 (fun H locs hP hS => ?_)
  rw [← eh_] at hP
  refine lv_dup hx hb d_MO_init_165 rfl ?_
  refine lv_bipush (v := 17) hx hb d_MO_init_166 (by decide) ?_
  refine lv_bipush (v := 115) hx hb d_MO_init_168 (by decide) ?_
  obtain ⟨n_, f_, h141, e_, hi_, eh_, hq⟩ := fs_si_some hq
  refine fs_iast hx hb hK hP hS 0 e_ rfl hi_ d_MO_init_170 (fun H locs hP hS => ?_)
  rw [← eh_] at hP
  refine lv_dup hx hb d_MO_init_171 rfl ?_
  refine lv_bipush (v := 18) hx hb d_MO_init_172 (by decide) ?_
  refine lv_bipush (v := 105) hx hb d_MO_init_174 (by decide) ?_
  obtain ⟨n_, f_, h142, e_, hi_, eh_, hq⟩ := fs_si_some hq
  refine fs_iast hx hb hK hP hS 0 e_ rfl hi_ d_MO_init_176 (fun H locs hP hS => ?_)
  rw [← eh_] at hP
  refine lv_dup hx hb d_MO_init_177 rfl ?_
  refine lv_bipush (v := 19) hx hb d_MO_init_178 (by decide) ?_
  refine lv_bipush (v := 110) hx hb d_MO_init_180 (by decide) ?_
  obtain ⟨n_, f_, h143, e_, hi_, eh_, hq⟩ := fs_si_some hq
  refine fs_iast hx hb hK hP hS 0 e_ rfl hi_ d_MO_init_182 (fun H locs hP hS => ?_)
  rw [← eh_] at hP
  refine lv_dup hx hb d_MO_init_183 rfl ?_
  refine lv_bipush (v := 20) hx hb d_MO_init_184 (by decide) ?_
  refine lv_bipush (v := 116) hx hb d_MO_init_186 (by decide) ?_
  obtain ⟨n_, f_, h144, e_, hi_, eh_, hq⟩ := fs_si_some hq
  refine fs_iast hx hb hK hP hS 0 e_ rfl hi_ d_MO_init_188 (fun H locs hP hS => ?_)
  rw [← eh_] at hP
  refine lv_dup hx hb d_MO_init_189 rfl ?_
  refine lv_bipush (v := 21) hx hb d_MO_init_190 (by decide) ?_
  refine lv_bipush (v := 105) hx hb d_MO_init_192 (by decide) ?_
  obtain ⟨n_, f_, h145, e_, hi_, eh_, hq⟩ := fs_si_some hq
  refine fs_iast hx hb hK hP hS 0 e_ rfl hi_ d_MO_init_194 (fun H locs hP hS => ?_)
  rw [← eh_] at hP
  refine lv_dup hx hb d_MO_init_195 rfl ?_
  refine lv_bipush (v := 22) hx hb d_MO_init_196 (by decide) ?_
  refine lv_bipush (v := 102) hx hb d_MO_init_198 (by decide) ?_
  obtain ⟨n_, f_, h146, e_, hi_, eh_, hq⟩ := fs_si_some hq
  refine fs_iast hx hb hK hP hS 0 e_ rfl hi_ d_MO_init_200 (fun H locs hP hS => ?_)
  rw [← eh_] at hP
  refine lv_dup hx hb d_MO_init_201 rfl ?_
  refine lv_bipush (v := 23) hx hb d_MO_init_202 (by decide) ?_
  refine lv_iconst (v := 0) hx hb d_MO_init_204 (by decide) ?_
  obtain ⟨n_, f_, h147, e_, hi_, eh_, hq⟩ := fs_si_some hq
  refine fs_iast hx hb hK hP hS 0 e_ rfl hi_ d_MO_init_205 (fun H locs hP hS => ?_)
  rw [← eh_] at hP
  obtain ⟨fs_, h148, e_, hl_, eh_, hq⟩ := fs_pw_some hq
  refine fs_putF hx hb hts hown hK c_MO hP hS e_ 7 (by decide) (hts _ (fs_tb_at 1463 tw_1463 rfl)) (fun _ h9 => h9) rfl hname rfl rfl rfl hl_ d_MO_init_206 (fun H locs hP hS => ?_)
  rw [← eh_] at hP
  refine lv_aload_n hx hb d_MO_init_209 rfl (lv_at hl 0 rfl) ?_
  refine lv_bipush (v := 40) hx hb d_MO_init_210 (by decide) ?_
  obtain ⟨hn_, hb_, hc_, hs_, hq⟩ := hq
  refine fs_newa (atype := .int) (a0 := ((Int32.toNatClampNeg 40), .inl (fun _ : Nat => (0 : Int32)))) hx hb (hts _ (fs_tb_at 179 tw_179 rfl)) rfl (by intro C9 h9; cases h9) hK 0 rfl hP hS (fun _ h9 => h9) (fun _ => rfl) hn_ rfl hb_ (by omega) (by omega) d_MO_init_212 (fun a149 H hn_ hP hS => ?_)
  have hq := hq a149 hn_
  generalize eh_ : fs_up h148 a149 (.inl (E.1.2 0, (Int32.toNatClampNeg 40), .inl (fun _ : Nat => (0 : Int32)))) = h150 at hP hq
  obtain ⟨fs_, h151, e_, hl_, eh_, hq⟩ := fs_pw_some hq
  refine fs_putF hx hb hts hown hK c_MO hP hS e_ 8 (by decide) (hts _ (fs_tb_at 1464 tw_1464 rfl)) (fun _ h9 => h9) rfl hname rfl rfl rfl hl_ d_MO_init_214 (fun H locs hP hS => ?_)
  rw [← eh_] at hP
  refine lv_aload_n hx hb d_MO_init_217 rfl (lv_at hl 0 rfl) ?_
  refine lv_iconst (v := (-1)) hx hb d_MO_init_218 (by decide) ?_
  obtain ⟨fs_, h152, e_, hl_, eh_, hq⟩ := fs_pw_some hq
  refine fs_put hx hb hts hown hK c_MO hP hS e_ 10 (by decide) (hts _ (fs_tb_at 1466 tw_1466 rfl)) (fun _ h9 => h9) rfl rfl rfl hl_ d_MO_init_219 (fun H locs hP hS => ?_)
  rw [← eh_] at hP
  refine lv_aload_n hx hb d_MO_init_222 rfl (lv_at hl 0 rfl) ?_
  refine lv_iconst (v := 1) hx hb d_MO_init_223 (by decide) ?_
  obtain ⟨fs_, h153, e_, hl_, eh_, hq⟩ := fs_pw_some hq
  refine fs_put hx hb hts hown hK c_MO hP hS e_ 12 (by decide) (hts _ (fs_tb_at 1468 tw_1468 rfl)) (fun _ h9 => h9) rfl (by decide) (by decide) hl_ d_MO_init_224 (fun H locs hP hS => ?_)
  rw [← eh_] at hP
  refine lv_aload_n hx hb d_MO_init_227 rfl (lv_at hl 0 rfl) ?_
  refine lv_bipush (v := 80) hx hb d_MO_init_228 (by decide) ?_
  obtain ⟨hn_, hb_, hc_, hs_, hq⟩ := hq
  refine fs_newa (atype := .long) (a0 := ((Int32.toNatClampNeg 80), .inr (.inl (fun _ : Nat => (0 : Int64))))) hx hb (hts _ (fs_tb_at 1565 tw_1565 rfl)) rfl (by intro C9 h9; cases h9) hK 1 rfl hP hS (fun _ h9 => h9) (fun _ => rfl) hn_ rfl hb_ (by omega) (by omega) d_MO_init_230 (fun a154 H hn_ hP hS => ?_)
  have hq := hq a154 hn_
  generalize eh_ : fs_up h153 a154 (.inl (E.1.2 1, (Int32.toNatClampNeg 80), .inr (.inl (fun _ : Nat => (0 : Int64))))) = h155 at hP hq
  obtain ⟨fs_, h156, e_, hl_, eh_, hq⟩ := fs_pw_some hq
  refine fs_putF hx hb hts hown hK c_MO hP hS e_ 13 (by decide) (hts _ (fs_tb_at 1469 tw_1469 rfl)) (fun _ h9 => h9) rfl hname rfl rfl rfl hl_ d_MO_init_232 (fun H locs hP hS => ?_)
  rw [← eh_] at hP
  refine lv_aload_n hx hb d_MO_init_235 rfl (lv_at hl 0 rfl) ?_
  refine lv_bipush (v := 80) hx hb d_MO_init_236 (by decide) ?_
  obtain ⟨hn_, hb_, hc_, hs_, hq⟩ := hq
  refine fs_newa (atype := .long) (a0 := ((Int32.toNatClampNeg 80), .inr (.inl (fun _ : Nat => (0 : Int64))))) hx hb (hts _ (fs_tb_at 1565 tw_1565 rfl)) rfl (by intro C9 h9; cases h9) hK 1 rfl hP hS (fun _ h9 => h9) (fun _ => rfl) hn_ rfl hb_ (by omega) (by omega) d_MO_init_238 (fun a157 H hn_ hP hS => ?_)
  have hq := hq a157 hn_
  generalize eh_ : fs_up h156 a157 (.inl (E.1.2 1, (Int32.toNatClampNeg 80), .inr (.inl (fun _ : Nat => (0 : Int64))))) = h158 at hP hq
  obtain ⟨fs_, h159, e_, hl_, eh_, hq⟩ := fs_pw_some hq
  refine fs_putF hx hb hts hown hK c_MO hP hS e_ 14 (by decide) (hts _ (fs_tb_at 1470 tw_1470 rfl)) (fun _ h9 => h9) rfl hname rfl rfl rfl hl_ d_MO_init_240 (fun H locs hP hS => ?_)
  rw [← eh_] at hP
  refine lv_aload_n hx hb d_MO_init_243 rfl (lv_at hl 0 rfl) ?_
  refine lv_bipush (v := 80) hx hb d_MO_init_244 (by decide) ?_
  obtain ⟨hn_, hb_, hc_, hs_, hq⟩ := hq
  refine fs_newa (atype := .long) (a0 := ((Int32.toNatClampNeg 80), .inr (.inl (fun _ : Nat => (0 : Int64))))) hx hb (hts _ (fs_tb_at 1565 tw_1565 rfl)) rfl (by intro C9 h9; cases h9) hK 1 rfl hP hS (fun _ h9 => h9) (fun _ => rfl) hn_ rfl hb_ (by omega) (by omega) d_MO_init_246 (fun a160 H hn_ hP hS => ?_)
  have hq := hq a160 hn_
  generalize eh_ : fs_up h159 a160 (.inl (E.1.2 1, (Int32.toNatClampNeg 80), .inr (.inl (fun _ : Nat => (0 : Int64))))) = h161 at hP hq
  obtain ⟨fs_, h162, e_, hl_, eh_, hq⟩ := fs_pw_some hq
  refine fs_putF hx hb hts hown hK c_MO hP hS e_ 15 (by decide) (hts _ (fs_tb_at 1471 tw_1471 rfl)) (fun _ h9 => h9) rfl hname rfl rfl rfl hl_ d_MO_init_248 (fun H locs hP hS => ?_)
  rw [← eh_] at hP
  refine lv_aload_n hx hb d_MO_init_251 rfl (lv_at hl 0 rfl) ?_
  refine lv_bipush (v := 80) hx hb d_MO_init_252 (by decide) ?_
  obtain ⟨hn_, hb_, hc_, hs_, hq⟩ := hq
  refine fs_newa (atype := .long) (a0 := ((Int32.toNatClampNeg 80), .inr (.inl (fun _ : Nat => (0 : Int64))))) hx hb (hts _ (fs_tb_at 1565 tw_1565 rfl)) rfl (by intro C9 h9; cases h9) hK 1 rfl hP hS (fun _ h9 => h9) (fun _ => rfl) hn_ rfl hb_ (by omega) (by omega) d_MO_init_254 (fun a163 H hn_ hP hS => ?_)
  have hq := hq a163 hn_
  generalize eh_ : fs_up h162 a163 (.inl (E.1.2 1, (Int32.toNatClampNeg 80), .inr (.inl (fun _ : Nat => (0 : Int64))))) = h164 at hP hq
  obtain ⟨fs_, h165, e_, hl_, eh_, hq⟩ := fs_pw_some hq
  refine fs_putF hx hb hts hown hK c_MO hP hS e_ 16 (by decide) (hts _ (fs_tb_at 1472 tw_1472 rfl)) (fun _ h9 => h9) rfl hname rfl rfl rfl hl_ d_MO_init_256 (fun H locs hP hS => ?_)
  rw [← eh_] at hP
  refine lv_aload_n hx hb d_MO_init_259 rfl (lv_at hl 0 rfl) ?_
  refine lv_bipush (v := 80) hx hb d_MO_init_260 (by decide) ?_
  obtain ⟨hn_, hb_, hc_, hs_, hq⟩ := hq
  refine fs_newa (atype := .double) (a0 := ((Int32.toNatClampNeg 80), .inr (.inr (.inr (.inl (fun _ : Nat => (0 : UInt64))))))) hx hb (hts _ (fs_tb_at 178 tw_178 rfl)) rfl (by intro C9 h9; cases h9) hK 2 rfl hP hS (fun _ h9 => h9) (fun _ => rfl) hn_ rfl hb_ (by omega) (by omega) d_MO_init_262 (fun a166 H hn_ hP hS => ?_)
  have hq := hq a166 hn_
  generalize eh_ : fs_up h165 a166 (.inl (E.1.2 2, (Int32.toNatClampNeg 80), .inr (.inr (.inr (.inl (fun _ : Nat => (0 : UInt64))))))) = h167 at hP hq
  obtain ⟨fs_, h168, e_, hl_, eh_, hq⟩ := fs_pw_some hq
  refine fs_putF hx hb hts hown hK c_MO hP hS e_ 17 (by decide) (hts _ (fs_tb_at 1473 tw_1473 rfl)) (fun _ h9 => h9) rfl hname rfl rfl rfl hl_ d_MO_init_264 (fun H locs hP hS => ?_)
  rw [← eh_] at hP
  refine lv_aload_n hx hb d_MO_init_267 rfl (lv_at hl 0 rfl) ?_
  refine lv_bipush (v := 80) hx hb d_MO_init_268 (by decide) ?_
  obtain ⟨hn_, hb_, hc_, hs_, hq⟩ := hq
  refine fs_newa (atype := .boolean) (a0 := ((Int32.toNatClampNeg 80), .inl (fun _ : Nat => (0 : Int32)))) hx hb (hts _ (fs_tb_at 177 tw_177 rfl)) rfl (by intro C9 h9; cases h9) hK 3 rfl hP hS (fun _ h9 => h9) (fun _ => rfl) hn_ rfl hb_ (by omega) (by omega) d_MO_init_270 (fun a169 H hn_ hP hS => ?_)
  have hq := hq a169 hn_
  generalize eh_ : fs_up h168 a169 (.inl (E.1.2 3, (Int32.toNatClampNeg 80), .inl (fun _ : Nat => (0 : Int32)))) = h170 at hP hq
  obtain ⟨fs_, h171, e_, hl_, eh_, hq⟩ := fs_pw_some hq
  refine fs_putF hx hb hts hown hK c_MO hP hS e_ 18 (by decide) (hts _ (fs_tb_at 1474 tw_1474 rfl)) (fun _ h9 => h9) rfl hname rfl rfl rfl hl_ d_MO_init_272 (fun H locs hP hS => ?_)
  rw [← eh_] at hP
  refine lv_aload_n hx hb d_MO_init_275 rfl (lv_at hl 0 rfl) ?_
  refine lv_bipush (v := 80) hx hb d_MO_init_276 (by decide) ?_
  obtain ⟨hn_, hb_, hc_, hs_, hq⟩ := hq
  refine fs_newa (atype := .boolean) (a0 := ((Int32.toNatClampNeg 80), .inl (fun _ : Nat => (0 : Int32)))) hx hb (hts _ (fs_tb_at 177 tw_177 rfl)) rfl (by intro C9 h9; cases h9) hK 3 rfl hP hS (fun _ h9 => h9) (fun _ => rfl) hn_ rfl hb_ (by omega) (by omega) d_MO_init_278 (fun a172 H hn_ hP hS => ?_)
  have hq := hq a172 hn_
  generalize eh_ : fs_up h171 a172 (.inl (E.1.2 3, (Int32.toNatClampNeg 80), .inl (fun _ : Nat => (0 : Int32)))) = h173 at hP hq
  obtain ⟨fs_, h174, e_, hl_, eh_, hq⟩ := fs_pw_some hq
  refine fs_putF hx hb hts hown hK c_MO hP hS e_ 19 (by decide) (hts _ (fs_tb_at 1475 tw_1475 rfl)) (fun _ h9 => h9) rfl hname rfl rfl rfl hl_ d_MO_init_280 (fun H locs hP hS => ?_)
  rw [← eh_] at hP
  refine lv_aload_n hx hb d_MO_init_283 rfl (lv_at hl 0 rfl) ?_
  refine lv_bipush (v := 44) hx hb d_MO_init_284 (by decide) ?_
  obtain ⟨hn_, hb_, hc_, hs_, hq⟩ := hq
  refine fs_newa (atype := .double) (a0 := ((Int32.toNatClampNeg 44), .inr (.inr (.inr (.inl (fun _ : Nat => (0 : UInt64))))))) hx hb (hts _ (fs_tb_at 178 tw_178 rfl)) rfl (by intro C9 h9; cases h9) hK 2 rfl hP hS (fun _ h9 => h9) (fun _ => rfl) hn_ rfl hb_ (by omega) (by omega) d_MO_init_286 (fun a175 H hn_ hP hS => ?_)
  have hq := hq a175 hn_
  generalize eh_ : fs_up h174 a175 (.inl (E.1.2 2, (Int32.toNatClampNeg 44), .inr (.inr (.inr (.inl (fun _ : Nat => (0 : UInt64))))))) = h176 at hP hq
  obtain ⟨fs_, h177, e_, hl_, eh_, hq⟩ := fs_pw_some hq
  refine fs_putF hx hb hts hown hK c_MO hP hS e_ 20 (by decide) (hts _ (fs_tb_at 1476 tw_1476 rfl)) (fun _ h9 => h9) rfl hname rfl rfl rfl hl_ d_MO_init_288 (fun H locs hP hS => ?_)
  rw [← eh_] at hP
  refine lv_aload_n hx hb d_MO_init_291 rfl (lv_at hl 0 rfl) ?_
  refine lv_bipush (v := 44) hx hb d_MO_init_292 (by decide) ?_
  obtain ⟨hn_, hb_, hc_, hs_, hq⟩ := hq
  refine fs_newa (atype := .boolean) (a0 := ((Int32.toNatClampNeg 44), .inl (fun _ : Nat => (0 : Int32)))) hx hb (hts _ (fs_tb_at 177 tw_177 rfl)) rfl (by intro C9 h9; cases h9) hK 3 rfl hP hS (fun _ h9 => h9) (fun _ => rfl) hn_ rfl hb_ (by omega) (by omega) d_MO_init_294 (fun a178 H hn_ hP hS => ?_)
  have hq := hq a178 hn_
  generalize eh_ : fs_up h177 a178 (.inl (E.1.2 3, (Int32.toNatClampNeg 44), .inl (fun _ : Nat => (0 : Int32)))) = h179 at hP hq
  obtain ⟨fs_, h180, e_, hl_, eh_, hq⟩ := fs_pw_some hq
  refine fs_putF hx hb hts hown hK c_MO hP hS e_ 21 (by decide) (hts _ (fs_tb_at 1477 tw_1477 rfl)) (fun _ h9 => h9) rfl hname rfl rfl rfl hl_ d_MO_init_296 (fun H locs hP hS => ?_)
  rw [← eh_] at hP
  refine lv_aload_n hx hb d_MO_init_299 rfl (lv_at hl 0 rfl) ?_
  refine lv_bipush (v := 8) hx hb d_MO_init_300 (by decide) ?_
  obtain ⟨hn_, hb_, hc_, hs_, hq⟩ := hq
  refine fs_newa (atype := .int) (a0 := ((Int32.toNatClampNeg 8), .inl (fun _ : Nat => (0 : Int32)))) hx hb (hts _ (fs_tb_at 179 tw_179 rfl)) rfl (by intro C9 h9; cases h9) hK 0 rfl hP hS (fun _ h9 => h9) (fun _ => rfl) hn_ rfl hb_ (by omega) (by omega) d_MO_init_302 (fun a181 H hn_ hP hS => ?_)
  have hq := hq a181 hn_
  generalize eh_ : fs_up h180 a181 (.inl (E.1.2 0, (Int32.toNatClampNeg 8), .inl (fun _ : Nat => (0 : Int32)))) = h182 at hP hq
  obtain ⟨fs_, h183, e_, hl_, eh_, hq⟩ := fs_pw_some hq
  refine fs_putF hx hb hts hown hK c_MO hP hS e_ 25 (by decide) (hts _ (fs_tb_at 1481 tw_1481 rfl)) (fun _ h9 => h9) rfl hname rfl rfl rfl hl_ d_MO_init_304 (fun H locs hP hS => ?_)
  rw [← eh_] at hP
  refine lv_aload_n hx hb d_MO_init_307 rfl (lv_at hl 0 rfl) ?_
  refine lv_bipush (v := 8) hx hb d_MO_init_308 (by decide) ?_
  obtain ⟨hn_, hb_, hc_, hs_, hq⟩ := hq
  refine fs_newa (atype := .int) (a0 := ((Int32.toNatClampNeg 8), .inl (fun _ : Nat => (0 : Int32)))) hx hb (hts _ (fs_tb_at 179 tw_179 rfl)) rfl (by intro C9 h9; cases h9) hK 0 rfl hP hS (fun _ h9 => h9) (fun _ => rfl) hn_ rfl hb_ (by omega) (by omega) d_MO_init_310 (fun a184 H hn_ hP hS => ?_)
  have hq := hq a184 hn_
  generalize eh_ : fs_up h183 a184 (.inl (E.1.2 0, (Int32.toNatClampNeg 8), .inl (fun _ : Nat => (0 : Int32)))) = h185 at hP hq
  obtain ⟨fs_, h186, e_, hl_, eh_, hq⟩ := fs_pw_some hq
  refine fs_putF hx hb hts hown hK c_MO hP hS e_ 26 (by decide) (hts _ (fs_tb_at 1482 tw_1482 rfl)) (fun _ h9 => h9) rfl hname rfl rfl rfl hl_ d_MO_init_312 (fun H locs hP hS => ?_)
  rw [← eh_] at hP
  refine lv_aload_n hx hb d_MO_init_315 rfl (lv_at hl 0 rfl) ?_
  refine lv_bipush (v := 8) hx hb d_MO_init_316 (by decide) ?_
  obtain ⟨hn_, hb_, hc_, hs_, hq⟩ := hq
  refine fs_newa (atype := .boolean) (a0 := ((Int32.toNatClampNeg 8), .inl (fun _ : Nat => (0 : Int32)))) hx hb (hts _ (fs_tb_at 177 tw_177 rfl)) rfl (by intro C9 h9; cases h9) hK 3 rfl hP hS (fun _ h9 => h9) (fun _ => rfl) hn_ rfl hb_ (by omega) (by omega) d_MO_init_318 (fun a187 H hn_ hP hS => ?_)
  have hq := hq a187 hn_
  generalize eh_ : fs_up h186 a187 (.inl (E.1.2 3, (Int32.toNatClampNeg 8), .inl (fun _ : Nat => (0 : Int32)))) = h188 at hP hq
  obtain ⟨fs_, h189, e_, hl_, eh_, hq⟩ := fs_pw_some hq
  refine fs_putF hx hb hts hown hK c_MO hP hS e_ 27 (by decide) (hts _ (fs_tb_at 1483 tw_1483 rfl)) (fun _ h9 => h9) rfl hname rfl rfl rfl hl_ d_MO_init_320 (fun H locs hP hS => ?_)
  rw [← eh_] at hP
  refine lv_aload_n hx hb d_MO_init_323 rfl (lv_at hl 0 rfl) ?_
  refine lv_bipush (v := 44) hx hb d_MO_init_324 (by decide) ?_
  obtain ⟨hn_, hb_, hc_, hs_, hq⟩ := hq
  refine fs_newa (atype := .int) (a0 := ((Int32.toNatClampNeg 44), .inl (fun _ : Nat => (0 : Int32)))) hx hb (hts _ (fs_tb_at 179 tw_179 rfl)) rfl (by intro C9 h9; cases h9) hK 0 rfl hP hS (fun _ h9 => h9) (fun _ => rfl) hn_ rfl hb_ (by omega) (by omega) d_MO_init_326 (fun a190 H hn_ hP hS => ?_)
  have hq := hq a190 hn_
  generalize eh_ : fs_up h189 a190 (.inl (E.1.2 0, (Int32.toNatClampNeg 44), .inl (fun _ : Nat => (0 : Int32)))) = h191 at hP hq
  obtain ⟨fs_, h192, e_, hl_, eh_, hq⟩ := fs_pw_some hq
  refine fs_putF hx hb hts hown hK c_MO hP hS e_ 28 (by decide) (hts _ (fs_tb_at 1484 tw_1484 rfl)) (fun _ h9 => h9) rfl hname rfl rfl rfl hl_ d_MO_init_328 (fun H locs hP hS => ?_)
  rw [← eh_] at hP
  refine lv_aload_n hx hb d_MO_init_331 rfl (lv_at hl 0 rfl) ?_
  refine lv_sipush (v := 400) hx hb d_MO_init_332 (by decide) ?_
  obtain ⟨hn_, hb_, hc_, hs_, hq⟩ := hq
  refine fs_newa (atype := .int) (a0 := ((Int32.toNatClampNeg 400), .inl (fun _ : Nat => (0 : Int32)))) hx hb (hts _ (fs_tb_at 179 tw_179 rfl)) rfl (by intro C9 h9; cases h9) hK 0 rfl hP hS (fun _ h9 => h9) (fun _ => rfl) hn_ rfl hb_ (by omega) (by omega) d_MO_init_335 (fun a193 H hn_ hP hS => ?_)
  have hq := hq a193 hn_
  generalize eh_ : fs_up h192 a193 (.inl (E.1.2 0, (Int32.toNatClampNeg 400), .inl (fun _ : Nat => (0 : Int32)))) = h194 at hP hq
  obtain ⟨fs_, h195, e_, hl_, eh_, hq⟩ := fs_pw_some hq
  refine fs_putF hx hb hts hown hK c_MO hP hS e_ 31 (by decide) (hts _ (fs_tb_at 1487 tw_1487 rfl)) (fun _ h9 => h9) rfl hname rfl rfl rfl hl_ d_MO_init_337 (fun H locs hP hS => ?_)
  rw [← eh_] at hP
  refine lv_aload_n hx hb d_MO_init_340 rfl (lv_at hl 0 rfl) ?_
  refine lv_bipush (v := 44) hx hb d_MO_init_341 (by decide) ?_
  obtain ⟨hn_, hb_, hc_, hs_, hq⟩ := hq
  refine fs_newa (atype := .int) (a0 := ((Int32.toNatClampNeg 44), .inl (fun _ : Nat => (0 : Int32)))) hx hb (hts _ (fs_tb_at 179 tw_179 rfl)) rfl (by intro C9 h9; cases h9) hK 0 rfl hP hS (fun _ h9 => h9) (fun _ => rfl) hn_ rfl hb_ (by omega) (by omega) d_MO_init_343 (fun a196 H hn_ hP hS => ?_)
  have hq := hq a196 hn_
  generalize eh_ : fs_up h195 a196 (.inl (E.1.2 0, (Int32.toNatClampNeg 44), .inl (fun _ : Nat => (0 : Int32)))) = h197 at hP hq
  obtain ⟨fs_, h198, e_, hl_, eh_, hq⟩ := fs_pw_some hq
  refine fs_putF hx hb hts hown hK c_MO hP hS e_ 32 (by decide) (hts _ (fs_tb_at 1488 tw_1488 rfl)) (fun _ h9 => h9) rfl hname rfl rfl rfl hl_ d_MO_init_345 (fun H locs hP hS => ?_)
  rw [← eh_] at hP
  refine lv_aload_n hx hb d_MO_init_348 rfl (lv_at hl 0 rfl) ?_
  refine lv_bipush (v := 44) hx hb d_MO_init_349 (by decide) ?_
  obtain ⟨hn_, hb_, hc_, hs_, hq⟩ := hq
  refine fs_newa (atype := .int) (a0 := ((Int32.toNatClampNeg 44), .inl (fun _ : Nat => (0 : Int32)))) hx hb (hts _ (fs_tb_at 179 tw_179 rfl)) rfl (by intro C9 h9; cases h9) hK 0 rfl hP hS (fun _ h9 => h9) (fun _ => rfl) hn_ rfl hb_ (by omega) (by omega) d_MO_init_351 (fun a199 H hn_ hP hS => ?_)
  have hq := hq a199 hn_
  generalize eh_ : fs_up h198 a199 (.inl (E.1.2 0, (Int32.toNatClampNeg 44), .inl (fun _ : Nat => (0 : Int32)))) = h200 at hP hq
  obtain ⟨fs_, h201, e_, hl_, eh_, hq⟩ := fs_pw_some hq
  refine fs_putF hx hb hts hown hK c_MO hP hS e_ 33 (by decide) (hts _ (fs_tb_at 1489 tw_1489 rfl)) (fun _ h9 => h9) rfl hname rfl rfl rfl hl_ d_MO_init_353 (fun H locs hP hS => ?_)
  rw [← eh_] at hP
  exact fs_vret hx hb hr hlocks hw hP hS (by omega) (by omega) hq d_MO_init_356
