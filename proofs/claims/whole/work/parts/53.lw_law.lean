/-! The law, as a condition on the script. -/
abbrev b_LW_law : ByteArray := code
def y_LW_law : MethodName := ⟨"FormulaSheetLaw", "law", "([I)Z"⟩
theorem d_LW_law_0 : decode b_LW_law 0 = .ok (.new 8, 3) := by decide +kernel
theorem d_LW_law_3 : decode b_LW_law 3 = .ok (.dup, 1) := by decide +kernel
theorem d_LW_law_4 : decode b_LW_law 4 = .ok (.invokespecial 62, 3) := by decide +kernel
theorem d_LW_law_7 : decode b_LW_law 7 = .ok (.astore_n 1, 1) := by decide +kernel
theorem d_LW_law_8 : decode b_LW_law 8 = .ok (.new 63, 3) := by decide +kernel
theorem d_LW_law_11 : decode b_LW_law 11 = .ok (.dup, 1) := by decide +kernel
theorem d_LW_law_12 : decode b_LW_law 12 = .ok (.invokespecial 65, 3) := by decide +kernel
theorem d_LW_law_15 : decode b_LW_law 15 = .ok (.astore_n 2, 1) := by decide +kernel
theorem d_LW_law_16 : decode b_LW_law 16 = .ok (.iconst 1, 1) := by decide +kernel
theorem d_LW_law_17 : decode b_LW_law 17 = .ok (.newarray .long, 2) := by decide +kernel
theorem d_LW_law_19 : decode b_LW_law 19 = .ok (.astore_n 3, 1) := by decide +kernel
theorem d_LW_law_20 : decode b_LW_law 20 = .ok (.iconst 1, 1) := by decide +kernel
theorem d_LW_law_21 : decode b_LW_law 21 = .ok (.newarray .double, 2) := by decide +kernel
theorem d_LW_law_23 : decode b_LW_law 23 = .ok (.astore 4, 2) := by decide +kernel
theorem d_LW_law_25 : decode b_LW_law 25 = .ok (.iconst 0, 1) := by decide +kernel
theorem d_LW_law_26 : decode b_LW_law 26 = .ok (.istore 5, 2) := by decide +kernel
theorem d_LW_law_28 : decode b_LW_law 28 = .ok (.iload 5, 2) := by decide +kernel
theorem d_LW_law_30 : decode b_LW_law 30 = .ok (.aload_n 0, 1) := by decide +kernel
theorem d_LW_law_31 : decode b_LW_law 31 = .ok (.arraylength, 1) := by decide +kernel
theorem d_LW_law_32 : decode b_LW_law 32 = .ok (.iconst 5, 1) := by decide +kernel
theorem d_LW_law_33 : decode b_LW_law 33 = .ok (.isub, 1) := by decide +kernel
theorem d_LW_law_34 : decode b_LW_law 34 = .ok (.if_icmp .gt 904, 3) := by decide +kernel
theorem d_LW_law_37 : decode b_LW_law 37 = .ok (.aload_n 0, 1) := by decide +kernel
theorem d_LW_law_38 : decode b_LW_law 38 = .ok (.iload 5, 2) := by decide +kernel
theorem d_LW_law_40 : decode b_LW_law 40 = .ok (.iaload, 1) := by decide +kernel
theorem d_LW_law_41 : decode b_LW_law 41 = .ok (.bipush 15, 2) := by decide +kernel
theorem d_LW_law_43 : decode b_LW_law 43 = .ok (.iand, 1) := by decide +kernel
theorem d_LW_law_44 : decode b_LW_law 44 = .ok (.tableswitch 888 0 12 #[68, 124, 192, 205, 275, 323, 415, 471, 527, 616, 684, 764, 863], 68) := by decide +kernel
theorem d_LW_law_112 : decode b_LW_law 112 = .ok (.aload_n 1, 1) := by decide +kernel
theorem d_LW_law_113 : decode b_LW_law 113 = .ok (.aload_n 0, 1) := by decide +kernel
theorem d_LW_law_114 : decode b_LW_law 114 = .ok (.iload 5, 2) := by decide +kernel
theorem d_LW_law_116 : decode b_LW_law 116 = .ok (.iconst 1, 1) := by decide +kernel
theorem d_LW_law_117 : decode b_LW_law 117 = .ok (.iadd, 1) := by decide +kernel
theorem d_LW_law_118 : decode b_LW_law 118 = .ok (.iaload, 1) := by decide +kernel
theorem d_LW_law_119 : decode b_LW_law 119 = .ok (.aload_n 3, 1) := by decide +kernel
theorem d_LW_law_120 : decode b_LW_law 120 = .ok (.invokestatic 66, 3) := by decide +kernel
theorem d_LW_law_123 : decode b_LW_law 123 = .ok (.istore 6, 2) := by decide +kernel
theorem d_LW_law_125 : decode b_LW_law 125 = .ok (.aload_n 2, 1) := by decide +kernel
theorem d_LW_law_126 : decode b_LW_law 126 = .ok (.aload_n 0, 1) := by decide +kernel
theorem d_LW_law_127 : decode b_LW_law 127 = .ok (.iload 5, 2) := by decide +kernel
theorem d_LW_law_129 : decode b_LW_law 129 = .ok (.iconst 1, 1) := by decide +kernel
theorem d_LW_law_130 : decode b_LW_law 130 = .ok (.iadd, 1) := by decide +kernel
theorem d_LW_law_131 : decode b_LW_law 131 = .ok (.iaload, 1) := by decide +kernel
theorem d_LW_law_132 : decode b_LW_law 132 = .ok (.invokevirtual 71, 3) := by decide +kernel
theorem d_LW_law_135 : decode b_LW_law 135 = .ok (.istore 7, 2) := by decide +kernel
theorem d_LW_law_137 : decode b_LW_law 137 = .ok (.aload_n 2, 1) := by decide +kernel
theorem d_LW_law_138 : decode b_LW_law 138 = .ok (.invokevirtual 72, 3) := by decide +kernel
theorem d_LW_law_141 : decode b_LW_law 141 = .ok (.iload 6, 2) := by decide +kernel
theorem d_LW_law_143 : decode b_LW_law 143 = .ok (.if_icmp .eq 5, 3) := by decide +kernel
theorem d_LW_law_146 : decode b_LW_law 146 = .ok (.iconst 0, 1) := by decide +kernel
theorem d_LW_law_147 : decode b_LW_law 147 = .ok (.ireturn, 1) := by decide +kernel
theorem d_LW_law_148 : decode b_LW_law 148 = .ok (.iload 6, 2) := by decide +kernel
theorem d_LW_law_150 : decode b_LW_law 150 = .ok (.ifCond .ne 15, 3) := by decide +kernel
theorem d_LW_law_153 : decode b_LW_law 153 = .ok (.aload_n 3, 1) := by decide +kernel
theorem d_LW_law_154 : decode b_LW_law 154 = .ok (.iconst 0, 1) := by decide +kernel
theorem d_LW_law_155 : decode b_LW_law 155 = .ok (.laload, 1) := by decide +kernel
theorem d_LW_law_156 : decode b_LW_law 156 = .ok (.iload 7, 2) := by decide +kernel
theorem d_LW_law_158 : decode b_LW_law 158 = .ok (.i2l, 1) := by decide +kernel
theorem d_LW_law_159 : decode b_LW_law 159 = .ok (.lcmp, 1) := by decide +kernel
theorem d_LW_law_160 : decode b_LW_law 160 = .ok (.ifCond .eq 5, 3) := by decide +kernel
theorem d_LW_law_163 : decode b_LW_law 163 = .ok (.iconst 0, 1) := by decide +kernel
theorem d_LW_law_164 : decode b_LW_law 164 = .ok (.ireturn, 1) := by decide +kernel
theorem d_LW_law_165 : decode b_LW_law 165 = .ok (.goto 767, 3) := by decide +kernel
theorem d_LW_law_168 : decode b_LW_law 168 = .ok (.aload_n 1, 1) := by decide +kernel
theorem d_LW_law_169 : decode b_LW_law 169 = .ok (.aload_n 0, 1) := by decide +kernel
theorem d_LW_law_170 : decode b_LW_law 170 = .ok (.iload 5, 2) := by decide +kernel
theorem d_LW_law_172 : decode b_LW_law 172 = .ok (.iconst 1, 1) := by decide +kernel
theorem d_LW_law_173 : decode b_LW_law 173 = .ok (.iadd, 1) := by decide +kernel
theorem d_LW_law_174 : decode b_LW_law 174 = .ok (.iaload, 1) := by decide +kernel
theorem d_LW_law_175 : decode b_LW_law 175 = .ok (.aload_n 0, 1) := by decide +kernel
theorem d_LW_law_176 : decode b_LW_law 176 = .ok (.iload 5, 2) := by decide +kernel
theorem d_LW_law_178 : decode b_LW_law 178 = .ok (.iconst 2, 1) := by decide +kernel
theorem d_LW_law_179 : decode b_LW_law 179 = .ok (.iadd, 1) := by decide +kernel
theorem d_LW_law_180 : decode b_LW_law 180 = .ok (.iaload, 1) := by decide +kernel
theorem d_LW_law_181 : decode b_LW_law 181 = .ok (.aload_n 3, 1) := by decide +kernel
theorem d_LW_law_182 : decode b_LW_law 182 = .ok (.invokestatic 76, 3) := by decide +kernel
theorem d_LW_law_185 : decode b_LW_law 185 = .ok (.istore 6, 2) := by decide +kernel
theorem d_LW_law_187 : decode b_LW_law 187 = .ok (.aload_n 2, 1) := by decide +kernel
theorem d_LW_law_188 : decode b_LW_law 188 = .ok (.aload_n 0, 1) := by decide +kernel
theorem d_LW_law_189 : decode b_LW_law 189 = .ok (.iload 5, 2) := by decide +kernel
theorem d_LW_law_191 : decode b_LW_law 191 = .ok (.iconst 1, 1) := by decide +kernel
theorem d_LW_law_192 : decode b_LW_law 192 = .ok (.iadd, 1) := by decide +kernel
theorem d_LW_law_193 : decode b_LW_law 193 = .ok (.iaload, 1) := by decide +kernel
theorem d_LW_law_194 : decode b_LW_law 194 = .ok (.aload_n 0, 1) := by decide +kernel
theorem d_LW_law_195 : decode b_LW_law 195 = .ok (.iload 5, 2) := by decide +kernel
theorem d_LW_law_197 : decode b_LW_law 197 = .ok (.iconst 2, 1) := by decide +kernel
theorem d_LW_law_198 : decode b_LW_law 198 = .ok (.iadd, 1) := by decide +kernel
theorem d_LW_law_199 : decode b_LW_law 199 = .ok (.iaload, 1) := by decide +kernel
theorem d_LW_law_200 : decode b_LW_law 200 = .ok (.invokevirtual 79, 3) := by decide +kernel
theorem d_LW_law_203 : decode b_LW_law 203 = .ok (.istore 7, 2) := by decide +kernel
theorem d_LW_law_205 : decode b_LW_law 205 = .ok (.aload_n 2, 1) := by decide +kernel
theorem d_LW_law_206 : decode b_LW_law 206 = .ok (.invokevirtual 72, 3) := by decide +kernel
theorem d_LW_law_209 : decode b_LW_law 209 = .ok (.iload 6, 2) := by decide +kernel
theorem d_LW_law_211 : decode b_LW_law 211 = .ok (.if_icmp .eq 5, 3) := by decide +kernel
theorem d_LW_law_214 : decode b_LW_law 214 = .ok (.iconst 0, 1) := by decide +kernel
theorem d_LW_law_215 : decode b_LW_law 215 = .ok (.ireturn, 1) := by decide +kernel
theorem d_LW_law_216 : decode b_LW_law 216 = .ok (.iload 6, 2) := by decide +kernel
theorem d_LW_law_218 : decode b_LW_law 218 = .ok (.ifCond .ne 15, 3) := by decide +kernel
theorem d_LW_law_221 : decode b_LW_law 221 = .ok (.aload_n 3, 1) := by decide +kernel
theorem d_LW_law_222 : decode b_LW_law 222 = .ok (.iconst 0, 1) := by decide +kernel
theorem d_LW_law_223 : decode b_LW_law 223 = .ok (.laload, 1) := by decide +kernel
theorem d_LW_law_224 : decode b_LW_law 224 = .ok (.iload 7, 2) := by decide +kernel
theorem d_LW_law_226 : decode b_LW_law 226 = .ok (.i2l, 1) := by decide +kernel
theorem d_LW_law_227 : decode b_LW_law 227 = .ok (.lcmp, 1) := by decide +kernel
theorem d_LW_law_228 : decode b_LW_law 228 = .ok (.ifCond .eq 5, 3) := by decide +kernel
theorem d_LW_law_231 : decode b_LW_law 231 = .ok (.iconst 0, 1) := by decide +kernel
theorem d_LW_law_232 : decode b_LW_law 232 = .ok (.ireturn, 1) := by decide +kernel
theorem d_LW_law_233 : decode b_LW_law 233 = .ok (.goto 699, 3) := by decide +kernel
theorem d_LW_law_236 : decode b_LW_law 236 = .ok (.aload_n 1, 1) := by decide +kernel
theorem d_LW_law_237 : decode b_LW_law 237 = .ok (.invokevirtual 80, 3) := by decide +kernel
theorem d_LW_law_240 : decode b_LW_law 240 = .ok (.aload_n 2, 1) := by decide +kernel
theorem d_LW_law_241 : decode b_LW_law 241 = .ok (.invokevirtual 83, 3) := by decide +kernel
theorem d_LW_law_244 : decode b_LW_law 244 = .ok (.if_icmp .eq 688, 3) := by decide +kernel
theorem d_LW_law_247 : decode b_LW_law 247 = .ok (.iconst 0, 1) := by decide +kernel
theorem d_LW_law_248 : decode b_LW_law 248 = .ok (.ireturn, 1) := by decide +kernel
theorem d_LW_law_249 : decode b_LW_law 249 = .ok (.aload_n 1, 1) := by decide +kernel
theorem d_LW_law_250 : decode b_LW_law 250 = .ok (.aload_n 0, 1) := by decide +kernel
theorem d_LW_law_251 : decode b_LW_law 251 = .ok (.iload 5, 2) := by decide +kernel
theorem d_LW_law_253 : decode b_LW_law 253 = .ok (.iconst 1, 1) := by decide +kernel
theorem d_LW_law_254 : decode b_LW_law 254 = .ok (.iadd, 1) := by decide +kernel
theorem d_LW_law_255 : decode b_LW_law 255 = .ok (.iaload, 1) := by decide +kernel
theorem d_LW_law_256 : decode b_LW_law 256 = .ok (.aload_n 0, 1) := by decide +kernel
theorem d_LW_law_257 : decode b_LW_law 257 = .ok (.iload 5, 2) := by decide +kernel
theorem d_LW_law_259 : decode b_LW_law 259 = .ok (.iconst 2, 1) := by decide +kernel
theorem d_LW_law_260 : decode b_LW_law 260 = .ok (.iadd, 1) := by decide +kernel
theorem d_LW_law_261 : decode b_LW_law 261 = .ok (.iaload, 1) := by decide +kernel
theorem d_LW_law_262 : decode b_LW_law 262 = .ok (.aload_n 0, 1) := by decide +kernel
theorem d_LW_law_263 : decode b_LW_law 263 = .ok (.iload 5, 2) := by decide +kernel
theorem d_LW_law_265 : decode b_LW_law 265 = .ok (.iconst 3, 1) := by decide +kernel
theorem d_LW_law_266 : decode b_LW_law 266 = .ok (.iadd, 1) := by decide +kernel
theorem d_LW_law_267 : decode b_LW_law 267 = .ok (.iaload, 1) := by decide +kernel
theorem d_LW_law_268 : decode b_LW_law 268 = .ok (.i2d, 1) := by decide +kernel
theorem d_LW_law_269 : decode b_LW_law 269 = .ok (.ldc2_w 84, 3) := by decide +kernel
theorem d_LW_law_272 : decode b_LW_law 272 = .ok (.dmul, 1) := by decide +kernel
theorem d_LW_law_273 : decode b_LW_law 273 = .ok (.invokestatic 86, 3) := by decide +kernel
theorem d_LW_law_276 : decode b_LW_law 276 = .ok (.istore 6, 2) := by decide +kernel
theorem d_LW_law_278 : decode b_LW_law 278 = .ok (.aload_n 2, 1) := by decide +kernel
theorem d_LW_law_279 : decode b_LW_law 279 = .ok (.aload_n 0, 1) := by decide +kernel
theorem d_LW_law_280 : decode b_LW_law 280 = .ok (.iload 5, 2) := by decide +kernel
theorem d_LW_law_282 : decode b_LW_law 282 = .ok (.iconst 1, 1) := by decide +kernel
theorem d_LW_law_283 : decode b_LW_law 283 = .ok (.iadd, 1) := by decide +kernel
theorem d_LW_law_284 : decode b_LW_law 284 = .ok (.iaload, 1) := by decide +kernel
theorem d_LW_law_285 : decode b_LW_law 285 = .ok (.aload_n 0, 1) := by decide +kernel
theorem d_LW_law_286 : decode b_LW_law 286 = .ok (.iload 5, 2) := by decide +kernel
theorem d_LW_law_288 : decode b_LW_law 288 = .ok (.iconst 2, 1) := by decide +kernel
theorem d_LW_law_289 : decode b_LW_law 289 = .ok (.iadd, 1) := by decide +kernel
theorem d_LW_law_290 : decode b_LW_law 290 = .ok (.iaload, 1) := by decide +kernel
theorem d_LW_law_291 : decode b_LW_law 291 = .ok (.aload_n 0, 1) := by decide +kernel
theorem d_LW_law_292 : decode b_LW_law 292 = .ok (.iload 5, 2) := by decide +kernel
theorem d_LW_law_294 : decode b_LW_law 294 = .ok (.iconst 3, 1) := by decide +kernel
theorem d_LW_law_295 : decode b_LW_law 295 = .ok (.iadd, 1) := by decide +kernel
theorem d_LW_law_296 : decode b_LW_law 296 = .ok (.iaload, 1) := by decide +kernel
theorem d_LW_law_297 : decode b_LW_law 297 = .ok (.i2d, 1) := by decide +kernel
theorem d_LW_law_298 : decode b_LW_law 298 = .ok (.ldc2_w 84, 3) := by decide +kernel
theorem d_LW_law_301 : decode b_LW_law 301 = .ok (.dmul, 1) := by decide +kernel
theorem d_LW_law_302 : decode b_LW_law 302 = .ok (.invokevirtual 89, 3) := by decide +kernel
theorem d_LW_law_305 : decode b_LW_law 305 = .ok (.aload_n 2, 1) := by decide +kernel
theorem d_LW_law_306 : decode b_LW_law 306 = .ok (.invokevirtual 72, 3) := by decide +kernel
theorem d_LW_law_309 : decode b_LW_law 309 = .ok (.iload 6, 2) := by decide +kernel
theorem d_LW_law_311 : decode b_LW_law 311 = .ok (.if_icmp .eq 5, 3) := by decide +kernel
theorem d_LW_law_314 : decode b_LW_law 314 = .ok (.iconst 0, 1) := by decide +kernel
theorem d_LW_law_315 : decode b_LW_law 315 = .ok (.ireturn, 1) := by decide +kernel
theorem d_LW_law_316 : decode b_LW_law 316 = .ok (.goto 616, 3) := by decide +kernel
theorem d_LW_law_319 : decode b_LW_law 319 = .ok (.aload_n 1, 1) := by decide +kernel
theorem d_LW_law_320 : decode b_LW_law 320 = .ok (.aload_n 0, 1) := by decide +kernel
theorem d_LW_law_321 : decode b_LW_law 321 = .ok (.iload 5, 2) := by decide +kernel
theorem d_LW_law_323 : decode b_LW_law 323 = .ok (.iconst 1, 1) := by decide +kernel
theorem d_LW_law_324 : decode b_LW_law 324 = .ok (.iadd, 1) := by decide +kernel
theorem d_LW_law_325 : decode b_LW_law 325 = .ok (.iaload, 1) := by decide +kernel
theorem d_LW_law_326 : decode b_LW_law 326 = .ok (.aload_n 0, 1) := by decide +kernel
theorem d_LW_law_327 : decode b_LW_law 327 = .ok (.iload 5, 2) := by decide +kernel
theorem d_LW_law_329 : decode b_LW_law 329 = .ok (.iconst 2, 1) := by decide +kernel
theorem d_LW_law_330 : decode b_LW_law 330 = .ok (.iadd, 1) := by decide +kernel
theorem d_LW_law_331 : decode b_LW_law 331 = .ok (.iaload, 1) := by decide +kernel
theorem d_LW_law_332 : decode b_LW_law 332 = .ok (.invokestatic 90, 3) := by decide +kernel
theorem d_LW_law_335 : decode b_LW_law 335 = .ok (.istore 6, 2) := by decide +kernel
theorem d_LW_law_337 : decode b_LW_law 337 = .ok (.aload_n 2, 1) := by decide +kernel
theorem d_LW_law_338 : decode b_LW_law 338 = .ok (.aload_n 0, 1) := by decide +kernel
theorem d_LW_law_339 : decode b_LW_law 339 = .ok (.iload 5, 2) := by decide +kernel
theorem d_LW_law_341 : decode b_LW_law 341 = .ok (.iconst 1, 1) := by decide +kernel
theorem d_LW_law_342 : decode b_LW_law 342 = .ok (.iadd, 1) := by decide +kernel
theorem d_LW_law_343 : decode b_LW_law 343 = .ok (.iaload, 1) := by decide +kernel
theorem d_LW_law_344 : decode b_LW_law 344 = .ok (.aload_n 0, 1) := by decide +kernel
theorem d_LW_law_345 : decode b_LW_law 345 = .ok (.iload 5, 2) := by decide +kernel
theorem d_LW_law_347 : decode b_LW_law 347 = .ok (.iconst 2, 1) := by decide +kernel
theorem d_LW_law_348 : decode b_LW_law 348 = .ok (.iadd, 1) := by decide +kernel
theorem d_LW_law_349 : decode b_LW_law 349 = .ok (.iaload, 1) := by decide +kernel
theorem d_LW_law_350 : decode b_LW_law 350 = .ok (.invokevirtual 93, 3) := by decide +kernel
theorem d_LW_law_353 : decode b_LW_law 353 = .ok (.aload_n 2, 1) := by decide +kernel
theorem d_LW_law_354 : decode b_LW_law 354 = .ok (.invokevirtual 72, 3) := by decide +kernel
theorem d_LW_law_357 : decode b_LW_law 357 = .ok (.iload 6, 2) := by decide +kernel
theorem d_LW_law_359 : decode b_LW_law 359 = .ok (.if_icmp .eq 5, 3) := by decide +kernel
theorem d_LW_law_362 : decode b_LW_law 362 = .ok (.iconst 0, 1) := by decide +kernel
theorem d_LW_law_363 : decode b_LW_law 363 = .ok (.ireturn, 1) := by decide +kernel
theorem d_LW_law_364 : decode b_LW_law 364 = .ok (.goto 568, 3) := by decide +kernel
theorem d_LW_law_367 : decode b_LW_law 367 = .ok (.aload_n 1, 1) := by decide +kernel
theorem d_LW_law_368 : decode b_LW_law 368 = .ok (.aload_n 0, 1) := by decide +kernel
theorem d_LW_law_369 : decode b_LW_law 369 = .ok (.iload 5, 2) := by decide +kernel
theorem d_LW_law_371 : decode b_LW_law 371 = .ok (.iconst 1, 1) := by decide +kernel
theorem d_LW_law_372 : decode b_LW_law 372 = .ok (.iadd, 1) := by decide +kernel
theorem d_LW_law_373 : decode b_LW_law 373 = .ok (.iaload, 1) := by decide +kernel
theorem d_LW_law_374 : decode b_LW_law 374 = .ok (.aload_n 0, 1) := by decide +kernel
theorem d_LW_law_375 : decode b_LW_law 375 = .ok (.iload 5, 2) := by decide +kernel
theorem d_LW_law_377 : decode b_LW_law 377 = .ok (.iconst 2, 1) := by decide +kernel
theorem d_LW_law_378 : decode b_LW_law 378 = .ok (.iadd, 1) := by decide +kernel
theorem d_LW_law_379 : decode b_LW_law 379 = .ok (.iaload, 1) := by decide +kernel
theorem d_LW_law_380 : decode b_LW_law 380 = .ok (.aload_n 0, 1) := by decide +kernel
theorem d_LW_law_381 : decode b_LW_law 381 = .ok (.iload 5, 2) := by decide +kernel
theorem d_LW_law_383 : decode b_LW_law 383 = .ok (.iconst 3, 1) := by decide +kernel
theorem d_LW_law_384 : decode b_LW_law 384 = .ok (.iadd, 1) := by decide +kernel
theorem d_LW_law_385 : decode b_LW_law 385 = .ok (.iaload, 1) := by decide +kernel
theorem d_LW_law_386 : decode b_LW_law 386 = .ok (.aload_n 0, 1) := by decide +kernel
theorem d_LW_law_387 : decode b_LW_law 387 = .ok (.iload 5, 2) := by decide +kernel
theorem d_LW_law_389 : decode b_LW_law 389 = .ok (.iconst 4, 1) := by decide +kernel
theorem d_LW_law_390 : decode b_LW_law 390 = .ok (.iadd, 1) := by decide +kernel
theorem d_LW_law_391 : decode b_LW_law 391 = .ok (.iaload, 1) := by decide +kernel
theorem d_LW_law_392 : decode b_LW_law 392 = .ok (.aload_n 3, 1) := by decide +kernel
theorem d_LW_law_393 : decode b_LW_law 393 = .ok (.invokestatic 94, 3) := by decide +kernel
theorem d_LW_law_396 : decode b_LW_law 396 = .ok (.istore 6, 2) := by decide +kernel
theorem d_LW_law_398 : decode b_LW_law 398 = .ok (.aload_n 2, 1) := by decide +kernel
theorem d_LW_law_399 : decode b_LW_law 399 = .ok (.aload_n 0, 1) := by decide +kernel
theorem d_LW_law_400 : decode b_LW_law 400 = .ok (.iload 5, 2) := by decide +kernel
theorem d_LW_law_402 : decode b_LW_law 402 = .ok (.iconst 1, 1) := by decide +kernel
theorem d_LW_law_403 : decode b_LW_law 403 = .ok (.iadd, 1) := by decide +kernel
theorem d_LW_law_404 : decode b_LW_law 404 = .ok (.iaload, 1) := by decide +kernel
theorem d_LW_law_405 : decode b_LW_law 405 = .ok (.aload_n 0, 1) := by decide +kernel
theorem d_LW_law_406 : decode b_LW_law 406 = .ok (.iload 5, 2) := by decide +kernel
theorem d_LW_law_408 : decode b_LW_law 408 = .ok (.iconst 2, 1) := by decide +kernel
theorem d_LW_law_409 : decode b_LW_law 409 = .ok (.iadd, 1) := by decide +kernel
theorem d_LW_law_410 : decode b_LW_law 410 = .ok (.iaload, 1) := by decide +kernel
theorem d_LW_law_411 : decode b_LW_law 411 = .ok (.aload_n 0, 1) := by decide +kernel
theorem d_LW_law_412 : decode b_LW_law 412 = .ok (.iload 5, 2) := by decide +kernel
theorem d_LW_law_414 : decode b_LW_law 414 = .ok (.iconst 3, 1) := by decide +kernel
theorem d_LW_law_415 : decode b_LW_law 415 = .ok (.iadd, 1) := by decide +kernel
theorem d_LW_law_416 : decode b_LW_law 416 = .ok (.iaload, 1) := by decide +kernel
theorem d_LW_law_417 : decode b_LW_law 417 = .ok (.aload_n 0, 1) := by decide +kernel
theorem d_LW_law_418 : decode b_LW_law 418 = .ok (.iload 5, 2) := by decide +kernel
theorem d_LW_law_420 : decode b_LW_law 420 = .ok (.iconst 4, 1) := by decide +kernel
theorem d_LW_law_421 : decode b_LW_law 421 = .ok (.iadd, 1) := by decide +kernel
theorem d_LW_law_422 : decode b_LW_law 422 = .ok (.iaload, 1) := by decide +kernel
theorem d_LW_law_423 : decode b_LW_law 423 = .ok (.invokevirtual 97, 3) := by decide +kernel
theorem d_LW_law_426 : decode b_LW_law 426 = .ok (.istore 7, 2) := by decide +kernel
theorem d_LW_law_428 : decode b_LW_law 428 = .ok (.aload_n 2, 1) := by decide +kernel
theorem d_LW_law_429 : decode b_LW_law 429 = .ok (.invokevirtual 72, 3) := by decide +kernel
theorem d_LW_law_432 : decode b_LW_law 432 = .ok (.iload 6, 2) := by decide +kernel
theorem d_LW_law_434 : decode b_LW_law 434 = .ok (.if_icmp .eq 5, 3) := by decide +kernel
theorem d_LW_law_437 : decode b_LW_law 437 = .ok (.iconst 0, 1) := by decide +kernel
theorem d_LW_law_438 : decode b_LW_law 438 = .ok (.ireturn, 1) := by decide +kernel
theorem d_LW_law_439 : decode b_LW_law 439 = .ok (.iload 6, 2) := by decide +kernel
theorem d_LW_law_441 : decode b_LW_law 441 = .ok (.ifCond .ne 15, 3) := by decide +kernel
theorem d_LW_law_444 : decode b_LW_law 444 = .ok (.aload_n 3, 1) := by decide +kernel
theorem d_LW_law_445 : decode b_LW_law 445 = .ok (.iconst 0, 1) := by decide +kernel
theorem d_LW_law_446 : decode b_LW_law 446 = .ok (.laload, 1) := by decide +kernel
theorem d_LW_law_447 : decode b_LW_law 447 = .ok (.iload 7, 2) := by decide +kernel
theorem d_LW_law_449 : decode b_LW_law 449 = .ok (.i2l, 1) := by decide +kernel
theorem d_LW_law_450 : decode b_LW_law 450 = .ok (.lcmp, 1) := by decide +kernel
theorem d_LW_law_451 : decode b_LW_law 451 = .ok (.ifCond .eq 5, 3) := by decide +kernel
theorem d_LW_law_454 : decode b_LW_law 454 = .ok (.iconst 0, 1) := by decide +kernel
theorem d_LW_law_455 : decode b_LW_law 455 = .ok (.ireturn, 1) := by decide +kernel
theorem d_LW_law_456 : decode b_LW_law 456 = .ok (.goto 476, 3) := by decide +kernel
theorem d_LW_law_459 : decode b_LW_law 459 = .ok (.aload_n 1, 1) := by decide +kernel
theorem d_LW_law_460 : decode b_LW_law 460 = .ok (.aload_n 0, 1) := by decide +kernel
theorem d_LW_law_461 : decode b_LW_law 461 = .ok (.iload 5, 2) := by decide +kernel
theorem d_LW_law_463 : decode b_LW_law 463 = .ok (.iconst 1, 1) := by decide +kernel
theorem d_LW_law_464 : decode b_LW_law 464 = .ok (.iadd, 1) := by decide +kernel
theorem d_LW_law_465 : decode b_LW_law 465 = .ok (.iaload, 1) := by decide +kernel
theorem d_LW_law_466 : decode b_LW_law 466 = .ok (.aload_n 3, 1) := by decide +kernel
theorem d_LW_law_467 : decode b_LW_law 467 = .ok (.invokestatic 98, 3) := by decide +kernel
theorem d_LW_law_470 : decode b_LW_law 470 = .ok (.istore 6, 2) := by decide +kernel
theorem d_LW_law_472 : decode b_LW_law 472 = .ok (.aload_n 2, 1) := by decide +kernel
theorem d_LW_law_473 : decode b_LW_law 473 = .ok (.aload_n 0, 1) := by decide +kernel
theorem d_LW_law_474 : decode b_LW_law 474 = .ok (.iload 5, 2) := by decide +kernel
theorem d_LW_law_476 : decode b_LW_law 476 = .ok (.iconst 1, 1) := by decide +kernel
theorem d_LW_law_477 : decode b_LW_law 477 = .ok (.iadd, 1) := by decide +kernel
theorem d_LW_law_478 : decode b_LW_law 478 = .ok (.iaload, 1) := by decide +kernel
theorem d_LW_law_479 : decode b_LW_law 479 = .ok (.invokevirtual 100, 3) := by decide +kernel
theorem d_LW_law_482 : decode b_LW_law 482 = .ok (.istore 7, 2) := by decide +kernel
theorem d_LW_law_484 : decode b_LW_law 484 = .ok (.aload_n 2, 1) := by decide +kernel
theorem d_LW_law_485 : decode b_LW_law 485 = .ok (.invokevirtual 72, 3) := by decide +kernel
theorem d_LW_law_488 : decode b_LW_law 488 = .ok (.iload 6, 2) := by decide +kernel
theorem d_LW_law_490 : decode b_LW_law 490 = .ok (.if_icmp .eq 5, 3) := by decide +kernel
theorem d_LW_law_493 : decode b_LW_law 493 = .ok (.iconst 0, 1) := by decide +kernel
theorem d_LW_law_494 : decode b_LW_law 494 = .ok (.ireturn, 1) := by decide +kernel
theorem d_LW_law_495 : decode b_LW_law 495 = .ok (.iload 6, 2) := by decide +kernel
theorem d_LW_law_497 : decode b_LW_law 497 = .ok (.ifCond .ne 15, 3) := by decide +kernel
theorem d_LW_law_500 : decode b_LW_law 500 = .ok (.aload_n 3, 1) := by decide +kernel
theorem d_LW_law_501 : decode b_LW_law 501 = .ok (.iconst 0, 1) := by decide +kernel
theorem d_LW_law_502 : decode b_LW_law 502 = .ok (.laload, 1) := by decide +kernel
theorem d_LW_law_503 : decode b_LW_law 503 = .ok (.iload 7, 2) := by decide +kernel
theorem d_LW_law_505 : decode b_LW_law 505 = .ok (.i2l, 1) := by decide +kernel
theorem d_LW_law_506 : decode b_LW_law 506 = .ok (.lcmp, 1) := by decide +kernel
theorem d_LW_law_507 : decode b_LW_law 507 = .ok (.ifCond .eq 5, 3) := by decide +kernel
theorem d_LW_law_510 : decode b_LW_law 510 = .ok (.iconst 0, 1) := by decide +kernel
theorem d_LW_law_511 : decode b_LW_law 511 = .ok (.ireturn, 1) := by decide +kernel
theorem d_LW_law_512 : decode b_LW_law 512 = .ok (.goto 420, 3) := by decide +kernel
theorem d_LW_law_515 : decode b_LW_law 515 = .ok (.aload_n 1, 1) := by decide +kernel
theorem d_LW_law_516 : decode b_LW_law 516 = .ok (.aload_n 0, 1) := by decide +kernel
theorem d_LW_law_517 : decode b_LW_law 517 = .ok (.iload 5, 2) := by decide +kernel
theorem d_LW_law_519 : decode b_LW_law 519 = .ok (.iconst 1, 1) := by decide +kernel
theorem d_LW_law_520 : decode b_LW_law 520 = .ok (.iadd, 1) := by decide +kernel
theorem d_LW_law_521 : decode b_LW_law 521 = .ok (.iaload, 1) := by decide +kernel
theorem d_LW_law_522 : decode b_LW_law 522 = .ok (.aload_n 3, 1) := by decide +kernel
theorem d_LW_law_523 : decode b_LW_law 523 = .ok (.invokestatic 101, 3) := by decide +kernel
theorem d_LW_law_526 : decode b_LW_law 526 = .ok (.istore 6, 2) := by decide +kernel
theorem d_LW_law_528 : decode b_LW_law 528 = .ok (.aload_n 2, 1) := by decide +kernel
theorem d_LW_law_529 : decode b_LW_law 529 = .ok (.aload_n 0, 1) := by decide +kernel
theorem d_LW_law_530 : decode b_LW_law 530 = .ok (.iload 5, 2) := by decide +kernel
theorem d_LW_law_532 : decode b_LW_law 532 = .ok (.iconst 1, 1) := by decide +kernel
theorem d_LW_law_533 : decode b_LW_law 533 = .ok (.iadd, 1) := by decide +kernel
theorem d_LW_law_534 : decode b_LW_law 534 = .ok (.iaload, 1) := by decide +kernel
theorem d_LW_law_535 : decode b_LW_law 535 = .ok (.invokevirtual 103, 3) := by decide +kernel
theorem d_LW_law_538 : decode b_LW_law 538 = .ok (.istore 7, 2) := by decide +kernel
theorem d_LW_law_540 : decode b_LW_law 540 = .ok (.aload_n 2, 1) := by decide +kernel
theorem d_LW_law_541 : decode b_LW_law 541 = .ok (.invokevirtual 72, 3) := by decide +kernel
theorem d_LW_law_544 : decode b_LW_law 544 = .ok (.iload 6, 2) := by decide +kernel
theorem d_LW_law_546 : decode b_LW_law 546 = .ok (.if_icmp .eq 5, 3) := by decide +kernel
theorem d_LW_law_549 : decode b_LW_law 549 = .ok (.iconst 0, 1) := by decide +kernel
theorem d_LW_law_550 : decode b_LW_law 550 = .ok (.ireturn, 1) := by decide +kernel
theorem d_LW_law_551 : decode b_LW_law 551 = .ok (.iload 6, 2) := by decide +kernel
theorem d_LW_law_553 : decode b_LW_law 553 = .ok (.ifCond .ne 15, 3) := by decide +kernel
theorem d_LW_law_556 : decode b_LW_law 556 = .ok (.aload_n 3, 1) := by decide +kernel
theorem d_LW_law_557 : decode b_LW_law 557 = .ok (.iconst 0, 1) := by decide +kernel
theorem d_LW_law_558 : decode b_LW_law 558 = .ok (.laload, 1) := by decide +kernel
theorem d_LW_law_559 : decode b_LW_law 559 = .ok (.iload 7, 2) := by decide +kernel
theorem d_LW_law_561 : decode b_LW_law 561 = .ok (.i2l, 1) := by decide +kernel
theorem d_LW_law_562 : decode b_LW_law 562 = .ok (.lcmp, 1) := by decide +kernel
theorem d_LW_law_563 : decode b_LW_law 563 = .ok (.ifCond .eq 5, 3) := by decide +kernel
theorem d_LW_law_566 : decode b_LW_law 566 = .ok (.iconst 0, 1) := by decide +kernel
theorem d_LW_law_567 : decode b_LW_law 567 = .ok (.ireturn, 1) := by decide +kernel
theorem d_LW_law_568 : decode b_LW_law 568 = .ok (.goto 364, 3) := by decide +kernel
theorem d_LW_law_571 : decode b_LW_law 571 = .ok (.aload_n 1, 1) := by decide +kernel
theorem d_LW_law_572 : decode b_LW_law 572 = .ok (.aload_n 0, 1) := by decide +kernel
theorem d_LW_law_573 : decode b_LW_law 573 = .ok (.iload 5, 2) := by decide +kernel
theorem d_LW_law_575 : decode b_LW_law 575 = .ok (.iconst 1, 1) := by decide +kernel
theorem d_LW_law_576 : decode b_LW_law 576 = .ok (.iadd, 1) := by decide +kernel
theorem d_LW_law_577 : decode b_LW_law 577 = .ok (.iaload, 1) := by decide +kernel
theorem d_LW_law_578 : decode b_LW_law 578 = .ok (.aload_n 0, 1) := by decide +kernel
theorem d_LW_law_579 : decode b_LW_law 579 = .ok (.iload 5, 2) := by decide +kernel
theorem d_LW_law_581 : decode b_LW_law 581 = .ok (.iconst 2, 1) := by decide +kernel
theorem d_LW_law_582 : decode b_LW_law 582 = .ok (.iadd, 1) := by decide +kernel
theorem d_LW_law_583 : decode b_LW_law 583 = .ok (.iaload, 1) := by decide +kernel
theorem d_LW_law_584 : decode b_LW_law 584 = .ok (.aload 4, 2) := by decide +kernel
theorem d_LW_law_586 : decode b_LW_law 586 = .ok (.invokestatic 104, 3) := by decide +kernel
theorem d_LW_law_589 : decode b_LW_law 589 = .ok (.istore 6, 2) := by decide +kernel
theorem d_LW_law_591 : decode b_LW_law 591 = .ok (.aload_n 2, 1) := by decide +kernel
theorem d_LW_law_592 : decode b_LW_law 592 = .ok (.aload_n 0, 1) := by decide +kernel
theorem d_LW_law_593 : decode b_LW_law 593 = .ok (.iload 5, 2) := by decide +kernel
theorem d_LW_law_595 : decode b_LW_law 595 = .ok (.iconst 1, 1) := by decide +kernel
theorem d_LW_law_596 : decode b_LW_law 596 = .ok (.iadd, 1) := by decide +kernel
theorem d_LW_law_597 : decode b_LW_law 597 = .ok (.iaload, 1) := by decide +kernel
theorem d_LW_law_598 : decode b_LW_law 598 = .ok (.aload_n 0, 1) := by decide +kernel
theorem d_LW_law_599 : decode b_LW_law 599 = .ok (.iload 5, 2) := by decide +kernel
theorem d_LW_law_601 : decode b_LW_law 601 = .ok (.iconst 2, 1) := by decide +kernel
theorem d_LW_law_602 : decode b_LW_law 602 = .ok (.iadd, 1) := by decide +kernel
theorem d_LW_law_603 : decode b_LW_law 603 = .ok (.iaload, 1) := by decide +kernel
theorem d_LW_law_604 : decode b_LW_law 604 = .ok (.invokevirtual 107, 3) := by decide +kernel
theorem d_LW_law_607 : decode b_LW_law 607 = .ok (.dstore 7, 2) := by decide +kernel
theorem d_LW_law_609 : decode b_LW_law 609 = .ok (.aload_n 2, 1) := by decide +kernel
theorem d_LW_law_610 : decode b_LW_law 610 = .ok (.invokevirtual 72, 3) := by decide +kernel
theorem d_LW_law_613 : decode b_LW_law 613 = .ok (.iload 6, 2) := by decide +kernel
theorem d_LW_law_615 : decode b_LW_law 615 = .ok (.if_icmp .eq 5, 3) := by decide +kernel
theorem d_LW_law_618 : decode b_LW_law 618 = .ok (.iconst 0, 1) := by decide +kernel
theorem d_LW_law_619 : decode b_LW_law 619 = .ok (.ireturn, 1) := by decide +kernel
theorem d_LW_law_620 : decode b_LW_law 620 = .ok (.iload 6, 2) := by decide +kernel
theorem d_LW_law_622 : decode b_LW_law 622 = .ok (.ifCond .ne 35, 3) := by decide +kernel
theorem d_LW_law_625 : decode b_LW_law 625 = .ok (.aload 4, 2) := by decide +kernel
theorem d_LW_law_627 : decode b_LW_law 627 = .ok (.iconst 0, 1) := by decide +kernel
theorem d_LW_law_628 : decode b_LW_law 628 = .ok (.daload, 1) := by decide +kernel
theorem d_LW_law_629 : decode b_LW_law 629 = .ok (.dload 7, 2) := by decide +kernel
theorem d_LW_law_631 : decode b_LW_law 631 = .ok (.dcmp .l, 1) := by decide +kernel
theorem d_LW_law_632 : decode b_LW_law 632 = .ok (.ifCond .eq 25, 3) := by decide +kernel
theorem d_LW_law_635 : decode b_LW_law 635 = .ok (.aload 4, 2) := by decide +kernel
theorem d_LW_law_637 : decode b_LW_law 637 = .ok (.iconst 0, 1) := by decide +kernel
theorem d_LW_law_638 : decode b_LW_law 638 = .ok (.daload, 1) := by decide +kernel
theorem d_LW_law_639 : decode b_LW_law 639 = .ok (.aload 4, 2) := by decide +kernel
theorem d_LW_law_641 : decode b_LW_law 641 = .ok (.iconst 0, 1) := by decide +kernel
theorem d_LW_law_642 : decode b_LW_law 642 = .ok (.daload, 1) := by decide +kernel
theorem d_LW_law_643 : decode b_LW_law 643 = .ok (.dcmp .l, 1) := by decide +kernel
theorem d_LW_law_644 : decode b_LW_law 644 = .ok (.ifCond .eq 11, 3) := by decide +kernel
theorem d_LW_law_647 : decode b_LW_law 647 = .ok (.dload 7, 2) := by decide +kernel
theorem d_LW_law_649 : decode b_LW_law 649 = .ok (.dload 7, 2) := by decide +kernel
theorem d_LW_law_651 : decode b_LW_law 651 = .ok (.dcmp .l, 1) := by decide +kernel
theorem d_LW_law_652 : decode b_LW_law 652 = .ok (.ifCond .ne 5, 3) := by decide +kernel
theorem d_LW_law_655 : decode b_LW_law 655 = .ok (.iconst 0, 1) := by decide +kernel
theorem d_LW_law_656 : decode b_LW_law 656 = .ok (.ireturn, 1) := by decide +kernel
theorem d_LW_law_657 : decode b_LW_law 657 = .ok (.goto 275, 3) := by decide +kernel
theorem d_LW_law_660 : decode b_LW_law 660 = .ok (.aload_n 1, 1) := by decide +kernel
theorem d_LW_law_661 : decode b_LW_law 661 = .ok (.aload_n 0, 1) := by decide +kernel
theorem d_LW_law_662 : decode b_LW_law 662 = .ok (.iload 5, 2) := by decide +kernel
theorem d_LW_law_664 : decode b_LW_law 664 = .ok (.iconst 1, 1) := by decide +kernel
theorem d_LW_law_665 : decode b_LW_law 665 = .ok (.iadd, 1) := by decide +kernel
theorem d_LW_law_666 : decode b_LW_law 666 = .ok (.iaload, 1) := by decide +kernel
theorem d_LW_law_667 : decode b_LW_law 667 = .ok (.aload_n 0, 1) := by decide +kernel
theorem d_LW_law_668 : decode b_LW_law 668 = .ok (.iload 5, 2) := by decide +kernel
theorem d_LW_law_670 : decode b_LW_law 670 = .ok (.iconst 2, 1) := by decide +kernel
theorem d_LW_law_671 : decode b_LW_law 671 = .ok (.iadd, 1) := by decide +kernel
theorem d_LW_law_672 : decode b_LW_law 672 = .ok (.iaload, 1) := by decide +kernel
theorem d_LW_law_673 : decode b_LW_law 673 = .ok (.aload_n 3, 1) := by decide +kernel
theorem d_LW_law_674 : decode b_LW_law 674 = .ok (.invokestatic 108, 3) := by decide +kernel
theorem d_LW_law_677 : decode b_LW_law 677 = .ok (.istore 6, 2) := by decide +kernel
theorem d_LW_law_679 : decode b_LW_law 679 = .ok (.aload_n 2, 1) := by decide +kernel
theorem d_LW_law_680 : decode b_LW_law 680 = .ok (.aload_n 0, 1) := by decide +kernel
theorem d_LW_law_681 : decode b_LW_law 681 = .ok (.iload 5, 2) := by decide +kernel
theorem d_LW_law_683 : decode b_LW_law 683 = .ok (.iconst 1, 1) := by decide +kernel
theorem d_LW_law_684 : decode b_LW_law 684 = .ok (.iadd, 1) := by decide +kernel
theorem d_LW_law_685 : decode b_LW_law 685 = .ok (.iaload, 1) := by decide +kernel
theorem d_LW_law_686 : decode b_LW_law 686 = .ok (.aload_n 0, 1) := by decide +kernel
theorem d_LW_law_687 : decode b_LW_law 687 = .ok (.iload 5, 2) := by decide +kernel
theorem d_LW_law_689 : decode b_LW_law 689 = .ok (.iconst 2, 1) := by decide +kernel
theorem d_LW_law_690 : decode b_LW_law 690 = .ok (.iadd, 1) := by decide +kernel
theorem d_LW_law_691 : decode b_LW_law 691 = .ok (.iaload, 1) := by decide +kernel
theorem d_LW_law_692 : decode b_LW_law 692 = .ok (.invokevirtual 110, 3) := by decide +kernel
theorem d_LW_law_695 : decode b_LW_law 695 = .ok (.istore 7, 2) := by decide +kernel
theorem d_LW_law_697 : decode b_LW_law 697 = .ok (.aload_n 2, 1) := by decide +kernel
theorem d_LW_law_698 : decode b_LW_law 698 = .ok (.invokevirtual 72, 3) := by decide +kernel
theorem d_LW_law_701 : decode b_LW_law 701 = .ok (.iload 6, 2) := by decide +kernel
theorem d_LW_law_703 : decode b_LW_law 703 = .ok (.if_icmp .eq 5, 3) := by decide +kernel
theorem d_LW_law_706 : decode b_LW_law 706 = .ok (.iconst 0, 1) := by decide +kernel
theorem d_LW_law_707 : decode b_LW_law 707 = .ok (.ireturn, 1) := by decide +kernel
theorem d_LW_law_708 : decode b_LW_law 708 = .ok (.iload 6, 2) := by decide +kernel
theorem d_LW_law_710 : decode b_LW_law 710 = .ok (.ifCond .ne 15, 3) := by decide +kernel
theorem d_LW_law_713 : decode b_LW_law 713 = .ok (.aload_n 3, 1) := by decide +kernel
theorem d_LW_law_714 : decode b_LW_law 714 = .ok (.iconst 0, 1) := by decide +kernel
theorem d_LW_law_715 : decode b_LW_law 715 = .ok (.laload, 1) := by decide +kernel
theorem d_LW_law_716 : decode b_LW_law 716 = .ok (.iload 7, 2) := by decide +kernel
theorem d_LW_law_718 : decode b_LW_law 718 = .ok (.i2l, 1) := by decide +kernel
theorem d_LW_law_719 : decode b_LW_law 719 = .ok (.lcmp, 1) := by decide +kernel
theorem d_LW_law_720 : decode b_LW_law 720 = .ok (.ifCond .eq 5, 3) := by decide +kernel
theorem d_LW_law_723 : decode b_LW_law 723 = .ok (.iconst 0, 1) := by decide +kernel
theorem d_LW_law_724 : decode b_LW_law 724 = .ok (.ireturn, 1) := by decide +kernel
theorem d_LW_law_725 : decode b_LW_law 725 = .ok (.goto 207, 3) := by decide +kernel
theorem d_LW_law_728 : decode b_LW_law 728 = .ok (.aload_n 1, 1) := by decide +kernel
theorem d_LW_law_729 : decode b_LW_law 729 = .ok (.aload_n 0, 1) := by decide +kernel
theorem d_LW_law_730 : decode b_LW_law 730 = .ok (.iload 5, 2) := by decide +kernel
theorem d_LW_law_732 : decode b_LW_law 732 = .ok (.iconst 1, 1) := by decide +kernel
theorem d_LW_law_733 : decode b_LW_law 733 = .ok (.iadd, 1) := by decide +kernel
theorem d_LW_law_734 : decode b_LW_law 734 = .ok (.iaload, 1) := by decide +kernel
theorem d_LW_law_735 : decode b_LW_law 735 = .ok (.aload_n 0, 1) := by decide +kernel
theorem d_LW_law_736 : decode b_LW_law 736 = .ok (.iload 5, 2) := by decide +kernel
theorem d_LW_law_738 : decode b_LW_law 738 = .ok (.iconst 2, 1) := by decide +kernel
theorem d_LW_law_739 : decode b_LW_law 739 = .ok (.iadd, 1) := by decide +kernel
theorem d_LW_law_740 : decode b_LW_law 740 = .ok (.iaload, 1) := by decide +kernel
theorem d_LW_law_741 : decode b_LW_law 741 = .ok (.aload_n 0, 1) := by decide +kernel
theorem d_LW_law_742 : decode b_LW_law 742 = .ok (.iload 5, 2) := by decide +kernel
theorem d_LW_law_744 : decode b_LW_law 744 = .ok (.iconst 3, 1) := by decide +kernel
theorem d_LW_law_745 : decode b_LW_law 745 = .ok (.iadd, 1) := by decide +kernel
theorem d_LW_law_746 : decode b_LW_law 746 = .ok (.iaload, 1) := by decide +kernel
theorem d_LW_law_747 : decode b_LW_law 747 = .ok (.aload_n 3, 1) := by decide +kernel
theorem d_LW_law_748 : decode b_LW_law 748 = .ok (.invokestatic 111, 3) := by decide +kernel
theorem d_LW_law_751 : decode b_LW_law 751 = .ok (.istore 6, 2) := by decide +kernel
theorem d_LW_law_753 : decode b_LW_law 753 = .ok (.aload_n 2, 1) := by decide +kernel
theorem d_LW_law_754 : decode b_LW_law 754 = .ok (.aload_n 0, 1) := by decide +kernel
theorem d_LW_law_755 : decode b_LW_law 755 = .ok (.iload 5, 2) := by decide +kernel
theorem d_LW_law_757 : decode b_LW_law 757 = .ok (.iconst 1, 1) := by decide +kernel
theorem d_LW_law_758 : decode b_LW_law 758 = .ok (.iadd, 1) := by decide +kernel
theorem d_LW_law_759 : decode b_LW_law 759 = .ok (.iaload, 1) := by decide +kernel
theorem d_LW_law_760 : decode b_LW_law 760 = .ok (.aload_n 0, 1) := by decide +kernel
theorem d_LW_law_761 : decode b_LW_law 761 = .ok (.iload 5, 2) := by decide +kernel
theorem d_LW_law_763 : decode b_LW_law 763 = .ok (.iconst 2, 1) := by decide +kernel
theorem d_LW_law_764 : decode b_LW_law 764 = .ok (.iadd, 1) := by decide +kernel
theorem d_LW_law_765 : decode b_LW_law 765 = .ok (.iaload, 1) := by decide +kernel
theorem d_LW_law_766 : decode b_LW_law 766 = .ok (.aload_n 0, 1) := by decide +kernel
theorem d_LW_law_767 : decode b_LW_law 767 = .ok (.iload 5, 2) := by decide +kernel
theorem d_LW_law_769 : decode b_LW_law 769 = .ok (.iconst 3, 1) := by decide +kernel
theorem d_LW_law_770 : decode b_LW_law 770 = .ok (.iadd, 1) := by decide +kernel
theorem d_LW_law_771 : decode b_LW_law 771 = .ok (.iaload, 1) := by decide +kernel
theorem d_LW_law_772 : decode b_LW_law 772 = .ok (.invokevirtual 114, 3) := by decide +kernel
theorem d_LW_law_775 : decode b_LW_law 775 = .ok (.istore 7, 2) := by decide +kernel
theorem d_LW_law_777 : decode b_LW_law 777 = .ok (.aload_n 2, 1) := by decide +kernel
theorem d_LW_law_778 : decode b_LW_law 778 = .ok (.invokevirtual 72, 3) := by decide +kernel
theorem d_LW_law_781 : decode b_LW_law 781 = .ok (.iload 6, 2) := by decide +kernel
theorem d_LW_law_783 : decode b_LW_law 783 = .ok (.if_icmp .eq 5, 3) := by decide +kernel
theorem d_LW_law_786 : decode b_LW_law 786 = .ok (.iconst 0, 1) := by decide +kernel
theorem d_LW_law_787 : decode b_LW_law 787 = .ok (.ireturn, 1) := by decide +kernel
theorem d_LW_law_788 : decode b_LW_law 788 = .ok (.iload 6, 2) := by decide +kernel
theorem d_LW_law_790 : decode b_LW_law 790 = .ok (.ifCond .ne 15, 3) := by decide +kernel
theorem d_LW_law_793 : decode b_LW_law 793 = .ok (.aload_n 3, 1) := by decide +kernel
theorem d_LW_law_794 : decode b_LW_law 794 = .ok (.iconst 0, 1) := by decide +kernel
theorem d_LW_law_795 : decode b_LW_law 795 = .ok (.laload, 1) := by decide +kernel
theorem d_LW_law_796 : decode b_LW_law 796 = .ok (.iload 7, 2) := by decide +kernel
theorem d_LW_law_798 : decode b_LW_law 798 = .ok (.i2l, 1) := by decide +kernel
theorem d_LW_law_799 : decode b_LW_law 799 = .ok (.lcmp, 1) := by decide +kernel
theorem d_LW_law_800 : decode b_LW_law 800 = .ok (.ifCond .eq 5, 3) := by decide +kernel
theorem d_LW_law_803 : decode b_LW_law 803 = .ok (.iconst 0, 1) := by decide +kernel
theorem d_LW_law_804 : decode b_LW_law 804 = .ok (.ireturn, 1) := by decide +kernel
theorem d_LW_law_805 : decode b_LW_law 805 = .ok (.goto 127, 3) := by decide +kernel
theorem d_LW_law_808 : decode b_LW_law 808 = .ok (.aload_n 1, 1) := by decide +kernel
theorem d_LW_law_809 : decode b_LW_law 809 = .ok (.aload_n 0, 1) := by decide +kernel
theorem d_LW_law_810 : decode b_LW_law 810 = .ok (.iload 5, 2) := by decide +kernel
theorem d_LW_law_812 : decode b_LW_law 812 = .ok (.iconst 1, 1) := by decide +kernel
theorem d_LW_law_813 : decode b_LW_law 813 = .ok (.iadd, 1) := by decide +kernel
theorem d_LW_law_814 : decode b_LW_law 814 = .ok (.iaload, 1) := by decide +kernel
theorem d_LW_law_815 : decode b_LW_law 815 = .ok (.aload_n 0, 1) := by decide +kernel
theorem d_LW_law_816 : decode b_LW_law 816 = .ok (.iload 5, 2) := by decide +kernel
theorem d_LW_law_818 : decode b_LW_law 818 = .ok (.iconst 2, 1) := by decide +kernel
theorem d_LW_law_819 : decode b_LW_law 819 = .ok (.iadd, 1) := by decide +kernel
theorem d_LW_law_820 : decode b_LW_law 820 = .ok (.iaload, 1) := by decide +kernel
theorem d_LW_law_821 : decode b_LW_law 821 = .ok (.aload_n 0, 1) := by decide +kernel
theorem d_LW_law_822 : decode b_LW_law 822 = .ok (.iload 5, 2) := by decide +kernel
theorem d_LW_law_824 : decode b_LW_law 824 = .ok (.iconst 3, 1) := by decide +kernel
theorem d_LW_law_825 : decode b_LW_law 825 = .ok (.iadd, 1) := by decide +kernel
theorem d_LW_law_826 : decode b_LW_law 826 = .ok (.iaload, 1) := by decide +kernel
theorem d_LW_law_827 : decode b_LW_law 827 = .ok (.aload_n 0, 1) := by decide +kernel
theorem d_LW_law_828 : decode b_LW_law 828 = .ok (.iload 5, 2) := by decide +kernel
theorem d_LW_law_830 : decode b_LW_law 830 = .ok (.iconst 4, 1) := by decide +kernel
theorem d_LW_law_831 : decode b_LW_law 831 = .ok (.iadd, 1) := by decide +kernel
theorem d_LW_law_832 : decode b_LW_law 832 = .ok (.iaload, 1) := by decide +kernel
theorem d_LW_law_833 : decode b_LW_law 833 = .ok (.aload_n 3, 1) := by decide +kernel
theorem d_LW_law_834 : decode b_LW_law 834 = .ok (.invokestatic 115, 3) := by decide +kernel
theorem d_LW_law_837 : decode b_LW_law 837 = .ok (.istore 6, 2) := by decide +kernel
theorem d_LW_law_839 : decode b_LW_law 839 = .ok (.aload_n 2, 1) := by decide +kernel
theorem d_LW_law_840 : decode b_LW_law 840 = .ok (.aload_n 0, 1) := by decide +kernel
theorem d_LW_law_841 : decode b_LW_law 841 = .ok (.iload 5, 2) := by decide +kernel
theorem d_LW_law_843 : decode b_LW_law 843 = .ok (.iconst 1, 1) := by decide +kernel
theorem d_LW_law_844 : decode b_LW_law 844 = .ok (.iadd, 1) := by decide +kernel
theorem d_LW_law_845 : decode b_LW_law 845 = .ok (.iaload, 1) := by decide +kernel
theorem d_LW_law_846 : decode b_LW_law 846 = .ok (.aload_n 0, 1) := by decide +kernel
theorem d_LW_law_847 : decode b_LW_law 847 = .ok (.iload 5, 2) := by decide +kernel
theorem d_LW_law_849 : decode b_LW_law 849 = .ok (.iconst 2, 1) := by decide +kernel
theorem d_LW_law_850 : decode b_LW_law 850 = .ok (.iadd, 1) := by decide +kernel
theorem d_LW_law_851 : decode b_LW_law 851 = .ok (.iaload, 1) := by decide +kernel
theorem d_LW_law_852 : decode b_LW_law 852 = .ok (.aload_n 0, 1) := by decide +kernel
theorem d_LW_law_853 : decode b_LW_law 853 = .ok (.iload 5, 2) := by decide +kernel
theorem d_LW_law_855 : decode b_LW_law 855 = .ok (.iconst 3, 1) := by decide +kernel
theorem d_LW_law_856 : decode b_LW_law 856 = .ok (.iadd, 1) := by decide +kernel
theorem d_LW_law_857 : decode b_LW_law 857 = .ok (.iaload, 1) := by decide +kernel
theorem d_LW_law_858 : decode b_LW_law 858 = .ok (.aload_n 0, 1) := by decide +kernel
theorem d_LW_law_859 : decode b_LW_law 859 = .ok (.iload 5, 2) := by decide +kernel
theorem d_LW_law_861 : decode b_LW_law 861 = .ok (.iconst 4, 1) := by decide +kernel
theorem d_LW_law_862 : decode b_LW_law 862 = .ok (.iadd, 1) := by decide +kernel
theorem d_LW_law_863 : decode b_LW_law 863 = .ok (.iaload, 1) := by decide +kernel
theorem d_LW_law_864 : decode b_LW_law 864 = .ok (.invokevirtual 117, 3) := by decide +kernel
theorem d_LW_law_867 : decode b_LW_law 867 = .ok (.istore 7, 2) := by decide +kernel
theorem d_LW_law_869 : decode b_LW_law 869 = .ok (.aload_n 2, 1) := by decide +kernel
theorem d_LW_law_870 : decode b_LW_law 870 = .ok (.invokevirtual 72, 3) := by decide +kernel
theorem d_LW_law_873 : decode b_LW_law 873 = .ok (.iload 6, 2) := by decide +kernel
theorem d_LW_law_875 : decode b_LW_law 875 = .ok (.if_icmp .eq 5, 3) := by decide +kernel
theorem d_LW_law_878 : decode b_LW_law 878 = .ok (.iconst 0, 1) := by decide +kernel
theorem d_LW_law_879 : decode b_LW_law 879 = .ok (.ireturn, 1) := by decide +kernel
theorem d_LW_law_880 : decode b_LW_law 880 = .ok (.iload 6, 2) := by decide +kernel
theorem d_LW_law_882 : decode b_LW_law 882 = .ok (.ifCond .ne 22, 3) := by decide +kernel
theorem d_LW_law_885 : decode b_LW_law 885 = .ok (.aload_n 3, 1) := by decide +kernel
theorem d_LW_law_886 : decode b_LW_law 886 = .ok (.iconst 0, 1) := by decide +kernel
theorem d_LW_law_887 : decode b_LW_law 887 = .ok (.laload, 1) := by decide +kernel
theorem d_LW_law_888 : decode b_LW_law 888 = .ok (.iload 7, 2) := by decide +kernel
theorem d_LW_law_890 : decode b_LW_law 890 = .ok (.ifCond .eq 7, 3) := by decide +kernel
theorem d_LW_law_893 : decode b_LW_law 893 = .ok (.lconst 1, 1) := by decide +kernel
theorem d_LW_law_894 : decode b_LW_law 894 = .ok (.goto 4, 3) := by decide +kernel
theorem d_LW_law_897 : decode b_LW_law 897 = .ok (.lconst 0, 1) := by decide +kernel
theorem d_LW_law_898 : decode b_LW_law 898 = .ok (.lcmp, 1) := by decide +kernel
theorem d_LW_law_899 : decode b_LW_law 899 = .ok (.ifCond .eq 5, 3) := by decide +kernel
theorem d_LW_law_902 : decode b_LW_law 902 = .ok (.iconst 0, 1) := by decide +kernel
theorem d_LW_law_903 : decode b_LW_law 903 = .ok (.ireturn, 1) := by decide +kernel
theorem d_LW_law_904 : decode b_LW_law 904 = .ok (.goto 28, 3) := by decide +kernel
theorem d_LW_law_907 : decode b_LW_law 907 = .ok (.aload_n 1, 1) := by decide +kernel
theorem d_LW_law_908 : decode b_LW_law 908 = .ok (.aload_n 0, 1) := by decide +kernel
theorem d_LW_law_909 : decode b_LW_law 909 = .ok (.iload 5, 2) := by decide +kernel
theorem d_LW_law_911 : decode b_LW_law 911 = .ok (.iconst 1, 1) := by decide +kernel
theorem d_LW_law_912 : decode b_LW_law 912 = .ok (.iadd, 1) := by decide +kernel
theorem d_LW_law_913 : decode b_LW_law 913 = .ok (.iaload, 1) := by decide +kernel
theorem d_LW_law_914 : decode b_LW_law 914 = .ok (.invokevirtual 118, 3) := by decide +kernel
theorem d_LW_law_917 : decode b_LW_law 917 = .ok (.aload_n 2, 1) := by decide +kernel
theorem d_LW_law_918 : decode b_LW_law 918 = .ok (.aload_n 0, 1) := by decide +kernel
theorem d_LW_law_919 : decode b_LW_law 919 = .ok (.iload 5, 2) := by decide +kernel
theorem d_LW_law_921 : decode b_LW_law 921 = .ok (.iconst 1, 1) := by decide +kernel
theorem d_LW_law_922 : decode b_LW_law 922 = .ok (.iadd, 1) := by decide +kernel
theorem d_LW_law_923 : decode b_LW_law 923 = .ok (.iaload, 1) := by decide +kernel
theorem d_LW_law_924 : decode b_LW_law 924 = .ok (.invokevirtual 121, 3) := by decide +kernel
theorem d_LW_law_927 : decode b_LW_law 927 = .ok (.if_icmp .eq 5, 3) := by decide +kernel
theorem d_LW_law_930 : decode b_LW_law 930 = .ok (.iconst 0, 1) := by decide +kernel
theorem d_LW_law_931 : decode b_LW_law 931 = .ok (.ireturn, 1) := by decide +kernel
theorem d_LW_law_932 : decode b_LW_law 932 = .ok (.iinc 5 5, 3) := by decide +kernel
theorem d_LW_law_935 : decode b_LW_law 935 = .ok (.goto (-907), 3) := by decide +kernel
theorem d_LW_law_938 : decode b_LW_law 938 = .ok (.iconst 1, 1) := by decide +kernel
theorem d_LW_law_939 : decode b_LW_law 939 = .ok (.ireturn, 1) := by decide +kernel
theorem tw_87 : lw_tbl[87]? = some (Jvm.Cond.initialized "FormulaSheetLaw") := by decide +kernel
theorem tw_125 : lw_tbl[125]? = some (Jvm.Cond.classLink "FormulaSheetLaw" (8 : Nat) "FormulaSheet") := by decide +kernel
theorem tw_126 : lw_tbl[126]? = some (Jvm.Cond.instantiable "FormulaSheet" (4 : Nat)) := by decide +kernel
theorem tw_127 : lw_tbl[127]? = some (Jvm.Cond.methodLink "FormulaSheetLaw" (62 : Nat) ({ cls := "FormulaSheet", name := "<init>", desc := "()V" } : Jvm.MethodName)) := by decide +kernel
theorem tw_128 : lw_tbl[128]? = some (Jvm.Cond.instanceMethod ({ cls := "FormulaSheet", name := "<init>", desc := "()V" } : Jvm.MethodName)) := by decide +kernel
theorem tw_129 : lw_tbl[129]? = some (Jvm.Cond.code ({ cls := "FormulaSheet", name := "<init>", desc := "()V" } : Jvm.MethodName) prog_1_method_1_code (1 : Nat) (Option.none : Option Jvm.ClassFile.FieldType)) := by decide +kernel
theorem tw_257 : lw_tbl[257]? = some (Jvm.Cond.methodLink "FormulaSheetLaw" (80 : Nat) ({ cls := "FormulaSheet", name := "errorAt", desc := "()I" } : Jvm.MethodName)) := by decide +kernel
theorem tw_258 : lw_tbl[258]? = some (Jvm.Cond.instanceMethod ({ cls := "FormulaSheet", name := "errorAt", desc := "()I" } : Jvm.MethodName)) := by decide +kernel
theorem tw_259 : lw_tbl[259]? = some (Jvm.Cond.selects "FormulaSheet" ({ cls := "FormulaSheet", name := "errorAt", desc := "()I" } : Jvm.MethodName) ({ cls := "FormulaSheet", name := "errorAt", desc := "()I" } : Jvm.MethodName)) := by decide +kernel
theorem tw_260 : lw_tbl[260]? = some (Jvm.Cond.code ({ cls := "FormulaSheet", name := "errorAt", desc := "()I" } : Jvm.MethodName) prog_1_method_4_code (1 : Nat) (Option.some Jvm.ClassFile.FieldType.int)) := by decide +kernel
theorem tw_261 : lw_tbl[261]? = some (Jvm.Cond.methodLink "FormulaSheetLaw" (118 : Nat) ({ cls := "FormulaSheet", name := "count", desc := "(I)I" } : Jvm.MethodName)) := by decide +kernel
theorem tw_262 : lw_tbl[262]? = some (Jvm.Cond.instanceMethod ({ cls := "FormulaSheet", name := "count", desc := "(I)I" } : Jvm.MethodName)) := by decide +kernel
theorem tw_263 : lw_tbl[263]? = some (Jvm.Cond.selects "FormulaSheet" ({ cls := "FormulaSheet", name := "count", desc := "(I)I" } : Jvm.MethodName) ({ cls := "FormulaSheet", name := "count", desc := "(I)I" } : Jvm.MethodName)) := by decide +kernel
theorem tw_264 : lw_tbl[264]? = some (Jvm.Cond.code ({ cls := "FormulaSheet", name := "count", desc := "(I)I" } : Jvm.MethodName) prog_1_method_14_code (2 : Nat) (Option.some Jvm.ClassFile.FieldType.int)) := by decide +kernel
theorem tw_483 : lw_tbl[483]? = some (Jvm.Cond.methodLink "FormulaSheetLaw" (66 : Nat) ({ cls := "FormulaSheetLaw", name := "type", desc := "(LFormulaSheet;I[J)I" } : Jvm.MethodName)) := by decide +kernel
theorem tw_484 : lw_tbl[484]? = some (Jvm.Cond.static ({ cls := "FormulaSheetLaw", name := "type", desc := "(LFormulaSheet;I[J)I" } : Jvm.MethodName)) := by decide +kernel
theorem tw_485 : lw_tbl[485]? = some (Jvm.Cond.codeWith ({ cls := "FormulaSheetLaw", name := "type", desc := "(LFormulaSheet;I[J)I" } : Jvm.MethodName) method_3_code (4 : Nat) (Option.some Jvm.ClassFile.FieldType.int) [((0 : Nat), (9 : Nat), (12 : Nat), (13 : Nat)), ((0 : Nat), (9 : Nat), (15 : Nat), (15 : Nat))]) := by decide +kernel
theorem tw_580 : lw_tbl[580]? = some (Jvm.Cond.methodLink "FormulaSheetLaw" (76 : Nat) ({ cls := "FormulaSheetLaw", name := "enter", desc := "(LFormulaSheet;II[J)I" } : Jvm.MethodName)) := by decide +kernel
theorem tw_581 : lw_tbl[581]? = some (Jvm.Cond.static ({ cls := "FormulaSheetLaw", name := "enter", desc := "(LFormulaSheet;II[J)I" } : Jvm.MethodName)) := by decide +kernel
theorem tw_582 : lw_tbl[582]? = some (Jvm.Cond.codeWith ({ cls := "FormulaSheetLaw", name := "enter", desc := "(LFormulaSheet;II[J)I" } : Jvm.MethodName) method_4_code (5 : Nat) (Option.some Jvm.ClassFile.FieldType.int) [((0 : Nat), (10 : Nat), (13 : Nat), (21 : Nat)), ((0 : Nat), (10 : Nat), (17 : Nat), (13 : Nat))]) := by decide +kernel
theorem tw_869 : lw_tbl[869]? = some (Jvm.Cond.methodLink "FormulaSheetLaw" (86 : Nat) ({ cls := "FormulaSheetLaw", name := "put", desc := "(LFormulaSheet;IID)I" } : Jvm.MethodName)) := by decide +kernel
theorem tw_870 : lw_tbl[870]? = some (Jvm.Cond.static ({ cls := "FormulaSheetLaw", name := "put", desc := "(LFormulaSheet;IID)I" } : Jvm.MethodName)) := by decide +kernel
theorem tw_871 : lw_tbl[871]? = some (Jvm.Cond.codeWith ({ cls := "FormulaSheetLaw", name := "put", desc := "(LFormulaSheet;IID)I" } : Jvm.MethodName) method_5_code (6 : Nat) (Option.some Jvm.ClassFile.FieldType.int) [((0 : Nat), (7 : Nat), (10 : Nat), (21 : Nat)), ((0 : Nat), (7 : Nat), (14 : Nat), (13 : Nat))]) := by decide +kernel
theorem tw_880 : lw_tbl[880]? = some (Jvm.Cond.methodLink "FormulaSheetLaw" (90 : Nat) ({ cls := "FormulaSheetLaw", name := "erase", desc := "(LFormulaSheet;II)I" } : Jvm.MethodName)) := by decide +kernel
theorem tw_881 : lw_tbl[881]? = some (Jvm.Cond.static ({ cls := "FormulaSheetLaw", name := "erase", desc := "(LFormulaSheet;II)I" } : Jvm.MethodName)) := by decide +kernel
theorem tw_882 : lw_tbl[882]? = some (Jvm.Cond.codeWith ({ cls := "FormulaSheetLaw", name := "erase", desc := "(LFormulaSheet;II)I" } : Jvm.MethodName) method_6_code (4 : Nat) (Option.some Jvm.ClassFile.FieldType.int) [((0 : Nat), (6 : Nat), (9 : Nat), (21 : Nat)), ((0 : Nat), (6 : Nat), (12 : Nat), (31 : Nat))]) := by decide +kernel
theorem tw_911 : lw_tbl[911]? = some (Jvm.Cond.methodLink "FormulaSheetLaw" (94 : Nat) ({ cls := "FormulaSheetLaw", name := "copy", desc := "(LFormulaSheet;IIII[J)I" } : Jvm.MethodName)) := by decide +kernel
theorem tw_912 : lw_tbl[912]? = some (Jvm.Cond.static ({ cls := "FormulaSheetLaw", name := "copy", desc := "(LFormulaSheet;IIII[J)I" } : Jvm.MethodName)) := by decide +kernel
theorem tw_913 : lw_tbl[913]? = some (Jvm.Cond.codeWith ({ cls := "FormulaSheetLaw", name := "copy", desc := "(LFormulaSheet;IIII[J)I" } : Jvm.MethodName) method_7_code (7 : Nat) (Option.some Jvm.ClassFile.FieldType.int) [((0 : Nat), (14 : Nat), (17 : Nat), (21 : Nat)), ((0 : Nat), (14 : Nat), (21 : Nat), (31 : Nat))]) := by decide +kernel
theorem tw_967 : lw_tbl[967]? = some (Jvm.Cond.methodLink "FormulaSheetLaw" (98 : Nat) ({ cls := "FormulaSheetLaw", name := "insert", desc := "(LFormulaSheet;I[J)I" } : Jvm.MethodName)) := by decide +kernel
theorem tw_968 : lw_tbl[968]? = some (Jvm.Cond.static ({ cls := "FormulaSheetLaw", name := "insert", desc := "(LFormulaSheet;I[J)I" } : Jvm.MethodName)) := by decide +kernel
theorem tw_969 : lw_tbl[969]? = some (Jvm.Cond.codeWith ({ cls := "FormulaSheetLaw", name := "insert", desc := "(LFormulaSheet;I[J)I" } : Jvm.MethodName) method_8_code (4 : Nat) (Option.some Jvm.ClassFile.FieldType.int) [((0 : Nat), (9 : Nat), (12 : Nat), (21 : Nat))]) := by decide +kernel
theorem tw_1008 : lw_tbl[1008]? = some (Jvm.Cond.methodLink "FormulaSheetLaw" (101 : Nat) ({ cls := "FormulaSheetLaw", name := "delete", desc := "(LFormulaSheet;I[J)I" } : Jvm.MethodName)) := by decide +kernel
theorem tw_1009 : lw_tbl[1009]? = some (Jvm.Cond.static ({ cls := "FormulaSheetLaw", name := "delete", desc := "(LFormulaSheet;I[J)I" } : Jvm.MethodName)) := by decide +kernel
theorem tw_1010 : lw_tbl[1010]? = some (Jvm.Cond.codeWith ({ cls := "FormulaSheetLaw", name := "delete", desc := "(LFormulaSheet;I[J)I" } : Jvm.MethodName) method_9_code (4 : Nat) (Option.some Jvm.ClassFile.FieldType.int) [((0 : Nat), (9 : Nat), (12 : Nat), (21 : Nat))]) := by decide +kernel
theorem tw_1036 : lw_tbl[1036]? = some (Jvm.Cond.methodLink "FormulaSheetLaw" (104 : Nat) ({ cls := "FormulaSheetLaw", name := "value", desc := "(LFormulaSheet;II[D)I" } : Jvm.MethodName)) := by decide +kernel
theorem tw_1037 : lw_tbl[1037]? = some (Jvm.Cond.static ({ cls := "FormulaSheetLaw", name := "value", desc := "(LFormulaSheet;II[D)I" } : Jvm.MethodName)) := by decide +kernel
theorem tw_1038 : lw_tbl[1038]? = some (Jvm.Cond.codeWith ({ cls := "FormulaSheetLaw", name := "value", desc := "(LFormulaSheet;II[D)I" } : Jvm.MethodName) method_10_code (5 : Nat) (Option.some Jvm.ClassFile.FieldType.int) [((0 : Nat), (9 : Nat), (12 : Nat), (21 : Nat)), ((0 : Nat), (9 : Nat), (16 : Nat), (31 : Nat)), ((0 : Nat), (9 : Nat), (20 : Nat), (15 : Nat)), ((0 : Nat), (9 : Nat), (24 : Nat), (47 : Nat))]) := by decide +kernel
theorem tw_1061 : lw_tbl[1061]? = some (Jvm.Cond.methodLink "FormulaSheetLaw" (108 : Nat) ({ cls := "FormulaSheetLaw", name := "kind", desc := "(LFormulaSheet;II[J)I" } : Jvm.MethodName)) := by decide +kernel
theorem tw_1062 : lw_tbl[1062]? = some (Jvm.Cond.static ({ cls := "FormulaSheetLaw", name := "kind", desc := "(LFormulaSheet;II[J)I" } : Jvm.MethodName)) := by decide +kernel
theorem tw_1063 : lw_tbl[1063]? = some (Jvm.Cond.codeWith ({ cls := "FormulaSheetLaw", name := "kind", desc := "(LFormulaSheet;II[J)I" } : Jvm.MethodName) method_11_code (5 : Nat) (Option.some Jvm.ClassFile.FieldType.int) [((0 : Nat), (10 : Nat), (13 : Nat), (21 : Nat))]) := by decide +kernel
theorem tw_1068 : lw_tbl[1068]? = some (Jvm.Cond.methodLink "FormulaSheetLaw" (111 : Nat) ({ cls := "FormulaSheetLaw", name := "text", desc := "(LFormulaSheet;III[J)I" } : Jvm.MethodName)) := by decide +kernel
theorem tw_1069 : lw_tbl[1069]? = some (Jvm.Cond.static ({ cls := "FormulaSheetLaw", name := "text", desc := "(LFormulaSheet;III[J)I" } : Jvm.MethodName)) := by decide +kernel
theorem tw_1070 : lw_tbl[1070]? = some (Jvm.Cond.codeWith ({ cls := "FormulaSheetLaw", name := "text", desc := "(LFormulaSheet;III[J)I" } : Jvm.MethodName) method_12_code (6 : Nat) (Option.some Jvm.ClassFile.FieldType.int) [((0 : Nat), (12 : Nat), (15 : Nat), (21 : Nat)), ((0 : Nat), (12 : Nat), (19 : Nat), (56 : Nat))]) := by decide +kernel
theorem tw_1442 : lw_tbl[1442]? = some (Jvm.Cond.methodLink "FormulaSheetLaw" (115 : Nat) ({ cls := "FormulaSheetLaw", name := "reaches", desc := "(LFormulaSheet;IIII[J)I" } : Jvm.MethodName)) := by decide +kernel
theorem tw_1443 : lw_tbl[1443]? = some (Jvm.Cond.static ({ cls := "FormulaSheetLaw", name := "reaches", desc := "(LFormulaSheet;IIII[J)I" } : Jvm.MethodName)) := by decide +kernel
theorem tw_1444 : lw_tbl[1444]? = some (Jvm.Cond.codeWith ({ cls := "FormulaSheetLaw", name := "reaches", desc := "(LFormulaSheet;IIII[J)I" } : Jvm.MethodName) method_13_code (7 : Nat) (Option.some Jvm.ClassFile.FieldType.int) [((0 : Nat), (21 : Nat), (24 : Nat), (21 : Nat))]) := by decide +kernel
theorem tw_1450 : lw_tbl[1450]? = some (Jvm.Cond.classLink "FormulaSheetLaw" (63 : Nat) "FormulaSheetModel") := by decide +kernel
theorem tw_1451 : lw_tbl[1451]? = some (Jvm.Cond.instantiable "FormulaSheetModel" (36 : Nat)) := by decide +kernel
theorem tw_1452 : lw_tbl[1452]? = some (Jvm.Cond.methodLink "FormulaSheetLaw" (65 : Nat) ({ cls := "FormulaSheetModel", name := "<init>", desc := "()V" } : Jvm.MethodName)) := by decide +kernel
theorem tw_1453 : lw_tbl[1453]? = some (Jvm.Cond.instanceMethod ({ cls := "FormulaSheetModel", name := "<init>", desc := "()V" } : Jvm.MethodName)) := by decide +kernel
theorem tw_1454 : lw_tbl[1454]? = some (Jvm.Cond.code ({ cls := "FormulaSheetModel", name := "<init>", desc := "()V" } : Jvm.MethodName) prog_14_method_1_code (1 : Nat) (Option.none : Option Jvm.ClassFile.FieldType)) := by decide +kernel
theorem tw_1566 : lw_tbl[1566]? = some (Jvm.Cond.methodLink "FormulaSheetLaw" (72 : Nat) ({ cls := "FormulaSheetModel", name := "thrown", desc := "()I" } : Jvm.MethodName)) := by decide +kernel
theorem tw_1567 : lw_tbl[1567]? = some (Jvm.Cond.instanceMethod ({ cls := "FormulaSheetModel", name := "thrown", desc := "()I" } : Jvm.MethodName)) := by decide +kernel
theorem tw_1568 : lw_tbl[1568]? = some (Jvm.Cond.selects "FormulaSheetModel" ({ cls := "FormulaSheetModel", name := "thrown", desc := "()I" } : Jvm.MethodName) ({ cls := "FormulaSheetModel", name := "thrown", desc := "()I" } : Jvm.MethodName)) := by decide +kernel
theorem tw_1569 : lw_tbl[1569]? = some (Jvm.Cond.code ({ cls := "FormulaSheetModel", name := "thrown", desc := "()I" } : Jvm.MethodName) prog_14_method_2_code (1 : Nat) (Option.some Jvm.ClassFile.FieldType.int)) := by decide +kernel
theorem tw_1570 : lw_tbl[1570]? = some (Jvm.Cond.methodLink "FormulaSheetLaw" (71 : Nat) ({ cls := "FormulaSheetModel", name := "type", desc := "(I)I" } : Jvm.MethodName)) := by decide +kernel
theorem tw_1571 : lw_tbl[1571]? = some (Jvm.Cond.instanceMethod ({ cls := "FormulaSheetModel", name := "type", desc := "(I)I" } : Jvm.MethodName)) := by decide +kernel
theorem tw_1572 : lw_tbl[1572]? = some (Jvm.Cond.selects "FormulaSheetModel" ({ cls := "FormulaSheetModel", name := "type", desc := "(I)I" } : Jvm.MethodName) ({ cls := "FormulaSheetModel", name := "type", desc := "(I)I" } : Jvm.MethodName)) := by decide +kernel
theorem tw_1573 : lw_tbl[1573]? = some (Jvm.Cond.code ({ cls := "FormulaSheetModel", name := "type", desc := "(I)I" } : Jvm.MethodName) prog_14_method_5_code (2 : Nat) (Option.some Jvm.ClassFile.FieldType.int)) := by decide +kernel
theorem tw_1578 : lw_tbl[1578]? = some (Jvm.Cond.methodLink "FormulaSheetLaw" (79 : Nat) ({ cls := "FormulaSheetModel", name := "enter", desc := "(II)I" } : Jvm.MethodName)) := by decide +kernel
theorem tw_1579 : lw_tbl[1579]? = some (Jvm.Cond.instanceMethod ({ cls := "FormulaSheetModel", name := "enter", desc := "(II)I" } : Jvm.MethodName)) := by decide +kernel
theorem tw_1580 : lw_tbl[1580]? = some (Jvm.Cond.selects "FormulaSheetModel" ({ cls := "FormulaSheetModel", name := "enter", desc := "(II)I" } : Jvm.MethodName) ({ cls := "FormulaSheetModel", name := "enter", desc := "(II)I" } : Jvm.MethodName)) := by decide +kernel
theorem tw_1581 : lw_tbl[1581]? = some (Jvm.Cond.code ({ cls := "FormulaSheetModel", name := "enter", desc := "(II)I" } : Jvm.MethodName) prog_14_method_24_code (7 : Nat) (Option.some Jvm.ClassFile.FieldType.int)) := by decide +kernel
theorem tw_1739 : lw_tbl[1739]? = some (Jvm.Cond.methodLink "FormulaSheetLaw" (83 : Nat) ({ cls := "FormulaSheetModel", name := "errorAt", desc := "()I" } : Jvm.MethodName)) := by decide +kernel
theorem tw_1740 : lw_tbl[1740]? = some (Jvm.Cond.instanceMethod ({ cls := "FormulaSheetModel", name := "errorAt", desc := "()I" } : Jvm.MethodName)) := by decide +kernel
theorem tw_1741 : lw_tbl[1741]? = some (Jvm.Cond.selects "FormulaSheetModel" ({ cls := "FormulaSheetModel", name := "errorAt", desc := "()I" } : Jvm.MethodName) ({ cls := "FormulaSheetModel", name := "errorAt", desc := "()I" } : Jvm.MethodName)) := by decide +kernel
theorem tw_1742 : lw_tbl[1742]? = some (Jvm.Cond.code ({ cls := "FormulaSheetModel", name := "errorAt", desc := "()I" } : Jvm.MethodName) prog_14_method_25_code (1 : Nat) (Option.some Jvm.ClassFile.FieldType.int)) := by decide +kernel
theorem tw_1743 : lw_tbl[1743]? = some (Jvm.Cond.methodLink "FormulaSheetLaw" (89 : Nat) ({ cls := "FormulaSheetModel", name := "put", desc := "(IID)V" } : Jvm.MethodName)) := by decide +kernel
theorem tw_1744 : lw_tbl[1744]? = some (Jvm.Cond.instanceMethod ({ cls := "FormulaSheetModel", name := "put", desc := "(IID)V" } : Jvm.MethodName)) := by decide +kernel
theorem tw_1745 : lw_tbl[1745]? = some (Jvm.Cond.selects "FormulaSheetModel" ({ cls := "FormulaSheetModel", name := "put", desc := "(IID)V" } : Jvm.MethodName) ({ cls := "FormulaSheetModel", name := "put", desc := "(IID)V" } : Jvm.MethodName)) := by decide +kernel
theorem tw_1746 : lw_tbl[1746]? = some (Jvm.Cond.code ({ cls := "FormulaSheetModel", name := "put", desc := "(IID)V" } : Jvm.MethodName) prog_14_method_47_code (5 : Nat) (Option.none : Option Jvm.ClassFile.FieldType)) := by decide +kernel
theorem tw_1747 : lw_tbl[1747]? = some (Jvm.Cond.methodLink "FormulaSheetLaw" (93 : Nat) ({ cls := "FormulaSheetModel", name := "erase", desc := "(II)V" } : Jvm.MethodName)) := by decide +kernel
theorem tw_1748 : lw_tbl[1748]? = some (Jvm.Cond.instanceMethod ({ cls := "FormulaSheetModel", name := "erase", desc := "(II)V" } : Jvm.MethodName)) := by decide +kernel
theorem tw_1749 : lw_tbl[1749]? = some (Jvm.Cond.selects "FormulaSheetModel" ({ cls := "FormulaSheetModel", name := "erase", desc := "(II)V" } : Jvm.MethodName) ({ cls := "FormulaSheetModel", name := "erase", desc := "(II)V" } : Jvm.MethodName)) := by decide +kernel
theorem tw_1750 : lw_tbl[1750]? = some (Jvm.Cond.code ({ cls := "FormulaSheetModel", name := "erase", desc := "(II)V" } : Jvm.MethodName) prog_14_method_48_code (3 : Nat) (Option.none : Option Jvm.ClassFile.FieldType)) := by decide +kernel
theorem tw_1751 : lw_tbl[1751]? = some (Jvm.Cond.methodLink "FormulaSheetLaw" (97 : Nat) ({ cls := "FormulaSheetModel", name := "copy", desc := "(IIII)I" } : Jvm.MethodName)) := by decide +kernel
theorem tw_1752 : lw_tbl[1752]? = some (Jvm.Cond.instanceMethod ({ cls := "FormulaSheetModel", name := "copy", desc := "(IIII)I" } : Jvm.MethodName)) := by decide +kernel
theorem tw_1753 : lw_tbl[1753]? = some (Jvm.Cond.selects "FormulaSheetModel" ({ cls := "FormulaSheetModel", name := "copy", desc := "(IIII)I" } : Jvm.MethodName) ({ cls := "FormulaSheetModel", name := "copy", desc := "(IIII)I" } : Jvm.MethodName)) := by decide +kernel
theorem tw_1754 : lw_tbl[1754]? = some (Jvm.Cond.code ({ cls := "FormulaSheetModel", name := "copy", desc := "(IIII)I" } : Jvm.MethodName) prog_14_method_52_code (9 : Nat) (Option.some Jvm.ClassFile.FieldType.int)) := by decide +kernel
theorem tw_1762 : lw_tbl[1762]? = some (Jvm.Cond.methodLink "FormulaSheetLaw" (100 : Nat) ({ cls := "FormulaSheetModel", name := "insert", desc := "(I)I" } : Jvm.MethodName)) := by decide +kernel
theorem tw_1763 : lw_tbl[1763]? = some (Jvm.Cond.instanceMethod ({ cls := "FormulaSheetModel", name := "insert", desc := "(I)I" } : Jvm.MethodName)) := by decide +kernel
theorem tw_1764 : lw_tbl[1764]? = some (Jvm.Cond.selects "FormulaSheetModel" ({ cls := "FormulaSheetModel", name := "insert", desc := "(I)I" } : Jvm.MethodName) ({ cls := "FormulaSheetModel", name := "insert", desc := "(I)I" } : Jvm.MethodName)) := by decide +kernel
theorem tw_1765 : lw_tbl[1765]? = some (Jvm.Cond.code ({ cls := "FormulaSheetModel", name := "insert", desc := "(I)I" } : Jvm.MethodName) prog_14_method_58_code (5 : Nat) (Option.some Jvm.ClassFile.FieldType.int)) := by decide +kernel
theorem tw_1784 : lw_tbl[1784]? = some (Jvm.Cond.methodLink "FormulaSheetLaw" (103 : Nat) ({ cls := "FormulaSheetModel", name := "delete", desc := "(I)I" } : Jvm.MethodName)) := by decide +kernel
theorem tw_1785 : lw_tbl[1785]? = some (Jvm.Cond.instanceMethod ({ cls := "FormulaSheetModel", name := "delete", desc := "(I)I" } : Jvm.MethodName)) := by decide +kernel
theorem tw_1786 : lw_tbl[1786]? = some (Jvm.Cond.selects "FormulaSheetModel" ({ cls := "FormulaSheetModel", name := "delete", desc := "(I)I" } : Jvm.MethodName) ({ cls := "FormulaSheetModel", name := "delete", desc := "(I)I" } : Jvm.MethodName)) := by decide +kernel
theorem tw_1787 : lw_tbl[1787]? = some (Jvm.Cond.code ({ cls := "FormulaSheetModel", name := "delete", desc := "(I)I" } : Jvm.MethodName) prog_14_method_59_code (5 : Nat) (Option.some Jvm.ClassFile.FieldType.int)) := by decide +kernel
theorem tw_1788 : lw_tbl[1788]? = some (Jvm.Cond.methodLink "FormulaSheetLaw" (107 : Nat) ({ cls := "FormulaSheetModel", name := "value", desc := "(II)D" } : Jvm.MethodName)) := by decide +kernel
theorem tw_1789 : lw_tbl[1789]? = some (Jvm.Cond.instanceMethod ({ cls := "FormulaSheetModel", name := "value", desc := "(II)D" } : Jvm.MethodName)) := by decide +kernel
theorem tw_1790 : lw_tbl[1790]? = some (Jvm.Cond.selects "FormulaSheetModel" ({ cls := "FormulaSheetModel", name := "value", desc := "(II)D" } : Jvm.MethodName) ({ cls := "FormulaSheetModel", name := "value", desc := "(II)D" } : Jvm.MethodName)) := by decide +kernel
theorem tw_1791 : lw_tbl[1791]? = some (Jvm.Cond.code ({ cls := "FormulaSheetModel", name := "value", desc := "(II)D" } : Jvm.MethodName) prog_14_method_60_code (4 : Nat) (Option.some Jvm.ClassFile.FieldType.double)) := by decide +kernel
theorem tw_1792 : lw_tbl[1792]? = some (Jvm.Cond.methodLink "FormulaSheetLaw" (110 : Nat) ({ cls := "FormulaSheetModel", name := "kind", desc := "(II)I" } : Jvm.MethodName)) := by decide +kernel
theorem tw_1793 : lw_tbl[1793]? = some (Jvm.Cond.instanceMethod ({ cls := "FormulaSheetModel", name := "kind", desc := "(II)I" } : Jvm.MethodName)) := by decide +kernel
theorem tw_1794 : lw_tbl[1794]? = some (Jvm.Cond.selects "FormulaSheetModel" ({ cls := "FormulaSheetModel", name := "kind", desc := "(II)I" } : Jvm.MethodName) ({ cls := "FormulaSheetModel", name := "kind", desc := "(II)I" } : Jvm.MethodName)) := by decide +kernel
theorem tw_1795 : lw_tbl[1795]? = some (Jvm.Cond.code ({ cls := "FormulaSheetModel", name := "kind", desc := "(II)I" } : Jvm.MethodName) prog_14_method_62_code (3 : Nat) (Option.some Jvm.ClassFile.FieldType.int)) := by decide +kernel
theorem tw_1800 : lw_tbl[1800]? = some (Jvm.Cond.methodLink "FormulaSheetLaw" (117 : Nat) ({ cls := "FormulaSheetModel", name := "reaches", desc := "(IIII)Z" } : Jvm.MethodName)) := by decide +kernel
theorem tw_1801 : lw_tbl[1801]? = some (Jvm.Cond.instanceMethod ({ cls := "FormulaSheetModel", name := "reaches", desc := "(IIII)Z" } : Jvm.MethodName)) := by decide +kernel
theorem tw_1802 : lw_tbl[1802]? = some (Jvm.Cond.selects "FormulaSheetModel" ({ cls := "FormulaSheetModel", name := "reaches", desc := "(IIII)Z" } : Jvm.MethodName) ({ cls := "FormulaSheetModel", name := "reaches", desc := "(IIII)Z" } : Jvm.MethodName)) := by decide +kernel
theorem tw_1803 : lw_tbl[1803]? = some (Jvm.Cond.code ({ cls := "FormulaSheetModel", name := "reaches", desc := "(IIII)Z" } : Jvm.MethodName) prog_14_method_63_code (6 : Nat) (Option.some Jvm.ClassFile.FieldType.boolean)) := by decide +kernel
theorem tw_1804 : lw_tbl[1804]? = some (Jvm.Cond.methodLink "FormulaSheetLaw" (114 : Nat) ({ cls := "FormulaSheetModel", name := "text", desc := "(III)I" } : Jvm.MethodName)) := by decide +kernel
theorem tw_1805 : lw_tbl[1805]? = some (Jvm.Cond.instanceMethod ({ cls := "FormulaSheetModel", name := "text", desc := "(III)I" } : Jvm.MethodName)) := by decide +kernel
theorem tw_1806 : lw_tbl[1806]? = some (Jvm.Cond.selects "FormulaSheetModel" ({ cls := "FormulaSheetModel", name := "text", desc := "(III)I" } : Jvm.MethodName) ({ cls := "FormulaSheetModel", name := "text", desc := "(III)I" } : Jvm.MethodName)) := by decide +kernel
theorem tw_1807 : lw_tbl[1807]? = some (Jvm.Cond.code ({ cls := "FormulaSheetModel", name := "text", desc := "(III)I" } : Jvm.MethodName) prog_14_method_76_code (6 : Nat) (Option.some Jvm.ClassFile.FieldType.int)) := by decide +kernel
theorem tw_1856 : lw_tbl[1856]? = some (Jvm.Cond.methodLink "FormulaSheetLaw" (121 : Nat) ({ cls := "FormulaSheetModel", name := "count", desc := "(I)I" } : Jvm.MethodName)) := by decide +kernel
theorem tw_1857 : lw_tbl[1857]? = some (Jvm.Cond.instanceMethod ({ cls := "FormulaSheetModel", name := "count", desc := "(I)I" } : Jvm.MethodName)) := by decide +kernel
theorem tw_1858 : lw_tbl[1858]? = some (Jvm.Cond.selects "FormulaSheetModel" ({ cls := "FormulaSheetModel", name := "count", desc := "(I)I" } : Jvm.MethodName) ({ cls := "FormulaSheetModel", name := "count", desc := "(I)I" } : Jvm.MethodName)) := by decide +kernel
theorem tw_1859 : lw_tbl[1859]? = some (Jvm.Cond.code ({ cls := "FormulaSheetModel", name := "count", desc := "(I)I" } : Jvm.MethodName) prog_14_method_77_code (5 : Nat) (Option.some Jvm.ClassFile.FieldType.int)) := by decide +kernel
theorem tw_1860 : lw_tbl[1860]? = some (Jvm.Cond.constantDouble "FormulaSheetLaw" (84 : Nat) (4593671619917905920 : UInt64)) := by decide +kernel
section FSI
variable {p : Program} {l : Launch} {e : Env} {R : Room} {s : State} {m : MethodId} {args : Array Value} {below : List Frame} {meth : Method} {c : Code} {H : Heap} {locs : List Loc} {cells slots : Nat} {Q : State → Prop}
variable {cc : ByteArray} {pc : Nat} {ls : Array Slot} {rest : List Value} {s00 : State} {b L : Nat} {xs : Nat → Int32}
theorem fs_xX (hX : va_X b L xs s00 s00.heap) (hw : fs_W s00 s) (hS : va_S (fs_A s00) s00.heap H locs) : va_X b L xs s H := by
  have hbl : b < s00.heap.size := by
    obtain ⟨scr, h1, -⟩ := hX
    exact (Array.getElem?_eq_some_iff.mp h1).1
  exact (va_X.moved hw.1.alike hX).kept (hS.2.1 b hbl (Nat.not_le.mpr hbl))
theorem fs_xia (hexec : p.tables.exec = Jvm.exec) (hb : c.code = cc) (hX : va_X b L xs s00 s00.heap) (hw : fs_W s00 s) (hS : va_S (fs_A s00) s00.heap H locs) {i : Int32} (hin : vp_in i L) (hdg : decode cc pc = .ok (.iaload, 1))
    (kk : W p l e R s m args below meth c H locs cells slots Q (F0 m (pc + 1) ls (.int (xs i.toNatClampNeg) :: rest))) : W p l e R s m args below meth c H locs cells slots Q (F0 m pc ls (.int i :: .ref b :: rest)) := by
  obtain ⟨scr, h1, h2, h3, h4, h5⟩ := fs_xX hX hw hS
  have hlt : i.toNatClampNeg < L := Nat.not_le.mp fun q => hin (Or.inr q)
  exact W.iald (v := .int (xs i.toNatClampNeg)) hexec hb h1 h2 h3 (fun q => by rcases q with q | q; exact hin (Or.inl q); omega) (h5 _ hlt) rfl rfl hdg kk
theorem fs_xil (hexec : p.tables.exec = Jvm.exec) (hb : c.code = cc) (hX : va_X b L xs s00 s00.heap) (hw : fs_W s00 s) (hS : va_S (fs_A s00) s00.heap H locs) (hdg : decode cc pc = .ok (.arraylength, 1))
    (kk : W p l e R s m args below meth c H locs cells slots Q (F0 m (pc + 1) ls (.int (Int32.ofNat L) :: rest))) : W p l e R s m args below meth c H locs cells slots Q (F0 m pc ls (.ref b :: rest)) := by
  obtain ⟨scr, h1, h2, h3, h4, h5⟩ := fs_xX hX hw hS
  exact W.alen (n := Int32.ofNat L) hexec hb h1 h2 (by rw [h4]) rfl rfl hdg kk
end FSI
def w_LW_law_L28_J898 (L : Nat) (xs : Nat → Int32) (self1 : Nat → Nat → Nat → Nat → Int32 → Nat → Nat → fs_Hp → Prop) (E : fs_E) (K : Nat → Nat → fs_Hp → Prop) (Post : fs_Ps) (z1 : Nat) (z2 : Nat) (z3 : Nat) (z4 : Nat) (z5 : Int32) (w0 : Int64) (w1 : Int64) (bc bs : Nat) (h1 : fs_Hp) : Prop := (if (lg_cmp w1 w0) = 0 then self1 z1 z2 z3 z4 (z5 + 5) bc bs h1 else Post (.inl (some (.int 0))) h1)
def w_LW_law_L28 (L : Nat) (xs : Nat → Int32) (E : fs_E) (K : Nat → Nat → fs_Hp → Prop) (Post : fs_Ps) : Nat → Nat → Nat → Nat → Nat → Int32 → Nat → Nat → fs_Hp → Prop
  | 0 => fun _ _ _ _ _ _ _ _ => False
  | n + 1 => fun z1 z2 z3 z4 z5 bc bs h1 => (if ((Int32.ofNat L) - 5) < z5 then K bc bs h1 else (vp_in z5 L ∧ (if ((xs (Int32.toNatClampNeg z5)) &&& (15 : Int32)) = 0 then (vp_in (z5 + 1) L ∧ ∃ c118 s119 : Nat, c118 ≤ bc ∧ s119 ≤ bs ∧ (w_LW_type c118 s119 E h1 z1 (xs (Int32.toNatClampNeg (z5 + 1))) z3 (fs_ki (fun x121 h120 => (vp_in (z5 + 1) L ∧ fs_isc h120 z2 10 ∧ (w_MO_type E h120 z2 (xs (Int32.toNatClampNeg (z5 + 1))) (fs_ki (fun x123 h122 => fs_isc h122 z2 10 ∧ (w_MO_thrown E h122 z2 (fs_ki (fun x125 h124 => (if x125 = x121 then (if x121 = 0 then fs_al h124 z3 (E.1.2 1) 0 (fun x128 => (if (lg_cmp x128 (Int32.toInt64 x123)) = 0 then (w_LW_law_L28 L xs E K Post n) z1 z2 z3 z4 (z5 + 5) (bc - c118) (bs - s119) h124 else Post (.inl (some (.int 0))) h124)) else (w_LW_law_L28 L xs E K Post n) z1 z2 z3 z4 (z5 + 5) (bc - c118) (bs - s119) h124) else Post (.inl (some (.int 0))) h124)) (fun C_ h_ => Post (.inr C_) h_)))) (fun C_ h_ => Post (.inr C_) h_))))) (fun C_ h_ => Post (.inr C_) h_)))) else (if ((xs (Int32.toNatClampNeg z5)) &&& (15 : Int32)) = 1 then (vp_in (z5 + 1) L ∧ (vp_in (z5 + 2) L ∧ ∃ c131 s132 : Nat, c131 ≤ bc ∧ s132 ≤ bs ∧ (w_LW_enter c131 s132 E h1 z1 (xs (Int32.toNatClampNeg (z5 + 1))) (xs (Int32.toNatClampNeg (z5 + 2))) z3 (fs_ki (fun x134 h133 => (vp_in (z5 + 1) L ∧ (vp_in (z5 + 2) L ∧ fs_isc h133 z2 10 ∧ (w_MO_enter E h133 z2 (xs (Int32.toNatClampNeg (z5 + 1))) (xs (Int32.toNatClampNeg (z5 + 2))) (fs_ki (fun x136 h135 => fs_isc h135 z2 10 ∧ (w_MO_thrown E h135 z2 (fs_ki (fun x138 h137 => (if x138 = x134 then (if x134 = 0 then fs_al h137 z3 (E.1.2 1) 0 (fun x141 => (if (lg_cmp x141 (Int32.toInt64 x136)) = 0 then (w_LW_law_L28 L xs E K Post n) z1 z2 z3 z4 (z5 + 5) (bc - c131) (bs - s132) h137 else Post (.inl (some (.int 0))) h137)) else (w_LW_law_L28 L xs E K Post n) z1 z2 z3 z4 (z5 + 5) (bc - c131) (bs - s132) h137) else Post (.inl (some (.int 0))) h137)) (fun C_ h_ => Post (.inr C_) h_)))) (fun C_ h_ => Post (.inr C_) h_)))))) (fun C_ h_ => Post (.inr C_) h_))))) else (if ((xs (Int32.toNatClampNeg z5)) &&& (15 : Int32)) = 2 then fs_isc h1 z1 0 ∧ (w_SH_errorAt E h1 z1 (fs_ki (fun x145 h144 => fs_isc h144 z2 10 ∧ (w_MO_errorAt E h144 z2 (fs_ki (fun x147 h146 => (if x145 = x147 then (w_LW_law_L28 L xs E K Post n) z1 z2 z3 z4 (z5 + 5) bc bs h146 else Post (.inl (some (.int 0))) h146)) (fun C_ h_ => Post (.inr C_) h_)))) (fun C_ h_ => Post (.inr C_) h_))) else (if ((xs (Int32.toNatClampNeg z5)) &&& (15 : Int32)) = 3 then (vp_in (z5 + 1) L ∧ (vp_in (z5 + 2) L ∧ (vp_in (z5 + 3) L ∧ vf_n64 (FP.dmul (FP.i2d (xs (Int32.toNatClampNeg (z5 + 3)))) 4593671619917905920) ∧ (∃ c150 s151 : Nat, c150 ≤ bc ∧ s151 ≤ bs ∧ (w_LW_put c150 s151 E h1 z1 (xs (Int32.toNatClampNeg (z5 + 1))) (xs (Int32.toNatClampNeg (z5 + 2))) (FP.dmul (FP.i2d (xs (Int32.toNatClampNeg (z5 + 3)))) 4593671619917905920) (fs_ki (fun x153 h152 => (vp_in (z5 + 1) L ∧ (vp_in (z5 + 2) L ∧ (vp_in (z5 + 3) L ∧ vf_n64 (FP.dmul (FP.i2d (xs (Int32.toNatClampNeg (z5 + 3)))) 4593671619917905920) ∧ (fs_isc h152 z2 10 ∧ (w_MO_put E h152 z2 (xs (Int32.toNatClampNeg (z5 + 1))) (xs (Int32.toNatClampNeg (z5 + 2))) (FP.dmul (FP.i2d (xs (Int32.toNatClampNeg (z5 + 3)))) 4593671619917905920) (fs_kv (fun h154 => fs_isc h154 z2 10 ∧ (w_MO_thrown E h154 z2 (fs_ki (fun x156 h155 => (if x156 = x153 then (w_LW_law_L28 L xs E K Post n) z1 z2 z3 z4 (z5 + 5) (bc - c150) (bs - s151) h155 else Post (.inl (some (.int 0))) h155)) (fun C_ h_ => Post (.inr C_) h_)))) (fun C_ h_ => Post (.inr C_) h_)))))))) (fun C_ h_ => Post (.inr C_) h_))))))) else (if ((xs (Int32.toNatClampNeg z5)) &&& (15 : Int32)) = 4 then (vp_in (z5 + 1) L ∧ (vp_in (z5 + 2) L ∧ ∃ c159 s160 : Nat, c159 ≤ bc ∧ s160 ≤ bs ∧ (w_LW_erase c159 s160 E h1 z1 (xs (Int32.toNatClampNeg (z5 + 1))) (xs (Int32.toNatClampNeg (z5 + 2))) (fs_ki (fun x162 h161 => (vp_in (z5 + 1) L ∧ (vp_in (z5 + 2) L ∧ fs_isc h161 z2 10 ∧ (w_MO_erase E h161 z2 (xs (Int32.toNatClampNeg (z5 + 1))) (xs (Int32.toNatClampNeg (z5 + 2))) (fs_kv (fun h163 => fs_isc h163 z2 10 ∧ (w_MO_thrown E h163 z2 (fs_ki (fun x165 h164 => (if x165 = x162 then (w_LW_law_L28 L xs E K Post n) z1 z2 z3 z4 (z5 + 5) (bc - c159) (bs - s160) h164 else Post (.inl (some (.int 0))) h164)) (fun C_ h_ => Post (.inr C_) h_)))) (fun C_ h_ => Post (.inr C_) h_)))))) (fun C_ h_ => Post (.inr C_) h_))))) else (if ((xs (Int32.toNatClampNeg z5)) &&& (15 : Int32)) = 5 then (vp_in (z5 + 1) L ∧ (vp_in (z5 + 2) L ∧ (vp_in (z5 + 3) L ∧ (vp_in (z5 + 4) L ∧ ∃ c168 s169 : Nat, c168 ≤ bc ∧ s169 ≤ bs ∧ (w_LW_copy c168 s169 E h1 z1 (xs (Int32.toNatClampNeg (z5 + 1))) (xs (Int32.toNatClampNeg (z5 + 2))) (xs (Int32.toNatClampNeg (z5 + 3))) (xs (Int32.toNatClampNeg (z5 + 4))) z3 (fs_ki (fun x171 h170 => (vp_in (z5 + 1) L ∧ (vp_in (z5 + 2) L ∧ (vp_in (z5 + 3) L ∧ (vp_in (z5 + 4) L ∧ fs_isc h170 z2 10 ∧ (w_MO_copy E h170 z2 (xs (Int32.toNatClampNeg (z5 + 1))) (xs (Int32.toNatClampNeg (z5 + 2))) (xs (Int32.toNatClampNeg (z5 + 3))) (xs (Int32.toNatClampNeg (z5 + 4))) (fs_ki (fun x173 h172 => fs_isc h172 z2 10 ∧ (w_MO_thrown E h172 z2 (fs_ki (fun x175 h174 => (if x175 = x171 then (if x171 = 0 then fs_al h174 z3 (E.1.2 1) 0 (fun x178 => (if (lg_cmp x178 (Int32.toInt64 x173)) = 0 then (w_LW_law_L28 L xs E K Post n) z1 z2 z3 z4 (z5 + 5) (bc - c168) (bs - s169) h174 else Post (.inl (some (.int 0))) h174)) else (w_LW_law_L28 L xs E K Post n) z1 z2 z3 z4 (z5 + 5) (bc - c168) (bs - s169) h174) else Post (.inl (some (.int 0))) h174)) (fun C_ h_ => Post (.inr C_) h_)))) (fun C_ h_ => Post (.inr C_) h_)))))))) (fun C_ h_ => Post (.inr C_) h_))))))) else (if ((xs (Int32.toNatClampNeg z5)) &&& (15 : Int32)) = 6 then (vp_in (z5 + 1) L ∧ ∃ c181 s182 : Nat, c181 ≤ bc ∧ s182 ≤ bs ∧ (w_LW_insert c181 s182 E h1 z1 (xs (Int32.toNatClampNeg (z5 + 1))) z3 (fs_ki (fun x184 h183 => (vp_in (z5 + 1) L ∧ fs_isc h183 z2 10 ∧ (w_MO_insert E h183 z2 (xs (Int32.toNatClampNeg (z5 + 1))) (fs_ki (fun x186 h185 => fs_isc h185 z2 10 ∧ (w_MO_thrown E h185 z2 (fs_ki (fun x188 h187 => (if x188 = x184 then (if x184 = 0 then fs_al h187 z3 (E.1.2 1) 0 (fun x191 => (if (lg_cmp x191 (Int32.toInt64 x186)) = 0 then (w_LW_law_L28 L xs E K Post n) z1 z2 z3 z4 (z5 + 5) (bc - c181) (bs - s182) h187 else Post (.inl (some (.int 0))) h187)) else (w_LW_law_L28 L xs E K Post n) z1 z2 z3 z4 (z5 + 5) (bc - c181) (bs - s182) h187) else Post (.inl (some (.int 0))) h187)) (fun C_ h_ => Post (.inr C_) h_)))) (fun C_ h_ => Post (.inr C_) h_))))) (fun C_ h_ => Post (.inr C_) h_)))) else (if ((xs (Int32.toNatClampNeg z5)) &&& (15 : Int32)) = 7 then (vp_in (z5 + 1) L ∧ ∃ c194 s195 : Nat, c194 ≤ bc ∧ s195 ≤ bs ∧ (w_LW_delete c194 s195 E h1 z1 (xs (Int32.toNatClampNeg (z5 + 1))) z3 (fs_ki (fun x197 h196 => (vp_in (z5 + 1) L ∧ fs_isc h196 z2 10 ∧ (w_MO_delete E h196 z2 (xs (Int32.toNatClampNeg (z5 + 1))) (fs_ki (fun x199 h198 => fs_isc h198 z2 10 ∧ (w_MO_thrown E h198 z2 (fs_ki (fun x201 h200 => (if x201 = x197 then (if x197 = 0 then fs_al h200 z3 (E.1.2 1) 0 (fun x204 => (if (lg_cmp x204 (Int32.toInt64 x199)) = 0 then (w_LW_law_L28 L xs E K Post n) z1 z2 z3 z4 (z5 + 5) (bc - c194) (bs - s195) h200 else Post (.inl (some (.int 0))) h200)) else (w_LW_law_L28 L xs E K Post n) z1 z2 z3 z4 (z5 + 5) (bc - c194) (bs - s195) h200) else Post (.inl (some (.int 0))) h200)) (fun C_ h_ => Post (.inr C_) h_)))) (fun C_ h_ => Post (.inr C_) h_))))) (fun C_ h_ => Post (.inr C_) h_)))) else (if ((xs (Int32.toNatClampNeg z5)) &&& (15 : Int32)) = 8 then (vp_in (z5 + 1) L ∧ (vp_in (z5 + 2) L ∧ ∃ c207 s208 : Nat, c207 ≤ bc ∧ s208 ≤ bs ∧ (w_LW_value c207 s208 E h1 z1 (xs (Int32.toNatClampNeg (z5 + 1))) (xs (Int32.toNatClampNeg (z5 + 2))) z4 (fs_ki (fun x210 h209 => (vp_in (z5 + 1) L ∧ (vp_in (z5 + 2) L ∧ fs_isc h209 z2 10 ∧ (w_MO_value E h209 z2 (xs (Int32.toNatClampNeg (z5 + 1))) (xs (Int32.toNatClampNeg (z5 + 2))) (fs_kd (fun x212 h211 => fs_isc h211 z2 10 ∧ (w_MO_thrown E h211 z2 (fs_ki (fun x214 h213 => (if x214 = x210 then (if x210 = 0 then fs_ad h213 z4 (E.1.2 2) 0 (fun x217 => (if (Op.cmpValue (FP.dcmp x217 x212) .l) = 0 then (w_LW_law_L28 L xs E K Post n) z1 z2 z3 z4 (z5 + 5) (bc - c207) (bs - s208) h213 else fs_ad h213 z4 (E.1.2 2) 0 (fun x219 => fs_ad h213 z4 (E.1.2 2) 0 (fun x220 => (if (Op.cmpValue (FP.dcmp x219 x220) .l) = 0 then Post (.inl (some (.int 0))) h213 else (if (Op.cmpValue (FP.dcmp x212 x212) .l) = 0 then Post (.inl (some (.int 0))) h213 else (w_LW_law_L28 L xs E K Post n) z1 z2 z3 z4 (z5 + 5) (bc - c207) (bs - s208) h213)))))) else (w_LW_law_L28 L xs E K Post n) z1 z2 z3 z4 (z5 + 5) (bc - c207) (bs - s208) h213) else Post (.inl (some (.int 0))) h213)) (fun C_ h_ => Post (.inr C_) h_)))) (fun C_ h_ => Post (.inr C_) h_)))))) (fun C_ h_ => Post (.inr C_) h_))))) else (if ((xs (Int32.toNatClampNeg z5)) &&& (15 : Int32)) = 9 then (vp_in (z5 + 1) L ∧ (vp_in (z5 + 2) L ∧ ∃ c224 s225 : Nat, c224 ≤ bc ∧ s225 ≤ bs ∧ (w_LW_kind c224 s225 E h1 z1 (xs (Int32.toNatClampNeg (z5 + 1))) (xs (Int32.toNatClampNeg (z5 + 2))) z3 (fs_ki (fun x227 h226 => (vp_in (z5 + 1) L ∧ (vp_in (z5 + 2) L ∧ fs_isc h226 z2 10 ∧ (w_MO_kind E h226 z2 (xs (Int32.toNatClampNeg (z5 + 1))) (xs (Int32.toNatClampNeg (z5 + 2))) (fs_ki (fun x229 h228 => fs_isc h228 z2 10 ∧ (w_MO_thrown E h228 z2 (fs_ki (fun x231 h230 => (if x231 = x227 then (if x227 = 0 then fs_al h230 z3 (E.1.2 1) 0 (fun x234 => (if (lg_cmp x234 (Int32.toInt64 x229)) = 0 then (w_LW_law_L28 L xs E K Post n) z1 z2 z3 z4 (z5 + 5) (bc - c224) (bs - s225) h230 else Post (.inl (some (.int 0))) h230)) else (w_LW_law_L28 L xs E K Post n) z1 z2 z3 z4 (z5 + 5) (bc - c224) (bs - s225) h230) else Post (.inl (some (.int 0))) h230)) (fun C_ h_ => Post (.inr C_) h_)))) (fun C_ h_ => Post (.inr C_) h_)))))) (fun C_ h_ => Post (.inr C_) h_))))) else (if ((xs (Int32.toNatClampNeg z5)) &&& (15 : Int32)) = 10 then (vp_in (z5 + 1) L ∧ (vp_in (z5 + 2) L ∧ (vp_in (z5 + 3) L ∧ ∃ c237 s238 : Nat, c237 ≤ bc ∧ s238 ≤ bs ∧ (w_LW_text c237 s238 E h1 z1 (xs (Int32.toNatClampNeg (z5 + 1))) (xs (Int32.toNatClampNeg (z5 + 2))) (xs (Int32.toNatClampNeg (z5 + 3))) z3 (fs_ki (fun x240 h239 => (vp_in (z5 + 1) L ∧ (vp_in (z5 + 2) L ∧ (vp_in (z5 + 3) L ∧ fs_isc h239 z2 10 ∧ (w_MO_text E h239 z2 (xs (Int32.toNatClampNeg (z5 + 1))) (xs (Int32.toNatClampNeg (z5 + 2))) (xs (Int32.toNatClampNeg (z5 + 3))) (fs_ki (fun x242 h241 => fs_isc h241 z2 10 ∧ (w_MO_thrown E h241 z2 (fs_ki (fun x244 h243 => (if x244 = x240 then (if x240 = 0 then fs_al h243 z3 (E.1.2 1) 0 (fun x247 => (if (lg_cmp x247 (Int32.toInt64 x242)) = 0 then (w_LW_law_L28 L xs E K Post n) z1 z2 z3 z4 (z5 + 5) (bc - c237) (bs - s238) h243 else Post (.inl (some (.int 0))) h243)) else (w_LW_law_L28 L xs E K Post n) z1 z2 z3 z4 (z5 + 5) (bc - c237) (bs - s238) h243) else Post (.inl (some (.int 0))) h243)) (fun C_ h_ => Post (.inr C_) h_)))) (fun C_ h_ => Post (.inr C_) h_))))))) (fun C_ h_ => Post (.inr C_) h_)))))) else (if ((xs (Int32.toNatClampNeg z5)) &&& (15 : Int32)) = 11 then (vp_in (z5 + 1) L ∧ (vp_in (z5 + 2) L ∧ (vp_in (z5 + 3) L ∧ (vp_in (z5 + 4) L ∧ ∃ c250 s251 : Nat, c250 ≤ bc ∧ s251 ≤ bs ∧ (w_LW_reaches c250 s251 E h1 z1 (xs (Int32.toNatClampNeg (z5 + 1))) (xs (Int32.toNatClampNeg (z5 + 2))) (xs (Int32.toNatClampNeg (z5 + 3))) (xs (Int32.toNatClampNeg (z5 + 4))) z3 (fs_ki (fun x253 h252 => (vp_in (z5 + 1) L ∧ (vp_in (z5 + 2) L ∧ (vp_in (z5 + 3) L ∧ (vp_in (z5 + 4) L ∧ fs_isc h252 z2 10 ∧ (w_MO_reaches E h252 z2 (xs (Int32.toNatClampNeg (z5 + 1))) (xs (Int32.toNatClampNeg (z5 + 2))) (xs (Int32.toNatClampNeg (z5 + 3))) (xs (Int32.toNatClampNeg (z5 + 4))) (fs_ki (fun x255 h254 => fs_isc h254 z2 10 ∧ (w_MO_thrown E h254 z2 (fs_ki (fun x257 h256 => (if x257 = x253 then (if x253 = 0 then fs_al h256 z3 (E.1.2 1) 0 (fun x260 => (if x255 = 0 then w_LW_law_L28_J898 L xs (w_LW_law_L28 L xs E K Post n) E K Post z1 z2 z3 z4 z5 0 x260 (bc - c250) (bs - s251) h256 else w_LW_law_L28_J898 L xs (w_LW_law_L28 L xs E K Post n) E K Post z1 z2 z3 z4 z5 1 x260 (bc - c250) (bs - s251) h256)) else (w_LW_law_L28 L xs E K Post n) z1 z2 z3 z4 (z5 + 5) (bc - c250) (bs - s251) h256) else Post (.inl (some (.int 0))) h256)) (fun C_ h_ => Post (.inr C_) h_)))) (fun C_ h_ => Post (.inr C_) h_)))))))) (fun C_ h_ => Post (.inr C_) h_))))))) else (if ((xs (Int32.toNatClampNeg z5)) &&& (15 : Int32)) = 12 then (vp_in (z5 + 1) L ∧ fs_isc h1 z1 0 ∧ (w_SH_count E h1 z1 (xs (Int32.toNatClampNeg (z5 + 1))) (fs_ki (fun x264 h263 => (vp_in (z5 + 1) L ∧ fs_isc h263 z2 10 ∧ (w_MO_count E h263 z2 (xs (Int32.toNatClampNeg (z5 + 1))) (fs_ki (fun x266 h265 => (if x264 = x266 then (w_LW_law_L28 L xs E K Post n) z1 z2 z3 z4 (z5 + 5) bc bs h265 else Post (.inl (some (.int 0))) h265)) (fun C_ h_ => Post (.inr C_) h_))))) (fun C_ h_ => Post (.inr C_) h_)))) else (w_LW_law_L28 L xs E K Post n) z1 z2 z3 z4 (z5 + 5) bc bs h1)))))))))))))))
def w_LW_law (L : Nat) (xs : Nat → Int32) (mc ms : Nat) (E : fs_E) (h : fs_Hp)  (Post : fs_Ps) : Prop := 1 ≤ mc ∧ 4 ≤ ms ∧ ∀ a101 : Nat, h a101 = none → (fun h102 : fs_Hp => ∃ c103 s104 : Nat, c103 ≤ (mc - 1) ∧ s104 ≤ (ms - 4) ∧ (w_SH_init c103 s104 E h102 a101 (fs_kv (fun h105 => 1 ≤ ((mc - 1) - c103) ∧ 36 ≤ ((ms - 4) - s104) ∧ ∀ a106 : Nat, h105 a106 = none → (fun h107 : fs_Hp => ∃ c108 s109 : Nat, c108 ≤ (((mc - 1) - c103) - 1) ∧ s109 ≤ (((ms - 4) - s104) - 36) ∧ (w_MO_init c108 s109 E h107 a106 (fs_kv (fun h110 => ¬ (1 : Int32) < 0 ∧ (Int32.toNatClampNeg 1) * 8 ≤ 536870912 ∧ 1 ≤ ((((mc - 1) - c103) - 1) - c108) ∧ (Int32.toNatClampNeg 1) ≤ ((((ms - 4) - s104) - 36) - s109) ∧ ∀ a111 : Nat, h110 a111 = none → (fun h112 : fs_Hp => ¬ (1 : Int32) < 0 ∧ (Int32.toNatClampNeg 1) * 8 ≤ 536870912 ∧ 1 ≤ (((((mc - 1) - c103) - 1) - c108) - 1) ∧ (Int32.toNatClampNeg 1) ≤ (((((ms - 4) - s104) - 36) - s109) - (Int32.toNatClampNeg 1)) ∧ ∀ a113 : Nat, h112 a113 = none → (fun h114 : fs_Hp => (∃ n273 : Nat, w_LW_law_L28 L xs E (fun bc269 bs270 h268 => Post (.inl (some (.int 1))) h268) Post n273 a101 a106 a111 a113 0 ((((((mc - 1) - c103) - 1) - c108) - 1) - 1) ((((((ms - 4) - s104) - 36) - s109) - (Int32.toNatClampNeg 1)) - (Int32.toNatClampNeg 1)) h114)) (fs_up h112 a113 (.inl (E.1.2 2, (Int32.toNatClampNeg 1), .inr (.inr (.inr (.inl (fun _ : Nat => (0 : UInt64))))))))) (fs_up h110 a111 (.inl (E.1.2 1, (Int32.toNatClampNeg 1), .inr (.inl (fun _ : Nat => (0 : Int64))))))) (fun C_ h_ => Post (.inr C_) h_)))) (fs_up h105 a106 (.inr (10, [.null, .null, .null, .null, .null, .null, .null, .null, .null, .int 0, .int 0, .int 0, .int 0, .null, .null, .null, .null, .null, .null, .null, .null, .null, .int 0, .int 0, .int 0, .null, .null, .null, .null, .int 0, .int 0, .null, .null, .null, .int 0, .int 0])))) (fun C_ h_ => Post (.inr C_) h_)))) (fs_up h a101 (.inr (0, [.null, .null, .null, .int 0])))
set_option maxHeartbeats 4000000 in
set_option maxRecDepth 100000 in
theorem lw_w_LW_law_28 {p : Program} {l : Launch} {e : Env} {R : Room} {s : State} {m : MethodId} {args : Array Value} {below : List Frame} {meth : Method} {c : Code} {s00 : State} {E : fs_E} {Post : fs_Ps} {mc ms : Nat} (hE : fs_SE l s00 E) {L : Nat} {xs : Nat → Int32} {b : Nat} (hself : va_X b L xs s00 s00.heap) (B : fs_B p l e s m args meth c s00 E.1 y_LW_law b_LW_law 9 (some .boolean)) (hout : ∀ pc, ∀ x ∈ c.exceptionTable.toList, covers x pc = false) (hRf : 303 ≤ R.frames) (hRl : 4464 ≤ R.locals) (hRc : mc ≤ R.cells) (hRs : ms ≤ R.slots) (K : Nat → Nat → fs_Hp → Prop) : ∀ (n : Nat) (z1 : Nat) (z2 : Nat) (z3 : Nat) (z4 : Nat) (z5 : Int32) (bc bs uc us : Nat) (h1 : fs_Hp) (H : Heap) (locs : List Loc) (ls : Array Slot), w_LW_law_L28 L xs E K Post n z1 z2 z3 z4 z5 bc bs h1 → fs_P E.1.1 fs_cl (fs_A s00) h1 H → va_S (fs_A s00) s00.heap H locs → uc + bc ≤ mc → us + bs ≤ ms → lv_has ls 9 [(0, .ref b), (1, .ref z1), (2, .ref z2), (3, .ref z3), (4, .ref z4), (5, .int z5)] → (∀  (bc bs uc us : Nat) (h' : fs_Hp) (H : Heap) (locs : List Loc) (ls : Array Slot), K  bc bs h' → fs_P E.1.1 fs_cl (fs_A s00) h' H → va_S (fs_A s00) s00.heap H locs → uc + bc ≤ mc → us + bs ≤ ms → lv_has ls 9 [(0, .ref b), (1, .ref z1), (2, .ref z2), (3, .ref z3), (4, .ref z4)] → W p l e R s m args below meth c H locs uc us (fx_MQ below (fs_Qc s00 E.1 Post) args s mc ms (fs_A s00)) (F0 m 938 ls [])) → W p l e R s m args below meth c H locs uc us (fx_MQ below (fs_Qc s00 E.1 Post) args s mc ms (fs_A s00)) (F0 m 28 ls []) := by
  obtain ⟨hx, hb, hr, hml, hown, hts, hlocks, hname, hK, hw, htr⟩ := id B
  have hown : s.vm.findClass "FormulaSheetLaw" = some m.cls := hown
  intro n
  induction n with
  | zero => intro z1 z2 z3 z4 z5 bc bs uc us h1 H locs ls hq; exact False.elim hq
  | succ n ih =>
    intro z1 z2 z3 z4 z5 bc bs uc us h1 H locs ls hq hP hS hu1 hu2 hl kk
    rw [w_LW_law_L28] at hq
    have hJ898 : ∀ (z5 : Int32) (w0 : Int64) (w1 : Int64) (bc bs uc us : Nat) (h1 : fs_Hp) (H : Heap) (locs : List Loc) (ls : Array Slot), w_LW_law_L28_J898 L xs (w_LW_law_L28 L xs E K Post n) E K Post z1 z2 z3 z4 z5 w0 w1 bc bs h1 → fs_P E.1.1 fs_cl (fs_A s00) h1 H → va_S (fs_A s00) s00.heap H locs → uc + bc ≤ mc → us + bs ≤ ms → lv_has ls 9 [(0, .ref b), (1, .ref z1), (2, .ref z2), (3, .ref z3), (4, .ref z4), (5, .int z5)] → W p l e R s m args below meth c H locs uc us (fx_MQ below (fs_Qc s00 E.1 Post) args s mc ms (fs_A s00)) (F0 m 898 ls (.long w0 :: .long w1 :: [])) := by
      intro z5 w0 w1 bc bs uc us h1 H locs ls hq hP hS hu1 hu2 hl
      unfold w_LW_law_L28_J898 at hq
      refine W.lcmp hx hb d_LW_law_898 ?_
      refine lv_if_eq (tgt := 904) hx hb d_LW_law_899 (by decide) (fun c_115 => ?_) (fun c_115 => ?_)
      · have hq := fs_wifp c_115 hq
        refine lv_goto (tgt := 932) hx hb d_LW_law_904 (by decide) ?_
        refine lv_iinc (v := z5 + 5) (lv' := [(5, .int (z5 + 5)), (0, .ref b), (1, .ref z1), (2, .ref z2), (3, .ref z3), (4, .ref z4)]) hx hb d_LW_law_932 hl (k := 5) rfl rfl (by decide) rfl (fun ls hl => ?_)
        refine lv_goto (tgt := 28) hx hb d_LW_law_935 (by decide) ?_
        exact ih z1 z2 z3 z4 (z5 + 5) bc bs uc us _ _ _ _ hq hP hS (by omega) (by omega) (show lv_has ls 9 [(0, .ref b), (1, .ref z1), (2, .ref z2), (3, .ref z3), (4, .ref z4), (5, .int (z5 + 5))] from lv_sub hl [1, 2, 3, 4, 5, 0] rfl) kk
      · have hq := fs_wifn c_115 hq
        refine lv_iconst (v := 0) hx hb d_LW_law_902 (by decide) ?_
        exact fs_iret hx hb hr hlocks hw hP hS (by decide) (by omega) (by omega) hq d_LW_law_903
    refine lv_iload hx hb d_LW_law_28 (lv_at hl 5 rfl) ?_
    refine lv_aload_n hx hb d_LW_law_30 rfl (lv_at hl 0 rfl) ?_
    refine fs_xil hx hb hself hw hS d_LW_law_31 ?_
    refine lv_iconst (v := 5) hx hb d_LW_law_32 (by decide) ?_
    refine lv_isub hx hb d_LW_law_33 ?_
    refine lv_icmp_gt (tgt := 938) hx hb d_LW_law_34 (by decide) (fun c_116 => ?_) (fun c_116 => ?_)
    · have hq := fs_wifp c_116 hq
      exact kk  bc bs uc us _ _ _ _ hq hP hS (by omega) (by omega) (show lv_has ls 9 [(0, .ref b), (1, .ref z1), (2, .ref z2), (3, .ref z3), (4, .ref z4)] from lv_sub hl [0, 1, 2, 3, 4] rfl)
    · have hq := fs_wifn c_116 hq
      refine lv_aload_n hx hb d_LW_law_37 rfl (lv_at hl 0 rfl) ?_
      refine lv_iload hx hb d_LW_law_38 (lv_at hl 5 rfl) ?_
      obtain ⟨hi_, hq⟩ := hq
      refine fs_xia hx hb hself hw hS hi_ d_LW_law_40 ?_
      refine lv_bipush (v := 15) hx hb d_LW_law_41 (by decide) ?_
      refine lv_iand hx hb d_LW_law_43 ?_
      by_cases c_117 : ((xs (Int32.toNatClampNeg z5)) &&& (15 : Int32)) = 0
      · have hq := fs_wifp c_117 hq
        refine lv_tableIn (off := 68) (tgt := 112) hx hb d_LW_law_44 (by rw [c_117]; decide) (by rw [c_117]; decide) (by rw [c_117]; decide) (by decide) ?_
        refine lv_aload_n hx hb d_LW_law_112 rfl (lv_at hl 1 rfl) ?_
        refine lv_aload_n hx hb d_LW_law_113 rfl (lv_at hl 0 rfl) ?_
        refine lv_iload hx hb d_LW_law_114 (lv_at hl 5 rfl) ?_
        refine lv_iconst (v := 1) hx hb d_LW_law_116 (by decide) ?_
        refine lv_iadd hx hb d_LW_law_117 ?_
        obtain ⟨hi_, hq⟩ := hq
        refine fs_xia hx hb hself hw hS hi_ d_LW_law_118 ?_
        refine lv_aload_n hx hb d_LW_law_119 rfl (lv_at hl 3 rfl) ?_
        obtain ⟨c118, s119, hc_, hs_, hq⟩ := hq
        refine fs_cSW B hl.1 hP hS (kw_LW_type hE hq) (fs_tb_at 483 tw_483 rfl) (fs_tb_at 484 tw_484 rfl) (fs_tb_at 87 tw_87 rfl) (fs_tb_at 485 tw_485 rfl) (by decide) (show (parseMethodDescriptor y_LW_type.desc).map (fun d => d.parameters.length) = some 3 by decide +kernel) rfl d_LW_law_120 (fs_rm (k := 0) (by omega) (by omega) (by omega) (by omega) rfl) (fun v_ h120 H locs hq hP hS => ?_) (fun C_ a_ h_ H locs hq hP hS hX => fs_out (hout _) hlocks hw hP hS hX (show (uc + c118) ≤ mc by omega) (show (us + s119) ≤ ms by omega) hq)
        refine fs_cs (k := (uc + c118)) (n := (us + s119)) rfl rfl ?_
        replace hq := fs_ki_some hq
        obtain ⟨x121, rfl, hq⟩ := hq
        refine W.eq (g2 := F0 m 123 ls (.int x121 :: [])) rfl ?_
        refine lv_istore (lv' := [(6, .int x121), (0, .ref b), (1, .ref z1), (2, .ref z2), (3, .ref z3), (4, .ref z4), (5, .int z5)]) hx hb d_LW_law_123 hl (by decide) rfl (fun ls hl => ?_)
        refine lv_aload_n hx hb d_LW_law_125 rfl (lv_at hl 3 rfl) ?_
        refine lv_aload_n hx hb d_LW_law_126 rfl (lv_at hl 1 rfl) ?_
        refine lv_iload hx hb d_LW_law_127 (lv_at hl 6 rfl) ?_
        refine lv_iconst (v := 1) hx hb d_LW_law_129 (by decide) ?_
        refine lv_iadd hx hb d_LW_law_130 ?_
        obtain ⟨hi_, hq⟩ := hq
        refine fs_xia hx hb hself hw hS hi_ d_LW_law_131 ?_
        obtain ⟨hi_, hq⟩ := hq
        obtain ⟨fs_, he_⟩ := fs_isc_some hi_
        refine fs_cV B hl.1 hP hS (kw_MO_type hE hq) (fs_tb_at 1570 tw_1570 rfl) he_ rfl (fs_tb_at 1571 tw_1571 rfl) (fs_tb_at 1572 tw_1572 rfl) (fs_tb_at 96 tw_96 rfl) (fs_tb_at 1573 tw_1573 rfl) (by decide) (show (parseMethodDescriptor y_MO_type.desc).map (fun d => d.parameters.length) = some 1 by decide +kernel) rfl d_LW_law_132 (fs_rm (k := 0) (by omega) (by omega) (by omega) (by omega) rfl) (fun v_ h122 H locs hq hP hS => ?_) (fun C_ a_ h_ H locs hq hP hS hX => fs_out (hout _) hlocks hw hP hS hX (show (uc + c118) ≤ mc by omega) (show (us + s119) ≤ ms by omega) hq)
        refine fs_cs (k := (uc + c118)) (n := (us + s119)) rfl rfl ?_
        replace hq := fs_ki_some hq
        obtain ⟨x123, rfl, hq⟩ := hq
        refine W.eq (g2 := F0 m 135 ls (.int x123 :: [])) rfl ?_
        refine lv_istore (lv' := [(7, .int x123), (6, .int x121), (0, .ref b), (1, .ref z1), (2, .ref z2), (3, .ref z3), (4, .ref z4), (5, .int z5)]) hx hb d_LW_law_135 hl (by decide) rfl (fun ls hl => ?_)
        refine lv_aload_n hx hb d_LW_law_137 rfl (lv_at hl 4 rfl) ?_
        obtain ⟨hi_, hq⟩ := hq
        obtain ⟨fs_, he_⟩ := fs_isc_some hi_
        refine fs_cV B hl.1 hP hS (kw_MO_thrown hE hq) (fs_tb_at 1566 tw_1566 rfl) he_ rfl (fs_tb_at 1567 tw_1567 rfl) (fs_tb_at 1568 tw_1568 rfl) (fs_tb_at 96 tw_96 rfl) (fs_tb_at 1569 tw_1569 rfl) (by decide) (show (parseMethodDescriptor y_MO_thrown.desc).map (fun d => d.parameters.length) = some 0 by decide +kernel) rfl d_LW_law_138 (fs_rm (k := 0) (by omega) (by omega) (by omega) (by omega) rfl) (fun v_ h124 H locs hq hP hS => ?_) (fun C_ a_ h_ H locs hq hP hS hX => fs_out (hout _) hlocks hw hP hS hX (show (uc + c118) ≤ mc by omega) (show (us + s119) ≤ ms by omega) hq)
        refine fs_cs (k := (uc + c118)) (n := (us + s119)) rfl rfl ?_
        replace hq := fs_ki_some hq
        obtain ⟨x125, rfl, hq⟩ := hq
        refine W.eq (g2 := F0 m 141 ls (.int x125 :: [])) rfl ?_
        refine lv_iload hx hb d_LW_law_141 (lv_at hl 1 rfl) ?_
        refine lv_icmp_eq (tgt := 148) hx hb d_LW_law_143 (by decide) (fun c_126 => ?_) (fun c_126 => ?_)
        · have hq := fs_wifp c_126 hq
          refine lv_iload hx hb d_LW_law_148 (lv_at hl 1 rfl) ?_
          refine lv_if_ne (tgt := 165) hx hb d_LW_law_150 (by decide) (fun c_127 => ?_) (fun c_127 => ?_)
          · have hq := fs_wifn c_127 hq
            refine lv_goto (tgt := 932) hx hb d_LW_law_165 (by decide) ?_
            refine lv_iinc (v := z5 + 5) (lv' := [(5, .int (z5 + 5)), (7, .int x123), (6, .int x121), (0, .ref b), (1, .ref z1), (2, .ref z2), (3, .ref z3), (4, .ref z4)]) hx hb d_LW_law_932 hl (k := 7) rfl rfl (by decide) rfl (fun ls hl => ?_)
            refine lv_goto (tgt := 28) hx hb d_LW_law_935 (by decide) ?_
            exact ih z1 z2 z3 z4 (z5 + 5) (bc - c118) (bs - s119) (uc + c118) (us + s119) _ _ _ _ hq hP hS (by omega) (by omega) (show lv_has ls 9 [(0, .ref b), (1, .ref z1), (2, .ref z2), (3, .ref z3), (4, .ref z4), (5, .int (z5 + 5))] from lv_sub hl [3, 4, 5, 6, 7, 0] rfl) kk
          · have hq := fs_wifp c_127 hq
            refine lv_aload_n hx hb d_LW_law_153 rfl (lv_at hl 5 rfl) ?_
            refine lv_iconst (v := 0) hx hb d_LW_law_154 (by decide) ?_
            obtain ⟨n_, f_, x128, e_, hi_, ex_, hq⟩ := fs_al_some hq
            refine fs_lald hx hb hK hP 1 e_ rfl hi_ d_LW_law_155 ?_
            rw [← ex_]
            refine lv_iload hx hb d_LW_law_156 (lv_at hl 0 rfl) ?_
            refine lv_i2l hx hb d_LW_law_158 rfl ?_
            refine W.lcmp hx hb d_LW_law_159 ?_
            refine lv_if_eq (tgt := 165) hx hb d_LW_law_160 (by decide) (fun c_129 => ?_) (fun c_129 => ?_)
            · have hq := fs_wifp c_129 hq
              refine lv_goto (tgt := 932) hx hb d_LW_law_165 (by decide) ?_
              refine lv_iinc (v := z5 + 5) (lv' := [(5, .int (z5 + 5)), (7, .int x123), (6, .int x121), (0, .ref b), (1, .ref z1), (2, .ref z2), (3, .ref z3), (4, .ref z4)]) hx hb d_LW_law_932 hl (k := 7) rfl rfl (by decide) rfl (fun ls hl => ?_)
              refine lv_goto (tgt := 28) hx hb d_LW_law_935 (by decide) ?_
              exact ih z1 z2 z3 z4 (z5 + 5) (bc - c118) (bs - s119) (uc + c118) (us + s119) _ _ _ _ hq hP hS (by omega) (by omega) (show lv_has ls 9 [(0, .ref b), (1, .ref z1), (2, .ref z2), (3, .ref z3), (4, .ref z4), (5, .int (z5 + 5))] from lv_sub hl [3, 4, 5, 6, 7, 0] rfl) kk
            · have hq := fs_wifn c_129 hq
              refine lv_iconst (v := 0) hx hb d_LW_law_163 (by decide) ?_
              exact fs_iret hx hb hr hlocks hw hP hS (by decide) (by omega) (by omega) hq d_LW_law_164
        · have hq := fs_wifn c_126 hq
          refine lv_iconst (v := 0) hx hb d_LW_law_146 (by decide) ?_
          exact fs_iret hx hb hr hlocks hw hP hS (by decide) (by omega) (by omega) hq d_LW_law_147
      · have hq := fs_wifn c_117 hq
        by_cases c_130 : ((xs (Int32.toNatClampNeg z5)) &&& (15 : Int32)) = 1
        · have hq := fs_wifp c_130 hq
          refine lv_tableIn (off := 124) (tgt := 168) hx hb d_LW_law_44 (by rw [c_130]; decide) (by rw [c_130]; decide) (by rw [c_130]; decide) (by decide) ?_
          refine lv_aload_n hx hb d_LW_law_168 rfl (lv_at hl 1 rfl) ?_
          refine lv_aload_n hx hb d_LW_law_169 rfl (lv_at hl 0 rfl) ?_
          refine lv_iload hx hb d_LW_law_170 (lv_at hl 5 rfl) ?_
          refine lv_iconst (v := 1) hx hb d_LW_law_172 (by decide) ?_
          refine lv_iadd hx hb d_LW_law_173 ?_
          obtain ⟨hi_, hq⟩ := hq
          refine fs_xia hx hb hself hw hS hi_ d_LW_law_174 ?_
          refine lv_aload_n hx hb d_LW_law_175 rfl (lv_at hl 0 rfl) ?_
          refine lv_iload hx hb d_LW_law_176 (lv_at hl 5 rfl) ?_
          refine lv_iconst (v := 2) hx hb d_LW_law_178 (by decide) ?_
          refine lv_iadd hx hb d_LW_law_179 ?_
          obtain ⟨hi_, hq⟩ := hq
          refine fs_xia hx hb hself hw hS hi_ d_LW_law_180 ?_
          refine lv_aload_n hx hb d_LW_law_181 rfl (lv_at hl 3 rfl) ?_
          obtain ⟨c131, s132, hc_, hs_, hq⟩ := hq
          refine fs_cSW B hl.1 hP hS (kw_LW_enter hE hq) (fs_tb_at 580 tw_580 rfl) (fs_tb_at 581 tw_581 rfl) (fs_tb_at 87 tw_87 rfl) (fs_tb_at 582 tw_582 rfl) (by decide) (show (parseMethodDescriptor y_LW_enter.desc).map (fun d => d.parameters.length) = some 4 by decide +kernel) rfl d_LW_law_182 (fs_rm (k := 0) (by omega) (by omega) (by omega) (by omega) rfl) (fun v_ h133 H locs hq hP hS => ?_) (fun C_ a_ h_ H locs hq hP hS hX => fs_out (hout _) hlocks hw hP hS hX (show (uc + c131) ≤ mc by omega) (show (us + s132) ≤ ms by omega) hq)
          refine fs_cs (k := (uc + c131)) (n := (us + s132)) rfl rfl ?_
          replace hq := fs_ki_some hq
          obtain ⟨x134, rfl, hq⟩ := hq
          refine W.eq (g2 := F0 m 185 ls (.int x134 :: [])) rfl ?_
          refine lv_istore (lv' := [(6, .int x134), (0, .ref b), (1, .ref z1), (2, .ref z2), (3, .ref z3), (4, .ref z4), (5, .int z5)]) hx hb d_LW_law_185 hl (by decide) rfl (fun ls hl => ?_)
          refine lv_aload_n hx hb d_LW_law_187 rfl (lv_at hl 3 rfl) ?_
          refine lv_aload_n hx hb d_LW_law_188 rfl (lv_at hl 1 rfl) ?_
          refine lv_iload hx hb d_LW_law_189 (lv_at hl 6 rfl) ?_
          refine lv_iconst (v := 1) hx hb d_LW_law_191 (by decide) ?_
          refine lv_iadd hx hb d_LW_law_192 ?_
          obtain ⟨hi_, hq⟩ := hq
          refine fs_xia hx hb hself hw hS hi_ d_LW_law_193 ?_
          refine lv_aload_n hx hb d_LW_law_194 rfl (lv_at hl 1 rfl) ?_
          refine lv_iload hx hb d_LW_law_195 (lv_at hl 6 rfl) ?_
          refine lv_iconst (v := 2) hx hb d_LW_law_197 (by decide) ?_
          refine lv_iadd hx hb d_LW_law_198 ?_
          obtain ⟨hi_, hq⟩ := hq
          refine fs_xia hx hb hself hw hS hi_ d_LW_law_199 ?_
          obtain ⟨hi_, hq⟩ := hq
          obtain ⟨fs_, he_⟩ := fs_isc_some hi_
          refine fs_cV B hl.1 hP hS (kw_MO_enter hE hq) (fs_tb_at 1578 tw_1578 rfl) he_ rfl (fs_tb_at 1579 tw_1579 rfl) (fs_tb_at 1580 tw_1580 rfl) (fs_tb_at 96 tw_96 rfl) (fs_tb_at 1581 tw_1581 rfl) (by decide) (show (parseMethodDescriptor y_MO_enter.desc).map (fun d => d.parameters.length) = some 2 by decide +kernel) rfl d_LW_law_200 (fs_rm (k := 0) (by omega) (by omega) (by omega) (by omega) rfl) (fun v_ h135 H locs hq hP hS => ?_) (fun C_ a_ h_ H locs hq hP hS hX => fs_out (hout _) hlocks hw hP hS hX (show (uc + c131) ≤ mc by omega) (show (us + s132) ≤ ms by omega) hq)
          refine fs_cs (k := (uc + c131)) (n := (us + s132)) rfl rfl ?_
          replace hq := fs_ki_some hq
          obtain ⟨x136, rfl, hq⟩ := hq
          refine W.eq (g2 := F0 m 203 ls (.int x136 :: [])) rfl ?_
          refine lv_istore (lv' := [(7, .int x136), (6, .int x134), (0, .ref b), (1, .ref z1), (2, .ref z2), (3, .ref z3), (4, .ref z4), (5, .int z5)]) hx hb d_LW_law_203 hl (by decide) rfl (fun ls hl => ?_)
          refine lv_aload_n hx hb d_LW_law_205 rfl (lv_at hl 4 rfl) ?_
          obtain ⟨hi_, hq⟩ := hq
          obtain ⟨fs_, he_⟩ := fs_isc_some hi_
          refine fs_cV B hl.1 hP hS (kw_MO_thrown hE hq) (fs_tb_at 1566 tw_1566 rfl) he_ rfl (fs_tb_at 1567 tw_1567 rfl) (fs_tb_at 1568 tw_1568 rfl) (fs_tb_at 96 tw_96 rfl) (fs_tb_at 1569 tw_1569 rfl) (by decide) (show (parseMethodDescriptor y_MO_thrown.desc).map (fun d => d.parameters.length) = some 0 by decide +kernel) rfl d_LW_law_206 (fs_rm (k := 0) (by omega) (by omega) (by omega) (by omega) rfl) (fun v_ h137 H locs hq hP hS => ?_) (fun C_ a_ h_ H locs hq hP hS hX => fs_out (hout _) hlocks hw hP hS hX (show (uc + c131) ≤ mc by omega) (show (us + s132) ≤ ms by omega) hq)
          refine fs_cs (k := (uc + c131)) (n := (us + s132)) rfl rfl ?_
          replace hq := fs_ki_some hq
          obtain ⟨x138, rfl, hq⟩ := hq
          refine W.eq (g2 := F0 m 209 ls (.int x138 :: [])) rfl ?_
          refine lv_iload hx hb d_LW_law_209 (lv_at hl 1 rfl) ?_
          refine lv_icmp_eq (tgt := 216) hx hb d_LW_law_211 (by decide) (fun c_139 => ?_) (fun c_139 => ?_)
          · have hq := fs_wifp c_139 hq
            refine lv_iload hx hb d_LW_law_216 (lv_at hl 1 rfl) ?_
            refine lv_if_ne (tgt := 233) hx hb d_LW_law_218 (by decide) (fun c_140 => ?_) (fun c_140 => ?_)
            · have hq := fs_wifn c_140 hq
              refine lv_goto (tgt := 932) hx hb d_LW_law_233 (by decide) ?_
              refine lv_iinc (v := z5 + 5) (lv' := [(5, .int (z5 + 5)), (7, .int x136), (6, .int x134), (0, .ref b), (1, .ref z1), (2, .ref z2), (3, .ref z3), (4, .ref z4)]) hx hb d_LW_law_932 hl (k := 7) rfl rfl (by decide) rfl (fun ls hl => ?_)
              refine lv_goto (tgt := 28) hx hb d_LW_law_935 (by decide) ?_
              exact ih z1 z2 z3 z4 (z5 + 5) (bc - c131) (bs - s132) (uc + c131) (us + s132) _ _ _ _ hq hP hS (by omega) (by omega) (show lv_has ls 9 [(0, .ref b), (1, .ref z1), (2, .ref z2), (3, .ref z3), (4, .ref z4), (5, .int (z5 + 5))] from lv_sub hl [3, 4, 5, 6, 7, 0] rfl) kk
            · have hq := fs_wifp c_140 hq
              refine lv_aload_n hx hb d_LW_law_221 rfl (lv_at hl 5 rfl) ?_
              refine lv_iconst (v := 0) hx hb d_LW_law_222 (by decide) ?_
              obtain ⟨n_, f_, x141, e_, hi_, ex_, hq⟩ := fs_al_some hq
              refine fs_lald hx hb hK hP 1 e_ rfl hi_ d_LW_law_223 ?_
              rw [← ex_]
              refine lv_iload hx hb d_LW_law_224 (lv_at hl 0 rfl) ?_
              refine lv_i2l hx hb d_LW_law_226 rfl ?_
              refine W.lcmp hx hb d_LW_law_227 ?_
              refine lv_if_eq (tgt := 233) hx hb d_LW_law_228 (by decide) (fun c_142 => ?_) (fun c_142 => ?_)
              · have hq := fs_wifp c_142 hq
                refine lv_goto (tgt := 932) hx hb d_LW_law_233 (by decide) ?_
                refine lv_iinc (v := z5 + 5) (lv' := [(5, .int (z5 + 5)), (7, .int x136), (6, .int x134), (0, .ref b), (1, .ref z1), (2, .ref z2), (3, .ref z3), (4, .ref z4)]) hx hb d_LW_law_932 hl (k := 7) rfl rfl (by decide) rfl (fun ls hl => ?_)
                refine lv_goto (tgt := 28) hx hb d_LW_law_935 (by decide) ?_
                exact ih z1 z2 z3 z4 (z5 + 5) (bc - c131) (bs - s132) (uc + c131) (us + s132) _ _ _ _ hq hP hS (by omega) (by omega) (show lv_has ls 9 [(0, .ref b), (1, .ref z1), (2, .ref z2), (3, .ref z3), (4, .ref z4), (5, .int (z5 + 5))] from lv_sub hl [3, 4, 5, 6, 7, 0] rfl) kk
              · have hq := fs_wifn c_142 hq
                refine lv_iconst (v := 0) hx hb d_LW_law_231 (by decide) ?_
                exact fs_iret hx hb hr hlocks hw hP hS (by decide) (by omega) (by omega) hq d_LW_law_232
          · have hq := fs_wifn c_139 hq
            refine lv_iconst (v := 0) hx hb d_LW_law_214 (by decide) ?_
            exact fs_iret hx hb hr hlocks hw hP hS (by decide) (by omega) (by omega) hq d_LW_law_215
        · have hq := fs_wifn c_130 hq
          by_cases c_143 : ((xs (Int32.toNatClampNeg z5)) &&& (15 : Int32)) = 2
          · have hq := fs_wifp c_143 hq
            refine lv_tableIn (off := 192) (tgt := 236) hx hb d_LW_law_44 (by rw [c_143]; decide) (by rw [c_143]; decide) (by rw [c_143]; decide) (by decide) ?_
            refine lv_aload_n hx hb d_LW_law_236 rfl (lv_at hl 1 rfl) ?_
            obtain ⟨hi_, hq⟩ := hq
            obtain ⟨fs_, he_⟩ := fs_isc_some hi_
            refine fs_cV B hl.1 hP hS (kw_SH_errorAt hE hq) (fs_tb_at 257 tw_257 rfl) he_ rfl (fs_tb_at 258 tw_258 rfl) (fs_tb_at 259 tw_259 rfl) (fs_tb_at 88 tw_88 rfl) (fs_tb_at 260 tw_260 rfl) (by decide) (show (parseMethodDescriptor y_SH_errorAt.desc).map (fun d => d.parameters.length) = some 0 by decide +kernel) rfl d_LW_law_237 (fs_rm (k := 0) (by omega) (by omega) (by omega) (by omega) rfl) (fun v_ h144 H locs hq hP hS => ?_) (fun C_ a_ h_ H locs hq hP hS hX => fs_out (hout _) hlocks hw hP hS hX (show uc ≤ mc by omega) (show us ≤ ms by omega) hq)
            refine fs_cs (k := uc) (n := us) rfl rfl ?_
            replace hq := fs_ki_some hq
            obtain ⟨x145, rfl, hq⟩ := hq
            refine W.eq (g2 := F0 m 240 ls (.int x145 :: [])) rfl ?_
            refine lv_aload_n hx hb d_LW_law_240 rfl (lv_at hl 2 rfl) ?_
            obtain ⟨hi_, hq⟩ := hq
            obtain ⟨fs_, he_⟩ := fs_isc_some hi_
            refine fs_cV B hl.1 hP hS (kw_MO_errorAt hE hq) (fs_tb_at 1739 tw_1739 rfl) he_ rfl (fs_tb_at 1740 tw_1740 rfl) (fs_tb_at 1741 tw_1741 rfl) (fs_tb_at 96 tw_96 rfl) (fs_tb_at 1742 tw_1742 rfl) (by decide) (show (parseMethodDescriptor y_MO_errorAt.desc).map (fun d => d.parameters.length) = some 0 by decide +kernel) rfl d_LW_law_241 (fs_rm (k := 1) (by omega) (by omega) (by omega) (by omega) rfl) (fun v_ h146 H locs hq hP hS => ?_) (fun C_ a_ h_ H locs hq hP hS hX => fs_out (hout _) hlocks hw hP hS hX (show uc ≤ mc by omega) (show us ≤ ms by omega) hq)
            refine fs_cs (k := uc) (n := us) rfl rfl ?_
            replace hq := fs_ki_some hq
            obtain ⟨x147, rfl, hq⟩ := hq
            refine W.eq (g2 := F0 m 244 ls (.int x147 :: .int x145 :: [])) rfl ?_
            refine lv_icmp_eq (tgt := 932) hx hb d_LW_law_244 (by decide) (fun c_148 => ?_) (fun c_148 => ?_)
            · have hq := fs_wifp c_148 hq
              refine lv_iinc (v := z5 + 5) (lv' := [(5, .int (z5 + 5)), (0, .ref b), (1, .ref z1), (2, .ref z2), (3, .ref z3), (4, .ref z4)]) hx hb d_LW_law_932 hl (k := 5) rfl rfl (by decide) rfl (fun ls hl => ?_)
              refine lv_goto (tgt := 28) hx hb d_LW_law_935 (by decide) ?_
              exact ih z1 z2 z3 z4 (z5 + 5) bc bs uc us _ _ _ _ hq hP hS (by omega) (by omega) (show lv_has ls 9 [(0, .ref b), (1, .ref z1), (2, .ref z2), (3, .ref z3), (4, .ref z4), (5, .int (z5 + 5))] from lv_sub hl [1, 2, 3, 4, 5, 0] rfl) kk
            · have hq := fs_wifn c_148 hq
              refine lv_iconst (v := 0) hx hb d_LW_law_247 (by decide) ?_
              exact fs_iret hx hb hr hlocks hw hP hS (by decide) (by omega) (by omega) hq d_LW_law_248
          · have hq := fs_wifn c_143 hq
            by_cases c_149 : ((xs (Int32.toNatClampNeg z5)) &&& (15 : Int32)) = 3
            · have hq := fs_wifp c_149 hq
              refine lv_tableIn (off := 205) (tgt := 249) hx hb d_LW_law_44 (by rw [c_149]; decide) (by rw [c_149]; decide) (by rw [c_149]; decide) (by decide) ?_
              refine lv_aload_n hx hb d_LW_law_249 rfl (lv_at hl 1 rfl) ?_
              refine lv_aload_n hx hb d_LW_law_250 rfl (lv_at hl 0 rfl) ?_
              refine lv_iload hx hb d_LW_law_251 (lv_at hl 5 rfl) ?_
              refine lv_iconst (v := 1) hx hb d_LW_law_253 (by decide) ?_
              refine lv_iadd hx hb d_LW_law_254 ?_
              obtain ⟨hi_, hq⟩ := hq
              refine fs_xia hx hb hself hw hS hi_ d_LW_law_255 ?_
              refine lv_aload_n hx hb d_LW_law_256 rfl (lv_at hl 0 rfl) ?_
              refine lv_iload hx hb d_LW_law_257 (lv_at hl 5 rfl) ?_
              refine lv_iconst (v := 2) hx hb d_LW_law_259 (by decide) ?_
              refine lv_iadd hx hb d_LW_law_260 ?_
              obtain ⟨hi_, hq⟩ := hq
              refine fs_xia hx hb hself hw hS hi_ d_LW_law_261 ?_
              refine lv_aload_n hx hb d_LW_law_262 rfl (lv_at hl 0 rfl) ?_
              refine lv_iload hx hb d_LW_law_263 (lv_at hl 5 rfl) ?_
              refine lv_iconst (v := 3) hx hb d_LW_law_265 (by decide) ?_
              refine lv_iadd hx hb d_LW_law_266 ?_
              obtain ⟨hi_, hq⟩ := hq
              refine fs_xia hx hb hself hw hS hi_ d_LW_law_267 ?_
              refine lv_i2d hx hb d_LW_law_268 ?_
              refine lv_ldc2d (v := 4593671619917905920) hx hb hown (hts _ (fs_tb_at 1860 tw_1860 rfl)) d_LW_law_269 ?_
              obtain ⟨hk_, hq⟩ := hq
              refine lv_dmul hx hb d_LW_law_272 hk_ ?_
              obtain ⟨c150, s151, hc_, hs_, hq⟩ := hq
              refine fs_cSW B hl.1 hP hS (kw_LW_put hE hq) (fs_tb_at 869 tw_869 rfl) (fs_tb_at 870 tw_870 rfl) (fs_tb_at 87 tw_87 rfl) (fs_tb_at 871 tw_871 rfl) (by decide) (show (parseMethodDescriptor y_LW_put.desc).map (fun d => d.parameters.length) = some 4 by decide +kernel) rfl d_LW_law_273 (fs_rm (k := 0) (by omega) (by omega) (by omega) (by omega) rfl) (fun v_ h152 H locs hq hP hS => ?_) (fun C_ a_ h_ H locs hq hP hS hX => fs_out (hout _) hlocks hw hP hS hX (show (uc + c150) ≤ mc by omega) (show (us + s151) ≤ ms by omega) hq)
              refine fs_cs (k := (uc + c150)) (n := (us + s151)) rfl rfl ?_
              replace hq := fs_ki_some hq
              obtain ⟨x153, rfl, hq⟩ := hq
              refine W.eq (g2 := F0 m 276 ls (.int x153 :: [])) rfl ?_
              refine lv_istore (lv' := [(6, .int x153), (0, .ref b), (1, .ref z1), (2, .ref z2), (3, .ref z3), (4, .ref z4), (5, .int z5)]) hx hb d_LW_law_276 hl (by decide) rfl (fun ls hl => ?_)
              refine lv_aload_n hx hb d_LW_law_278 rfl (lv_at hl 3 rfl) ?_
              refine lv_aload_n hx hb d_LW_law_279 rfl (lv_at hl 1 rfl) ?_
              refine lv_iload hx hb d_LW_law_280 (lv_at hl 6 rfl) ?_
              refine lv_iconst (v := 1) hx hb d_LW_law_282 (by decide) ?_
              refine lv_iadd hx hb d_LW_law_283 ?_
              obtain ⟨hi_, hq⟩ := hq
              refine fs_xia hx hb hself hw hS hi_ d_LW_law_284 ?_
              refine lv_aload_n hx hb d_LW_law_285 rfl (lv_at hl 1 rfl) ?_
              refine lv_iload hx hb d_LW_law_286 (lv_at hl 6 rfl) ?_
              refine lv_iconst (v := 2) hx hb d_LW_law_288 (by decide) ?_
              refine lv_iadd hx hb d_LW_law_289 ?_
              obtain ⟨hi_, hq⟩ := hq
              refine fs_xia hx hb hself hw hS hi_ d_LW_law_290 ?_
              refine lv_aload_n hx hb d_LW_law_291 rfl (lv_at hl 1 rfl) ?_
              refine lv_iload hx hb d_LW_law_292 (lv_at hl 6 rfl) ?_
              refine lv_iconst (v := 3) hx hb d_LW_law_294 (by decide) ?_
              refine lv_iadd hx hb d_LW_law_295 ?_
              obtain ⟨hi_, hq⟩ := hq
              refine fs_xia hx hb hself hw hS hi_ d_LW_law_296 ?_
              refine lv_i2d hx hb d_LW_law_297 ?_
              refine lv_ldc2d (v := 4593671619917905920) hx hb hown (hts _ (fs_tb_at 1860 tw_1860 rfl)) d_LW_law_298 ?_
              obtain ⟨hk_, hq⟩ := hq
              refine lv_dmul hx hb d_LW_law_301 hk_ ?_
              obtain ⟨hi_, hq⟩ := hq
              obtain ⟨fs_, he_⟩ := fs_isc_some hi_
              refine fs_cV B hl.1 hP hS (kw_MO_put hE hq) (fs_tb_at 1743 tw_1743 rfl) he_ rfl (fs_tb_at 1744 tw_1744 rfl) (fs_tb_at 1745 tw_1745 rfl) (fs_tb_at 96 tw_96 rfl) (fs_tb_at 1746 tw_1746 rfl) (by decide) (show (parseMethodDescriptor y_MO_put.desc).map (fun d => d.parameters.length) = some 3 by decide +kernel) rfl d_LW_law_302 (fs_rm (k := 0) (by omega) (by omega) (by omega) (by omega) rfl) (fun v_ h154 H locs hq hP hS => ?_) (fun C_ a_ h_ H locs hq hP hS hX => fs_out (hout _) hlocks hw hP hS hX (show (uc + c150) ≤ mc by omega) (show (us + s151) ≤ ms by omega) hq)
              refine fs_cs (k := (uc + c150)) (n := (us + s151)) rfl rfl ?_
              replace hq := fs_kv_some hq
              obtain ⟨rfl, hq⟩ := hq
              refine W.eq (g2 := F0 m 305 ls ([])) rfl ?_
              refine lv_aload_n hx hb d_LW_law_305 rfl (lv_at hl 3 rfl) ?_
              obtain ⟨hi_, hq⟩ := hq
              obtain ⟨fs_, he_⟩ := fs_isc_some hi_
              refine fs_cV B hl.1 hP hS (kw_MO_thrown hE hq) (fs_tb_at 1566 tw_1566 rfl) he_ rfl (fs_tb_at 1567 tw_1567 rfl) (fs_tb_at 1568 tw_1568 rfl) (fs_tb_at 96 tw_96 rfl) (fs_tb_at 1569 tw_1569 rfl) (by decide) (show (parseMethodDescriptor y_MO_thrown.desc).map (fun d => d.parameters.length) = some 0 by decide +kernel) rfl d_LW_law_306 (fs_rm (k := 0) (by omega) (by omega) (by omega) (by omega) rfl) (fun v_ h155 H locs hq hP hS => ?_) (fun C_ a_ h_ H locs hq hP hS hX => fs_out (hout _) hlocks hw hP hS hX (show (uc + c150) ≤ mc by omega) (show (us + s151) ≤ ms by omega) hq)
              refine fs_cs (k := (uc + c150)) (n := (us + s151)) rfl rfl ?_
              replace hq := fs_ki_some hq
              obtain ⟨x156, rfl, hq⟩ := hq
              refine W.eq (g2 := F0 m 309 ls (.int x156 :: [])) rfl ?_
              refine lv_iload hx hb d_LW_law_309 (lv_at hl 0 rfl) ?_
              refine lv_icmp_eq (tgt := 316) hx hb d_LW_law_311 (by decide) (fun c_157 => ?_) (fun c_157 => ?_)
              · have hq := fs_wifp c_157 hq
                refine lv_goto (tgt := 932) hx hb d_LW_law_316 (by decide) ?_
                refine lv_iinc (v := z5 + 5) (lv' := [(5, .int (z5 + 5)), (6, .int x153), (0, .ref b), (1, .ref z1), (2, .ref z2), (3, .ref z3), (4, .ref z4)]) hx hb d_LW_law_932 hl (k := 6) rfl rfl (by decide) rfl (fun ls hl => ?_)
                refine lv_goto (tgt := 28) hx hb d_LW_law_935 (by decide) ?_
                exact ih z1 z2 z3 z4 (z5 + 5) (bc - c150) (bs - s151) (uc + c150) (us + s151) _ _ _ _ hq hP hS (by omega) (by omega) (show lv_has ls 9 [(0, .ref b), (1, .ref z1), (2, .ref z2), (3, .ref z3), (4, .ref z4), (5, .int (z5 + 5))] from lv_sub hl [2, 3, 4, 5, 6, 0] rfl) kk
              · have hq := fs_wifn c_157 hq
                refine lv_iconst (v := 0) hx hb d_LW_law_314 (by decide) ?_
                exact fs_iret hx hb hr hlocks hw hP hS (by decide) (by omega) (by omega) hq d_LW_law_315
            · have hq := fs_wifn c_149 hq
              by_cases c_158 : ((xs (Int32.toNatClampNeg z5)) &&& (15 : Int32)) = 4
              · have hq := fs_wifp c_158 hq
                refine lv_tableIn (off := 275) (tgt := 319) hx hb d_LW_law_44 (by rw [c_158]; decide) (by rw [c_158]; decide) (by rw [c_158]; decide) (by decide) ?_
                refine lv_aload_n hx hb d_LW_law_319 rfl (lv_at hl 1 rfl) ?_
                refine lv_aload_n hx hb d_LW_law_320 rfl (lv_at hl 0 rfl) ?_
                refine lv_iload hx hb d_LW_law_321 (lv_at hl 5 rfl) ?_
                refine lv_iconst (v := 1) hx hb d_LW_law_323 (by decide) ?_
                refine lv_iadd hx hb d_LW_law_324 ?_
                obtain ⟨hi_, hq⟩ := hq
                refine fs_xia hx hb hself hw hS hi_ d_LW_law_325 ?_
                refine lv_aload_n hx hb d_LW_law_326 rfl (lv_at hl 0 rfl) ?_
                refine lv_iload hx hb d_LW_law_327 (lv_at hl 5 rfl) ?_
                refine lv_iconst (v := 2) hx hb d_LW_law_329 (by decide) ?_
                refine lv_iadd hx hb d_LW_law_330 ?_
                obtain ⟨hi_, hq⟩ := hq
                refine fs_xia hx hb hself hw hS hi_ d_LW_law_331 ?_
                obtain ⟨c159, s160, hc_, hs_, hq⟩ := hq
                refine fs_cSW B hl.1 hP hS (kw_LW_erase hE hq) (fs_tb_at 880 tw_880 rfl) (fs_tb_at 881 tw_881 rfl) (fs_tb_at 87 tw_87 rfl) (fs_tb_at 882 tw_882 rfl) (by decide) (show (parseMethodDescriptor y_LW_erase.desc).map (fun d => d.parameters.length) = some 3 by decide +kernel) rfl d_LW_law_332 (fs_rm (k := 0) (by omega) (by omega) (by omega) (by omega) rfl) (fun v_ h161 H locs hq hP hS => ?_) (fun C_ a_ h_ H locs hq hP hS hX => fs_out (hout _) hlocks hw hP hS hX (show (uc + c159) ≤ mc by omega) (show (us + s160) ≤ ms by omega) hq)
                refine fs_cs (k := (uc + c159)) (n := (us + s160)) rfl rfl ?_
                replace hq := fs_ki_some hq
                obtain ⟨x162, rfl, hq⟩ := hq
                refine W.eq (g2 := F0 m 335 ls (.int x162 :: [])) rfl ?_
                refine lv_istore (lv' := [(6, .int x162), (0, .ref b), (1, .ref z1), (2, .ref z2), (3, .ref z3), (4, .ref z4), (5, .int z5)]) hx hb d_LW_law_335 hl (by decide) rfl (fun ls hl => ?_)
                refine lv_aload_n hx hb d_LW_law_337 rfl (lv_at hl 3 rfl) ?_
                refine lv_aload_n hx hb d_LW_law_338 rfl (lv_at hl 1 rfl) ?_
                refine lv_iload hx hb d_LW_law_339 (lv_at hl 6 rfl) ?_
                refine lv_iconst (v := 1) hx hb d_LW_law_341 (by decide) ?_
                refine lv_iadd hx hb d_LW_law_342 ?_
                obtain ⟨hi_, hq⟩ := hq
                refine fs_xia hx hb hself hw hS hi_ d_LW_law_343 ?_
                refine lv_aload_n hx hb d_LW_law_344 rfl (lv_at hl 1 rfl) ?_
                refine lv_iload hx hb d_LW_law_345 (lv_at hl 6 rfl) ?_
                refine lv_iconst (v := 2) hx hb d_LW_law_347 (by decide) ?_
                refine lv_iadd hx hb d_LW_law_348 ?_
                obtain ⟨hi_, hq⟩ := hq
                refine fs_xia hx hb hself hw hS hi_ d_LW_law_349 ?_
                obtain ⟨hi_, hq⟩ := hq
                obtain ⟨fs_, he_⟩ := fs_isc_some hi_
                refine fs_cV B hl.1 hP hS (kw_MO_erase hE hq) (fs_tb_at 1747 tw_1747 rfl) he_ rfl (fs_tb_at 1748 tw_1748 rfl) (fs_tb_at 1749 tw_1749 rfl) (fs_tb_at 96 tw_96 rfl) (fs_tb_at 1750 tw_1750 rfl) (by decide) (show (parseMethodDescriptor y_MO_erase.desc).map (fun d => d.parameters.length) = some 2 by decide +kernel) rfl d_LW_law_350 (fs_rm (k := 0) (by omega) (by omega) (by omega) (by omega) rfl) (fun v_ h163 H locs hq hP hS => ?_) (fun C_ a_ h_ H locs hq hP hS hX => fs_out (hout _) hlocks hw hP hS hX (show (uc + c159) ≤ mc by omega) (show (us + s160) ≤ ms by omega) hq)
                refine fs_cs (k := (uc + c159)) (n := (us + s160)) rfl rfl ?_
                replace hq := fs_kv_some hq
                obtain ⟨rfl, hq⟩ := hq
                refine W.eq (g2 := F0 m 353 ls ([])) rfl ?_
                refine lv_aload_n hx hb d_LW_law_353 rfl (lv_at hl 3 rfl) ?_
                obtain ⟨hi_, hq⟩ := hq
                obtain ⟨fs_, he_⟩ := fs_isc_some hi_
                refine fs_cV B hl.1 hP hS (kw_MO_thrown hE hq) (fs_tb_at 1566 tw_1566 rfl) he_ rfl (fs_tb_at 1567 tw_1567 rfl) (fs_tb_at 1568 tw_1568 rfl) (fs_tb_at 96 tw_96 rfl) (fs_tb_at 1569 tw_1569 rfl) (by decide) (show (parseMethodDescriptor y_MO_thrown.desc).map (fun d => d.parameters.length) = some 0 by decide +kernel) rfl d_LW_law_354 (fs_rm (k := 0) (by omega) (by omega) (by omega) (by omega) rfl) (fun v_ h164 H locs hq hP hS => ?_) (fun C_ a_ h_ H locs hq hP hS hX => fs_out (hout _) hlocks hw hP hS hX (show (uc + c159) ≤ mc by omega) (show (us + s160) ≤ ms by omega) hq)
                refine fs_cs (k := (uc + c159)) (n := (us + s160)) rfl rfl ?_
                replace hq := fs_ki_some hq
                obtain ⟨x165, rfl, hq⟩ := hq
                refine W.eq (g2 := F0 m 357 ls (.int x165 :: [])) rfl ?_
                refine lv_iload hx hb d_LW_law_357 (lv_at hl 0 rfl) ?_
                refine lv_icmp_eq (tgt := 364) hx hb d_LW_law_359 (by decide) (fun c_166 => ?_) (fun c_166 => ?_)
                · have hq := fs_wifp c_166 hq
                  refine lv_goto (tgt := 932) hx hb d_LW_law_364 (by decide) ?_
                  refine lv_iinc (v := z5 + 5) (lv' := [(5, .int (z5 + 5)), (6, .int x162), (0, .ref b), (1, .ref z1), (2, .ref z2), (3, .ref z3), (4, .ref z4)]) hx hb d_LW_law_932 hl (k := 6) rfl rfl (by decide) rfl (fun ls hl => ?_)
                  refine lv_goto (tgt := 28) hx hb d_LW_law_935 (by decide) ?_
                  exact ih z1 z2 z3 z4 (z5 + 5) (bc - c159) (bs - s160) (uc + c159) (us + s160) _ _ _ _ hq hP hS (by omega) (by omega) (show lv_has ls 9 [(0, .ref b), (1, .ref z1), (2, .ref z2), (3, .ref z3), (4, .ref z4), (5, .int (z5 + 5))] from lv_sub hl [2, 3, 4, 5, 6, 0] rfl) kk
                · have hq := fs_wifn c_166 hq
                  refine lv_iconst (v := 0) hx hb d_LW_law_362 (by decide) ?_
                  exact fs_iret hx hb hr hlocks hw hP hS (by decide) (by omega) (by omega) hq d_LW_law_363
              · have hq := fs_wifn c_158 hq
                by_cases c_167 : ((xs (Int32.toNatClampNeg z5)) &&& (15 : Int32)) = 5
                · have hq := fs_wifp c_167 hq
                  refine lv_tableIn (off := 323) (tgt := 367) hx hb d_LW_law_44 (by rw [c_167]; decide) (by rw [c_167]; decide) (by rw [c_167]; decide) (by decide) ?_
                  refine lv_aload_n hx hb d_LW_law_367 rfl (lv_at hl 1 rfl) ?_
                  refine lv_aload_n hx hb d_LW_law_368 rfl (lv_at hl 0 rfl) ?_
                  refine lv_iload hx hb d_LW_law_369 (lv_at hl 5 rfl) ?_
                  refine lv_iconst (v := 1) hx hb d_LW_law_371 (by decide) ?_
                  refine lv_iadd hx hb d_LW_law_372 ?_
                  obtain ⟨hi_, hq⟩ := hq
                  refine fs_xia hx hb hself hw hS hi_ d_LW_law_373 ?_
                  refine lv_aload_n hx hb d_LW_law_374 rfl (lv_at hl 0 rfl) ?_
                  refine lv_iload hx hb d_LW_law_375 (lv_at hl 5 rfl) ?_
                  refine lv_iconst (v := 2) hx hb d_LW_law_377 (by decide) ?_
                  refine lv_iadd hx hb d_LW_law_378 ?_
                  obtain ⟨hi_, hq⟩ := hq
                  refine fs_xia hx hb hself hw hS hi_ d_LW_law_379 ?_
                  refine lv_aload_n hx hb d_LW_law_380 rfl (lv_at hl 0 rfl) ?_
                  refine lv_iload hx hb d_LW_law_381 (lv_at hl 5 rfl) ?_
                  refine lv_iconst (v := 3) hx hb d_LW_law_383 (by decide) ?_
                  refine lv_iadd hx hb d_LW_law_384 ?_
                  obtain ⟨hi_, hq⟩ := hq
                  refine fs_xia hx hb hself hw hS hi_ d_LW_law_385 ?_
                  refine lv_aload_n hx hb d_LW_law_386 rfl (lv_at hl 0 rfl) ?_
                  refine lv_iload hx hb d_LW_law_387 (lv_at hl 5 rfl) ?_
                  refine lv_iconst (v := 4) hx hb d_LW_law_389 (by decide) ?_
                  refine lv_iadd hx hb d_LW_law_390 ?_
                  obtain ⟨hi_, hq⟩ := hq
                  refine fs_xia hx hb hself hw hS hi_ d_LW_law_391 ?_
                  refine lv_aload_n hx hb d_LW_law_392 rfl (lv_at hl 3 rfl) ?_
                  obtain ⟨c168, s169, hc_, hs_, hq⟩ := hq
                  refine fs_cSW B hl.1 hP hS (kw_LW_copy hE hq) (fs_tb_at 911 tw_911 rfl) (fs_tb_at 912 tw_912 rfl) (fs_tb_at 87 tw_87 rfl) (fs_tb_at 913 tw_913 rfl) (by decide) (show (parseMethodDescriptor y_LW_copy.desc).map (fun d => d.parameters.length) = some 6 by decide +kernel) rfl d_LW_law_393 (fs_rm (k := 0) (by omega) (by omega) (by omega) (by omega) rfl) (fun v_ h170 H locs hq hP hS => ?_) (fun C_ a_ h_ H locs hq hP hS hX => fs_out (hout _) hlocks hw hP hS hX (show (uc + c168) ≤ mc by omega) (show (us + s169) ≤ ms by omega) hq)
                  refine fs_cs (k := (uc + c168)) (n := (us + s169)) rfl rfl ?_
                  replace hq := fs_ki_some hq
                  obtain ⟨x171, rfl, hq⟩ := hq
                  refine W.eq (g2 := F0 m 396 ls (.int x171 :: [])) rfl ?_
                  refine lv_istore (lv' := [(6, .int x171), (0, .ref b), (1, .ref z1), (2, .ref z2), (3, .ref z3), (4, .ref z4), (5, .int z5)]) hx hb d_LW_law_396 hl (by decide) rfl (fun ls hl => ?_)
                  refine lv_aload_n hx hb d_LW_law_398 rfl (lv_at hl 3 rfl) ?_
                  refine lv_aload_n hx hb d_LW_law_399 rfl (lv_at hl 1 rfl) ?_
                  refine lv_iload hx hb d_LW_law_400 (lv_at hl 6 rfl) ?_
                  refine lv_iconst (v := 1) hx hb d_LW_law_402 (by decide) ?_
                  refine lv_iadd hx hb d_LW_law_403 ?_
                  obtain ⟨hi_, hq⟩ := hq
                  refine fs_xia hx hb hself hw hS hi_ d_LW_law_404 ?_
                  refine lv_aload_n hx hb d_LW_law_405 rfl (lv_at hl 1 rfl) ?_
                  refine lv_iload hx hb d_LW_law_406 (lv_at hl 6 rfl) ?_
                  refine lv_iconst (v := 2) hx hb d_LW_law_408 (by decide) ?_
                  refine lv_iadd hx hb d_LW_law_409 ?_
                  obtain ⟨hi_, hq⟩ := hq
                  refine fs_xia hx hb hself hw hS hi_ d_LW_law_410 ?_
                  refine lv_aload_n hx hb d_LW_law_411 rfl (lv_at hl 1 rfl) ?_
                  refine lv_iload hx hb d_LW_law_412 (lv_at hl 6 rfl) ?_
                  refine lv_iconst (v := 3) hx hb d_LW_law_414 (by decide) ?_
                  refine lv_iadd hx hb d_LW_law_415 ?_
                  obtain ⟨hi_, hq⟩ := hq
                  refine fs_xia hx hb hself hw hS hi_ d_LW_law_416 ?_
                  refine lv_aload_n hx hb d_LW_law_417 rfl (lv_at hl 1 rfl) ?_
                  refine lv_iload hx hb d_LW_law_418 (lv_at hl 6 rfl) ?_
                  refine lv_iconst (v := 4) hx hb d_LW_law_420 (by decide) ?_
                  refine lv_iadd hx hb d_LW_law_421 ?_
                  obtain ⟨hi_, hq⟩ := hq
                  refine fs_xia hx hb hself hw hS hi_ d_LW_law_422 ?_
                  obtain ⟨hi_, hq⟩ := hq
                  obtain ⟨fs_, he_⟩ := fs_isc_some hi_
                  refine fs_cV B hl.1 hP hS (kw_MO_copy hE hq) (fs_tb_at 1751 tw_1751 rfl) he_ rfl (fs_tb_at 1752 tw_1752 rfl) (fs_tb_at 1753 tw_1753 rfl) (fs_tb_at 96 tw_96 rfl) (fs_tb_at 1754 tw_1754 rfl) (by decide) (show (parseMethodDescriptor y_MO_copy.desc).map (fun d => d.parameters.length) = some 4 by decide +kernel) rfl d_LW_law_423 (fs_rm (k := 0) (by omega) (by omega) (by omega) (by omega) rfl) (fun v_ h172 H locs hq hP hS => ?_) (fun C_ a_ h_ H locs hq hP hS hX => fs_out (hout _) hlocks hw hP hS hX (show (uc + c168) ≤ mc by omega) (show (us + s169) ≤ ms by omega) hq)
                  refine fs_cs (k := (uc + c168)) (n := (us + s169)) rfl rfl ?_
                  replace hq := fs_ki_some hq
                  obtain ⟨x173, rfl, hq⟩ := hq
                  refine W.eq (g2 := F0 m 426 ls (.int x173 :: [])) rfl ?_
                  refine lv_istore (lv' := [(7, .int x173), (6, .int x171), (0, .ref b), (1, .ref z1), (2, .ref z2), (3, .ref z3), (4, .ref z4), (5, .int z5)]) hx hb d_LW_law_426 hl (by decide) rfl (fun ls hl => ?_)
                  refine lv_aload_n hx hb d_LW_law_428 rfl (lv_at hl 4 rfl) ?_
                  obtain ⟨hi_, hq⟩ := hq
                  obtain ⟨fs_, he_⟩ := fs_isc_some hi_
                  refine fs_cV B hl.1 hP hS (kw_MO_thrown hE hq) (fs_tb_at 1566 tw_1566 rfl) he_ rfl (fs_tb_at 1567 tw_1567 rfl) (fs_tb_at 1568 tw_1568 rfl) (fs_tb_at 96 tw_96 rfl) (fs_tb_at 1569 tw_1569 rfl) (by decide) (show (parseMethodDescriptor y_MO_thrown.desc).map (fun d => d.parameters.length) = some 0 by decide +kernel) rfl d_LW_law_429 (fs_rm (k := 0) (by omega) (by omega) (by omega) (by omega) rfl) (fun v_ h174 H locs hq hP hS => ?_) (fun C_ a_ h_ H locs hq hP hS hX => fs_out (hout _) hlocks hw hP hS hX (show (uc + c168) ≤ mc by omega) (show (us + s169) ≤ ms by omega) hq)
                  refine fs_cs (k := (uc + c168)) (n := (us + s169)) rfl rfl ?_
                  replace hq := fs_ki_some hq
                  obtain ⟨x175, rfl, hq⟩ := hq
                  refine W.eq (g2 := F0 m 432 ls (.int x175 :: [])) rfl ?_
                  refine lv_iload hx hb d_LW_law_432 (lv_at hl 1 rfl) ?_
                  refine lv_icmp_eq (tgt := 439) hx hb d_LW_law_434 (by decide) (fun c_176 => ?_) (fun c_176 => ?_)
                  · have hq := fs_wifp c_176 hq
                    refine lv_iload hx hb d_LW_law_439 (lv_at hl 1 rfl) ?_
                    refine lv_if_ne (tgt := 456) hx hb d_LW_law_441 (by decide) (fun c_177 => ?_) (fun c_177 => ?_)
                    · have hq := fs_wifn c_177 hq
                      refine lv_goto (tgt := 932) hx hb d_LW_law_456 (by decide) ?_
                      refine lv_iinc (v := z5 + 5) (lv' := [(5, .int (z5 + 5)), (7, .int x173), (6, .int x171), (0, .ref b), (1, .ref z1), (2, .ref z2), (3, .ref z3), (4, .ref z4)]) hx hb d_LW_law_932 hl (k := 7) rfl rfl (by decide) rfl (fun ls hl => ?_)
                      refine lv_goto (tgt := 28) hx hb d_LW_law_935 (by decide) ?_
                      exact ih z1 z2 z3 z4 (z5 + 5) (bc - c168) (bs - s169) (uc + c168) (us + s169) _ _ _ _ hq hP hS (by omega) (by omega) (show lv_has ls 9 [(0, .ref b), (1, .ref z1), (2, .ref z2), (3, .ref z3), (4, .ref z4), (5, .int (z5 + 5))] from lv_sub hl [3, 4, 5, 6, 7, 0] rfl) kk
                    · have hq := fs_wifp c_177 hq
                      refine lv_aload_n hx hb d_LW_law_444 rfl (lv_at hl 5 rfl) ?_
                      refine lv_iconst (v := 0) hx hb d_LW_law_445 (by decide) ?_
                      obtain ⟨n_, f_, x178, e_, hi_, ex_, hq⟩ := fs_al_some hq
                      refine fs_lald hx hb hK hP 1 e_ rfl hi_ d_LW_law_446 ?_
                      rw [← ex_]
                      refine lv_iload hx hb d_LW_law_447 (lv_at hl 0 rfl) ?_
                      refine lv_i2l hx hb d_LW_law_449 rfl ?_
                      refine W.lcmp hx hb d_LW_law_450 ?_
                      refine lv_if_eq (tgt := 456) hx hb d_LW_law_451 (by decide) (fun c_179 => ?_) (fun c_179 => ?_)
                      · have hq := fs_wifp c_179 hq
                        refine lv_goto (tgt := 932) hx hb d_LW_law_456 (by decide) ?_
                        refine lv_iinc (v := z5 + 5) (lv' := [(5, .int (z5 + 5)), (7, .int x173), (6, .int x171), (0, .ref b), (1, .ref z1), (2, .ref z2), (3, .ref z3), (4, .ref z4)]) hx hb d_LW_law_932 hl (k := 7) rfl rfl (by decide) rfl (fun ls hl => ?_)
                        refine lv_goto (tgt := 28) hx hb d_LW_law_935 (by decide) ?_
                        exact ih z1 z2 z3 z4 (z5 + 5) (bc - c168) (bs - s169) (uc + c168) (us + s169) _ _ _ _ hq hP hS (by omega) (by omega) (show lv_has ls 9 [(0, .ref b), (1, .ref z1), (2, .ref z2), (3, .ref z3), (4, .ref z4), (5, .int (z5 + 5))] from lv_sub hl [3, 4, 5, 6, 7, 0] rfl) kk
                      · have hq := fs_wifn c_179 hq
                        refine lv_iconst (v := 0) hx hb d_LW_law_454 (by decide) ?_
                        exact fs_iret hx hb hr hlocks hw hP hS (by decide) (by omega) (by omega) hq d_LW_law_455
                  · have hq := fs_wifn c_176 hq
                    refine lv_iconst (v := 0) hx hb d_LW_law_437 (by decide) ?_
                    exact fs_iret hx hb hr hlocks hw hP hS (by decide) (by omega) (by omega) hq d_LW_law_438
                · have hq := fs_wifn c_167 hq
                  by_cases c_180 : ((xs (Int32.toNatClampNeg z5)) &&& (15 : Int32)) = 6
                  · have hq := fs_wifp c_180 hq
                    refine lv_tableIn (off := 415) (tgt := 459) hx hb d_LW_law_44 (by rw [c_180]; decide) (by rw [c_180]; decide) (by rw [c_180]; decide) (by decide) ?_
                    refine lv_aload_n hx hb d_LW_law_459 rfl (lv_at hl 1 rfl) ?_
                    refine lv_aload_n hx hb d_LW_law_460 rfl (lv_at hl 0 rfl) ?_
                    refine lv_iload hx hb d_LW_law_461 (lv_at hl 5 rfl) ?_
                    refine lv_iconst (v := 1) hx hb d_LW_law_463 (by decide) ?_
                    refine lv_iadd hx hb d_LW_law_464 ?_
                    obtain ⟨hi_, hq⟩ := hq
                    refine fs_xia hx hb hself hw hS hi_ d_LW_law_465 ?_
                    refine lv_aload_n hx hb d_LW_law_466 rfl (lv_at hl 3 rfl) ?_
                    obtain ⟨c181, s182, hc_, hs_, hq⟩ := hq
                    refine fs_cSW B hl.1 hP hS (kw_LW_insert hE hq) (fs_tb_at 967 tw_967 rfl) (fs_tb_at 968 tw_968 rfl) (fs_tb_at 87 tw_87 rfl) (fs_tb_at 969 tw_969 rfl) (by decide) (show (parseMethodDescriptor y_LW_insert.desc).map (fun d => d.parameters.length) = some 3 by decide +kernel) rfl d_LW_law_467 (fs_rm (k := 0) (by omega) (by omega) (by omega) (by omega) rfl) (fun v_ h183 H locs hq hP hS => ?_) (fun C_ a_ h_ H locs hq hP hS hX => fs_out (hout _) hlocks hw hP hS hX (show (uc + c181) ≤ mc by omega) (show (us + s182) ≤ ms by omega) hq)
                    refine fs_cs (k := (uc + c181)) (n := (us + s182)) rfl rfl ?_
                    replace hq := fs_ki_some hq
                    obtain ⟨x184, rfl, hq⟩ := hq
                    refine W.eq (g2 := F0 m 470 ls (.int x184 :: [])) rfl ?_
                    refine lv_istore (lv' := [(6, .int x184), (0, .ref b), (1, .ref z1), (2, .ref z2), (3, .ref z3), (4, .ref z4), (5, .int z5)]) hx hb d_LW_law_470 hl (by decide) rfl (fun ls hl => ?_)
                    refine lv_aload_n hx hb d_LW_law_472 rfl (lv_at hl 3 rfl) ?_
                    refine lv_aload_n hx hb d_LW_law_473 rfl (lv_at hl 1 rfl) ?_
                    refine lv_iload hx hb d_LW_law_474 (lv_at hl 6 rfl) ?_
                    refine lv_iconst (v := 1) hx hb d_LW_law_476 (by decide) ?_
                    refine lv_iadd hx hb d_LW_law_477 ?_
                    obtain ⟨hi_, hq⟩ := hq
                    refine fs_xia hx hb hself hw hS hi_ d_LW_law_478 ?_
                    obtain ⟨hi_, hq⟩ := hq
                    obtain ⟨fs_, he_⟩ := fs_isc_some hi_
                    refine fs_cV B hl.1 hP hS (kw_MO_insert hE hq) (fs_tb_at 1762 tw_1762 rfl) he_ rfl (fs_tb_at 1763 tw_1763 rfl) (fs_tb_at 1764 tw_1764 rfl) (fs_tb_at 96 tw_96 rfl) (fs_tb_at 1765 tw_1765 rfl) (by decide) (show (parseMethodDescriptor y_MO_insert.desc).map (fun d => d.parameters.length) = some 1 by decide +kernel) rfl d_LW_law_479 (fs_rm (k := 0) (by omega) (by omega) (by omega) (by omega) rfl) (fun v_ h185 H locs hq hP hS => ?_) (fun C_ a_ h_ H locs hq hP hS hX => fs_out (hout _) hlocks hw hP hS hX (show (uc + c181) ≤ mc by omega) (show (us + s182) ≤ ms by omega) hq)
                    refine fs_cs (k := (uc + c181)) (n := (us + s182)) rfl rfl ?_
                    replace hq := fs_ki_some hq
                    obtain ⟨x186, rfl, hq⟩ := hq
                    refine W.eq (g2 := F0 m 482 ls (.int x186 :: [])) rfl ?_
                    refine lv_istore (lv' := [(7, .int x186), (6, .int x184), (0, .ref b), (1, .ref z1), (2, .ref z2), (3, .ref z3), (4, .ref z4), (5, .int z5)]) hx hb d_LW_law_482 hl (by decide) rfl (fun ls hl => ?_)
                    refine lv_aload_n hx hb d_LW_law_484 rfl (lv_at hl 4 rfl) ?_
                    obtain ⟨hi_, hq⟩ := hq
                    obtain ⟨fs_, he_⟩ := fs_isc_some hi_
                    refine fs_cV B hl.1 hP hS (kw_MO_thrown hE hq) (fs_tb_at 1566 tw_1566 rfl) he_ rfl (fs_tb_at 1567 tw_1567 rfl) (fs_tb_at 1568 tw_1568 rfl) (fs_tb_at 96 tw_96 rfl) (fs_tb_at 1569 tw_1569 rfl) (by decide) (show (parseMethodDescriptor y_MO_thrown.desc).map (fun d => d.parameters.length) = some 0 by decide +kernel) rfl d_LW_law_485 (fs_rm (k := 0) (by omega) (by omega) (by omega) (by omega) rfl) (fun v_ h187 H locs hq hP hS => ?_) (fun C_ a_ h_ H locs hq hP hS hX => fs_out (hout _) hlocks hw hP hS hX (show (uc + c181) ≤ mc by omega) (show (us + s182) ≤ ms by omega) hq)
                    refine fs_cs (k := (uc + c181)) (n := (us + s182)) rfl rfl ?_
                    replace hq := fs_ki_some hq
                    obtain ⟨x188, rfl, hq⟩ := hq
                    refine W.eq (g2 := F0 m 488 ls (.int x188 :: [])) rfl ?_
                    refine lv_iload hx hb d_LW_law_488 (lv_at hl 1 rfl) ?_
                    refine lv_icmp_eq (tgt := 495) hx hb d_LW_law_490 (by decide) (fun c_189 => ?_) (fun c_189 => ?_)
                    · have hq := fs_wifp c_189 hq
                      refine lv_iload hx hb d_LW_law_495 (lv_at hl 1 rfl) ?_
                      refine lv_if_ne (tgt := 512) hx hb d_LW_law_497 (by decide) (fun c_190 => ?_) (fun c_190 => ?_)
                      · have hq := fs_wifn c_190 hq
                        refine lv_goto (tgt := 932) hx hb d_LW_law_512 (by decide) ?_
                        refine lv_iinc (v := z5 + 5) (lv' := [(5, .int (z5 + 5)), (7, .int x186), (6, .int x184), (0, .ref b), (1, .ref z1), (2, .ref z2), (3, .ref z3), (4, .ref z4)]) hx hb d_LW_law_932 hl (k := 7) rfl rfl (by decide) rfl (fun ls hl => ?_)
                        refine lv_goto (tgt := 28) hx hb d_LW_law_935 (by decide) ?_
                        exact ih z1 z2 z3 z4 (z5 + 5) (bc - c181) (bs - s182) (uc + c181) (us + s182) _ _ _ _ hq hP hS (by omega) (by omega) (show lv_has ls 9 [(0, .ref b), (1, .ref z1), (2, .ref z2), (3, .ref z3), (4, .ref z4), (5, .int (z5 + 5))] from lv_sub hl [3, 4, 5, 6, 7, 0] rfl) kk
                      · have hq := fs_wifp c_190 hq
                        refine lv_aload_n hx hb d_LW_law_500 rfl (lv_at hl 5 rfl) ?_
                        refine lv_iconst (v := 0) hx hb d_LW_law_501 (by decide) ?_
                        obtain ⟨n_, f_, x191, e_, hi_, ex_, hq⟩ := fs_al_some hq
                        refine fs_lald hx hb hK hP 1 e_ rfl hi_ d_LW_law_502 ?_
                        rw [← ex_]
                        refine lv_iload hx hb d_LW_law_503 (lv_at hl 0 rfl) ?_
                        refine lv_i2l hx hb d_LW_law_505 rfl ?_
                        refine W.lcmp hx hb d_LW_law_506 ?_
                        refine lv_if_eq (tgt := 512) hx hb d_LW_law_507 (by decide) (fun c_192 => ?_) (fun c_192 => ?_)
                        · have hq := fs_wifp c_192 hq
                          refine lv_goto (tgt := 932) hx hb d_LW_law_512 (by decide) ?_
                          refine lv_iinc (v := z5 + 5) (lv' := [(5, .int (z5 + 5)), (7, .int x186), (6, .int x184), (0, .ref b), (1, .ref z1), (2, .ref z2), (3, .ref z3), (4, .ref z4)]) hx hb d_LW_law_932 hl (k := 7) rfl rfl (by decide) rfl (fun ls hl => ?_)
                          refine lv_goto (tgt := 28) hx hb d_LW_law_935 (by decide) ?_
                          exact ih z1 z2 z3 z4 (z5 + 5) (bc - c181) (bs - s182) (uc + c181) (us + s182) _ _ _ _ hq hP hS (by omega) (by omega) (show lv_has ls 9 [(0, .ref b), (1, .ref z1), (2, .ref z2), (3, .ref z3), (4, .ref z4), (5, .int (z5 + 5))] from lv_sub hl [3, 4, 5, 6, 7, 0] rfl) kk
                        · have hq := fs_wifn c_192 hq
                          refine lv_iconst (v := 0) hx hb d_LW_law_510 (by decide) ?_
                          exact fs_iret hx hb hr hlocks hw hP hS (by decide) (by omega) (by omega) hq d_LW_law_511
                    · have hq := fs_wifn c_189 hq
                      refine lv_iconst (v := 0) hx hb d_LW_law_493 (by decide) ?_
                      exact fs_iret hx hb hr hlocks hw hP hS (by decide) (by omega) (by omega) hq d_LW_law_494
                  · have hq := fs_wifn c_180 hq
                    by_cases c_193 : ((xs (Int32.toNatClampNeg z5)) &&& (15 : Int32)) = 7
                    · have hq := fs_wifp c_193 hq
                      refine lv_tableIn (off := 471) (tgt := 515) hx hb d_LW_law_44 (by rw [c_193]; decide) (by rw [c_193]; decide) (by rw [c_193]; decide) (by decide) ?_
                      refine lv_aload_n hx hb d_LW_law_515 rfl (lv_at hl 1 rfl) ?_
                      refine lv_aload_n hx hb d_LW_law_516 rfl (lv_at hl 0 rfl) ?_
                      refine lv_iload hx hb d_LW_law_517 (lv_at hl 5 rfl) ?_
                      refine lv_iconst (v := 1) hx hb d_LW_law_519 (by decide) ?_
                      refine lv_iadd hx hb d_LW_law_520 ?_
                      obtain ⟨hi_, hq⟩ := hq
                      refine fs_xia hx hb hself hw hS hi_ d_LW_law_521 ?_
                      refine lv_aload_n hx hb d_LW_law_522 rfl (lv_at hl 3 rfl) ?_
                      obtain ⟨c194, s195, hc_, hs_, hq⟩ := hq
                      refine fs_cSW B hl.1 hP hS (kw_LW_delete hE hq) (fs_tb_at 1008 tw_1008 rfl) (fs_tb_at 1009 tw_1009 rfl) (fs_tb_at 87 tw_87 rfl) (fs_tb_at 1010 tw_1010 rfl) (by decide) (show (parseMethodDescriptor y_LW_delete.desc).map (fun d => d.parameters.length) = some 3 by decide +kernel) rfl d_LW_law_523 (fs_rm (k := 0) (by omega) (by omega) (by omega) (by omega) rfl) (fun v_ h196 H locs hq hP hS => ?_) (fun C_ a_ h_ H locs hq hP hS hX => fs_out (hout _) hlocks hw hP hS hX (show (uc + c194) ≤ mc by omega) (show (us + s195) ≤ ms by omega) hq)
                      refine fs_cs (k := (uc + c194)) (n := (us + s195)) rfl rfl ?_
                      replace hq := fs_ki_some hq
                      obtain ⟨x197, rfl, hq⟩ := hq
                      refine W.eq (g2 := F0 m 526 ls (.int x197 :: [])) rfl ?_
                      refine lv_istore (lv' := [(6, .int x197), (0, .ref b), (1, .ref z1), (2, .ref z2), (3, .ref z3), (4, .ref z4), (5, .int z5)]) hx hb d_LW_law_526 hl (by decide) rfl (fun ls hl => ?_)
                      refine lv_aload_n hx hb d_LW_law_528 rfl (lv_at hl 3 rfl) ?_
                      refine lv_aload_n hx hb d_LW_law_529 rfl (lv_at hl 1 rfl) ?_
                      refine lv_iload hx hb d_LW_law_530 (lv_at hl 6 rfl) ?_
                      refine lv_iconst (v := 1) hx hb d_LW_law_532 (by decide) ?_
                      refine lv_iadd hx hb d_LW_law_533 ?_
                      obtain ⟨hi_, hq⟩ := hq
                      refine fs_xia hx hb hself hw hS hi_ d_LW_law_534 ?_
                      obtain ⟨hi_, hq⟩ := hq
                      obtain ⟨fs_, he_⟩ := fs_isc_some hi_
                      refine fs_cV B hl.1 hP hS (kw_MO_delete hE hq) (fs_tb_at 1784 tw_1784 rfl) he_ rfl (fs_tb_at 1785 tw_1785 rfl) (fs_tb_at 1786 tw_1786 rfl) (fs_tb_at 96 tw_96 rfl) (fs_tb_at 1787 tw_1787 rfl) (by decide) (show (parseMethodDescriptor y_MO_delete.desc).map (fun d => d.parameters.length) = some 1 by decide +kernel) rfl d_LW_law_535 (fs_rm (k := 0) (by omega) (by omega) (by omega) (by omega) rfl) (fun v_ h198 H locs hq hP hS => ?_) (fun C_ a_ h_ H locs hq hP hS hX => fs_out (hout _) hlocks hw hP hS hX (show (uc + c194) ≤ mc by omega) (show (us + s195) ≤ ms by omega) hq)
                      refine fs_cs (k := (uc + c194)) (n := (us + s195)) rfl rfl ?_
                      replace hq := fs_ki_some hq
                      obtain ⟨x199, rfl, hq⟩ := hq
                      refine W.eq (g2 := F0 m 538 ls (.int x199 :: [])) rfl ?_
                      refine lv_istore (lv' := [(7, .int x199), (6, .int x197), (0, .ref b), (1, .ref z1), (2, .ref z2), (3, .ref z3), (4, .ref z4), (5, .int z5)]) hx hb d_LW_law_538 hl (by decide) rfl (fun ls hl => ?_)
                      refine lv_aload_n hx hb d_LW_law_540 rfl (lv_at hl 4 rfl) ?_
                      obtain ⟨hi_, hq⟩ := hq
                      obtain ⟨fs_, he_⟩ := fs_isc_some hi_
                      refine fs_cV B hl.1 hP hS (kw_MO_thrown hE hq) (fs_tb_at 1566 tw_1566 rfl) he_ rfl (fs_tb_at 1567 tw_1567 rfl) (fs_tb_at 1568 tw_1568 rfl) (fs_tb_at 96 tw_96 rfl) (fs_tb_at 1569 tw_1569 rfl) (by decide) (show (parseMethodDescriptor y_MO_thrown.desc).map (fun d => d.parameters.length) = some 0 by decide +kernel) rfl d_LW_law_541 (fs_rm (k := 0) (by omega) (by omega) (by omega) (by omega) rfl) (fun v_ h200 H locs hq hP hS => ?_) (fun C_ a_ h_ H locs hq hP hS hX => fs_out (hout _) hlocks hw hP hS hX (show (uc + c194) ≤ mc by omega) (show (us + s195) ≤ ms by omega) hq)
                      refine fs_cs (k := (uc + c194)) (n := (us + s195)) rfl rfl ?_
                      replace hq := fs_ki_some hq
                      obtain ⟨x201, rfl, hq⟩ := hq
                      refine W.eq (g2 := F0 m 544 ls (.int x201 :: [])) rfl ?_
                      refine lv_iload hx hb d_LW_law_544 (lv_at hl 1 rfl) ?_
                      refine lv_icmp_eq (tgt := 551) hx hb d_LW_law_546 (by decide) (fun c_202 => ?_) (fun c_202 => ?_)
                      · have hq := fs_wifp c_202 hq
                        refine lv_iload hx hb d_LW_law_551 (lv_at hl 1 rfl) ?_
                        refine lv_if_ne (tgt := 568) hx hb d_LW_law_553 (by decide) (fun c_203 => ?_) (fun c_203 => ?_)
                        · have hq := fs_wifn c_203 hq
                          refine lv_goto (tgt := 932) hx hb d_LW_law_568 (by decide) ?_
                          refine lv_iinc (v := z5 + 5) (lv' := [(5, .int (z5 + 5)), (7, .int x199), (6, .int x197), (0, .ref b), (1, .ref z1), (2, .ref z2), (3, .ref z3), (4, .ref z4)]) hx hb d_LW_law_932 hl (k := 7) rfl rfl (by decide) rfl (fun ls hl => ?_)
                          refine lv_goto (tgt := 28) hx hb d_LW_law_935 (by decide) ?_
                          exact ih z1 z2 z3 z4 (z5 + 5) (bc - c194) (bs - s195) (uc + c194) (us + s195) _ _ _ _ hq hP hS (by omega) (by omega) (show lv_has ls 9 [(0, .ref b), (1, .ref z1), (2, .ref z2), (3, .ref z3), (4, .ref z4), (5, .int (z5 + 5))] from lv_sub hl [3, 4, 5, 6, 7, 0] rfl) kk
                        · have hq := fs_wifp c_203 hq
                          refine lv_aload_n hx hb d_LW_law_556 rfl (lv_at hl 5 rfl) ?_
                          refine lv_iconst (v := 0) hx hb d_LW_law_557 (by decide) ?_
                          obtain ⟨n_, f_, x204, e_, hi_, ex_, hq⟩ := fs_al_some hq
                          refine fs_lald hx hb hK hP 1 e_ rfl hi_ d_LW_law_558 ?_
                          rw [← ex_]
                          refine lv_iload hx hb d_LW_law_559 (lv_at hl 0 rfl) ?_
                          refine lv_i2l hx hb d_LW_law_561 rfl ?_
                          refine W.lcmp hx hb d_LW_law_562 ?_
                          refine lv_if_eq (tgt := 568) hx hb d_LW_law_563 (by decide) (fun c_205 => ?_) (fun c_205 => ?_)
                          · have hq := fs_wifp c_205 hq
                            refine lv_goto (tgt := 932) hx hb d_LW_law_568 (by decide) ?_
                            refine lv_iinc (v := z5 + 5) (lv' := [(5, .int (z5 + 5)), (7, .int x199), (6, .int x197), (0, .ref b), (1, .ref z1), (2, .ref z2), (3, .ref z3), (4, .ref z4)]) hx hb d_LW_law_932 hl (k := 7) rfl rfl (by decide) rfl (fun ls hl => ?_)
                            refine lv_goto (tgt := 28) hx hb d_LW_law_935 (by decide) ?_
                            exact ih z1 z2 z3 z4 (z5 + 5) (bc - c194) (bs - s195) (uc + c194) (us + s195) _ _ _ _ hq hP hS (by omega) (by omega) (show lv_has ls 9 [(0, .ref b), (1, .ref z1), (2, .ref z2), (3, .ref z3), (4, .ref z4), (5, .int (z5 + 5))] from lv_sub hl [3, 4, 5, 6, 7, 0] rfl) kk
                          · have hq := fs_wifn c_205 hq
                            refine lv_iconst (v := 0) hx hb d_LW_law_566 (by decide) ?_
                            exact fs_iret hx hb hr hlocks hw hP hS (by decide) (by omega) (by omega) hq d_LW_law_567
                      · have hq := fs_wifn c_202 hq
                        refine lv_iconst (v := 0) hx hb d_LW_law_549 (by decide) ?_
                        exact fs_iret hx hb hr hlocks hw hP hS (by decide) (by omega) (by omega) hq d_LW_law_550
                    · have hq := fs_wifn c_193 hq
                      by_cases c_206 : ((xs (Int32.toNatClampNeg z5)) &&& (15 : Int32)) = 8
                      · have hq := fs_wifp c_206 hq
                        refine lv_tableIn (off := 527) (tgt := 571) hx hb d_LW_law_44 (by rw [c_206]; decide) (by rw [c_206]; decide) (by rw [c_206]; decide) (by decide) ?_
                        refine lv_aload_n hx hb d_LW_law_571 rfl (lv_at hl 1 rfl) ?_
                        refine lv_aload_n hx hb d_LW_law_572 rfl (lv_at hl 0 rfl) ?_
                        refine lv_iload hx hb d_LW_law_573 (lv_at hl 5 rfl) ?_
                        refine lv_iconst (v := 1) hx hb d_LW_law_575 (by decide) ?_
                        refine lv_iadd hx hb d_LW_law_576 ?_
                        obtain ⟨hi_, hq⟩ := hq
                        refine fs_xia hx hb hself hw hS hi_ d_LW_law_577 ?_
                        refine lv_aload_n hx hb d_LW_law_578 rfl (lv_at hl 0 rfl) ?_
                        refine lv_iload hx hb d_LW_law_579 (lv_at hl 5 rfl) ?_
                        refine lv_iconst (v := 2) hx hb d_LW_law_581 (by decide) ?_
                        refine lv_iadd hx hb d_LW_law_582 ?_
                        obtain ⟨hi_, hq⟩ := hq
                        refine fs_xia hx hb hself hw hS hi_ d_LW_law_583 ?_
                        refine lv_aload hx hb d_LW_law_584 (lv_at hl 4 rfl) ?_
                        obtain ⟨c207, s208, hc_, hs_, hq⟩ := hq
                        refine fs_cSW B hl.1 hP hS (kw_LW_value hE hq) (fs_tb_at 1036 tw_1036 rfl) (fs_tb_at 1037 tw_1037 rfl) (fs_tb_at 87 tw_87 rfl) (fs_tb_at 1038 tw_1038 rfl) (by decide) (show (parseMethodDescriptor y_LW_value.desc).map (fun d => d.parameters.length) = some 4 by decide +kernel) rfl d_LW_law_586 (fs_rm (k := 0) (by omega) (by omega) (by omega) (by omega) rfl) (fun v_ h209 H locs hq hP hS => ?_) (fun C_ a_ h_ H locs hq hP hS hX => fs_out (hout _) hlocks hw hP hS hX (show (uc + c207) ≤ mc by omega) (show (us + s208) ≤ ms by omega) hq)
                        refine fs_cs (k := (uc + c207)) (n := (us + s208)) rfl rfl ?_
                        replace hq := fs_ki_some hq
                        obtain ⟨x210, rfl, hq⟩ := hq
                        refine W.eq (g2 := F0 m 589 ls (.int x210 :: [])) rfl ?_
                        refine lv_istore (lv' := [(6, .int x210), (0, .ref b), (1, .ref z1), (2, .ref z2), (3, .ref z3), (4, .ref z4), (5, .int z5)]) hx hb d_LW_law_589 hl (by decide) rfl (fun ls hl => ?_)
                        refine lv_aload_n hx hb d_LW_law_591 rfl (lv_at hl 3 rfl) ?_
                        refine lv_aload_n hx hb d_LW_law_592 rfl (lv_at hl 1 rfl) ?_
                        refine lv_iload hx hb d_LW_law_593 (lv_at hl 6 rfl) ?_
                        refine lv_iconst (v := 1) hx hb d_LW_law_595 (by decide) ?_
                        refine lv_iadd hx hb d_LW_law_596 ?_
                        obtain ⟨hi_, hq⟩ := hq
                        refine fs_xia hx hb hself hw hS hi_ d_LW_law_597 ?_
                        refine lv_aload_n hx hb d_LW_law_598 rfl (lv_at hl 1 rfl) ?_
                        refine lv_iload hx hb d_LW_law_599 (lv_at hl 6 rfl) ?_
                        refine lv_iconst (v := 2) hx hb d_LW_law_601 (by decide) ?_
                        refine lv_iadd hx hb d_LW_law_602 ?_
                        obtain ⟨hi_, hq⟩ := hq
                        refine fs_xia hx hb hself hw hS hi_ d_LW_law_603 ?_
                        obtain ⟨hi_, hq⟩ := hq
                        obtain ⟨fs_, he_⟩ := fs_isc_some hi_
                        refine fs_cV B hl.1 hP hS (kw_MO_value hE hq) (fs_tb_at 1788 tw_1788 rfl) he_ rfl (fs_tb_at 1789 tw_1789 rfl) (fs_tb_at 1790 tw_1790 rfl) (fs_tb_at 96 tw_96 rfl) (fs_tb_at 1791 tw_1791 rfl) (by decide) (show (parseMethodDescriptor y_MO_value.desc).map (fun d => d.parameters.length) = some 2 by decide +kernel) rfl d_LW_law_604 (fs_rm (k := 0) (by omega) (by omega) (by omega) (by omega) rfl) (fun v_ h211 H locs hq hP hS => ?_) (fun C_ a_ h_ H locs hq hP hS hX => fs_out (hout _) hlocks hw hP hS hX (show (uc + c207) ≤ mc by omega) (show (us + s208) ≤ ms by omega) hq)
                        refine fs_cs (k := (uc + c207)) (n := (us + s208)) rfl rfl ?_
                        replace hq := fs_kd_some hq
                        obtain ⟨x212, rfl, hq⟩ := hq
                        refine W.eq (g2 := F0 m 607 ls (.double x212 :: [])) rfl ?_
                        refine lv_dstore (lv' := [(7, .double x212), (6, .int x210), (0, .ref b), (1, .ref z1), (2, .ref z2), (3, .ref z3), (4, .ref z4), (5, .int z5)]) hx hb d_LW_law_607 hl (by decide) rfl (fun ls hl => ?_)
                        refine lv_aload_n hx hb d_LW_law_609 rfl (lv_at hl 4 rfl) ?_
                        obtain ⟨hi_, hq⟩ := hq
                        obtain ⟨fs_, he_⟩ := fs_isc_some hi_
                        refine fs_cV B hl.1 hP hS (kw_MO_thrown hE hq) (fs_tb_at 1566 tw_1566 rfl) he_ rfl (fs_tb_at 1567 tw_1567 rfl) (fs_tb_at 1568 tw_1568 rfl) (fs_tb_at 96 tw_96 rfl) (fs_tb_at 1569 tw_1569 rfl) (by decide) (show (parseMethodDescriptor y_MO_thrown.desc).map (fun d => d.parameters.length) = some 0 by decide +kernel) rfl d_LW_law_610 (fs_rm (k := 0) (by omega) (by omega) (by omega) (by omega) rfl) (fun v_ h213 H locs hq hP hS => ?_) (fun C_ a_ h_ H locs hq hP hS hX => fs_out (hout _) hlocks hw hP hS hX (show (uc + c207) ≤ mc by omega) (show (us + s208) ≤ ms by omega) hq)
                        refine fs_cs (k := (uc + c207)) (n := (us + s208)) rfl rfl ?_
                        replace hq := fs_ki_some hq
                        obtain ⟨x214, rfl, hq⟩ := hq
                        refine W.eq (g2 := F0 m 613 ls (.int x214 :: [])) rfl ?_
                        refine lv_iload hx hb d_LW_law_613 (lv_at hl 1 rfl) ?_
                        refine lv_icmp_eq (tgt := 620) hx hb d_LW_law_615 (by decide) (fun c_215 => ?_) (fun c_215 => ?_)
                        · have hq := fs_wifp c_215 hq
                          refine lv_iload hx hb d_LW_law_620 (lv_at hl 1 rfl) ?_
                          refine lv_if_ne (tgt := 657) hx hb d_LW_law_622 (by decide) (fun c_216 => ?_) (fun c_216 => ?_)
                          · have hq := fs_wifn c_216 hq
                            refine lv_goto (tgt := 932) hx hb d_LW_law_657 (by decide) ?_
                            refine lv_iinc (v := z5 + 5) (lv' := [(5, .int (z5 + 5)), (7, .double x212), (6, .int x210), (0, .ref b), (1, .ref z1), (2, .ref z2), (3, .ref z3), (4, .ref z4)]) hx hb d_LW_law_932 hl (k := 7) rfl rfl (by decide) rfl (fun ls hl => ?_)
                            refine lv_goto (tgt := 28) hx hb d_LW_law_935 (by decide) ?_
                            exact ih z1 z2 z3 z4 (z5 + 5) (bc - c207) (bs - s208) (uc + c207) (us + s208) _ _ _ _ hq hP hS (by omega) (by omega) (show lv_has ls 9 [(0, .ref b), (1, .ref z1), (2, .ref z2), (3, .ref z3), (4, .ref z4), (5, .int (z5 + 5))] from lv_sub hl [3, 4, 5, 6, 7, 0] rfl) kk
                          · have hq := fs_wifp c_216 hq
                            refine lv_aload hx hb d_LW_law_625 (lv_at hl 6 rfl) ?_
                            refine lv_iconst (v := 0) hx hb d_LW_law_627 (by decide) ?_
                            obtain ⟨n_, f_, x217, e_, hi_, ex_, hq⟩ := fs_ad_some hq
                            refine fs_dald hx hb hK hP 2 e_ rfl hi_ d_LW_law_628 ?_
                            rw [← ex_]
                            refine lv_dload hx hb d_LW_law_629 (lv_at hl 0 rfl) ?_
                            refine lv_dcmp hx hb d_LW_law_631 ?_
                            refine lv_if_eq (tgt := 657) hx hb d_LW_law_632 (by decide) (fun c_218 => ?_) (fun c_218 => ?_)
                            · have hq := fs_wifp c_218 hq
                              refine lv_goto (tgt := 932) hx hb d_LW_law_657 (by decide) ?_
                              refine lv_iinc (v := z5 + 5) (lv' := [(5, .int (z5 + 5)), (7, .double x212), (6, .int x210), (0, .ref b), (1, .ref z1), (2, .ref z2), (3, .ref z3), (4, .ref z4)]) hx hb d_LW_law_932 hl (k := 7) rfl rfl (by decide) rfl (fun ls hl => ?_)
                              refine lv_goto (tgt := 28) hx hb d_LW_law_935 (by decide) ?_
                              exact ih z1 z2 z3 z4 (z5 + 5) (bc - c207) (bs - s208) (uc + c207) (us + s208) _ _ _ _ hq hP hS (by omega) (by omega) (show lv_has ls 9 [(0, .ref b), (1, .ref z1), (2, .ref z2), (3, .ref z3), (4, .ref z4), (5, .int (z5 + 5))] from lv_sub hl [3, 4, 5, 6, 7, 0] rfl) kk
                            · have hq := fs_wifn c_218 hq
                              refine lv_aload hx hb d_LW_law_635 (lv_at hl 6 rfl) ?_
                              refine lv_iconst (v := 0) hx hb d_LW_law_637 (by decide) ?_
                              obtain ⟨n_, f_, x219, e_, hi_, ex_, hq⟩ := fs_ad_some hq
                              refine fs_dald hx hb hK hP 2 e_ rfl hi_ d_LW_law_638 ?_
                              rw [← ex_]
                              refine lv_aload hx hb d_LW_law_639 (lv_at hl 6 rfl) ?_
                              refine lv_iconst (v := 0) hx hb d_LW_law_641 (by decide) ?_
                              obtain ⟨n_, f_, x220, e_, hi_, ex_, hq⟩ := fs_ad_some hq
                              refine fs_dald hx hb hK hP 2 e_ rfl hi_ d_LW_law_642 ?_
                              rw [← ex_]
                              refine lv_dcmp hx hb d_LW_law_643 ?_
                              refine lv_if_eq (tgt := 655) hx hb d_LW_law_644 (by decide) (fun c_221 => ?_) (fun c_221 => ?_)
                              · have hq := fs_wifp c_221 hq
                                refine lv_iconst (v := 0) hx hb d_LW_law_655 (by decide) ?_
                                exact fs_iret hx hb hr hlocks hw hP hS (by decide) (by omega) (by omega) hq d_LW_law_656
                              · have hq := fs_wifn c_221 hq
                                refine lv_dload hx hb d_LW_law_647 (lv_at hl 0 rfl) ?_
                                refine lv_dload hx hb d_LW_law_649 (lv_at hl 0 rfl) ?_
                                refine lv_dcmp hx hb d_LW_law_651 ?_
                                refine lv_if_ne (tgt := 657) hx hb d_LW_law_652 (by decide) (fun c_222 => ?_) (fun c_222 => ?_)
                                · have hq := fs_wifn c_222 hq
                                  refine lv_goto (tgt := 932) hx hb d_LW_law_657 (by decide) ?_
                                  refine lv_iinc (v := z5 + 5) (lv' := [(5, .int (z5 + 5)), (7, .double x212), (6, .int x210), (0, .ref b), (1, .ref z1), (2, .ref z2), (3, .ref z3), (4, .ref z4)]) hx hb d_LW_law_932 hl (k := 7) rfl rfl (by decide) rfl (fun ls hl => ?_)
                                  refine lv_goto (tgt := 28) hx hb d_LW_law_935 (by decide) ?_
                                  exact ih z1 z2 z3 z4 (z5 + 5) (bc - c207) (bs - s208) (uc + c207) (us + s208) _ _ _ _ hq hP hS (by omega) (by omega) (show lv_has ls 9 [(0, .ref b), (1, .ref z1), (2, .ref z2), (3, .ref z3), (4, .ref z4), (5, .int (z5 + 5))] from lv_sub hl [3, 4, 5, 6, 7, 0] rfl) kk
                                · have hq := fs_wifp c_222 hq
                                  refine lv_iconst (v := 0) hx hb d_LW_law_655 (by decide) ?_
                                  exact fs_iret hx hb hr hlocks hw hP hS (by decide) (by omega) (by omega) hq d_LW_law_656
                        · have hq := fs_wifn c_215 hq
                          refine lv_iconst (v := 0) hx hb d_LW_law_618 (by decide) ?_
                          exact fs_iret hx hb hr hlocks hw hP hS (by decide) (by omega) (by omega) hq d_LW_law_619
                      · have hq := fs_wifn c_206 hq
                        by_cases c_223 : ((xs (Int32.toNatClampNeg z5)) &&& (15 : Int32)) = 9
                        · have hq := fs_wifp c_223 hq
                          refine lv_tableIn (off := 616) (tgt := 660) hx hb d_LW_law_44 (by rw [c_223]; decide) (by rw [c_223]; decide) (by rw [c_223]; decide) (by decide) ?_
                          refine lv_aload_n hx hb d_LW_law_660 rfl (lv_at hl 1 rfl) ?_
                          refine lv_aload_n hx hb d_LW_law_661 rfl (lv_at hl 0 rfl) ?_
                          refine lv_iload hx hb d_LW_law_662 (lv_at hl 5 rfl) ?_
                          refine lv_iconst (v := 1) hx hb d_LW_law_664 (by decide) ?_
                          refine lv_iadd hx hb d_LW_law_665 ?_
                          obtain ⟨hi_, hq⟩ := hq
                          refine fs_xia hx hb hself hw hS hi_ d_LW_law_666 ?_
                          refine lv_aload_n hx hb d_LW_law_667 rfl (lv_at hl 0 rfl) ?_
                          refine lv_iload hx hb d_LW_law_668 (lv_at hl 5 rfl) ?_
                          refine lv_iconst (v := 2) hx hb d_LW_law_670 (by decide) ?_
                          refine lv_iadd hx hb d_LW_law_671 ?_
                          obtain ⟨hi_, hq⟩ := hq
                          refine fs_xia hx hb hself hw hS hi_ d_LW_law_672 ?_
                          refine lv_aload_n hx hb d_LW_law_673 rfl (lv_at hl 3 rfl) ?_
                          obtain ⟨c224, s225, hc_, hs_, hq⟩ := hq
                          refine fs_cSW B hl.1 hP hS (kw_LW_kind hE hq) (fs_tb_at 1061 tw_1061 rfl) (fs_tb_at 1062 tw_1062 rfl) (fs_tb_at 87 tw_87 rfl) (fs_tb_at 1063 tw_1063 rfl) (by decide) (show (parseMethodDescriptor y_LW_kind.desc).map (fun d => d.parameters.length) = some 4 by decide +kernel) rfl d_LW_law_674 (fs_rm (k := 0) (by omega) (by omega) (by omega) (by omega) rfl) (fun v_ h226 H locs hq hP hS => ?_) (fun C_ a_ h_ H locs hq hP hS hX => fs_out (hout _) hlocks hw hP hS hX (show (uc + c224) ≤ mc by omega) (show (us + s225) ≤ ms by omega) hq)
                          refine fs_cs (k := (uc + c224)) (n := (us + s225)) rfl rfl ?_
                          replace hq := fs_ki_some hq
                          obtain ⟨x227, rfl, hq⟩ := hq
                          refine W.eq (g2 := F0 m 677 ls (.int x227 :: [])) rfl ?_
                          refine lv_istore (lv' := [(6, .int x227), (0, .ref b), (1, .ref z1), (2, .ref z2), (3, .ref z3), (4, .ref z4), (5, .int z5)]) hx hb d_LW_law_677 hl (by decide) rfl (fun ls hl => ?_)
                          refine lv_aload_n hx hb d_LW_law_679 rfl (lv_at hl 3 rfl) ?_
                          refine lv_aload_n hx hb d_LW_law_680 rfl (lv_at hl 1 rfl) ?_
                          refine lv_iload hx hb d_LW_law_681 (lv_at hl 6 rfl) ?_
                          refine lv_iconst (v := 1) hx hb d_LW_law_683 (by decide) ?_
                          refine lv_iadd hx hb d_LW_law_684 ?_
                          obtain ⟨hi_, hq⟩ := hq
                          refine fs_xia hx hb hself hw hS hi_ d_LW_law_685 ?_
                          refine lv_aload_n hx hb d_LW_law_686 rfl (lv_at hl 1 rfl) ?_
                          refine lv_iload hx hb d_LW_law_687 (lv_at hl 6 rfl) ?_
                          refine lv_iconst (v := 2) hx hb d_LW_law_689 (by decide) ?_
                          refine lv_iadd hx hb d_LW_law_690 ?_
                          obtain ⟨hi_, hq⟩ := hq
                          refine fs_xia hx hb hself hw hS hi_ d_LW_law_691 ?_
                          obtain ⟨hi_, hq⟩ := hq
                          obtain ⟨fs_, he_⟩ := fs_isc_some hi_
                          refine fs_cV B hl.1 hP hS (kw_MO_kind hE hq) (fs_tb_at 1792 tw_1792 rfl) he_ rfl (fs_tb_at 1793 tw_1793 rfl) (fs_tb_at 1794 tw_1794 rfl) (fs_tb_at 96 tw_96 rfl) (fs_tb_at 1795 tw_1795 rfl) (by decide) (show (parseMethodDescriptor y_MO_kind.desc).map (fun d => d.parameters.length) = some 2 by decide +kernel) rfl d_LW_law_692 (fs_rm (k := 0) (by omega) (by omega) (by omega) (by omega) rfl) (fun v_ h228 H locs hq hP hS => ?_) (fun C_ a_ h_ H locs hq hP hS hX => fs_out (hout _) hlocks hw hP hS hX (show (uc + c224) ≤ mc by omega) (show (us + s225) ≤ ms by omega) hq)
                          refine fs_cs (k := (uc + c224)) (n := (us + s225)) rfl rfl ?_
                          replace hq := fs_ki_some hq
                          obtain ⟨x229, rfl, hq⟩ := hq
                          refine W.eq (g2 := F0 m 695 ls (.int x229 :: [])) rfl ?_
                          refine lv_istore (lv' := [(7, .int x229), (6, .int x227), (0, .ref b), (1, .ref z1), (2, .ref z2), (3, .ref z3), (4, .ref z4), (5, .int z5)]) hx hb d_LW_law_695 hl (by decide) rfl (fun ls hl => ?_)
                          refine lv_aload_n hx hb d_LW_law_697 rfl (lv_at hl 4 rfl) ?_
                          obtain ⟨hi_, hq⟩ := hq
                          obtain ⟨fs_, he_⟩ := fs_isc_some hi_
                          refine fs_cV B hl.1 hP hS (kw_MO_thrown hE hq) (fs_tb_at 1566 tw_1566 rfl) he_ rfl (fs_tb_at 1567 tw_1567 rfl) (fs_tb_at 1568 tw_1568 rfl) (fs_tb_at 96 tw_96 rfl) (fs_tb_at 1569 tw_1569 rfl) (by decide) (show (parseMethodDescriptor y_MO_thrown.desc).map (fun d => d.parameters.length) = some 0 by decide +kernel) rfl d_LW_law_698 (fs_rm (k := 0) (by omega) (by omega) (by omega) (by omega) rfl) (fun v_ h230 H locs hq hP hS => ?_) (fun C_ a_ h_ H locs hq hP hS hX => fs_out (hout _) hlocks hw hP hS hX (show (uc + c224) ≤ mc by omega) (show (us + s225) ≤ ms by omega) hq)
                          refine fs_cs (k := (uc + c224)) (n := (us + s225)) rfl rfl ?_
                          replace hq := fs_ki_some hq
                          obtain ⟨x231, rfl, hq⟩ := hq
                          refine W.eq (g2 := F0 m 701 ls (.int x231 :: [])) rfl ?_
                          refine lv_iload hx hb d_LW_law_701 (lv_at hl 1 rfl) ?_
                          refine lv_icmp_eq (tgt := 708) hx hb d_LW_law_703 (by decide) (fun c_232 => ?_) (fun c_232 => ?_)
                          · have hq := fs_wifp c_232 hq
                            refine lv_iload hx hb d_LW_law_708 (lv_at hl 1 rfl) ?_
                            refine lv_if_ne (tgt := 725) hx hb d_LW_law_710 (by decide) (fun c_233 => ?_) (fun c_233 => ?_)
                            · have hq := fs_wifn c_233 hq
                              refine lv_goto (tgt := 932) hx hb d_LW_law_725 (by decide) ?_
                              refine lv_iinc (v := z5 + 5) (lv' := [(5, .int (z5 + 5)), (7, .int x229), (6, .int x227), (0, .ref b), (1, .ref z1), (2, .ref z2), (3, .ref z3), (4, .ref z4)]) hx hb d_LW_law_932 hl (k := 7) rfl rfl (by decide) rfl (fun ls hl => ?_)
                              refine lv_goto (tgt := 28) hx hb d_LW_law_935 (by decide) ?_
                              exact ih z1 z2 z3 z4 (z5 + 5) (bc - c224) (bs - s225) (uc + c224) (us + s225) _ _ _ _ hq hP hS (by omega) (by omega) (show lv_has ls 9 [(0, .ref b), (1, .ref z1), (2, .ref z2), (3, .ref z3), (4, .ref z4), (5, .int (z5 + 5))] from lv_sub hl [3, 4, 5, 6, 7, 0] rfl) kk
                            · have hq := fs_wifp c_233 hq
                              refine lv_aload_n hx hb d_LW_law_713 rfl (lv_at hl 5 rfl) ?_
                              refine lv_iconst (v := 0) hx hb d_LW_law_714 (by decide) ?_
                              obtain ⟨n_, f_, x234, e_, hi_, ex_, hq⟩ := fs_al_some hq
                              refine fs_lald hx hb hK hP 1 e_ rfl hi_ d_LW_law_715 ?_
                              rw [← ex_]
                              refine lv_iload hx hb d_LW_law_716 (lv_at hl 0 rfl) ?_
                              refine lv_i2l hx hb d_LW_law_718 rfl ?_
                              refine W.lcmp hx hb d_LW_law_719 ?_
                              refine lv_if_eq (tgt := 725) hx hb d_LW_law_720 (by decide) (fun c_235 => ?_) (fun c_235 => ?_)
                              · have hq := fs_wifp c_235 hq
                                refine lv_goto (tgt := 932) hx hb d_LW_law_725 (by decide) ?_
                                refine lv_iinc (v := z5 + 5) (lv' := [(5, .int (z5 + 5)), (7, .int x229), (6, .int x227), (0, .ref b), (1, .ref z1), (2, .ref z2), (3, .ref z3), (4, .ref z4)]) hx hb d_LW_law_932 hl (k := 7) rfl rfl (by decide) rfl (fun ls hl => ?_)
                                refine lv_goto (tgt := 28) hx hb d_LW_law_935 (by decide) ?_
                                exact ih z1 z2 z3 z4 (z5 + 5) (bc - c224) (bs - s225) (uc + c224) (us + s225) _ _ _ _ hq hP hS (by omega) (by omega) (show lv_has ls 9 [(0, .ref b), (1, .ref z1), (2, .ref z2), (3, .ref z3), (4, .ref z4), (5, .int (z5 + 5))] from lv_sub hl [3, 4, 5, 6, 7, 0] rfl) kk
                              · have hq := fs_wifn c_235 hq
                                refine lv_iconst (v := 0) hx hb d_LW_law_723 (by decide) ?_
                                exact fs_iret hx hb hr hlocks hw hP hS (by decide) (by omega) (by omega) hq d_LW_law_724
                          · have hq := fs_wifn c_232 hq
                            refine lv_iconst (v := 0) hx hb d_LW_law_706 (by decide) ?_
                            exact fs_iret hx hb hr hlocks hw hP hS (by decide) (by omega) (by omega) hq d_LW_law_707
                        · have hq := fs_wifn c_223 hq
                          by_cases c_236 : ((xs (Int32.toNatClampNeg z5)) &&& (15 : Int32)) = 10
                          · have hq := fs_wifp c_236 hq
                            refine lv_tableIn (off := 684) (tgt := 728) hx hb d_LW_law_44 (by rw [c_236]; decide) (by rw [c_236]; decide) (by rw [c_236]; decide) (by decide) ?_
                            refine lv_aload_n hx hb d_LW_law_728 rfl (lv_at hl 1 rfl) ?_
                            refine lv_aload_n hx hb d_LW_law_729 rfl (lv_at hl 0 rfl) ?_
                            refine lv_iload hx hb d_LW_law_730 (lv_at hl 5 rfl) ?_
                            refine lv_iconst (v := 1) hx hb d_LW_law_732 (by decide) ?_
                            refine lv_iadd hx hb d_LW_law_733 ?_
                            obtain ⟨hi_, hq⟩ := hq
                            refine fs_xia hx hb hself hw hS hi_ d_LW_law_734 ?_
                            refine lv_aload_n hx hb d_LW_law_735 rfl (lv_at hl 0 rfl) ?_
                            refine lv_iload hx hb d_LW_law_736 (lv_at hl 5 rfl) ?_
                            refine lv_iconst (v := 2) hx hb d_LW_law_738 (by decide) ?_
                            refine lv_iadd hx hb d_LW_law_739 ?_
                            obtain ⟨hi_, hq⟩ := hq
                            refine fs_xia hx hb hself hw hS hi_ d_LW_law_740 ?_
                            refine lv_aload_n hx hb d_LW_law_741 rfl (lv_at hl 0 rfl) ?_
                            refine lv_iload hx hb d_LW_law_742 (lv_at hl 5 rfl) ?_
                            refine lv_iconst (v := 3) hx hb d_LW_law_744 (by decide) ?_
                            refine lv_iadd hx hb d_LW_law_745 ?_
                            obtain ⟨hi_, hq⟩ := hq
                            refine fs_xia hx hb hself hw hS hi_ d_LW_law_746 ?_
                            refine lv_aload_n hx hb d_LW_law_747 rfl (lv_at hl 3 rfl) ?_
                            obtain ⟨c237, s238, hc_, hs_, hq⟩ := hq
                            refine fs_cSW B hl.1 hP hS (kw_LW_text hE hq) (fs_tb_at 1068 tw_1068 rfl) (fs_tb_at 1069 tw_1069 rfl) (fs_tb_at 87 tw_87 rfl) (fs_tb_at 1070 tw_1070 rfl) (by decide) (show (parseMethodDescriptor y_LW_text.desc).map (fun d => d.parameters.length) = some 5 by decide +kernel) rfl d_LW_law_748 (fs_rm (k := 0) (by omega) (by omega) (by omega) (by omega) rfl) (fun v_ h239 H locs hq hP hS => ?_) (fun C_ a_ h_ H locs hq hP hS hX => fs_out (hout _) hlocks hw hP hS hX (show (uc + c237) ≤ mc by omega) (show (us + s238) ≤ ms by omega) hq)
                            refine fs_cs (k := (uc + c237)) (n := (us + s238)) rfl rfl ?_
                            replace hq := fs_ki_some hq
                            obtain ⟨x240, rfl, hq⟩ := hq
                            refine W.eq (g2 := F0 m 751 ls (.int x240 :: [])) rfl ?_
                            refine lv_istore (lv' := [(6, .int x240), (0, .ref b), (1, .ref z1), (2, .ref z2), (3, .ref z3), (4, .ref z4), (5, .int z5)]) hx hb d_LW_law_751 hl (by decide) rfl (fun ls hl => ?_)
                            refine lv_aload_n hx hb d_LW_law_753 rfl (lv_at hl 3 rfl) ?_
                            refine lv_aload_n hx hb d_LW_law_754 rfl (lv_at hl 1 rfl) ?_
                            refine lv_iload hx hb d_LW_law_755 (lv_at hl 6 rfl) ?_
                            refine lv_iconst (v := 1) hx hb d_LW_law_757 (by decide) ?_
                            refine lv_iadd hx hb d_LW_law_758 ?_
                            obtain ⟨hi_, hq⟩ := hq
                            refine fs_xia hx hb hself hw hS hi_ d_LW_law_759 ?_
                            refine lv_aload_n hx hb d_LW_law_760 rfl (lv_at hl 1 rfl) ?_
                            refine lv_iload hx hb d_LW_law_761 (lv_at hl 6 rfl) ?_
                            refine lv_iconst (v := 2) hx hb d_LW_law_763 (by decide) ?_
                            refine lv_iadd hx hb d_LW_law_764 ?_
                            obtain ⟨hi_, hq⟩ := hq
                            refine fs_xia hx hb hself hw hS hi_ d_LW_law_765 ?_
                            refine lv_aload_n hx hb d_LW_law_766 rfl (lv_at hl 1 rfl) ?_
                            refine lv_iload hx hb d_LW_law_767 (lv_at hl 6 rfl) ?_
                            refine lv_iconst (v := 3) hx hb d_LW_law_769 (by decide) ?_
                            refine lv_iadd hx hb d_LW_law_770 ?_
                            obtain ⟨hi_, hq⟩ := hq
                            refine fs_xia hx hb hself hw hS hi_ d_LW_law_771 ?_
                            obtain ⟨hi_, hq⟩ := hq
                            obtain ⟨fs_, he_⟩ := fs_isc_some hi_
                            refine fs_cV B hl.1 hP hS (kw_MO_text hE hq) (fs_tb_at 1804 tw_1804 rfl) he_ rfl (fs_tb_at 1805 tw_1805 rfl) (fs_tb_at 1806 tw_1806 rfl) (fs_tb_at 96 tw_96 rfl) (fs_tb_at 1807 tw_1807 rfl) (by decide) (show (parseMethodDescriptor y_MO_text.desc).map (fun d => d.parameters.length) = some 3 by decide +kernel) rfl d_LW_law_772 (fs_rm (k := 0) (by omega) (by omega) (by omega) (by omega) rfl) (fun v_ h241 H locs hq hP hS => ?_) (fun C_ a_ h_ H locs hq hP hS hX => fs_out (hout _) hlocks hw hP hS hX (show (uc + c237) ≤ mc by omega) (show (us + s238) ≤ ms by omega) hq)
                            refine fs_cs (k := (uc + c237)) (n := (us + s238)) rfl rfl ?_
                            replace hq := fs_ki_some hq
                            obtain ⟨x242, rfl, hq⟩ := hq
                            refine W.eq (g2 := F0 m 775 ls (.int x242 :: [])) rfl ?_
                            refine lv_istore (lv' := [(7, .int x242), (6, .int x240), (0, .ref b), (1, .ref z1), (2, .ref z2), (3, .ref z3), (4, .ref z4), (5, .int z5)]) hx hb d_LW_law_775 hl (by decide) rfl (fun ls hl => ?_)
                            refine lv_aload_n hx hb d_LW_law_777 rfl (lv_at hl 4 rfl) ?_
                            obtain ⟨hi_, hq⟩ := hq
                            obtain ⟨fs_, he_⟩ := fs_isc_some hi_
                            refine fs_cV B hl.1 hP hS (kw_MO_thrown hE hq) (fs_tb_at 1566 tw_1566 rfl) he_ rfl (fs_tb_at 1567 tw_1567 rfl) (fs_tb_at 1568 tw_1568 rfl) (fs_tb_at 96 tw_96 rfl) (fs_tb_at 1569 tw_1569 rfl) (by decide) (show (parseMethodDescriptor y_MO_thrown.desc).map (fun d => d.parameters.length) = some 0 by decide +kernel) rfl d_LW_law_778 (fs_rm (k := 0) (by omega) (by omega) (by omega) (by omega) rfl) (fun v_ h243 H locs hq hP hS => ?_) (fun C_ a_ h_ H locs hq hP hS hX => fs_out (hout _) hlocks hw hP hS hX (show (uc + c237) ≤ mc by omega) (show (us + s238) ≤ ms by omega) hq)
                            refine fs_cs (k := (uc + c237)) (n := (us + s238)) rfl rfl ?_
                            replace hq := fs_ki_some hq
                            obtain ⟨x244, rfl, hq⟩ := hq
                            refine W.eq (g2 := F0 m 781 ls (.int x244 :: [])) rfl ?_
                            refine lv_iload hx hb d_LW_law_781 (lv_at hl 1 rfl) ?_
                            refine lv_icmp_eq (tgt := 788) hx hb d_LW_law_783 (by decide) (fun c_245 => ?_) (fun c_245 => ?_)
                            · have hq := fs_wifp c_245 hq
                              refine lv_iload hx hb d_LW_law_788 (lv_at hl 1 rfl) ?_
                              refine lv_if_ne (tgt := 805) hx hb d_LW_law_790 (by decide) (fun c_246 => ?_) (fun c_246 => ?_)
                              · have hq := fs_wifn c_246 hq
                                refine lv_goto (tgt := 932) hx hb d_LW_law_805 (by decide) ?_
                                refine lv_iinc (v := z5 + 5) (lv' := [(5, .int (z5 + 5)), (7, .int x242), (6, .int x240), (0, .ref b), (1, .ref z1), (2, .ref z2), (3, .ref z3), (4, .ref z4)]) hx hb d_LW_law_932 hl (k := 7) rfl rfl (by decide) rfl (fun ls hl => ?_)
                                refine lv_goto (tgt := 28) hx hb d_LW_law_935 (by decide) ?_
                                exact ih z1 z2 z3 z4 (z5 + 5) (bc - c237) (bs - s238) (uc + c237) (us + s238) _ _ _ _ hq hP hS (by omega) (by omega) (show lv_has ls 9 [(0, .ref b), (1, .ref z1), (2, .ref z2), (3, .ref z3), (4, .ref z4), (5, .int (z5 + 5))] from lv_sub hl [3, 4, 5, 6, 7, 0] rfl) kk
                              · have hq := fs_wifp c_246 hq
                                refine lv_aload_n hx hb d_LW_law_793 rfl (lv_at hl 5 rfl) ?_
                                refine lv_iconst (v := 0) hx hb d_LW_law_794 (by decide) ?_
                                obtain ⟨n_, f_, x247, e_, hi_, ex_, hq⟩ := fs_al_some hq
                                refine fs_lald hx hb hK hP 1 e_ rfl hi_ d_LW_law_795 ?_
                                rw [← ex_]
                                refine lv_iload hx hb d_LW_law_796 (lv_at hl 0 rfl) ?_
                                refine lv_i2l hx hb d_LW_law_798 rfl ?_
                                refine W.lcmp hx hb d_LW_law_799 ?_
                                refine lv_if_eq (tgt := 805) hx hb d_LW_law_800 (by decide) (fun c_248 => ?_) (fun c_248 => ?_)
                                · have hq := fs_wifp c_248 hq
                                  refine lv_goto (tgt := 932) hx hb d_LW_law_805 (by decide) ?_
                                  refine lv_iinc (v := z5 + 5) (lv' := [(5, .int (z5 + 5)), (7, .int x242), (6, .int x240), (0, .ref b), (1, .ref z1), (2, .ref z2), (3, .ref z3), (4, .ref z4)]) hx hb d_LW_law_932 hl (k := 7) rfl rfl (by decide) rfl (fun ls hl => ?_)
                                  refine lv_goto (tgt := 28) hx hb d_LW_law_935 (by decide) ?_
                                  exact ih z1 z2 z3 z4 (z5 + 5) (bc - c237) (bs - s238) (uc + c237) (us + s238) _ _ _ _ hq hP hS (by omega) (by omega) (show lv_has ls 9 [(0, .ref b), (1, .ref z1), (2, .ref z2), (3, .ref z3), (4, .ref z4), (5, .int (z5 + 5))] from lv_sub hl [3, 4, 5, 6, 7, 0] rfl) kk
                                · have hq := fs_wifn c_248 hq
                                  refine lv_iconst (v := 0) hx hb d_LW_law_803 (by decide) ?_
                                  exact fs_iret hx hb hr hlocks hw hP hS (by decide) (by omega) (by omega) hq d_LW_law_804
                            · have hq := fs_wifn c_245 hq
                              refine lv_iconst (v := 0) hx hb d_LW_law_786 (by decide) ?_
                              exact fs_iret hx hb hr hlocks hw hP hS (by decide) (by omega) (by omega) hq d_LW_law_787
                          · have hq := fs_wifn c_236 hq
                            by_cases c_249 : ((xs (Int32.toNatClampNeg z5)) &&& (15 : Int32)) = 11
                            · have hq := fs_wifp c_249 hq
                              refine lv_tableIn (off := 764) (tgt := 808) hx hb d_LW_law_44 (by rw [c_249]; decide) (by rw [c_249]; decide) (by rw [c_249]; decide) (by decide) ?_
                              refine lv_aload_n hx hb d_LW_law_808 rfl (lv_at hl 1 rfl) ?_
                              refine lv_aload_n hx hb d_LW_law_809 rfl (lv_at hl 0 rfl) ?_
                              refine lv_iload hx hb d_LW_law_810 (lv_at hl 5 rfl) ?_
                              refine lv_iconst (v := 1) hx hb d_LW_law_812 (by decide) ?_
                              refine lv_iadd hx hb d_LW_law_813 ?_
                              obtain ⟨hi_, hq⟩ := hq
                              refine fs_xia hx hb hself hw hS hi_ d_LW_law_814 ?_
                              refine lv_aload_n hx hb d_LW_law_815 rfl (lv_at hl 0 rfl) ?_
                              refine lv_iload hx hb d_LW_law_816 (lv_at hl 5 rfl) ?_
                              refine lv_iconst (v := 2) hx hb d_LW_law_818 (by decide) ?_
                              refine lv_iadd hx hb d_LW_law_819 ?_
                              obtain ⟨hi_, hq⟩ := hq
                              refine fs_xia hx hb hself hw hS hi_ d_LW_law_820 ?_
                              refine lv_aload_n hx hb d_LW_law_821 rfl (lv_at hl 0 rfl) ?_
                              refine lv_iload hx hb d_LW_law_822 (lv_at hl 5 rfl) ?_
                              refine lv_iconst (v := 3) hx hb d_LW_law_824 (by decide) ?_
                              refine lv_iadd hx hb d_LW_law_825 ?_
                              obtain ⟨hi_, hq⟩ := hq
                              refine fs_xia hx hb hself hw hS hi_ d_LW_law_826 ?_
                              refine lv_aload_n hx hb d_LW_law_827 rfl (lv_at hl 0 rfl) ?_
                              refine lv_iload hx hb d_LW_law_828 (lv_at hl 5 rfl) ?_
                              refine lv_iconst (v := 4) hx hb d_LW_law_830 (by decide) ?_
                              refine lv_iadd hx hb d_LW_law_831 ?_
                              obtain ⟨hi_, hq⟩ := hq
                              refine fs_xia hx hb hself hw hS hi_ d_LW_law_832 ?_
                              refine lv_aload_n hx hb d_LW_law_833 rfl (lv_at hl 3 rfl) ?_
                              obtain ⟨c250, s251, hc_, hs_, hq⟩ := hq
                              refine fs_cSW B hl.1 hP hS (kw_LW_reaches hE hq) (fs_tb_at 1442 tw_1442 rfl) (fs_tb_at 1443 tw_1443 rfl) (fs_tb_at 87 tw_87 rfl) (fs_tb_at 1444 tw_1444 rfl) (by decide) (show (parseMethodDescriptor y_LW_reaches.desc).map (fun d => d.parameters.length) = some 6 by decide +kernel) rfl d_LW_law_834 (fs_rm (k := 0) (by omega) (by omega) (by omega) (by omega) rfl) (fun v_ h252 H locs hq hP hS => ?_) (fun C_ a_ h_ H locs hq hP hS hX => fs_out (hout _) hlocks hw hP hS hX (show (uc + c250) ≤ mc by omega) (show (us + s251) ≤ ms by omega) hq)
                              refine fs_cs (k := (uc + c250)) (n := (us + s251)) rfl rfl ?_
                              replace hq := fs_ki_some hq
                              obtain ⟨x253, rfl, hq⟩ := hq
                              refine W.eq (g2 := F0 m 837 ls (.int x253 :: [])) rfl ?_
                              refine lv_istore (lv' := [(6, .int x253), (0, .ref b), (1, .ref z1), (2, .ref z2), (3, .ref z3), (4, .ref z4), (5, .int z5)]) hx hb d_LW_law_837 hl (by decide) rfl (fun ls hl => ?_)
                              refine lv_aload_n hx hb d_LW_law_839 rfl (lv_at hl 3 rfl) ?_
                              refine lv_aload_n hx hb d_LW_law_840 rfl (lv_at hl 1 rfl) ?_
                              refine lv_iload hx hb d_LW_law_841 (lv_at hl 6 rfl) ?_
                              refine lv_iconst (v := 1) hx hb d_LW_law_843 (by decide) ?_
                              refine lv_iadd hx hb d_LW_law_844 ?_
                              obtain ⟨hi_, hq⟩ := hq
                              refine fs_xia hx hb hself hw hS hi_ d_LW_law_845 ?_
                              refine lv_aload_n hx hb d_LW_law_846 rfl (lv_at hl 1 rfl) ?_
                              refine lv_iload hx hb d_LW_law_847 (lv_at hl 6 rfl) ?_
                              refine lv_iconst (v := 2) hx hb d_LW_law_849 (by decide) ?_
                              refine lv_iadd hx hb d_LW_law_850 ?_
                              obtain ⟨hi_, hq⟩ := hq
                              refine fs_xia hx hb hself hw hS hi_ d_LW_law_851 ?_
                              refine lv_aload_n hx hb d_LW_law_852 rfl (lv_at hl 1 rfl) ?_
                              refine lv_iload hx hb d_LW_law_853 (lv_at hl 6 rfl) ?_
                              refine lv_iconst (v := 3) hx hb d_LW_law_855 (by decide) ?_
                              refine lv_iadd hx hb d_LW_law_856 ?_
                              obtain ⟨hi_, hq⟩ := hq
                              refine fs_xia hx hb hself hw hS hi_ d_LW_law_857 ?_
                              refine lv_aload_n hx hb d_LW_law_858 rfl (lv_at hl 1 rfl) ?_
                              refine lv_iload hx hb d_LW_law_859 (lv_at hl 6 rfl) ?_
                              refine lv_iconst (v := 4) hx hb d_LW_law_861 (by decide) ?_
                              refine lv_iadd hx hb d_LW_law_862 ?_
                              obtain ⟨hi_, hq⟩ := hq
                              refine fs_xia hx hb hself hw hS hi_ d_LW_law_863 ?_
                              obtain ⟨hi_, hq⟩ := hq
                              obtain ⟨fs_, he_⟩ := fs_isc_some hi_
                              refine fs_cV B hl.1 hP hS (kw_MO_reaches hE hq) (fs_tb_at 1800 tw_1800 rfl) he_ rfl (fs_tb_at 1801 tw_1801 rfl) (fs_tb_at 1802 tw_1802 rfl) (fs_tb_at 96 tw_96 rfl) (fs_tb_at 1803 tw_1803 rfl) (by decide) (show (parseMethodDescriptor y_MO_reaches.desc).map (fun d => d.parameters.length) = some 4 by decide +kernel) rfl d_LW_law_864 (fs_rm (k := 0) (by omega) (by omega) (by omega) (by omega) rfl) (fun v_ h254 H locs hq hP hS => ?_) (fun C_ a_ h_ H locs hq hP hS hX => fs_out (hout _) hlocks hw hP hS hX (show (uc + c250) ≤ mc by omega) (show (us + s251) ≤ ms by omega) hq)
                              refine fs_cs (k := (uc + c250)) (n := (us + s251)) rfl rfl ?_
                              replace hq := fs_ki_some hq
                              obtain ⟨x255, rfl, hq⟩ := hq
                              refine W.eq (g2 := F0 m 867 ls (.int x255 :: [])) rfl ?_
                              refine lv_istore (lv' := [(7, .int x255), (6, .int x253), (0, .ref b), (1, .ref z1), (2, .ref z2), (3, .ref z3), (4, .ref z4), (5, .int z5)]) hx hb d_LW_law_867 hl (by decide) rfl (fun ls hl => ?_)
                              refine lv_aload_n hx hb d_LW_law_869 rfl (lv_at hl 4 rfl) ?_
                              obtain ⟨hi_, hq⟩ := hq
                              obtain ⟨fs_, he_⟩ := fs_isc_some hi_
                              refine fs_cV B hl.1 hP hS (kw_MO_thrown hE hq) (fs_tb_at 1566 tw_1566 rfl) he_ rfl (fs_tb_at 1567 tw_1567 rfl) (fs_tb_at 1568 tw_1568 rfl) (fs_tb_at 96 tw_96 rfl) (fs_tb_at 1569 tw_1569 rfl) (by decide) (show (parseMethodDescriptor y_MO_thrown.desc).map (fun d => d.parameters.length) = some 0 by decide +kernel) rfl d_LW_law_870 (fs_rm (k := 0) (by omega) (by omega) (by omega) (by omega) rfl) (fun v_ h256 H locs hq hP hS => ?_) (fun C_ a_ h_ H locs hq hP hS hX => fs_out (hout _) hlocks hw hP hS hX (show (uc + c250) ≤ mc by omega) (show (us + s251) ≤ ms by omega) hq)
                              refine fs_cs (k := (uc + c250)) (n := (us + s251)) rfl rfl ?_
                              replace hq := fs_ki_some hq
                              obtain ⟨x257, rfl, hq⟩ := hq
                              refine W.eq (g2 := F0 m 873 ls (.int x257 :: [])) rfl ?_
                              refine lv_iload hx hb d_LW_law_873 (lv_at hl 1 rfl) ?_
                              refine lv_icmp_eq (tgt := 880) hx hb d_LW_law_875 (by decide) (fun c_258 => ?_) (fun c_258 => ?_)
                              · have hq := fs_wifp c_258 hq
                                refine lv_iload hx hb d_LW_law_880 (lv_at hl 1 rfl) ?_
                                refine lv_if_ne (tgt := 904) hx hb d_LW_law_882 (by decide) (fun c_259 => ?_) (fun c_259 => ?_)
                                · have hq := fs_wifn c_259 hq
                                  refine lv_goto (tgt := 932) hx hb d_LW_law_904 (by decide) ?_
                                  refine lv_iinc (v := z5 + 5) (lv' := [(5, .int (z5 + 5)), (7, .int x255), (6, .int x253), (0, .ref b), (1, .ref z1), (2, .ref z2), (3, .ref z3), (4, .ref z4)]) hx hb d_LW_law_932 hl (k := 7) rfl rfl (by decide) rfl (fun ls hl => ?_)
                                  refine lv_goto (tgt := 28) hx hb d_LW_law_935 (by decide) ?_
                                  exact ih z1 z2 z3 z4 (z5 + 5) (bc - c250) (bs - s251) (uc + c250) (us + s251) _ _ _ _ hq hP hS (by omega) (by omega) (show lv_has ls 9 [(0, .ref b), (1, .ref z1), (2, .ref z2), (3, .ref z3), (4, .ref z4), (5, .int (z5 + 5))] from lv_sub hl [3, 4, 5, 6, 7, 0] rfl) kk
                                · have hq := fs_wifp c_259 hq
                                  refine lv_aload_n hx hb d_LW_law_885 rfl (lv_at hl 5 rfl) ?_
                                  refine lv_iconst (v := 0) hx hb d_LW_law_886 (by decide) ?_
                                  obtain ⟨n_, f_, x260, e_, hi_, ex_, hq⟩ := fs_al_some hq
                                  refine fs_lald hx hb hK hP 1 e_ rfl hi_ d_LW_law_887 ?_
                                  rw [← ex_]
                                  refine lv_iload hx hb d_LW_law_888 (lv_at hl 0 rfl) ?_
                                  refine lv_if_eq (tgt := 897) hx hb d_LW_law_890 (by decide) (fun c_261 => ?_) (fun c_261 => ?_)
                                  · have hq := fs_wifp c_261 hq
                                    refine lv_lconst (v := 0) hx hb d_LW_law_897 (by decide) ?_
                                    exact hJ898 z5 0 x260 (bc - c250) (bs - s251) (uc + c250) (us + s251) _ _ _ _ hq hP hS (by omega) (by omega) (show lv_has ls 9 [(0, .ref b), (1, .ref z1), (2, .ref z2), (3, .ref z3), (4, .ref z4), (5, .int z5)] from lv_sub hl [2, 3, 4, 5, 6, 7] rfl)
                                  · have hq := fs_wifn c_261 hq
                                    refine lv_lconst (v := 1) hx hb d_LW_law_893 (by decide) ?_
                                    refine lv_goto (tgt := 898) hx hb d_LW_law_894 (by decide) ?_
                                    exact hJ898 z5 1 x260 (bc - c250) (bs - s251) (uc + c250) (us + s251) _ _ _ _ hq hP hS (by omega) (by omega) (show lv_has ls 9 [(0, .ref b), (1, .ref z1), (2, .ref z2), (3, .ref z3), (4, .ref z4), (5, .int z5)] from lv_sub hl [2, 3, 4, 5, 6, 7] rfl)
                              · have hq := fs_wifn c_258 hq
                                refine lv_iconst (v := 0) hx hb d_LW_law_878 (by decide) ?_
                                exact fs_iret hx hb hr hlocks hw hP hS (by decide) (by omega) (by omega) hq d_LW_law_879
                            · have hq := fs_wifn c_249 hq
                              by_cases c_262 : ((xs (Int32.toNatClampNeg z5)) &&& (15 : Int32)) = 12
                              · have hq := fs_wifp c_262 hq
                                refine lv_tableIn (off := 863) (tgt := 907) hx hb d_LW_law_44 (by rw [c_262]; decide) (by rw [c_262]; decide) (by rw [c_262]; decide) (by decide) ?_
                                refine lv_aload_n hx hb d_LW_law_907 rfl (lv_at hl 1 rfl) ?_
                                refine lv_aload_n hx hb d_LW_law_908 rfl (lv_at hl 0 rfl) ?_
                                refine lv_iload hx hb d_LW_law_909 (lv_at hl 5 rfl) ?_
                                refine lv_iconst (v := 1) hx hb d_LW_law_911 (by decide) ?_
                                refine lv_iadd hx hb d_LW_law_912 ?_
                                obtain ⟨hi_, hq⟩ := hq
                                refine fs_xia hx hb hself hw hS hi_ d_LW_law_913 ?_
                                obtain ⟨hi_, hq⟩ := hq
                                obtain ⟨fs_, he_⟩ := fs_isc_some hi_
                                refine fs_cV B hl.1 hP hS (kw_SH_count hE hq) (fs_tb_at 261 tw_261 rfl) he_ rfl (fs_tb_at 262 tw_262 rfl) (fs_tb_at 263 tw_263 rfl) (fs_tb_at 88 tw_88 rfl) (fs_tb_at 264 tw_264 rfl) (by decide) (show (parseMethodDescriptor y_SH_count.desc).map (fun d => d.parameters.length) = some 1 by decide +kernel) rfl d_LW_law_914 (fs_rm (k := 0) (by omega) (by omega) (by omega) (by omega) rfl) (fun v_ h263 H locs hq hP hS => ?_) (fun C_ a_ h_ H locs hq hP hS hX => fs_out (hout _) hlocks hw hP hS hX (show uc ≤ mc by omega) (show us ≤ ms by omega) hq)
                                refine fs_cs (k := uc) (n := us) rfl rfl ?_
                                replace hq := fs_ki_some hq
                                obtain ⟨x264, rfl, hq⟩ := hq
                                refine W.eq (g2 := F0 m 917 ls (.int x264 :: [])) rfl ?_
                                refine lv_aload_n hx hb d_LW_law_917 rfl (lv_at hl 2 rfl) ?_
                                refine lv_aload_n hx hb d_LW_law_918 rfl (lv_at hl 0 rfl) ?_
                                refine lv_iload hx hb d_LW_law_919 (lv_at hl 5 rfl) ?_
                                refine lv_iconst (v := 1) hx hb d_LW_law_921 (by decide) ?_
                                refine lv_iadd hx hb d_LW_law_922 ?_
                                obtain ⟨hi_, hq⟩ := hq
                                refine fs_xia hx hb hself hw hS hi_ d_LW_law_923 ?_
                                obtain ⟨hi_, hq⟩ := hq
                                obtain ⟨fs_, he_⟩ := fs_isc_some hi_
                                refine fs_cV B hl.1 hP hS (kw_MO_count hE hq) (fs_tb_at 1856 tw_1856 rfl) he_ rfl (fs_tb_at 1857 tw_1857 rfl) (fs_tb_at 1858 tw_1858 rfl) (fs_tb_at 96 tw_96 rfl) (fs_tb_at 1859 tw_1859 rfl) (by decide) (show (parseMethodDescriptor y_MO_count.desc).map (fun d => d.parameters.length) = some 1 by decide +kernel) rfl d_LW_law_924 (fs_rm (k := 1) (by omega) (by omega) (by omega) (by omega) rfl) (fun v_ h265 H locs hq hP hS => ?_) (fun C_ a_ h_ H locs hq hP hS hX => fs_out (hout _) hlocks hw hP hS hX (show uc ≤ mc by omega) (show us ≤ ms by omega) hq)
                                refine fs_cs (k := uc) (n := us) rfl rfl ?_
                                replace hq := fs_ki_some hq
                                obtain ⟨x266, rfl, hq⟩ := hq
                                refine W.eq (g2 := F0 m 927 ls (.int x266 :: .int x264 :: [])) rfl ?_
                                refine lv_icmp_eq (tgt := 932) hx hb d_LW_law_927 (by decide) (fun c_267 => ?_) (fun c_267 => ?_)
                                · have hq := fs_wifp c_267 hq
                                  refine lv_iinc (v := z5 + 5) (lv' := [(5, .int (z5 + 5)), (0, .ref b), (1, .ref z1), (2, .ref z2), (3, .ref z3), (4, .ref z4)]) hx hb d_LW_law_932 hl (k := 5) rfl rfl (by decide) rfl (fun ls hl => ?_)
                                  refine lv_goto (tgt := 28) hx hb d_LW_law_935 (by decide) ?_
                                  exact ih z1 z2 z3 z4 (z5 + 5) bc bs uc us _ _ _ _ hq hP hS (by omega) (by omega) (show lv_has ls 9 [(0, .ref b), (1, .ref z1), (2, .ref z2), (3, .ref z3), (4, .ref z4), (5, .int (z5 + 5))] from lv_sub hl [1, 2, 3, 4, 5, 0] rfl) kk
                                · have hq := fs_wifn c_267 hq
                                  refine lv_iconst (v := 0) hx hb d_LW_law_930 (by decide) ?_
                                  exact fs_iret hx hb hr hlocks hw hP hS (by decide) (by omega) (by omega) hq d_LW_law_931
                              · have hq := fs_wifn c_262 hq
                                have hd_ : ¬ Int32.toInt ((xs (Int32.toNatClampNeg z5)) &&& (15 : Int32)) < 0 → ¬ 12 < Int32.toInt ((xs (Int32.toNatClampNeg z5)) &&& (15 : Int32)) → (#[68, 124, 192, 205, 275, 323, 415, 471, 527, 616, 684, 764, 863] : Array Int)[(Int32.toInt ((xs (Int32.toNatClampNeg z5)) &&& (15 : Int32)) - 0).toNat]? = some 888 := by
                                  intro h1_ h2_
                                  have key : ∀ n : Nat, n < 13 → n = 0 ∨ n = 1 ∨ n = 2 ∨ n = 3 ∨ n = 4 ∨ n = 5 ∨ n = 6 ∨ n = 7 ∨ n = 8 ∨ n = 9 ∨ n = 10 ∨ n = 11 ∨ n = 12 ∨ (#[68, 124, 192, 205, 275, 323, 415, 471, 527, 616, 684, 764, 863] : Array Int)[n]? = some 888 := by decide
                                  have hn_ : (Int32.toInt ((xs (Int32.toNatClampNeg z5)) &&& (15 : Int32)) - 0).toNat < 13 := by omega
                                  rcases key _ hn_ with h_ | h_ | h_ | h_ | h_ | h_ | h_ | h_ | h_ | h_ | h_ | h_ | h_ | h_
                                  · exact absurd (Int32.toInt_inj.mp (by rw [show Int32.toInt 0 = 0 by decide]; omega)) c_117
                                  · exact absurd (Int32.toInt_inj.mp (by rw [show Int32.toInt 1 = 1 by decide]; omega)) c_130
                                  · exact absurd (Int32.toInt_inj.mp (by rw [show Int32.toInt 2 = 2 by decide]; omega)) c_143
                                  · exact absurd (Int32.toInt_inj.mp (by rw [show Int32.toInt 3 = 3 by decide]; omega)) c_149
                                  · exact absurd (Int32.toInt_inj.mp (by rw [show Int32.toInt 4 = 4 by decide]; omega)) c_158
                                  · exact absurd (Int32.toInt_inj.mp (by rw [show Int32.toInt 5 = 5 by decide]; omega)) c_167
                                  · exact absurd (Int32.toInt_inj.mp (by rw [show Int32.toInt 6 = 6 by decide]; omega)) c_180
                                  · exact absurd (Int32.toInt_inj.mp (by rw [show Int32.toInt 7 = 7 by decide]; omega)) c_193
                                  · exact absurd (Int32.toInt_inj.mp (by rw [show Int32.toInt 8 = 8 by decide]; omega)) c_206
                                  · exact absurd (Int32.toInt_inj.mp (by rw [show Int32.toInt 9 = 9 by decide]; omega)) c_223
                                  · exact absurd (Int32.toInt_inj.mp (by rw [show Int32.toInt 10 = 10 by decide]; omega)) c_236
                                  · exact absurd (Int32.toInt_inj.mp (by rw [show Int32.toInt 11 = 11 by decide]; omega)) c_249
                                  · exact absurd (Int32.toInt_inj.mp (by rw [show Int32.toInt 12 = 12 by decide]; omega)) c_262
                                  · exact h_
                                refine fs_tabD (tgt := 932) hx hb d_LW_law_44 hd_ (by decide) ?_
                                refine lv_iinc (v := z5 + 5) (lv' := [(5, .int (z5 + 5)), (0, .ref b), (1, .ref z1), (2, .ref z2), (3, .ref z3), (4, .ref z4)]) hx hb d_LW_law_932 hl (k := 5) rfl rfl (by decide) rfl (fun ls hl => ?_)
                                refine lv_goto (tgt := 28) hx hb d_LW_law_935 (by decide) ?_
                                exact ih z1 z2 z3 z4 (z5 + 5) bc bs uc us _ _ _ _ hq hP hS (by omega) (by omega) (show lv_has ls 9 [(0, .ref b), (1, .ref z1), (2, .ref z2), (3, .ref z3), (4, .ref z4), (5, .int (z5 + 5))] from lv_sub hl [1, 2, 3, 4, 5, 0] rfl) kk
set_option maxHeartbeats 8000000 in
set_option maxRecDepth 100000 in
theorem kw_LW_law {p : Program} {l : Launch} {e : Env} {R : Room} {s : State} {m : MethodId} {below : List Frame} {meth : Method} {c : Code} {s00 : State} {E : fs_E} (hE : fs_SE l s00 E) {L : Nat} {xs : Nat → Int32} {b : Nat} (hself : va_X b L xs s00 s00.heap) {mc ms : Nat} {h : fs_Hp}  {Post : fs_Ps} (hRf : 303 ≤ R.frames) (hRl : 4464 ≤ R.locals) (hRc : mc ≤ R.cells) (hRs : ms ≤ R.slots) (B : fs_B p l e s m ([.ref b] : List Value).toArray meth c s00 E.1 y_LW_law b_LW_law 9 (some .boolean)) (hout : ∀ pc, ∀ x ∈ c.exceptionTable.toList, covers x pc = false) (hP : fs_P E.1.1 fs_cl (fs_A s00) h s.heap) (hq : w_LW_law L xs mc ms E h  Post) : W p l e R s m ([.ref b] : List Value).toArray below meth c s.heap [] 0 0 (fx_MQ below (fs_Qc s00 E.1 Post) ([.ref b] : List Value).toArray s mc ms (fs_A s00)) (entryFrame m ([.ref b] : List Value).toArray 9) := by
  obtain ⟨hx, hb, hr, hml, hown, hts, hlocks, hname, hK, hw, htr⟩ := id B
  have hown : s.vm.findClass "FormulaSheetLaw" = some m.cls := hown
  have hS := hw.S
  have hl := lv_entry ([.ref b]) (n := 9) (Nat.le_of_ble_eq_true rfl)
  rw [lg_entry_eq]
  generalize (lg_sl ([.ref b]) ++ List.replicate (9 - (lg_sl ([.ref b])).length) Slot.unset).toArray = ls at hl ⊢
  have hl : lv_has ls 9 [(0, .ref b)] := hl
  unfold w_LW_law at hq
  obtain ⟨hc_, hs_, hq⟩ := hq
  refine fs_new (fs := [.null, .null, .null, .int 0]) hx hb hts hown hK c_SH hP hS (fun _ h9 => h9) (hts _ (fs_tb_at 125 tw_125 rfl)) (hts _ (fs_tb_at 126 tw_126 rfl)) (hts _ (fs_tb_at 88 tw_88 rfl)) (by decide) (by omega) (by omega) d_LW_law_0 (fun a101 H hn_ hP hS => ?_)
  have hq := hq a101 hn_
  generalize eh_ : fs_up h a101 (.inr (0, [.null, .null, .null, .int 0])) = h102 at hP hq
  refine lv_dup hx hb d_LW_law_3 rfl ?_
  obtain ⟨c103, s104, hc_, hs_, hq⟩ := hq
  refine fs_cI B hl.1 hP hS (kw_SH_init hE hq) (fs_tb_at 127 tw_127 rfl) (fs_tb_at 128 tw_128 rfl) rfl (fs_tb_at 88 tw_88 rfl) (fs_tb_at 129 tw_129 rfl) (by decide) (show (parseMethodDescriptor y_SH_init.desc).map (fun d => d.parameters.length) = some 0 by decide +kernel) rfl d_LW_law_4 (fs_rm (k := 1) (by omega) (by omega) (by omega) (by omega) rfl) (fun v_ h105 H locs hq hP hS => ?_) (fun C_ a_ h_ H locs hq hP hS hX => fs_out (hout _) hlocks hw hP hS hX (show ((0 + 1) + c103) ≤ mc by omega) (show ((0 + 4) + s104) ≤ ms by omega) hq)
  refine fs_cs (k := ((0 + 1) + c103)) (n := ((0 + 4) + s104)) rfl rfl ?_
  replace hq := fs_kv_some hq
  obtain ⟨rfl, hq⟩ := hq
  refine W.eq (g2 := F0 m 7 ls (.ref a101 :: [])) rfl ?_
  refine lv_astore_n (lv' := [(1, .ref a101), (0, .ref b)]) hx hb d_LW_law_7 rfl hl (by decide) rfl (fun ls hl => ?_)
  obtain ⟨hc_, hs_, hq⟩ := hq
  refine fs_new (fs := [.null, .null, .null, .null, .null, .null, .null, .null, .null, .int 0, .int 0, .int 0, .int 0, .null, .null, .null, .null, .null, .null, .null, .null, .null, .int 0, .int 0, .int 0, .null, .null, .null, .null, .int 0, .int 0, .null, .null, .null, .int 0, .int 0]) hx hb hts hown hK c_MO hP hS (fun _ h9 => h9) (hts _ (fs_tb_at 1450 tw_1450 rfl)) (hts _ (fs_tb_at 1451 tw_1451 rfl)) (hts _ (fs_tb_at 96 tw_96 rfl)) (by decide) (by omega) (by omega) d_LW_law_8 (fun a106 H hn_ hP hS => ?_)
  have hq := hq a106 hn_
  generalize eh_ : fs_up h105 a106 (.inr (10, [.null, .null, .null, .null, .null, .null, .null, .null, .null, .int 0, .int 0, .int 0, .int 0, .null, .null, .null, .null, .null, .null, .null, .null, .null, .int 0, .int 0, .int 0, .null, .null, .null, .null, .int 0, .int 0, .null, .null, .null, .int 0, .int 0])) = h107 at hP hq
  refine lv_dup hx hb d_LW_law_11 rfl ?_
  obtain ⟨c108, s109, hc_, hs_, hq⟩ := hq
  refine fs_cI B hl.1 hP hS (kw_MO_init hE hq) (fs_tb_at 1452 tw_1452 rfl) (fs_tb_at 1453 tw_1453 rfl) rfl (fs_tb_at 96 tw_96 rfl) (fs_tb_at 1454 tw_1454 rfl) (by decide) (show (parseMethodDescriptor y_MO_init.desc).map (fun d => d.parameters.length) = some 0 by decide +kernel) rfl d_LW_law_12 (fs_rm (k := 1) (by omega) (by omega) (by omega) (by omega) rfl) (fun v_ h110 H locs hq hP hS => ?_) (fun C_ a_ h_ H locs hq hP hS hX => fs_out (hout _) hlocks hw hP hS hX (show ((((0 + 1) + c103) + 1) + c108) ≤ mc by omega) (show ((((0 + 4) + s104) + 36) + s109) ≤ ms by omega) hq)
  refine fs_cs (k := ((((0 + 1) + c103) + 1) + c108)) (n := ((((0 + 4) + s104) + 36) + s109)) rfl rfl ?_
  replace hq := fs_kv_some hq
  obtain ⟨rfl, hq⟩ := hq
  refine W.eq (g2 := F0 m 15 ls (.ref a106 :: [])) rfl ?_
  refine lv_astore_n (lv' := [(2, .ref a106), (1, .ref a101), (0, .ref b)]) hx hb d_LW_law_15 rfl hl (by decide) rfl (fun ls hl => ?_)
  refine lv_iconst (v := 1) hx hb d_LW_law_16 (by decide) ?_
  obtain ⟨hn_, hb_, hc_, hs_, hq⟩ := hq
  refine fs_newa (atype := .long) (a0 := ((Int32.toNatClampNeg 1), .inr (.inl (fun _ : Nat => (0 : Int64))))) hx hb (hts _ (fs_tb_at 1565 tw_1565 rfl)) rfl (by intro C9 h9; cases h9) hK 1 rfl hP hS (fun _ h9 => h9) (fun _ => rfl) hn_ rfl hb_ (by omega) (by omega) d_LW_law_17 (fun a111 H hn_ hP hS => ?_)
  have hq := hq a111 hn_
  generalize eh_ : fs_up h110 a111 (.inl (E.1.2 1, (Int32.toNatClampNeg 1), .inr (.inl (fun _ : Nat => (0 : Int64))))) = h112 at hP hq
  refine lv_astore_n (lv' := [(3, .ref a111), (2, .ref a106), (1, .ref a101), (0, .ref b)]) hx hb d_LW_law_19 rfl hl (by decide) rfl (fun ls hl => ?_)
  refine lv_iconst (v := 1) hx hb d_LW_law_20 (by decide) ?_
  obtain ⟨hn_, hb_, hc_, hs_, hq⟩ := hq
  refine fs_newa (atype := .double) (a0 := ((Int32.toNatClampNeg 1), .inr (.inr (.inr (.inl (fun _ : Nat => (0 : UInt64))))))) hx hb (hts _ (fs_tb_at 178 tw_178 rfl)) rfl (by intro C9 h9; cases h9) hK 2 rfl hP hS (fun _ h9 => h9) (fun _ => rfl) hn_ rfl hb_ (by omega) (by omega) d_LW_law_21 (fun a113 H hn_ hP hS => ?_)
  have hq := hq a113 hn_
  generalize eh_ : fs_up h112 a113 (.inl (E.1.2 2, (Int32.toNatClampNeg 1), .inr (.inr (.inr (.inl (fun _ : Nat => (0 : UInt64))))))) = h114 at hP hq
  refine lv_astore (lv' := [(4, .ref a113), (3, .ref a111), (2, .ref a106), (1, .ref a101), (0, .ref b)]) hx hb d_LW_law_23 hl (by decide) rfl (fun ls hl => ?_)
  refine lv_iconst (v := 0) hx hb d_LW_law_25 (by decide) ?_
  refine lv_istore (lv' := [(5, .int 0), (4, .ref a113), (3, .ref a111), (2, .ref a106), (1, .ref a101), (0, .ref b)]) hx hb d_LW_law_26 hl (by decide) rfl (fun ls hl => ?_)
  obtain ⟨n273, hq⟩ := hq
  refine lw_w_LW_law_28 hE hself B hout (by omega) (by omega) hRc hRs _ n273 a101 a106 a111 a113 0 ((((((mc - 1) - c103) - 1) - c108) - 1) - 1) ((((((ms - 4) - s104) - 36) - s109) - (Int32.toNatClampNeg 1)) - (Int32.toNatClampNeg 1)) ((((((0 + 1) + c103) + 1) + c108) + 1) + 1) ((((((0 + 4) + s104) + 36) + s109) + (Int32.toNatClampNeg 1)) + (Int32.toNatClampNeg 1)) _ _ _ _ hq hP hS (by omega) (by omega) (show lv_has ls 9 [(0, .ref b), (1, .ref a101), (2, .ref a106), (3, .ref a111), (4, .ref a113), (5, .int 0)] from lv_sub hl [5, 4, 3, 2, 1, 0] rfl) (fun  bc269 bs270 uc271 us272 h268 H locs ls hq hP hS hu1 hu2 hl => ?_)
  refine lv_iconst (v := 1) hx hb d_LW_law_938 (by decide) ?_
  exact fs_iret hx hb hr hlocks hw hP hS (by decide) (by omega) (by omega) hq d_LW_law_939
