/-! CellSet: codes, decode rows. -/
abbrev b_CS_init : ByteArray := prog_3_method_1_code
def y_CS_init : MethodName := ⟨"FormulaSheet$CellSet", "<init>", "()V"⟩
theorem d_CS_init_0 : decode b_CS_init 0 = .ok (.aload_n 0, 1) := by decide +kernel
theorem d_CS_init_1 : decode b_CS_init 1 = .ok (.invokespecial 3, 3) := by decide +kernel
theorem d_CS_init_4 : decode b_CS_init 4 = .ok (.return_, 1) := by decide +kernel
abbrev b_CS_clear : ByteArray := prog_3_method_2_code
def y_CS_clear : MethodName := ⟨"FormulaSheet$CellSet", "clear", "()V"⟩
theorem d_CS_clear_0 : decode b_CS_clear 0 = .ok (.aload_n 0, 1) := by decide +kernel
theorem d_CS_clear_1 : decode b_CS_clear 1 = .ok (.lconst 0, 1) := by decide +kernel
theorem d_CS_clear_2 : decode b_CS_clear 2 = .ok (.putfield 9, 3) := by decide +kernel
theorem d_CS_clear_5 : decode b_CS_clear 5 = .ok (.aload_n 0, 1) := by decide +kernel
theorem d_CS_clear_6 : decode b_CS_clear 6 = .ok (.lconst 0, 1) := by decide +kernel
theorem d_CS_clear_7 : decode b_CS_clear 7 = .ok (.putfield 15, 3) := by decide +kernel
theorem d_CS_clear_10 : decode b_CS_clear 10 = .ok (.return_, 1) := by decide +kernel
abbrev b_CS_add : ByteArray := prog_3_method_3_code
def y_CS_add : MethodName := ⟨"FormulaSheet$CellSet", "add", "(I)V"⟩
theorem d_CS_add_0 : decode b_CS_add 0 = .ok (.iload_n 1, 1) := by decide +kernel
theorem d_CS_add_1 : decode b_CS_add 1 = .ok (.bipush 64, 2) := by decide +kernel
theorem d_CS_add_3 : decode b_CS_add 3 = .ok (.if_icmp .ge 18, 3) := by decide +kernel
theorem d_CS_add_6 : decode b_CS_add 6 = .ok (.aload_n 0, 1) := by decide +kernel
theorem d_CS_add_7 : decode b_CS_add 7 = .ok (.dup, 1) := by decide +kernel
theorem d_CS_add_8 : decode b_CS_add 8 = .ok (.getfield 9, 3) := by decide +kernel
theorem d_CS_add_11 : decode b_CS_add 11 = .ok (.lconst 1, 1) := by decide +kernel
theorem d_CS_add_12 : decode b_CS_add 12 = .ok (.iload_n 1, 1) := by decide +kernel
theorem d_CS_add_13 : decode b_CS_add 13 = .ok (.lshl, 1) := by decide +kernel
theorem d_CS_add_14 : decode b_CS_add 14 = .ok (.lor, 1) := by decide +kernel
theorem d_CS_add_15 : decode b_CS_add 15 = .ok (.putfield 9, 3) := by decide +kernel
theorem d_CS_add_18 : decode b_CS_add 18 = .ok (.goto 18, 3) := by decide +kernel
theorem d_CS_add_21 : decode b_CS_add 21 = .ok (.aload_n 0, 1) := by decide +kernel
theorem d_CS_add_22 : decode b_CS_add 22 = .ok (.dup, 1) := by decide +kernel
theorem d_CS_add_23 : decode b_CS_add 23 = .ok (.getfield 15, 3) := by decide +kernel
theorem d_CS_add_26 : decode b_CS_add 26 = .ok (.lconst 1, 1) := by decide +kernel
theorem d_CS_add_27 : decode b_CS_add 27 = .ok (.iload_n 1, 1) := by decide +kernel
theorem d_CS_add_28 : decode b_CS_add 28 = .ok (.bipush 64, 2) := by decide +kernel
theorem d_CS_add_30 : decode b_CS_add 30 = .ok (.isub, 1) := by decide +kernel
theorem d_CS_add_31 : decode b_CS_add 31 = .ok (.lshl, 1) := by decide +kernel
theorem d_CS_add_32 : decode b_CS_add 32 = .ok (.lor, 1) := by decide +kernel
theorem d_CS_add_33 : decode b_CS_add 33 = .ok (.putfield 15, 3) := by decide +kernel
theorem d_CS_add_36 : decode b_CS_add 36 = .ok (.return_, 1) := by decide +kernel
abbrev b_CS_has : ByteArray := prog_3_method_5_code
def y_CS_has : MethodName := ⟨"FormulaSheet$CellSet", "has", "(I)Z"⟩
theorem d_CS_has_0 : decode b_CS_has 0 = .ok (.iload_n 1, 1) := by decide +kernel
theorem d_CS_has_1 : decode b_CS_has 1 = .ok (.bipush 64, 2) := by decide +kernel
theorem d_CS_has_3 : decode b_CS_has 3 = .ok (.if_icmp .ge 12, 3) := by decide +kernel
theorem d_CS_has_6 : decode b_CS_has 6 = .ok (.aload_n 0, 1) := by decide +kernel
theorem d_CS_has_7 : decode b_CS_has 7 = .ok (.getfield 9, 3) := by decide +kernel
theorem d_CS_has_10 : decode b_CS_has 10 = .ok (.iload_n 1, 1) := by decide +kernel
theorem d_CS_has_11 : decode b_CS_has 11 = .ok (.lushr, 1) := by decide +kernel
theorem d_CS_has_12 : decode b_CS_has 12 = .ok (.goto 12, 3) := by decide +kernel
theorem d_CS_has_15 : decode b_CS_has 15 = .ok (.aload_n 0, 1) := by decide +kernel
theorem d_CS_has_16 : decode b_CS_has 16 = .ok (.getfield 15, 3) := by decide +kernel
theorem d_CS_has_19 : decode b_CS_has 19 = .ok (.iload_n 1, 1) := by decide +kernel
theorem d_CS_has_20 : decode b_CS_has 20 = .ok (.bipush 64, 2) := by decide +kernel
theorem d_CS_has_22 : decode b_CS_has 22 = .ok (.isub, 1) := by decide +kernel
theorem d_CS_has_23 : decode b_CS_has 23 = .ok (.lushr, 1) := by decide +kernel
theorem d_CS_has_24 : decode b_CS_has 24 = .ok (.lstore_n 2, 1) := by decide +kernel
theorem d_CS_has_25 : decode b_CS_has 25 = .ok (.lload_n 2, 1) := by decide +kernel
theorem d_CS_has_26 : decode b_CS_has 26 = .ok (.lconst 1, 1) := by decide +kernel
theorem d_CS_has_27 : decode b_CS_has 27 = .ok (.land, 1) := by decide +kernel
theorem d_CS_has_28 : decode b_CS_has 28 = .ok (.lconst 0, 1) := by decide +kernel
theorem d_CS_has_29 : decode b_CS_has 29 = .ok (.lcmp, 1) := by decide +kernel
theorem d_CS_has_30 : decode b_CS_has 30 = .ok (.ifCond .eq 7, 3) := by decide +kernel
theorem d_CS_has_33 : decode b_CS_has 33 = .ok (.iconst 1, 1) := by decide +kernel
theorem d_CS_has_34 : decode b_CS_has 34 = .ok (.goto 4, 3) := by decide +kernel
theorem d_CS_has_37 : decode b_CS_has 37 = .ok (.iconst 0, 1) := by decide +kernel
theorem d_CS_has_38 : decode b_CS_has 38 = .ok (.ireturn, 1) := by decide +kernel
abbrev b_CS_addAll : ByteArray := prog_3_method_4_code
def y_CS_addAll : MethodName := ⟨"FormulaSheet$CellSet", "addAll", "(LFormulaSheet$CellSet;)V"⟩
theorem d_CS_addAll_0 : decode b_CS_addAll 0 = .ok (.aload_n 0, 1) := by decide +kernel
theorem d_CS_addAll_1 : decode b_CS_addAll 1 = .ok (.dup, 1) := by decide +kernel
theorem d_CS_addAll_2 : decode b_CS_addAll 2 = .ok (.getfield 9, 3) := by decide +kernel
theorem d_CS_addAll_5 : decode b_CS_addAll 5 = .ok (.aload_n 1, 1) := by decide +kernel
theorem d_CS_addAll_6 : decode b_CS_addAll 6 = .ok (.getfield 9, 3) := by decide +kernel
theorem d_CS_addAll_9 : decode b_CS_addAll 9 = .ok (.lor, 1) := by decide +kernel
theorem d_CS_addAll_10 : decode b_CS_addAll 10 = .ok (.putfield 9, 3) := by decide +kernel
theorem d_CS_addAll_13 : decode b_CS_addAll 13 = .ok (.aload_n 0, 1) := by decide +kernel
theorem d_CS_addAll_14 : decode b_CS_addAll 14 = .ok (.dup, 1) := by decide +kernel
theorem d_CS_addAll_15 : decode b_CS_addAll 15 = .ok (.getfield 15, 3) := by decide +kernel
theorem d_CS_addAll_18 : decode b_CS_addAll 18 = .ok (.aload_n 1, 1) := by decide +kernel
theorem d_CS_addAll_19 : decode b_CS_addAll 19 = .ok (.getfield 15, 3) := by decide +kernel
theorem d_CS_addAll_22 : decode b_CS_addAll 22 = .ok (.lor, 1) := by decide +kernel
theorem d_CS_addAll_23 : decode b_CS_addAll 23 = .ok (.putfield 15, 3) := by decide +kernel
theorem d_CS_addAll_26 : decode b_CS_addAll 26 = .ok (.return_, 1) := by decide +kernel
abbrev b_CS_size : ByteArray := prog_3_method_6_code
def y_CS_size : MethodName := ⟨"FormulaSheet$CellSet", "size", "()I"⟩
theorem d_CS_size_0 : decode b_CS_size 0 = .ok (.aload_n 0, 1) := by decide +kernel
theorem d_CS_size_1 : decode b_CS_size 1 = .ok (.getfield 9, 3) := by decide +kernel
theorem d_CS_size_4 : decode b_CS_size 4 = .ok (.invokestatic 18, 3) := by decide +kernel
theorem d_CS_size_7 : decode b_CS_size 7 = .ok (.aload_n 0, 1) := by decide +kernel
theorem d_CS_size_8 : decode b_CS_size 8 = .ok (.getfield 15, 3) := by decide +kernel
theorem d_CS_size_11 : decode b_CS_size 11 = .ok (.invokestatic 18, 3) := by decide +kernel
theorem d_CS_size_14 : decode b_CS_size 14 = .ok (.iadd, 1) := by decide +kernel
theorem d_CS_size_15 : decode b_CS_size 15 = .ok (.ireturn, 1) := by decide +kernel
theorem tw_91 : lw_tbl[91]? = some (Jvm.Cond.initialized "FormulaSheet$CellSet") := by decide +kernel
theorem tw_163 : lw_tbl[163]? = some (Jvm.Cond.classLink "FormulaSheet$Cells" (25 : Nat) "FormulaSheet$CellSet") := by decide +kernel
theorem tw_164 : lw_tbl[164]? = some (Jvm.Cond.arrayOver (Jvm.ClassFile.FieldType.object "FormulaSheet$CellSet")) := by decide +kernel
theorem tw_165 : lw_tbl[165]? = some (Jvm.Cond.instantiable "FormulaSheet$CellSet" (2 : Nat)) := by decide +kernel
theorem tw_166 : lw_tbl[166]? = some (Jvm.Cond.methodLinkNest "FormulaSheet$Cells" (38 : Nat) ({ cls := "FormulaSheet$CellSet", name := "<init>", desc := "()V" } : Jvm.MethodName) "FormulaSheet") := by decide +kernel
theorem tw_167 : lw_tbl[167]? = some (Jvm.Cond.instanceMethod ({ cls := "FormulaSheet$CellSet", name := "<init>", desc := "()V" } : Jvm.MethodName)) := by decide +kernel
theorem tw_168 : lw_tbl[168]? = some (Jvm.Cond.code ({ cls := "FormulaSheet$CellSet", name := "<init>", desc := "()V" } : Jvm.MethodName) prog_3_method_1_code (1 : Nat) (Option.none : Option Jvm.ClassFile.FieldType)) := by decide +kernel
theorem tw_169 : lw_tbl[169]? = some (Jvm.Cond.methodLink "FormulaSheet$CellSet" (3 : Nat) ({ cls := "java/lang/Object", name := "<init>", desc := "()V" } : Jvm.MethodName)) := by decide +kernel
theorem tw_170 : lw_tbl[170]? = some (Jvm.Cond.fieldLink "FormulaSheet$CellSet" (9 : Nat) "FormulaSheet$CellSet" "low" "J") := by decide +kernel
theorem tw_171 : lw_tbl[171]? = some (Jvm.Cond.fieldLink "FormulaSheet$CellSet" (15 : Nat) "FormulaSheet$CellSet" "high" "J") := by decide +kernel
theorem tw_172 : lw_tbl[172]? = some (Jvm.Cond.lays "FormulaSheet$CellSet" "FormulaSheet$CellSet" "low" "J") := by decide +kernel
theorem tw_173 : lw_tbl[173]? = some (Jvm.Cond.soleField "FormulaSheet$CellSet" "low") := by decide +kernel
theorem tw_174 : lw_tbl[174]? = some (Jvm.Cond.lays "FormulaSheet$CellSet" "FormulaSheet$CellSet" "high" "J") := by decide +kernel
theorem tw_175 : lw_tbl[175]? = some (Jvm.Cond.soleField "FormulaSheet$CellSet" "high") := by decide +kernel
theorem tw_176 : lw_tbl[176]? = some (Jvm.Cond.superclass "FormulaSheet$CellSet" "java/lang/Object") := by decide +kernel
theorem tw_190 : lw_tbl[190]? = some (Jvm.Cond.fieldLink "FormulaSheet$Cells" (27 : Nat) "FormulaSheet$Cells" "reached" "[LFormulaSheet$CellSet;") := by decide +kernel
theorem tw_191 : lw_tbl[191]? = some (Jvm.Cond.fieldLink "FormulaSheet" (142 : Nat) "FormulaSheet$Cells" "reached" "[LFormulaSheet$CellSet;") := by decide +kernel
theorem tw_202 : lw_tbl[202]? = some (Jvm.Cond.laysFinal "FormulaSheet$Cells" "FormulaSheet$Cells" "reached" "[LFormulaSheet$CellSet;") := by decide +kernel
theorem tw_285 : lw_tbl[285]? = some (Jvm.Cond.methodLink "FormulaSheet$Cells" (92 : Nat) ({ cls := "FormulaSheet$CellSet", name := "clear", desc := "()V" } : Jvm.MethodName)) := by decide +kernel
theorem tw_286 : lw_tbl[286]? = some (Jvm.Cond.instanceMethod ({ cls := "FormulaSheet$CellSet", name := "clear", desc := "()V" } : Jvm.MethodName)) := by decide +kernel
theorem tw_287 : lw_tbl[287]? = some (Jvm.Cond.selects "FormulaSheet$CellSet" ({ cls := "FormulaSheet$CellSet", name := "clear", desc := "()V" } : Jvm.MethodName) ({ cls := "FormulaSheet$CellSet", name := "clear", desc := "()V" } : Jvm.MethodName)) := by decide +kernel
theorem tw_288 : lw_tbl[288]? = some (Jvm.Cond.code ({ cls := "FormulaSheet$CellSet", name := "clear", desc := "()V" } : Jvm.MethodName) prog_3_method_2_code (1 : Nat) (Option.none : Option Jvm.ClassFile.FieldType)) := by decide +kernel
theorem tw_289 : lw_tbl[289]? = some (Jvm.Cond.methodLink "FormulaSheet$Cells" (95 : Nat) ({ cls := "FormulaSheet$Part", name := "addCells", desc := "(LFormulaSheet$CellSet;)V" } : Jvm.MethodName)) := by decide +kernel
theorem tw_290 : lw_tbl[290]? = some (Jvm.Cond.instanceMethod ({ cls := "FormulaSheet$Part", name := "addCells", desc := "(LFormulaSheet$CellSet;)V" } : Jvm.MethodName)) := by decide +kernel
theorem tw_291 : lw_tbl[291]? = some (Jvm.Cond.sameMethod "FormulaSheet$Part" "FormulaSheet$Part" "addCells" "(LFormulaSheet$CellSet;)V") := by decide +kernel
theorem tw_292 : lw_tbl[292]? = some (Jvm.Cond.selects "FormulaSheet$Call" ({ cls := "FormulaSheet$Part", name := "addCells", desc := "(LFormulaSheet$CellSet;)V" } : Jvm.MethodName) ({ cls := "FormulaSheet$Part", name := "addCells", desc := "(LFormulaSheet$CellSet;)V" } : Jvm.MethodName)) := by decide +kernel
theorem tw_293 : lw_tbl[293]? = some (Jvm.Cond.selects "FormulaSheet$Numeral" ({ cls := "FormulaSheet$Part", name := "addCells", desc := "(LFormulaSheet$CellSet;)V" } : Jvm.MethodName) ({ cls := "FormulaSheet$Part", name := "addCells", desc := "(LFormulaSheet$CellSet;)V" } : Jvm.MethodName)) := by decide +kernel
theorem tw_294 : lw_tbl[294]? = some (Jvm.Cond.selects "FormulaSheet$OverRange" ({ cls := "FormulaSheet$Part", name := "addCells", desc := "(LFormulaSheet$CellSet;)V" } : Jvm.MethodName) ({ cls := "FormulaSheet$OverRange", name := "addCells", desc := "(LFormulaSheet$CellSet;)V" } : Jvm.MethodName)) := by decide +kernel
theorem tw_295 : lw_tbl[295]? = some (Jvm.Cond.instanceMethod ({ cls := "FormulaSheet$OverRange", name := "addCells", desc := "(LFormulaSheet$CellSet;)V" } : Jvm.MethodName)) := by decide +kernel
theorem tw_296 : lw_tbl[296]? = some (Jvm.Cond.code ({ cls := "FormulaSheet$OverRange", name := "addCells", desc := "(LFormulaSheet$CellSet;)V" } : Jvm.MethodName) prog_8_method_9_code (4 : Nat) (Option.none : Option Jvm.ClassFile.FieldType)) := by decide +kernel
theorem tw_324 : lw_tbl[324]? = some (Jvm.Cond.methodLink "FormulaSheet$OverRange" (68 : Nat) ({ cls := "FormulaSheet$CellSet", name := "add", desc := "(I)V" } : Jvm.MethodName)) := by decide +kernel
theorem tw_325 : lw_tbl[325]? = some (Jvm.Cond.instanceMethod ({ cls := "FormulaSheet$CellSet", name := "add", desc := "(I)V" } : Jvm.MethodName)) := by decide +kernel
theorem tw_326 : lw_tbl[326]? = some (Jvm.Cond.selects "FormulaSheet$CellSet" ({ cls := "FormulaSheet$CellSet", name := "add", desc := "(I)V" } : Jvm.MethodName) ({ cls := "FormulaSheet$CellSet", name := "add", desc := "(I)V" } : Jvm.MethodName)) := by decide +kernel
theorem tw_327 : lw_tbl[327]? = some (Jvm.Cond.code ({ cls := "FormulaSheet$CellSet", name := "add", desc := "(I)V" } : Jvm.MethodName) prog_3_method_3_code (2 : Nat) (Option.none : Option Jvm.ClassFile.FieldType)) := by decide +kernel
theorem tw_328 : lw_tbl[328]? = some (Jvm.Cond.selects "FormulaSheet$Pair" ({ cls := "FormulaSheet$Part", name := "addCells", desc := "(LFormulaSheet$CellSet;)V" } : Jvm.MethodName) ({ cls := "FormulaSheet$Part", name := "addCells", desc := "(LFormulaSheet$CellSet;)V" } : Jvm.MethodName)) := by decide +kernel
theorem tw_329 : lw_tbl[329]? = some (Jvm.Cond.selects "FormulaSheet$Reference" ({ cls := "FormulaSheet$Part", name := "addCells", desc := "(LFormulaSheet$CellSet;)V" } : Jvm.MethodName) ({ cls := "FormulaSheet$Reference", name := "addCells", desc := "(LFormulaSheet$CellSet;)V" } : Jvm.MethodName)) := by decide +kernel
theorem tw_330 : lw_tbl[330]? = some (Jvm.Cond.instanceMethod ({ cls := "FormulaSheet$Reference", name := "addCells", desc := "(LFormulaSheet$CellSet;)V" } : Jvm.MethodName)) := by decide +kernel
theorem tw_331 : lw_tbl[331]? = some (Jvm.Cond.code ({ cls := "FormulaSheet$Reference", name := "addCells", desc := "(LFormulaSheet$CellSet;)V" } : Jvm.MethodName) prog_11_method_7_code (2 : Nat) (Option.none : Option Jvm.ClassFile.FieldType)) := by decide +kernel
theorem tw_337 : lw_tbl[337]? = some (Jvm.Cond.methodLink "FormulaSheet$Reference" (55 : Nat) ({ cls := "FormulaSheet$CellSet", name := "add", desc := "(I)V" } : Jvm.MethodName)) := by decide +kernel
theorem tw_338 : lw_tbl[338]? = some (Jvm.Cond.selects "FormulaSheet$Single" ({ cls := "FormulaSheet$Part", name := "addCells", desc := "(LFormulaSheet$CellSet;)V" } : Jvm.MethodName) ({ cls := "FormulaSheet$Part", name := "addCells", desc := "(LFormulaSheet$CellSet;)V" } : Jvm.MethodName)) := by decide +kernel
theorem tw_339 : lw_tbl[339]? = some (Jvm.Cond.code ({ cls := "FormulaSheet$Part", name := "addCells", desc := "(LFormulaSheet$CellSet;)V" } : Jvm.MethodName) prog_10_method_8_code (3 : Nat) (Option.none : Option Jvm.ClassFile.FieldType)) := by decide +kernel
theorem tw_340 : lw_tbl[340]? = some (Jvm.Cond.methodLink "FormulaSheet$Part" (35 : Nat) ({ cls := "FormulaSheet$Part", name := "addCells", desc := "(LFormulaSheet$CellSet;)V" } : Jvm.MethodName)) := by decide +kernel
theorem tw_345 : lw_tbl[345]? = some (Jvm.Cond.methodLink "FormulaSheet$Cells" (83 : Nat) ({ cls := "FormulaSheet$CellSet", name := "has", desc := "(I)Z" } : Jvm.MethodName)) := by decide +kernel
theorem tw_346 : lw_tbl[346]? = some (Jvm.Cond.instanceMethod ({ cls := "FormulaSheet$CellSet", name := "has", desc := "(I)Z" } : Jvm.MethodName)) := by decide +kernel
theorem tw_347 : lw_tbl[347]? = some (Jvm.Cond.selects "FormulaSheet$CellSet" ({ cls := "FormulaSheet$CellSet", name := "has", desc := "(I)Z" } : Jvm.MethodName) ({ cls := "FormulaSheet$CellSet", name := "has", desc := "(I)Z" } : Jvm.MethodName)) := by decide +kernel
theorem tw_348 : lw_tbl[348]? = some (Jvm.Cond.code ({ cls := "FormulaSheet$CellSet", name := "has", desc := "(I)Z" } : Jvm.MethodName) prog_3_method_5_code (4 : Nat) (Option.some Jvm.ClassFile.FieldType.boolean)) := by decide +kernel
theorem tw_349 : lw_tbl[349]? = some (Jvm.Cond.methodLink "FormulaSheet$Cells" (102 : Nat) ({ cls := "FormulaSheet$CellSet", name := "addAll", desc := "(LFormulaSheet$CellSet;)V" } : Jvm.MethodName)) := by decide +kernel
theorem tw_350 : lw_tbl[350]? = some (Jvm.Cond.instanceMethod ({ cls := "FormulaSheet$CellSet", name := "addAll", desc := "(LFormulaSheet$CellSet;)V" } : Jvm.MethodName)) := by decide +kernel
theorem tw_351 : lw_tbl[351]? = some (Jvm.Cond.selects "FormulaSheet$CellSet" ({ cls := "FormulaSheet$CellSet", name := "addAll", desc := "(LFormulaSheet$CellSet;)V" } : Jvm.MethodName) ({ cls := "FormulaSheet$CellSet", name := "addAll", desc := "(LFormulaSheet$CellSet;)V" } : Jvm.MethodName)) := by decide +kernel
theorem tw_352 : lw_tbl[352]? = some (Jvm.Cond.code ({ cls := "FormulaSheet$CellSet", name := "addAll", desc := "(LFormulaSheet$CellSet;)V" } : Jvm.MethodName) prog_3_method_4_code (2 : Nat) (Option.none : Option Jvm.ClassFile.FieldType)) := by decide +kernel
theorem tw_366 : lw_tbl[366]? = some (Jvm.Cond.methodLink "FormulaSheet$Cells" (114 : Nat) ({ cls := "FormulaSheet$CellSet", name := "size", desc := "()I" } : Jvm.MethodName)) := by decide +kernel
theorem tw_367 : lw_tbl[367]? = some (Jvm.Cond.instanceMethod ({ cls := "FormulaSheet$CellSet", name := "size", desc := "()I" } : Jvm.MethodName)) := by decide +kernel
theorem tw_368 : lw_tbl[368]? = some (Jvm.Cond.selects "FormulaSheet$CellSet" ({ cls := "FormulaSheet$CellSet", name := "size", desc := "()I" } : Jvm.MethodName) ({ cls := "FormulaSheet$CellSet", name := "size", desc := "()I" } : Jvm.MethodName)) := by decide +kernel
theorem tw_369 : lw_tbl[369]? = some (Jvm.Cond.code ({ cls := "FormulaSheet$CellSet", name := "size", desc := "()I" } : Jvm.MethodName) prog_3_method_6_code (1 : Nat) (Option.some Jvm.ClassFile.FieldType.int)) := by decide +kernel
theorem tw_370 : lw_tbl[370]? = some (Jvm.Cond.methodLink "FormulaSheet$CellSet" (18 : Nat) ({ cls := "java/lang/Long", name := "bitCount", desc := "(J)I" } : Jvm.MethodName)) := by decide +kernel
theorem tw_854 : lw_tbl[854]? = some (Jvm.Cond.classLink "FormulaSheet" (62 : Nat) "FormulaSheet$CellSet") := by decide +kernel
theorem tw_855 : lw_tbl[855]? = some (Jvm.Cond.methodLinkNest "FormulaSheet" (64 : Nat) ({ cls := "FormulaSheet$CellSet", name := "<init>", desc := "()V" } : Jvm.MethodName) "FormulaSheet") := by decide +kernel
theorem tw_856 : lw_tbl[856]? = some (Jvm.Cond.methodLink "FormulaSheet" (65 : Nat) ({ cls := "FormulaSheet$Part", name := "addCells", desc := "(LFormulaSheet$CellSet;)V" } : Jvm.MethodName)) := by decide +kernel
theorem tw_857 : lw_tbl[857]? = some (Jvm.Cond.methodLink "FormulaSheet" (71 : Nat) ({ cls := "FormulaSheet$CellSet", name := "size", desc := "()I" } : Jvm.MethodName)) := by decide +kernel
theorem tw_1442 : lw_tbl[1442]? = some (Jvm.Cond.methodLink "FormulaSheet" (146 : Nat) ({ cls := "FormulaSheet$CellSet", name := "has", desc := "(I)Z" } : Jvm.MethodName)) := by decide +kernel
