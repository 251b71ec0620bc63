/-! Parts: the cells that they refer to, the references that are LOST. -/
abbrev b_PT_addCells : ByteArray := prog_10_method_8_code
def y_PT_addCells : MethodName := ⟨"FormulaSheet$Part", "addCells", "(LFormulaSheet$CellSet;)V"⟩
theorem d_PT_addCells_0 : decode b_PT_addCells 0 = .ok (.iconst 0, 1) := by decide +kernel
theorem d_PT_addCells_1 : decode b_PT_addCells 1 = .ok (.istore_n 2, 1) := by decide +kernel
theorem d_PT_addCells_2 : decode b_PT_addCells 2 = .ok (.iload_n 2, 1) := by decide +kernel
theorem d_PT_addCells_3 : decode b_PT_addCells 3 = .ok (.aload_n 0, 1) := by decide +kernel
theorem d_PT_addCells_4 : decode b_PT_addCells 4 = .ok (.getfield 7, 3) := by decide +kernel
theorem d_PT_addCells_7 : decode b_PT_addCells 7 = .ok (.arraylength, 1) := by decide +kernel
theorem d_PT_addCells_8 : decode b_PT_addCells 8 = .ok (.if_icmp .ge 19, 3) := by decide +kernel
theorem d_PT_addCells_11 : decode b_PT_addCells 11 = .ok (.aload_n 0, 1) := by decide +kernel
theorem d_PT_addCells_12 : decode b_PT_addCells 12 = .ok (.getfield 7, 3) := by decide +kernel
theorem d_PT_addCells_15 : decode b_PT_addCells 15 = .ok (.iload_n 2, 1) := by decide +kernel
theorem d_PT_addCells_16 : decode b_PT_addCells 16 = .ok (.aaload, 1) := by decide +kernel
theorem d_PT_addCells_17 : decode b_PT_addCells 17 = .ok (.aload_n 1, 1) := by decide +kernel
theorem d_PT_addCells_18 : decode b_PT_addCells 18 = .ok (.invokevirtual 35, 3) := by decide +kernel
theorem d_PT_addCells_21 : decode b_PT_addCells 21 = .ok (.iinc 2 1, 3) := by decide +kernel
theorem d_PT_addCells_24 : decode b_PT_addCells 24 = .ok (.goto (-22), 3) := by decide +kernel
theorem d_PT_addCells_27 : decode b_PT_addCells 27 = .ok (.return_, 1) := by decide +kernel
abbrev b_RE_addCells : ByteArray := prog_11_method_7_code
def y_RE_addCells : MethodName := ⟨"FormulaSheet$Reference", "addCells", "(LFormulaSheet$CellSet;)V"⟩
theorem d_RE_addCells_0 : decode b_RE_addCells 0 = .ok (.aload_n 0, 1) := by decide +kernel
theorem d_RE_addCells_1 : decode b_RE_addCells 1 = .ok (.getfield 32, 3) := by decide +kernel
theorem d_RE_addCells_4 : decode b_RE_addCells 4 = .ok (.ifCond .ne 11, 3) := by decide +kernel
theorem d_RE_addCells_7 : decode b_RE_addCells 7 = .ok (.aload_n 1, 1) := by decide +kernel
theorem d_RE_addCells_8 : decode b_RE_addCells 8 = .ok (.aload_n 0, 1) := by decide +kernel
theorem d_RE_addCells_9 : decode b_RE_addCells 9 = .ok (.invokevirtual 47, 3) := by decide +kernel
theorem d_RE_addCells_12 : decode b_RE_addCells 12 = .ok (.invokevirtual 55, 3) := by decide +kernel
theorem d_RE_addCells_15 : decode b_RE_addCells 15 = .ok (.return_, 1) := by decide +kernel
abbrev b_OV_addCells : ByteArray := prog_8_method_9_code
def y_OV_addCells : MethodName := ⟨"FormulaSheet$OverRange", "addCells", "(LFormulaSheet$CellSet;)V"⟩
theorem d_OV_addCells_0 : decode b_OV_addCells 0 = .ok (.aload_n 0, 1) := by decide +kernel
theorem d_OV_addCells_1 : decode b_OV_addCells 1 = .ok (.invokevirtual 51, 3) := by decide +kernel
theorem d_OV_addCells_4 : decode b_OV_addCells 4 = .ok (.ifCond .eq 4, 3) := by decide +kernel
theorem d_OV_addCells_7 : decode b_OV_addCells 7 = .ok (.return_, 1) := by decide +kernel
theorem d_OV_addCells_8 : decode b_OV_addCells 8 = .ok (.aload_n 0, 1) := by decide +kernel
theorem d_OV_addCells_9 : decode b_OV_addCells 9 = .ok (.invokevirtual 55, 3) := by decide +kernel
theorem d_OV_addCells_12 : decode b_OV_addCells 12 = .ok (.istore_n 2, 1) := by decide +kernel
theorem d_OV_addCells_13 : decode b_OV_addCells 13 = .ok (.iload_n 2, 1) := by decide +kernel
theorem d_OV_addCells_14 : decode b_OV_addCells 14 = .ok (.aload_n 0, 1) := by decide +kernel
theorem d_OV_addCells_15 : decode b_OV_addCells 15 = .ok (.invokevirtual 59, 3) := by decide +kernel
theorem d_OV_addCells_18 : decode b_OV_addCells 18 = .ok (.if_icmp .gt 38, 3) := by decide +kernel
theorem d_OV_addCells_21 : decode b_OV_addCells 21 = .ok (.aload_n 0, 1) := by decide +kernel
theorem d_OV_addCells_22 : decode b_OV_addCells 22 = .ok (.invokevirtual 62, 3) := by decide +kernel
theorem d_OV_addCells_25 : decode b_OV_addCells 25 = .ok (.istore_n 3, 1) := by decide +kernel
theorem d_OV_addCells_26 : decode b_OV_addCells 26 = .ok (.iload_n 3, 1) := by decide +kernel
theorem d_OV_addCells_27 : decode b_OV_addCells 27 = .ok (.aload_n 0, 1) := by decide +kernel
theorem d_OV_addCells_28 : decode b_OV_addCells 28 = .ok (.invokevirtual 65, 3) := by decide +kernel
theorem d_OV_addCells_31 : decode b_OV_addCells 31 = .ok (.if_icmp .gt 19, 3) := by decide +kernel
theorem d_OV_addCells_34 : decode b_OV_addCells 34 = .ok (.aload_n 1, 1) := by decide +kernel
theorem d_OV_addCells_35 : decode b_OV_addCells 35 = .ok (.iload_n 3, 1) := by decide +kernel
theorem d_OV_addCells_36 : decode b_OV_addCells 36 = .ok (.bipush 8, 2) := by decide +kernel
theorem d_OV_addCells_38 : decode b_OV_addCells 38 = .ok (.imul, 1) := by decide +kernel
theorem d_OV_addCells_39 : decode b_OV_addCells 39 = .ok (.iload_n 2, 1) := by decide +kernel
theorem d_OV_addCells_40 : decode b_OV_addCells 40 = .ok (.iadd, 1) := by decide +kernel
theorem d_OV_addCells_41 : decode b_OV_addCells 41 = .ok (.invokevirtual 68, 3) := by decide +kernel
theorem d_OV_addCells_44 : decode b_OV_addCells 44 = .ok (.iinc 3 1, 3) := by decide +kernel
theorem d_OV_addCells_47 : decode b_OV_addCells 47 = .ok (.goto (-21), 3) := by decide +kernel
theorem d_OV_addCells_50 : decode b_OV_addCells 50 = .ok (.iinc 2 1, 3) := by decide +kernel
theorem d_OV_addCells_53 : decode b_OV_addCells 53 = .ok (.goto (-40), 3) := by decide +kernel
theorem d_OV_addCells_56 : decode b_OV_addCells 56 = .ok (.return_, 1) := by decide +kernel
abbrev b_PT_lostReferences : ByteArray := prog_10_method_9_code
def y_PT_lostReferences : MethodName := ⟨"FormulaSheet$Part", "lostReferences", "()I"⟩
theorem d_PT_lostReferences_0 : decode b_PT_lostReferences 0 = .ok (.iconst 0, 1) := by decide +kernel
theorem d_PT_lostReferences_1 : decode b_PT_lostReferences 1 = .ok (.istore_n 1, 1) := by decide +kernel
theorem d_PT_lostReferences_2 : decode b_PT_lostReferences 2 = .ok (.iconst 0, 1) := by decide +kernel
theorem d_PT_lostReferences_3 : decode b_PT_lostReferences 3 = .ok (.istore_n 2, 1) := by decide +kernel
theorem d_PT_lostReferences_4 : decode b_PT_lostReferences 4 = .ok (.iload_n 2, 1) := by decide +kernel
theorem d_PT_lostReferences_5 : decode b_PT_lostReferences 5 = .ok (.aload_n 0, 1) := by decide +kernel
theorem d_PT_lostReferences_6 : decode b_PT_lostReferences 6 = .ok (.getfield 7, 3) := by decide +kernel
theorem d_PT_lostReferences_9 : decode b_PT_lostReferences 9 = .ok (.arraylength, 1) := by decide +kernel
theorem d_PT_lostReferences_10 : decode b_PT_lostReferences 10 = .ok (.if_icmp .ge 21, 3) := by decide +kernel
theorem d_PT_lostReferences_13 : decode b_PT_lostReferences 13 = .ok (.iload_n 1, 1) := by decide +kernel
theorem d_PT_lostReferences_14 : decode b_PT_lostReferences 14 = .ok (.aload_n 0, 1) := by decide +kernel
theorem d_PT_lostReferences_15 : decode b_PT_lostReferences 15 = .ok (.getfield 7, 3) := by decide +kernel
theorem d_PT_lostReferences_18 : decode b_PT_lostReferences 18 = .ok (.iload_n 2, 1) := by decide +kernel
theorem d_PT_lostReferences_19 : decode b_PT_lostReferences 19 = .ok (.aaload, 1) := by decide +kernel
theorem d_PT_lostReferences_20 : decode b_PT_lostReferences 20 = .ok (.invokevirtual 39, 3) := by decide +kernel
theorem d_PT_lostReferences_23 : decode b_PT_lostReferences 23 = .ok (.iadd, 1) := by decide +kernel
theorem d_PT_lostReferences_24 : decode b_PT_lostReferences 24 = .ok (.istore_n 1, 1) := by decide +kernel
theorem d_PT_lostReferences_25 : decode b_PT_lostReferences 25 = .ok (.iinc 2 1, 3) := by decide +kernel
theorem d_PT_lostReferences_28 : decode b_PT_lostReferences 28 = .ok (.goto (-24), 3) := by decide +kernel
theorem d_PT_lostReferences_31 : decode b_PT_lostReferences 31 = .ok (.iload_n 1, 1) := by decide +kernel
theorem d_PT_lostReferences_32 : decode b_PT_lostReferences 32 = .ok (.ireturn, 1) := by decide +kernel
abbrev b_RE_lostReferences : ByteArray := prog_11_method_8_code
def y_RE_lostReferences : MethodName := ⟨"FormulaSheet$Reference", "lostReferences", "()I"⟩
theorem d_RE_lostReferences_0 : decode b_RE_lostReferences 0 = .ok (.aload_n 0, 1) := by decide +kernel
theorem d_RE_lostReferences_1 : decode b_RE_lostReferences 1 = .ok (.getfield 32, 3) := by decide +kernel
theorem d_RE_lostReferences_4 : decode b_RE_lostReferences 4 = .ok (.ifCond .eq 7, 3) := by decide +kernel
theorem d_RE_lostReferences_7 : decode b_RE_lostReferences 7 = .ok (.iconst 1, 1) := by decide +kernel
theorem d_RE_lostReferences_8 : decode b_RE_lostReferences 8 = .ok (.goto 4, 3) := by decide +kernel
theorem d_RE_lostReferences_11 : decode b_RE_lostReferences 11 = .ok (.iconst 0, 1) := by decide +kernel
theorem d_RE_lostReferences_12 : decode b_RE_lostReferences 12 = .ok (.ireturn, 1) := by decide +kernel
theorem tw_1 : lw_tbl[1]? = some (Cond.selects "FormulaSheet$OverRange" ⟨"FormulaSheet$OverRange", "isLost", "()Z"⟩ ⟨"FormulaSheet$OverRange", "isLost", "()Z"⟩) := by decide +kernel
theorem tw_2 : lw_tbl[2]? = some (Cond.selects "FormulaSheet$OverRange" ⟨"FormulaSheet$OverRange", "left", "()I"⟩ ⟨"FormulaSheet$OverRange", "left", "()I"⟩) := by decide +kernel
theorem tw_3 : lw_tbl[3]? = some (Cond.selects "FormulaSheet$OverRange" ⟨"FormulaSheet$OverRange", "right", "()I"⟩ ⟨"FormulaSheet$OverRange", "right", "()I"⟩) := by decide +kernel
theorem tw_4 : lw_tbl[4]? = some (Cond.selects "FormulaSheet$OverRange" ⟨"FormulaSheet$OverRange", "top", "()I"⟩ ⟨"FormulaSheet$OverRange", "top", "()I"⟩) := by decide +kernel
theorem tw_5 : lw_tbl[5]? = some (Cond.selects "FormulaSheet$OverRange" ⟨"FormulaSheet$OverRange", "bottom", "()I"⟩ ⟨"FormulaSheet$OverRange", "bottom", "()I"⟩) := by decide +kernel
theorem tw_6 : lw_tbl[6]? = some (Cond.selects "FormulaSheet$Reference" ⟨"FormulaSheet$Reference", "cell", "()I"⟩ ⟨"FormulaSheet$Reference", "cell", "()I"⟩) := by decide +kernel
theorem tw_91 : lw_tbl[91]? = some (Jvm.Cond.initialized "FormulaSheet$CellSet") := by decide +kernel
theorem tw_105 : lw_tbl[105]? = some (Jvm.Cond.initialized "FormulaSheet$Reference") := by decide +kernel
theorem tw_109 : lw_tbl[109]? = some (Jvm.Cond.initialized "FormulaSheet$OverRange") := by decide +kernel
theorem tw_290 : lw_tbl[290]? = some (Jvm.Cond.instanceMethod ({ cls := "FormulaSheet$Part", name := "addCells", desc := "(LFormulaSheet$CellSet;)V" } : Jvm.MethodName)) := by decide +kernel
theorem tw_291 : lw_tbl[291]? = some (Jvm.Cond.sameMethod "FormulaSheet$Part" "FormulaSheet$Part" "addCells" "(LFormulaSheet$CellSet;)V") := by decide +kernel
theorem tw_292 : lw_tbl[292]? = some (Jvm.Cond.selects "FormulaSheet$Call" ({ cls := "FormulaSheet$Part", name := "addCells", desc := "(LFormulaSheet$CellSet;)V" } : Jvm.MethodName) ({ cls := "FormulaSheet$Part", name := "addCells", desc := "(LFormulaSheet$CellSet;)V" } : Jvm.MethodName)) := by decide +kernel
theorem tw_293 : lw_tbl[293]? = some (Jvm.Cond.selects "FormulaSheet$Numeral" ({ cls := "FormulaSheet$Part", name := "addCells", desc := "(LFormulaSheet$CellSet;)V" } : Jvm.MethodName) ({ cls := "FormulaSheet$Part", name := "addCells", desc := "(LFormulaSheet$CellSet;)V" } : Jvm.MethodName)) := by decide +kernel
theorem tw_294 : lw_tbl[294]? = some (Jvm.Cond.selects "FormulaSheet$OverRange" ({ cls := "FormulaSheet$Part", name := "addCells", desc := "(LFormulaSheet$CellSet;)V" } : Jvm.MethodName) ({ cls := "FormulaSheet$OverRange", name := "addCells", desc := "(LFormulaSheet$CellSet;)V" } : Jvm.MethodName)) := by decide +kernel
theorem tw_295 : lw_tbl[295]? = some (Jvm.Cond.instanceMethod ({ cls := "FormulaSheet$OverRange", name := "addCells", desc := "(LFormulaSheet$CellSet;)V" } : Jvm.MethodName)) := by decide +kernel
theorem tw_296 : lw_tbl[296]? = some (Jvm.Cond.code ({ cls := "FormulaSheet$OverRange", name := "addCells", desc := "(LFormulaSheet$CellSet;)V" } : Jvm.MethodName) prog_8_method_9_code (4 : Nat) (Option.none : Option Jvm.ClassFile.FieldType)) := by decide +kernel
theorem tw_297 : lw_tbl[297]? = some (Jvm.Cond.methodLink "FormulaSheet$OverRange" (51 : Nat) ({ cls := "FormulaSheet$OverRange", name := "isLost", desc := "()Z" } : Jvm.MethodName)) := by decide +kernel
theorem tw_299 : lw_tbl[299]? = some (Jvm.Cond.instanceMethod ({ cls := "FormulaSheet$OverRange", name := "isLost", desc := "()Z" } : Jvm.MethodName)) := by decide +kernel
theorem tw_301 : lw_tbl[301]? = some (Jvm.Cond.code ({ cls := "FormulaSheet$OverRange", name := "isLost", desc := "()Z" } : Jvm.MethodName) prog_8_method_4_code (1 : Nat) (Option.some Jvm.ClassFile.FieldType.boolean)) := by decide +kernel
theorem tw_302 : lw_tbl[302]? = some (Jvm.Cond.methodLink "FormulaSheet$OverRange" (55 : Nat) ({ cls := "FormulaSheet$OverRange", name := "left", desc := "()I" } : Jvm.MethodName)) := by decide +kernel
theorem tw_304 : lw_tbl[304]? = some (Jvm.Cond.instanceMethod ({ cls := "FormulaSheet$OverRange", name := "left", desc := "()I" } : Jvm.MethodName)) := by decide +kernel
theorem tw_305 : lw_tbl[305]? = some (Jvm.Cond.code ({ cls := "FormulaSheet$OverRange", name := "left", desc := "()I" } : Jvm.MethodName) prog_8_method_5_code (1 : Nat) (Option.some Jvm.ClassFile.FieldType.int)) := by decide +kernel
theorem tw_309 : lw_tbl[309]? = some (Jvm.Cond.methodLink "FormulaSheet$OverRange" (59 : Nat) ({ cls := "FormulaSheet$OverRange", name := "right", desc := "()I" } : Jvm.MethodName)) := by decide +kernel
theorem tw_311 : lw_tbl[311]? = some (Jvm.Cond.instanceMethod ({ cls := "FormulaSheet$OverRange", name := "right", desc := "()I" } : Jvm.MethodName)) := by decide +kernel
theorem tw_312 : lw_tbl[312]? = some (Jvm.Cond.code ({ cls := "FormulaSheet$OverRange", name := "right", desc := "()I" } : Jvm.MethodName) prog_8_method_6_code (1 : Nat) (Option.some Jvm.ClassFile.FieldType.int)) := by decide +kernel
theorem tw_316 : lw_tbl[316]? = some (Jvm.Cond.methodLink "FormulaSheet$OverRange" (62 : Nat) ({ cls := "FormulaSheet$OverRange", name := "top", desc := "()I" } : Jvm.MethodName)) := by decide +kernel
theorem tw_318 : lw_tbl[318]? = some (Jvm.Cond.instanceMethod ({ cls := "FormulaSheet$OverRange", name := "top", desc := "()I" } : Jvm.MethodName)) := by decide +kernel
theorem tw_319 : lw_tbl[319]? = some (Jvm.Cond.code ({ cls := "FormulaSheet$OverRange", name := "top", desc := "()I" } : Jvm.MethodName) prog_8_method_7_code (1 : Nat) (Option.some Jvm.ClassFile.FieldType.int)) := by decide +kernel
theorem tw_320 : lw_tbl[320]? = some (Jvm.Cond.methodLink "FormulaSheet$OverRange" (65 : Nat) ({ cls := "FormulaSheet$OverRange", name := "bottom", desc := "()I" } : Jvm.MethodName)) := by decide +kernel
theorem tw_322 : lw_tbl[322]? = some (Jvm.Cond.instanceMethod ({ cls := "FormulaSheet$OverRange", name := "bottom", desc := "()I" } : Jvm.MethodName)) := by decide +kernel
theorem tw_323 : lw_tbl[323]? = some (Jvm.Cond.code ({ cls := "FormulaSheet$OverRange", name := "bottom", desc := "()I" } : Jvm.MethodName) prog_8_method_8_code (1 : Nat) (Option.some Jvm.ClassFile.FieldType.int)) := by decide +kernel
theorem tw_324 : lw_tbl[324]? = some (Jvm.Cond.methodLink "FormulaSheet$OverRange" (68 : Nat) ({ cls := "FormulaSheet$CellSet", name := "add", desc := "(I)V" } : Jvm.MethodName)) := by decide +kernel
theorem tw_325 : lw_tbl[325]? = some (Jvm.Cond.instanceMethod ({ cls := "FormulaSheet$CellSet", name := "add", desc := "(I)V" } : Jvm.MethodName)) := by decide +kernel
theorem tw_326 : lw_tbl[326]? = some (Jvm.Cond.selects "FormulaSheet$CellSet" ({ cls := "FormulaSheet$CellSet", name := "add", desc := "(I)V" } : Jvm.MethodName) ({ cls := "FormulaSheet$CellSet", name := "add", desc := "(I)V" } : Jvm.MethodName)) := by decide +kernel
theorem tw_327 : lw_tbl[327]? = some (Jvm.Cond.code ({ cls := "FormulaSheet$CellSet", name := "add", desc := "(I)V" } : Jvm.MethodName) prog_3_method_3_code (2 : Nat) (Option.none : Option Jvm.ClassFile.FieldType)) := by decide +kernel
theorem tw_328 : lw_tbl[328]? = some (Jvm.Cond.selects "FormulaSheet$Pair" ({ cls := "FormulaSheet$Part", name := "addCells", desc := "(LFormulaSheet$CellSet;)V" } : Jvm.MethodName) ({ cls := "FormulaSheet$Part", name := "addCells", desc := "(LFormulaSheet$CellSet;)V" } : Jvm.MethodName)) := by decide +kernel
theorem tw_329 : lw_tbl[329]? = some (Jvm.Cond.selects "FormulaSheet$Reference" ({ cls := "FormulaSheet$Part", name := "addCells", desc := "(LFormulaSheet$CellSet;)V" } : Jvm.MethodName) ({ cls := "FormulaSheet$Reference", name := "addCells", desc := "(LFormulaSheet$CellSet;)V" } : Jvm.MethodName)) := by decide +kernel
theorem tw_330 : lw_tbl[330]? = some (Jvm.Cond.instanceMethod ({ cls := "FormulaSheet$Reference", name := "addCells", desc := "(LFormulaSheet$CellSet;)V" } : Jvm.MethodName)) := by decide +kernel
theorem tw_331 : lw_tbl[331]? = some (Jvm.Cond.code ({ cls := "FormulaSheet$Reference", name := "addCells", desc := "(LFormulaSheet$CellSet;)V" } : Jvm.MethodName) prog_11_method_7_code (2 : Nat) (Option.none : Option Jvm.ClassFile.FieldType)) := by decide +kernel
theorem tw_332 : lw_tbl[332]? = some (Jvm.Cond.methodLink "FormulaSheet$Reference" (47 : Nat) ({ cls := "FormulaSheet$Reference", name := "cell", desc := "()I" } : Jvm.MethodName)) := by decide +kernel
theorem tw_334 : lw_tbl[334]? = some (Jvm.Cond.instanceMethod ({ cls := "FormulaSheet$Reference", name := "cell", desc := "()I" } : Jvm.MethodName)) := by decide +kernel
theorem tw_336 : lw_tbl[336]? = some (Jvm.Cond.code ({ cls := "FormulaSheet$Reference", name := "cell", desc := "()I" } : Jvm.MethodName) prog_11_method_5_code (1 : Nat) (Option.some Jvm.ClassFile.FieldType.int)) := by decide +kernel
theorem tw_337 : lw_tbl[337]? = some (Jvm.Cond.methodLink "FormulaSheet$Reference" (55 : Nat) ({ cls := "FormulaSheet$CellSet", name := "add", desc := "(I)V" } : Jvm.MethodName)) := by decide +kernel
theorem tw_338 : lw_tbl[338]? = some (Jvm.Cond.selects "FormulaSheet$Single" ({ cls := "FormulaSheet$Part", name := "addCells", desc := "(LFormulaSheet$CellSet;)V" } : Jvm.MethodName) ({ cls := "FormulaSheet$Part", name := "addCells", desc := "(LFormulaSheet$CellSet;)V" } : Jvm.MethodName)) := by decide +kernel
theorem tw_339 : lw_tbl[339]? = some (Jvm.Cond.code ({ cls := "FormulaSheet$Part", name := "addCells", desc := "(LFormulaSheet$CellSet;)V" } : Jvm.MethodName) prog_10_method_8_code (3 : Nat) (Option.none : Option Jvm.ClassFile.FieldType)) := by decide +kernel
theorem tw_340 : lw_tbl[340]? = some (Jvm.Cond.methodLink "FormulaSheet$Part" (35 : Nat) ({ cls := "FormulaSheet$Part", name := "addCells", desc := "(LFormulaSheet$CellSet;)V" } : Jvm.MethodName)) := by decide +kernel
theorem tw_471 : lw_tbl[471]? = some (Jvm.Cond.instanceMethod ({ cls := "FormulaSheet$Part", name := "lostReferences", desc := "()I" } : Jvm.MethodName)) := by decide +kernel
theorem tw_472 : lw_tbl[472]? = some (Jvm.Cond.sameMethod "FormulaSheet$Part" "FormulaSheet$Part" "lostReferences" "()I") := by decide +kernel
theorem tw_473 : lw_tbl[473]? = some (Jvm.Cond.selects "FormulaSheet$Call" ({ cls := "FormulaSheet$Part", name := "lostReferences", desc := "()I" } : Jvm.MethodName) ({ cls := "FormulaSheet$Part", name := "lostReferences", desc := "()I" } : Jvm.MethodName)) := by decide +kernel
theorem tw_474 : lw_tbl[474]? = some (Jvm.Cond.selects "FormulaSheet$Numeral" ({ cls := "FormulaSheet$Part", name := "lostReferences", desc := "()I" } : Jvm.MethodName) ({ cls := "FormulaSheet$Part", name := "lostReferences", desc := "()I" } : Jvm.MethodName)) := by decide +kernel
theorem tw_475 : lw_tbl[475]? = some (Jvm.Cond.selects "FormulaSheet$OverRange" ({ cls := "FormulaSheet$Part", name := "lostReferences", desc := "()I" } : Jvm.MethodName) ({ cls := "FormulaSheet$Part", name := "lostReferences", desc := "()I" } : Jvm.MethodName)) := by decide +kernel
theorem tw_476 : lw_tbl[476]? = some (Jvm.Cond.selects "FormulaSheet$Pair" ({ cls := "FormulaSheet$Part", name := "lostReferences", desc := "()I" } : Jvm.MethodName) ({ cls := "FormulaSheet$Part", name := "lostReferences", desc := "()I" } : Jvm.MethodName)) := by decide +kernel
theorem tw_477 : lw_tbl[477]? = some (Jvm.Cond.selects "FormulaSheet$Reference" ({ cls := "FormulaSheet$Part", name := "lostReferences", desc := "()I" } : Jvm.MethodName) ({ cls := "FormulaSheet$Reference", name := "lostReferences", desc := "()I" } : Jvm.MethodName)) := by decide +kernel
theorem tw_478 : lw_tbl[478]? = some (Jvm.Cond.instanceMethod ({ cls := "FormulaSheet$Reference", name := "lostReferences", desc := "()I" } : Jvm.MethodName)) := by decide +kernel
theorem tw_479 : lw_tbl[479]? = some (Jvm.Cond.code ({ cls := "FormulaSheet$Reference", name := "lostReferences", desc := "()I" } : Jvm.MethodName) prog_11_method_8_code (1 : Nat) (Option.some Jvm.ClassFile.FieldType.int)) := by decide +kernel
theorem tw_480 : lw_tbl[480]? = some (Jvm.Cond.selects "FormulaSheet$Single" ({ cls := "FormulaSheet$Part", name := "lostReferences", desc := "()I" } : Jvm.MethodName) ({ cls := "FormulaSheet$Part", name := "lostReferences", desc := "()I" } : Jvm.MethodName)) := by decide +kernel
theorem tw_481 : lw_tbl[481]? = some (Jvm.Cond.code ({ cls := "FormulaSheet$Part", name := "lostReferences", desc := "()I" } : Jvm.MethodName) prog_10_method_9_code (3 : Nat) (Option.some Jvm.ClassFile.FieldType.int)) := by decide +kernel
theorem tw_482 : lw_tbl[482]? = some (Jvm.Cond.methodLink "FormulaSheet$Part" (39 : Nat) ({ cls := "FormulaSheet$Part", name := "lostReferences", desc := "()I" } : Jvm.MethodName)) := by decide +kernel
theorem tw_708 : lw_tbl[708]? = some (Jvm.Cond.fieldLink "FormulaSheet$Reference" (32 : Nat) "FormulaSheet$Reference" "lost" "Z") := by decide +kernel
def w_PT_addCells_L2 (self : fs_E → fs_Hp → Nat → Nat → fs_Ps → Prop) (E : fs_E) (K : fs_Hp → Prop) (Post : fs_Ps) : Nat → Nat → Nat → Int32 → fs_Hp → Prop
  | 0 => fun _ _ _ _ => False
  | n + 1 => fun z0 z1 z2 h1 => fs_gP h1 z0 (fun a101 => fs_an h1 a101 (E.1.2 6) (fun n102 => (if (Int32.ofNat n102) ≤ z2 then K h1 else fs_gP h1 z0 (fun a104 => fs_aq h1 a104 (E.1.2 6) z2 (fun o9 => match o9 with | none => False | some a107 => self E h1 a107 z1 (fs_kv (fun h108 => (w_PT_addCells_L2 self E K Post n) z0 z1 (z2 + 1) h108) (fun C_ h_ => Post (.inr C_) h_)))))))
def w_PT_addCells (self : fs_E → fs_Hp → Nat → Nat → fs_Ps → Prop) (E : fs_E) (h : fs_Hp) (a0 : Nat) (x1 : Nat) (Post : fs_Ps) : Prop := (∃ n110 : Nat, w_PT_addCells_L2 self E (fun h109 => Post (.inl none) h109) Post n110 a0 x1 0 h)
set_option maxHeartbeats 4000000 in
set_option maxRecDepth 100000 in
theorem lw_w_PT_addCells_2 {p : Program} {l : Launch} {e : Env} {R : Room} {s : State} {m : MethodId} {args : Array Value} {below : List Frame} {meth : Method} {c : Code} {s00 : State} {E : fs_E} {Post : fs_Ps} (hE : fs_SE l s00 E) {self : fs_E → fs_Hp → Nat → Nat → fs_Ps → Prop} {fn ln : Nat} (hself : ∀ {h9 : fs_Hp} {q0 : Nat} {q1 : Nat} {P9 : fs_Ps}, self E h9 q0 q1 P9 → fs_CtV l s00 E.1 y_PT_addCells { frames := fn, cells := 0, slots := 0, locals := ln } q0 [.ref q1] h9 P9 4) (B : fs_B p l e s m args meth c s00 E.1 y_PT_addCells b_PT_addCells 3 none) (hout : ∀ pc, ∀ x ∈ c.exceptionTable.toList, covers x pc = false) (hRf : fn + 2 ≤ R.frames) (hRl : ln + 26 ≤ R.locals) (K : fs_Hp → Prop) : ∀ (n : Nat) (z0 : Nat) (z1 : Nat) (z2 : Int32) (h1 : fs_Hp) (H : Heap) (locs : List Loc) (ls : Array Slot), w_PT_addCells_L2 self E K Post n z0 z1 z2 h1 → fs_P E.1.1 fs_cl (fs_A s00) h1 H → va_S (fs_A s00) s00.heap H locs → lv_has ls 3 [(0, .ref z0), (1, .ref z1), (2, .int z2)] → (∀  (h' : fs_Hp) (H : Heap) (locs : List Loc) (ls : Array Slot), K  h' → fs_P E.1.1 fs_cl (fs_A s00) h' H → va_S (fs_A s00) s00.heap H locs → lv_has ls 3 [(0, .ref z0), (1, .ref z1)] → W p l e R s m args below meth c H locs 0 0 (fx_MQ below (fs_Qc s00 E.1 Post) args s 0 0 (fs_A s00)) (F0 m 27 ls [])) → W p l e R s m args below meth c H locs 0 0 (fx_MQ below (fs_Qc s00 E.1 Post) args s 0 0 (fs_A s00)) (F0 m 2 ls []) := by
  obtain ⟨hx, hb, hr, hml, hown, hts, hlocks, hname, hK, hw, htr⟩ := id B
  have hown : s.vm.findClass "FormulaSheet$Part" = some m.cls := hown
  intro n
  induction n with
  | zero => intro z0 z1 z2 h1 H locs ls hq; exact False.elim hq
  | succ n ih =>
    intro z0 z1 z2 h1 H locs ls hq hP hS hl kk
    rw [w_PT_addCells_L2] at hq
    refine lv_iload_n hx hb d_PT_addCells_2 rfl (lv_at hl 2 rfl) ?_
    refine lv_aload_n hx hb d_PT_addCells_3 rfl (lv_at hl 0 rfl) ?_
    obtain ⟨ci_, fs_, a101, e_, hc_, hv_, hq⟩ := fs_gP_some hq
    refine fs_getP hx hb hts hown hK hP e_ hc_ hv_ (hts _ (fs_tb_at 673 tw_673 rfl)) d_PT_addCells_4 ?_
    obtain ⟨x_, n102, en_, e_, hq⟩ := fs_an_some hq
    refine fs_alen hx hb hK hP 6 e_ rfl rfl d_PT_addCells_7 ?_
    rw [← en_]
    refine lv_icmp_ge (tgt := 27) hx hb d_PT_addCells_8 (by decide) (fun c_103 => ?_) (fun c_103 => ?_)
    · have hq := fs_wifp c_103 hq
      exact kk  _ _ _ _ hq hP hS (show lv_has ls 3 [(0, .ref z0), (1, .ref z1)] from lv_sub hl [0, 1] rfl)
    · have hq := fs_wifn c_103 hq
      refine lv_aload_n hx hb d_PT_addCells_11 rfl (lv_at hl 0 rfl) ?_
      obtain ⟨ci_, fs_, a104, e_, hc_, hv_, hq⟩ := fs_gP_some hq
      refine fs_getP hx hb hts hown hK hP e_ hc_ hv_ (hts _ (fs_tb_at 673 tw_673 rfl)) d_PT_addCells_12 ?_
      refine lv_iload_n hx hb d_PT_addCells_15 rfl (lv_at hl 2 rfl) ?_
      obtain ⟨n_, f_, o105, e_, hi_, ex_, hq⟩ := fs_aq_some hq
      refine fs_aald hx hb hK hP 6 e_ rfl hi_ d_PT_addCells_16 ?_
      rw [← ex_]
      cases o105 with
      | none =>
        refine W.eq (g2 := F0 m 17 ls (.null :: [])) rfl ?_
        refine lv_aload_n hx hb d_PT_addCells_17 rfl (lv_at hl 1 rfl) ?_
        exact False.elim hq
      | some a107 =>
        refine W.eq (g2 := F0 m 17 ls (.ref a107 :: [])) rfl ?_
        refine lv_aload_n hx hb d_PT_addCells_17 rfl (lv_at hl 1 rfl) ?_
        refine fs_cVV (owner := "FormulaSheet$Part") B hl.1 hP hS (hself hq) (fs_tb_at 340 tw_340 rfl) (fs_tb_at 291 tw_291 rfl) (fs_dclC (fs_tb_at 290 tw_290 rfl) (fs_tb_at 339 tw_339 rfl)) (by decide) (show (parseMethodDescriptor y_PT_addCells.desc).map (fun d => d.parameters.length) = some 1 by decide +kernel) rfl d_PT_addCells_18 (fs_rm (k := 0) (by omega) (by omega) (by omega) (by omega) rfl) (fun v_ h108 H locs hq hP hS => ?_) (fun C_ a_ h_ H locs hq hP hS hX => fs_out (hout _) hlocks hw hP hS hX (Nat.le_of_ble_eq_true rfl) (Nat.le_of_ble_eq_true rfl) hq)
        refine fs_cs (k := 0) (n := 0) rfl rfl ?_
        replace hq := fs_kv_some hq
        obtain ⟨rfl, hq⟩ := hq
        refine W.eq (g2 := F0 m 21 ls ([])) rfl ?_
        refine lv_iinc (v := z2 + 1) (lv' := [(2, .int (z2 + 1)), (0, .ref z0), (1, .ref z1)]) hx hb d_PT_addCells_21 hl (k := 2) rfl rfl (by decide) rfl (fun ls hl => ?_)
        refine lv_goto (tgt := 2) hx hb d_PT_addCells_24 (by decide) ?_
        exact ih z0 z1 (z2 + 1) _ _ _ _ hq hP hS (show lv_has ls 3 [(0, .ref z0), (1, .ref z1), (2, .int (z2 + 1))] from lv_sub hl [1, 2, 0] rfl) kk
set_option maxHeartbeats 4000000 in
set_option maxRecDepth 100000 in
theorem kw_PT_addCells {l : Launch} {s00 : State} {E : fs_E} (hE : fs_SE l s00 E) {self : fs_E → fs_Hp → Nat → Nat → fs_Ps → Prop} {fn ln : Nat} (hself : ∀ {h9 : fs_Hp} {q0 : Nat} {q1 : Nat} {P9 : fs_Ps}, self E h9 q0 q1 P9 → fs_CtV l s00 E.1 y_PT_addCells { frames := fn, cells := 0, slots := 0, locals := ln } q0 [.ref q1] h9 P9 4) {h : fs_Hp} {a0 : Nat} {x1 : Nat} {Post : fs_Ps} (hq : w_PT_addCells self E h a0 x1 Post) : fs_Ct l s00 E.1 y_PT_addCells (.code y_PT_addCells b_PT_addCells 3 none) { frames := fn + 2, cells := 0, slots := 0, locals := ln + 26 } [.ref a0, .ref x1] h Post := by
  refine fs_Ct.ofR hE.1 (by decide) ?_
  intro p e R s m below meth c hRf hRl hRc hRs B hout hP
  skip
  obtain ⟨hx, hb, hr, hml, hown, hts, hlocks, hname, hK, hw, htr⟩ := id B
  have hown : s.vm.findClass "FormulaSheet$Part" = some m.cls := hown
  have hS := hw.S
  have hl := lv_entry ([.ref a0, .ref x1]) (n := 3) (Nat.le_of_ble_eq_true rfl)
  rw [lg_entry_eq]
  generalize (lg_sl ([.ref a0, .ref x1]) ++ List.replicate (3 - (lg_sl ([.ref a0, .ref x1])).length) Slot.unset).toArray = ls at hl ⊢
  have hl : lv_has ls 3 [(0, .ref a0), (1, .ref x1)] := hl
  unfold w_PT_addCells at hq
  refine lv_iconst (v := 0) hx hb d_PT_addCells_0 (by decide) ?_
  refine lv_istore_n (lv' := [(2, .int 0), (0, .ref a0), (1, .ref x1)]) hx hb d_PT_addCells_1 rfl hl (by decide) rfl (fun ls hl => ?_)
  obtain ⟨n110, hq⟩ := hq
  refine lw_w_PT_addCells_2 hE hself B hout (by omega) (by omega) _ n110 a0 x1 0 _ _ _ _ hq hP hS (show lv_has ls 3 [(0, .ref a0), (1, .ref x1), (2, .int 0)] from lv_sub hl [1, 2, 0] rfl) (fun  h109 H locs ls hq hP hS hl => ?_)
  exact fs_vret hx hb hr hlocks hw hP hS (Nat.le_refl _) (Nat.le_refl _) hq d_PT_addCells_27
def w_RE_addCells (self : fs_E → fs_Hp → Nat → Nat → fs_Ps → Prop) (E : fs_E) (h : fs_Hp) (a0 : Nat) (x1 : Nat) (Post : fs_Ps) : Prop := fs_gi h a0 5 4 (fun x101 => (if x101 = 0 then fs_isc h a0 5 ∧ (w_RE_cell E h a0 (fs_ki (fun x104 h103 => fs_isc h103 x1 3 ∧ (w_CS_add E h103 x1 x104 (fs_kv (fun h105 => Post (.inl none) h105) (fun C_ h_ => Post (.inr C_) h_)))) (fun C_ h_ => Post (.inr C_) h_))) else Post (.inl none) h))
set_option maxHeartbeats 4000000 in
set_option maxRecDepth 100000 in
theorem kw_RE_addCells {l : Launch} {s00 : State} {E : fs_E} (hE : fs_SE l s00 E) {self : fs_E → fs_Hp → Nat → Nat → fs_Ps → Prop} {fn ln : Nat} (hself : ∀ {h9 : fs_Hp} {q0 : Nat} {q1 : Nat} {P9 : fs_Ps}, self E h9 q0 q1 P9 → fs_CtV l s00 E.1 y_PT_addCells { frames := fn, cells := 0, slots := 0, locals := ln } q0 [.ref q1] h9 P9 4) {h : fs_Hp} {a0 : Nat} {x1 : Nat} {Post : fs_Ps} (hq : w_RE_addCells self E h a0 x1 Post) : fs_Ct l s00 E.1 y_RE_addCells (.code y_RE_addCells b_RE_addCells 2 none) { frames := fn + 2, cells := 0, slots := 0, locals := ln + 26 } [.ref a0, .ref x1] h Post := by
  refine fs_Ct.ofR hE.1 (by decide) ?_
  intro p e R s m below meth c hRf hRl hRc hRs B hout hP
  skip
  obtain ⟨hx, hb, hr, hml, hown, hts, hlocks, hname, hK, hw, htr⟩ := id B
  have hown : s.vm.findClass "FormulaSheet$Reference" = some m.cls := hown
  have hS := hw.S
  have hl := lv_entry ([.ref a0, .ref x1]) (n := 2) (Nat.le_of_ble_eq_true rfl)
  rw [lg_entry_eq]
  generalize (lg_sl ([.ref a0, .ref x1]) ++ List.replicate (2 - (lg_sl ([.ref a0, .ref x1])).length) Slot.unset).toArray = ls at hl ⊢
  have hl : lv_has ls 2 [(0, .ref a0), (1, .ref x1)] := hl
  unfold w_RE_addCells at hq
  refine lv_aload_n hx hb d_RE_addCells_0 rfl (lv_at hl 0 rfl) ?_
  obtain ⟨fs_, x101, he_, hv_, hq⟩ := fs_gi_some hq
  refine fs_get hx hb hts hown hK c_RE hP he_ 4 (by decide) (hts _ (fs_tb_at 708 tw_708 rfl)) (fun _ h9 => h9) hv_ d_RE_addCells_1 ?_
  refine lv_if_ne (tgt := 15) hx hb d_RE_addCells_4 (by decide) (fun c_102 => ?_) (fun c_102 => ?_)
  · have hq := fs_wifn c_102 hq
    exact fs_vret hx hb hr hlocks hw hP hS (Nat.le_refl _) (Nat.le_refl _) hq d_RE_addCells_15
  · have hq := fs_wifp c_102 hq
    refine lv_aload_n hx hb d_RE_addCells_7 rfl (lv_at hl 1 rfl) ?_
    refine lv_aload_n hx hb d_RE_addCells_8 rfl (lv_at hl 0 rfl) ?_
    obtain ⟨hi_, hq⟩ := hq
    obtain ⟨fs_, he_⟩ := fs_isc_some hi_
    refine fs_cV B hl.1 hP hS (kw_RE_cell hE hq) (fs_tb_at 332 tw_332 rfl) he_ rfl (fs_tb_at 334 tw_334 rfl) (fs_tb_at 6 tw_6 rfl) (fs_tb_at 105 tw_105 rfl) (fs_tb_at 336 tw_336 rfl) (by decide) (show (parseMethodDescriptor y_RE_cell.desc).map (fun d => d.parameters.length) = some 0 by decide +kernel) rfl d_RE_addCells_9 (fs_rm (k := 1) (by omega) (by omega) (by omega) (by omega) rfl) (fun v_ h103 H locs hq hP hS => ?_) (fun C_ a_ h_ H locs hq hP hS hX => fs_out (hout _) hlocks hw hP hS hX (Nat.le_of_ble_eq_true rfl) (Nat.le_of_ble_eq_true rfl) hq)
    refine fs_cs (k := 0) (n := 0) rfl rfl ?_
    replace hq := fs_ki_some hq
    obtain ⟨x104, rfl, hq⟩ := hq
    refine W.eq (g2 := F0 m 12 ls (.int x104 :: .ref x1 :: [])) rfl ?_
    obtain ⟨hi_, hq⟩ := hq
    obtain ⟨fs_, he_⟩ := fs_isc_some hi_
    refine fs_cV B hl.1 hP hS (kw_CS_add hE hq) (fs_tb_at 337 tw_337 rfl) he_ rfl (fs_tb_at 325 tw_325 rfl) (fs_tb_at 326 tw_326 rfl) (fs_tb_at 91 tw_91 rfl) (fs_tb_at 327 tw_327 rfl) (by decide) (show (parseMethodDescriptor y_CS_add.desc).map (fun d => d.parameters.length) = some 1 by decide +kernel) rfl d_RE_addCells_12 (fs_rm (k := 0) (by omega) (by omega) (by omega) (by omega) rfl) (fun v_ h105 H locs hq hP hS => ?_) (fun C_ a_ h_ H locs hq hP hS hX => fs_out (hout _) hlocks hw hP hS hX (Nat.le_of_ble_eq_true rfl) (Nat.le_of_ble_eq_true rfl) hq)
    refine fs_cs (k := 0) (n := 0) rfl rfl ?_
    replace hq := fs_kv_some hq
    obtain ⟨rfl, hq⟩ := hq
    refine W.eq (g2 := F0 m 15 ls ([])) rfl ?_
    exact fs_vret hx hb hr hlocks hw hP hS (Nat.le_refl _) (Nat.le_refl _) hq d_RE_addCells_15
def w_OV_addCells_L26 (self : fs_E → fs_Hp → Nat → Nat → fs_Ps → Prop) (E : fs_E) (K : fs_Hp → Prop) (Post : fs_Ps) : Nat → Nat → Nat → Int32 → Int32 → fs_Hp → Prop
  | 0 => fun _ _ _ _ _ => False
  | n + 1 => fun z0 z1 z2 z3 h1 => fs_isc h1 z0 9 ∧ (w_OV_bottom E h1 z0 (fs_ki (fun x112 h111 => (if x112 < z3 then K h111 else fs_isc h111 z1 3 ∧ (w_CS_add E h111 z1 ((z3 * 8) + z2) (fs_kv (fun h114 => (w_OV_addCells_L26 self E K Post n) z0 z1 z2 (z3 + 1) h114) (fun C_ h_ => Post (.inr C_) h_))))) (fun C_ h_ => Post (.inr C_) h_)))
def w_OV_addCells_L13 (self : fs_E → fs_Hp → Nat → Nat → fs_Ps → Prop) (E : fs_E) (K : fs_Hp → Prop) (Post : fs_Ps) : Nat → Nat → Nat → Int32 → fs_Hp → Prop
  | 0 => fun _ _ _ _ => False
  | n + 1 => fun z0 z1 z2 h1 => fs_isc h1 z0 9 ∧ (w_OV_right E h1 z0 (fs_ki (fun x107 h106 => (if x107 < z2 then K h106 else fs_isc h106 z0 9 ∧ (w_OV_top E h106 z0 (fs_ki (fun x110 h109 => (∃ n116 : Nat, w_OV_addCells_L26 self E (fun h115 => (w_OV_addCells_L13 self E K Post n) z0 z1 (z2 + 1) h115) Post n116 z0 z1 z2 x110 h109)) (fun C_ h_ => Post (.inr C_) h_))))) (fun C_ h_ => Post (.inr C_) h_)))
def w_OV_addCells (self : fs_E → fs_Hp → Nat → Nat → fs_Ps → Prop) (E : fs_E) (h : fs_Hp) (a0 : Nat) (x1 : Nat) (Post : fs_Ps) : Prop := fs_isc h a0 9 ∧ (w_OV_isLost E h a0 (fs_ki (fun x102 h101 => (if x102 = 0 then fs_isc h101 a0 9 ∧ (w_OV_left E h101 a0 (fs_ki (fun x105 h104 => (∃ n118 : Nat, w_OV_addCells_L13 self E (fun h117 => Post (.inl none) h117) Post n118 a0 x1 x105 h104)) (fun C_ h_ => Post (.inr C_) h_))) else Post (.inl none) h101)) (fun C_ h_ => Post (.inr C_) h_)))
set_option maxHeartbeats 4000000 in
set_option maxRecDepth 100000 in
theorem lw_w_OV_addCells_26 {p : Program} {l : Launch} {e : Env} {R : Room} {s : State} {m : MethodId} {args : Array Value} {below : List Frame} {meth : Method} {c : Code} {s00 : State} {E : fs_E} {Post : fs_Ps} (hE : fs_SE l s00 E) {self : fs_E → fs_Hp → Nat → Nat → fs_Ps → Prop} {fn ln : Nat} (hself : ∀ {h9 : fs_Hp} {q0 : Nat} {q1 : Nat} {P9 : fs_Ps}, self E h9 q0 q1 P9 → fs_CtV l s00 E.1 y_PT_addCells { frames := fn, cells := 0, slots := 0, locals := ln } q0 [.ref q1] h9 P9 4) (B : fs_B p l e s m args meth c s00 E.1 y_OV_addCells b_OV_addCells 4 none) (hout : ∀ pc, ∀ x ∈ c.exceptionTable.toList, covers x pc = false) (hRf : fn + 2 ≤ R.frames) (hRl : ln + 26 ≤ R.locals) (K : fs_Hp → Prop) : ∀ (n : Nat) (z0 : Nat) (z1 : Nat) (z2 : Int32) (z3 : Int32) (h1 : fs_Hp) (H : Heap) (locs : List Loc) (ls : Array Slot), w_OV_addCells_L26 self E K Post n z0 z1 z2 z3 h1 → fs_P E.1.1 fs_cl (fs_A s00) h1 H → va_S (fs_A s00) s00.heap H locs → lv_has ls 4 [(0, .ref z0), (1, .ref z1), (2, .int z2), (3, .int z3)] → (∀  (h' : fs_Hp) (H : Heap) (locs : List Loc) (ls : Array Slot), K  h' → fs_P E.1.1 fs_cl (fs_A s00) h' H → va_S (fs_A s00) s00.heap H locs → lv_has ls 4 [(0, .ref z0), (1, .ref z1), (2, .int z2)] → W p l e R s m args below meth c H locs 0 0 (fx_MQ below (fs_Qc s00 E.1 Post) args s 0 0 (fs_A s00)) (F0 m 50 ls [])) → W p l e R s m args below meth c H locs 0 0 (fx_MQ below (fs_Qc s00 E.1 Post) args s 0 0 (fs_A s00)) (F0 m 26 ls []) := by
  obtain ⟨hx, hb, hr, hml, hown, hts, hlocks, hname, hK, hw, htr⟩ := id B
  have hown : s.vm.findClass "FormulaSheet$OverRange" = some m.cls := hown
  intro n
  induction n with
  | zero => intro z0 z1 z2 z3 h1 H locs ls hq; exact False.elim hq
  | succ n ih =>
    intro z0 z1 z2 z3 h1 H locs ls hq hP hS hl kk
    rw [w_OV_addCells_L26] at hq
    refine lv_iload_n hx hb d_OV_addCells_26 rfl (lv_at hl 3 rfl) ?_
    refine lv_aload_n hx hb d_OV_addCells_27 rfl (lv_at hl 0 rfl) ?_
    obtain ⟨hi_, hq⟩ := hq
    obtain ⟨fs_, he_⟩ := fs_isc_some hi_
    refine fs_cV B hl.1 hP hS (kw_OV_bottom hE hq) (fs_tb_at 320 tw_320 rfl) he_ rfl (fs_tb_at 322 tw_322 rfl) (fs_tb_at 5 tw_5 rfl) (fs_tb_at 109 tw_109 rfl) (fs_tb_at 323 tw_323 rfl) (by decide) (show (parseMethodDescriptor y_OV_bottom.desc).map (fun d => d.parameters.length) = some 0 by decide +kernel) rfl d_OV_addCells_28 (fs_rm (k := 1) (by omega) (by omega) (by omega) (by omega) rfl) (fun v_ h111 H locs hq hP hS => ?_) (fun C_ a_ h_ H locs hq hP hS hX => fs_out (hout _) hlocks hw hP hS hX (Nat.le_of_ble_eq_true rfl) (Nat.le_of_ble_eq_true rfl) hq)
    refine fs_cs (k := 0) (n := 0) rfl rfl ?_
    replace hq := fs_ki_some hq
    obtain ⟨x112, rfl, hq⟩ := hq
    refine W.eq (g2 := F0 m 31 ls (.int x112 :: .int z3 :: [])) rfl ?_
    refine lv_icmp_gt (tgt := 50) hx hb d_OV_addCells_31 (by decide) (fun c_113 => ?_) (fun c_113 => ?_)
    · have hq := fs_wifp c_113 hq
      exact kk  _ _ _ _ hq hP hS (show lv_has ls 4 [(0, .ref z0), (1, .ref z1), (2, .int z2)] from lv_sub hl [0, 1, 2] rfl)
    · have hq := fs_wifn c_113 hq
      refine lv_aload_n hx hb d_OV_addCells_34 rfl (lv_at hl 1 rfl) ?_
      refine lv_iload_n hx hb d_OV_addCells_35 rfl (lv_at hl 3 rfl) ?_
      refine lv_bipush (v := 8) hx hb d_OV_addCells_36 (by decide) ?_
      refine lv_imul hx hb d_OV_addCells_38 ?_
      refine lv_iload_n hx hb d_OV_addCells_39 rfl (lv_at hl 2 rfl) ?_
      refine lv_iadd hx hb d_OV_addCells_40 ?_
      obtain ⟨hi_, hq⟩ := hq
      obtain ⟨fs_, he_⟩ := fs_isc_some hi_
      refine fs_cV B hl.1 hP hS (kw_CS_add hE hq) (fs_tb_at 324 tw_324 rfl) he_ rfl (fs_tb_at 325 tw_325 rfl) (fs_tb_at 326 tw_326 rfl) (fs_tb_at 91 tw_91 rfl) (fs_tb_at 327 tw_327 rfl) (by decide) (show (parseMethodDescriptor y_CS_add.desc).map (fun d => d.parameters.length) = some 1 by decide +kernel) rfl d_OV_addCells_41 (fs_rm (k := 0) (by omega) (by omega) (by omega) (by omega) rfl) (fun v_ h114 H locs hq hP hS => ?_) (fun C_ a_ h_ H locs hq hP hS hX => fs_out (hout _) hlocks hw hP hS hX (Nat.le_of_ble_eq_true rfl) (Nat.le_of_ble_eq_true rfl) hq)
      refine fs_cs (k := 0) (n := 0) rfl rfl ?_
      replace hq := fs_kv_some hq
      obtain ⟨rfl, hq⟩ := hq
      refine W.eq (g2 := F0 m 44 ls ([])) rfl ?_
      refine lv_iinc (v := z3 + 1) (lv' := [(3, .int (z3 + 1)), (0, .ref z0), (1, .ref z1), (2, .int z2)]) hx hb d_OV_addCells_44 hl (k := 3) rfl rfl (by decide) rfl (fun ls hl => ?_)
      refine lv_goto (tgt := 26) hx hb d_OV_addCells_47 (by decide) ?_
      exact ih z0 z1 z2 (z3 + 1) _ _ _ _ hq hP hS (show lv_has ls 4 [(0, .ref z0), (1, .ref z1), (2, .int z2), (3, .int (z3 + 1))] from lv_sub hl [1, 2, 3, 0] rfl) kk
set_option maxHeartbeats 4000000 in
set_option maxRecDepth 100000 in
theorem lw_w_OV_addCells_13 {p : Program} {l : Launch} {e : Env} {R : Room} {s : State} {m : MethodId} {args : Array Value} {below : List Frame} {meth : Method} {c : Code} {s00 : State} {E : fs_E} {Post : fs_Ps} (hE : fs_SE l s00 E) {self : fs_E → fs_Hp → Nat → Nat → fs_Ps → Prop} {fn ln : Nat} (hself : ∀ {h9 : fs_Hp} {q0 : Nat} {q1 : Nat} {P9 : fs_Ps}, self E h9 q0 q1 P9 → fs_CtV l s00 E.1 y_PT_addCells { frames := fn, cells := 0, slots := 0, locals := ln } q0 [.ref q1] h9 P9 4) (B : fs_B p l e s m args meth c s00 E.1 y_OV_addCells b_OV_addCells 4 none) (hout : ∀ pc, ∀ x ∈ c.exceptionTable.toList, covers x pc = false) (hRf : fn + 2 ≤ R.frames) (hRl : ln + 26 ≤ R.locals) (K : fs_Hp → Prop) : ∀ (n : Nat) (z0 : Nat) (z1 : Nat) (z2 : Int32) (h1 : fs_Hp) (H : Heap) (locs : List Loc) (ls : Array Slot), w_OV_addCells_L13 self E K Post n z0 z1 z2 h1 → fs_P E.1.1 fs_cl (fs_A s00) h1 H → va_S (fs_A s00) s00.heap H locs → lv_has ls 4 [(0, .ref z0), (1, .ref z1), (2, .int z2)] → (∀  (h' : fs_Hp) (H : Heap) (locs : List Loc) (ls : Array Slot), K  h' → fs_P E.1.1 fs_cl (fs_A s00) h' H → va_S (fs_A s00) s00.heap H locs → lv_has ls 4 [(0, .ref z0), (1, .ref z1)] → W p l e R s m args below meth c H locs 0 0 (fx_MQ below (fs_Qc s00 E.1 Post) args s 0 0 (fs_A s00)) (F0 m 56 ls [])) → W p l e R s m args below meth c H locs 0 0 (fx_MQ below (fs_Qc s00 E.1 Post) args s 0 0 (fs_A s00)) (F0 m 13 ls []) := by
  obtain ⟨hx, hb, hr, hml, hown, hts, hlocks, hname, hK, hw, htr⟩ := id B
  have hown : s.vm.findClass "FormulaSheet$OverRange" = some m.cls := hown
  intro n
  induction n with
  | zero => intro z0 z1 z2 h1 H locs ls hq; exact False.elim hq
  | succ n ih =>
    intro z0 z1 z2 h1 H locs ls hq hP hS hl kk
    rw [w_OV_addCells_L13] at hq
    refine lv_iload_n hx hb d_OV_addCells_13 rfl (lv_at hl 2 rfl) ?_
    refine lv_aload_n hx hb d_OV_addCells_14 rfl (lv_at hl 0 rfl) ?_
    obtain ⟨hi_, hq⟩ := hq
    obtain ⟨fs_, he_⟩ := fs_isc_some hi_
    refine fs_cV B hl.1 hP hS (kw_OV_right hE hq) (fs_tb_at 309 tw_309 rfl) he_ rfl (fs_tb_at 311 tw_311 rfl) (fs_tb_at 3 tw_3 rfl) (fs_tb_at 109 tw_109 rfl) (fs_tb_at 312 tw_312 rfl) (by decide) (show (parseMethodDescriptor y_OV_right.desc).map (fun d => d.parameters.length) = some 0 by decide +kernel) rfl d_OV_addCells_15 (fs_rm (k := 1) (by omega) (by omega) (by omega) (by omega) rfl) (fun v_ h106 H locs hq hP hS => ?_) (fun C_ a_ h_ H locs hq hP hS hX => fs_out (hout _) hlocks hw hP hS hX (Nat.le_of_ble_eq_true rfl) (Nat.le_of_ble_eq_true rfl) hq)
    refine fs_cs (k := 0) (n := 0) rfl rfl ?_
    replace hq := fs_ki_some hq
    obtain ⟨x107, rfl, hq⟩ := hq
    refine W.eq (g2 := F0 m 18 ls (.int x107 :: .int z2 :: [])) rfl ?_
    refine lv_icmp_gt (tgt := 56) hx hb d_OV_addCells_18 (by decide) (fun c_108 => ?_) (fun c_108 => ?_)
    · have hq := fs_wifp c_108 hq
      exact kk  _ _ _ _ hq hP hS (show lv_has ls 4 [(0, .ref z0), (1, .ref z1)] from lv_sub hl [0, 1] rfl)
    · have hq := fs_wifn c_108 hq
      refine lv_aload_n hx hb d_OV_addCells_21 rfl (lv_at hl 0 rfl) ?_
      obtain ⟨hi_, hq⟩ := hq
      obtain ⟨fs_, he_⟩ := fs_isc_some hi_
      refine fs_cV B hl.1 hP hS (kw_OV_top hE hq) (fs_tb_at 316 tw_316 rfl) he_ rfl (fs_tb_at 318 tw_318 rfl) (fs_tb_at 4 tw_4 rfl) (fs_tb_at 109 tw_109 rfl) (fs_tb_at 319 tw_319 rfl) (by decide) (show (parseMethodDescriptor y_OV_top.desc).map (fun d => d.parameters.length) = some 0 by decide +kernel) rfl d_OV_addCells_22 (fs_rm (k := 0) (by omega) (by omega) (by omega) (by omega) rfl) (fun v_ h109 H locs hq hP hS => ?_) (fun C_ a_ h_ H locs hq hP hS hX => fs_out (hout _) hlocks hw hP hS hX (Nat.le_of_ble_eq_true rfl) (Nat.le_of_ble_eq_true rfl) hq)
      refine fs_cs (k := 0) (n := 0) rfl rfl ?_
      replace hq := fs_ki_some hq
      obtain ⟨x110, rfl, hq⟩ := hq
      refine W.eq (g2 := F0 m 25 ls (.int x110 :: [])) rfl ?_
      refine lv_istore_n (lv' := [(3, .int x110), (0, .ref z0), (1, .ref z1), (2, .int z2)]) hx hb d_OV_addCells_25 rfl hl (by decide) rfl (fun ls hl => ?_)
      obtain ⟨n116, hq⟩ := hq
      refine lw_w_OV_addCells_26 hE hself B hout (by omega) (by omega) _ n116 z0 z1 z2 x110 _ _ _ _ hq hP hS (show lv_has ls 4 [(0, .ref z0), (1, .ref z1), (2, .int z2), (3, .int x110)] from lv_sub hl [1, 2, 3, 0] rfl) (fun  h115 H locs ls hq hP hS hl => ?_)
      refine lv_iinc (v := z2 + 1) (lv' := [(2, .int (z2 + 1)), (0, .ref z0), (1, .ref z1)]) hx hb d_OV_addCells_50 hl (k := 2) rfl rfl (by decide) rfl (fun ls hl => ?_)
      refine lv_goto (tgt := 13) hx hb d_OV_addCells_53 (by decide) ?_
      exact ih z0 z1 (z2 + 1) _ _ _ _ hq hP hS (show lv_has ls 4 [(0, .ref z0), (1, .ref z1), (2, .int (z2 + 1))] from lv_sub hl [1, 2, 0] rfl) kk
set_option maxHeartbeats 4000000 in
set_option maxRecDepth 100000 in
theorem kw_OV_addCells {l : Launch} {s00 : State} {E : fs_E} (hE : fs_SE l s00 E) {self : fs_E → fs_Hp → Nat → Nat → fs_Ps → Prop} {fn ln : Nat} (hself : ∀ {h9 : fs_Hp} {q0 : Nat} {q1 : Nat} {P9 : fs_Ps}, self E h9 q0 q1 P9 → fs_CtV l s00 E.1 y_PT_addCells { frames := fn, cells := 0, slots := 0, locals := ln } q0 [.ref q1] h9 P9 4) {h : fs_Hp} {a0 : Nat} {x1 : Nat} {Post : fs_Ps} (hq : w_OV_addCells self E h a0 x1 Post) : fs_Ct l s00 E.1 y_OV_addCells (.code y_OV_addCells b_OV_addCells 4 none) { frames := fn + 2, cells := 0, slots := 0, locals := ln + 26 } [.ref a0, .ref x1] h Post := by
  refine fs_Ct.ofR hE.1 (by decide) ?_
  intro p e R s m below meth c hRf hRl hRc hRs B hout hP
  skip
  obtain ⟨hx, hb, hr, hml, hown, hts, hlocks, hname, hK, hw, htr⟩ := id B
  have hown : s.vm.findClass "FormulaSheet$OverRange" = some m.cls := hown
  have hS := hw.S
  have hl := lv_entry ([.ref a0, .ref x1]) (n := 4) (Nat.le_of_ble_eq_true rfl)
  rw [lg_entry_eq]
  generalize (lg_sl ([.ref a0, .ref x1]) ++ List.replicate (4 - (lg_sl ([.ref a0, .ref x1])).length) Slot.unset).toArray = ls at hl ⊢
  have hl : lv_has ls 4 [(0, .ref a0), (1, .ref x1)] := hl
  unfold w_OV_addCells at hq
  refine lv_aload_n hx hb d_OV_addCells_0 rfl (lv_at hl 0 rfl) ?_
  obtain ⟨hi_, hq⟩ := hq
  obtain ⟨fs_, he_⟩ := fs_isc_some hi_
  refine fs_cV B hl.1 hP hS (kw_OV_isLost hE hq) (fs_tb_at 297 tw_297 rfl) he_ rfl (fs_tb_at 299 tw_299 rfl) (fs_tb_at 1 tw_1 rfl) (fs_tb_at 109 tw_109 rfl) (fs_tb_at 301 tw_301 rfl) (by decide) (show (parseMethodDescriptor y_OV_isLost.desc).map (fun d => d.parameters.length) = some 0 by decide +kernel) rfl d_OV_addCells_1 (fs_rm (k := 0) (by omega) (by omega) (by omega) (by omega) rfl) (fun v_ h101 H locs hq hP hS => ?_) (fun C_ a_ h_ H locs hq hP hS hX => fs_out (hout _) hlocks hw hP hS hX (Nat.le_of_ble_eq_true rfl) (Nat.le_of_ble_eq_true rfl) hq)
  refine fs_cs (k := 0) (n := 0) rfl rfl ?_
  replace hq := fs_ki_some hq
  obtain ⟨x102, rfl, hq⟩ := hq
  refine W.eq (g2 := F0 m 4 ls (.int x102 :: [])) rfl ?_
  refine lv_if_eq (tgt := 8) hx hb d_OV_addCells_4 (by decide) (fun c_103 => ?_) (fun c_103 => ?_)
  · have hq := fs_wifp c_103 hq
    refine lv_aload_n hx hb d_OV_addCells_8 rfl (lv_at hl 0 rfl) ?_
    obtain ⟨hi_, hq⟩ := hq
    obtain ⟨fs_, he_⟩ := fs_isc_some hi_
    refine fs_cV B hl.1 hP hS (kw_OV_left hE hq) (fs_tb_at 302 tw_302 rfl) he_ rfl (fs_tb_at 304 tw_304 rfl) (fs_tb_at 2 tw_2 rfl) (fs_tb_at 109 tw_109 rfl) (fs_tb_at 305 tw_305 rfl) (by decide) (show (parseMethodDescriptor y_OV_left.desc).map (fun d => d.parameters.length) = some 0 by decide +kernel) rfl d_OV_addCells_9 (fs_rm (k := 0) (by omega) (by omega) (by omega) (by omega) rfl) (fun v_ h104 H locs hq hP hS => ?_) (fun C_ a_ h_ H locs hq hP hS hX => fs_out (hout _) hlocks hw hP hS hX (Nat.le_of_ble_eq_true rfl) (Nat.le_of_ble_eq_true rfl) hq)
    refine fs_cs (k := 0) (n := 0) rfl rfl ?_
    replace hq := fs_ki_some hq
    obtain ⟨x105, rfl, hq⟩ := hq
    refine W.eq (g2 := F0 m 12 ls (.int x105 :: [])) rfl ?_
    refine lv_istore_n (lv' := [(2, .int x105), (0, .ref a0), (1, .ref x1)]) hx hb d_OV_addCells_12 rfl hl (by decide) rfl (fun ls hl => ?_)
    obtain ⟨n118, hq⟩ := hq
    refine lw_w_OV_addCells_13 hE hself B hout (by omega) (by omega) _ n118 a0 x1 x105 _ _ _ _ hq hP hS (show lv_has ls 4 [(0, .ref a0), (1, .ref x1), (2, .int x105)] from lv_sub hl [1, 2, 0] rfl) (fun  h117 H locs ls hq hP hS hl => ?_)
    exact fs_vret hx hb hr hlocks hw hP hS (Nat.le_refl _) (Nat.le_refl _) hq d_OV_addCells_56
  · have hq := fs_wifn c_103 hq
    exact fs_vret hx hb hr hlocks hw hP hS (Nat.le_refl _) (Nat.le_refl _) hq d_OV_addCells_7
def w_V_addCells (self : fs_E → fs_Hp → Nat → Nat → fs_Ps → Prop) (E : fs_E) (h : fs_Hp) (x0 : Nat) (x1 : Nat) (Post : fs_Ps) : Prop := (fs_isc h x0 4 ∧ w_PT_addCells self E h x0 x1 Post) ∨ (fs_isc h x0 5 ∧ w_RE_addCells self E h x0 x1 Post) ∨ (fs_isc h x0 6 ∧ w_PT_addCells self E h x0 x1 Post) ∨ (fs_isc h x0 7 ∧ w_PT_addCells self E h x0 x1 Post) ∨ (fs_isc h x0 8 ∧ w_PT_addCells self E h x0 x1 Post) ∨ (fs_isc h x0 9 ∧ w_OV_addCells self E h x0 x1 Post)
theorem kw_V_addCells {l : Launch} {s00 : State} {E : fs_E} (hE : fs_SE l s00 E) {self : fs_E → fs_Hp → Nat → Nat → fs_Ps → Prop} {fn ln : Nat} (hself : ∀ {h9 : fs_Hp} {q0 : Nat} {q1 : Nat} {P9 : fs_Ps}, self E h9 q0 q1 P9 → fs_CtV l s00 E.1 y_PT_addCells { frames := fn, cells := 0, slots := 0, locals := ln } q0 [.ref q1] h9 P9 4) {h : fs_Hp} {x0 : Nat} {x1 : Nat} {Post : fs_Ps} (hq : w_V_addCells self E h x0 x1 Post) : fs_CtV l s00 E.1 y_PT_addCells { frames := fn + 2, cells := 0, slots := 0, locals := ln + 26 } x0 [.ref x1] h Post 4 := by
  rcases hq with ⟨hi, hq⟩ | ⟨hi, hq⟩ | ⟨hi, hq⟩ | ⟨hi, hq⟩ | ⟨hi, hq⟩ | ⟨hi, hq⟩
  · obtain ⟨fs_, he_⟩ := fs_isc_some hi
    exact ⟨y_PT_addCells, b_PT_addCells, 3, none, 4, fs_, _, _, _, he_, rfl, (fs_tb_at 293 tw_293 rfl), (fs_tb_at 290 tw_290 rfl), (fs_tb_at 103 tw_103 rfl), (fs_tb_at 339 tw_339 rfl), by decide, kw_PT_addCells hE hself hq⟩
  · obtain ⟨fs_, he_⟩ := fs_isc_some hi
    exact ⟨y_RE_addCells, b_RE_addCells, 2, none, 5, fs_, _, _, _, he_, rfl, (fs_tb_at 329 tw_329 rfl), (fs_tb_at 330 tw_330 rfl), (fs_tb_at 105 tw_105 rfl), (fs_tb_at 331 tw_331 rfl), by decide, kw_RE_addCells hE hself hq⟩
  · obtain ⟨fs_, he_⟩ := fs_isc_some hi
    exact ⟨y_PT_addCells, b_PT_addCells, 3, none, 6, fs_, _, _, _, he_, rfl, (fs_tb_at 338 tw_338 rfl), (fs_tb_at 290 tw_290 rfl), (fs_tb_at 103 tw_103 rfl), (fs_tb_at 339 tw_339 rfl), by decide, kw_PT_addCells hE hself hq⟩
  · obtain ⟨fs_, he_⟩ := fs_isc_some hi
    exact ⟨y_PT_addCells, b_PT_addCells, 3, none, 7, fs_, _, _, _, he_, rfl, (fs_tb_at 328 tw_328 rfl), (fs_tb_at 290 tw_290 rfl), (fs_tb_at 103 tw_103 rfl), (fs_tb_at 339 tw_339 rfl), by decide, kw_PT_addCells hE hself hq⟩
  · obtain ⟨fs_, he_⟩ := fs_isc_some hi
    exact ⟨y_PT_addCells, b_PT_addCells, 3, none, 8, fs_, _, _, _, he_, rfl, (fs_tb_at 292 tw_292 rfl), (fs_tb_at 290 tw_290 rfl), (fs_tb_at 103 tw_103 rfl), (fs_tb_at 339 tw_339 rfl), by decide, kw_PT_addCells hE hself hq⟩
  · obtain ⟨fs_, he_⟩ := fs_isc_some hi
    exact ⟨y_OV_addCells, b_OV_addCells, 4, none, 9, fs_, _, _, _, he_, rfl, (fs_tb_at 294 tw_294 rfl), (fs_tb_at 295 tw_295 rfl), (fs_tb_at 109 tw_109 rfl), (fs_tb_at 296 tw_296 rfl), by decide, kw_OV_addCells hE hself hq⟩
def w_N_addCells : Nat → fs_E → fs_Hp → Nat → Nat → fs_Ps → Prop
  | 0 => fun _ _ _ _ _ => False
  | n + 1 => w_V_addCells (w_N_addCells n)
theorem kN_addCells {l : Launch} {s00 : State} {E : fs_E} (hE : fs_SE l s00 E) : ∀ {n : Nat} {h : fs_Hp} {x0 : Nat} {x1 : Nat} {Post : fs_Ps}, w_N_addCells n E h x0 x1 Post → fs_CtV l s00 E.1 y_PT_addCells { frames := 2 * n, cells := 0, slots := 0, locals := 26 * n } x0 [.ref x1] h Post 4 := by
  intro n
  induction n with
  | zero => intro h x0 x1 Post hq; exact False.elim hq
  | succ n ih => intro h x0 x1 Post hq; exact kw_V_addCells hE ih hq
def w_PT_lostReferences_L4 (self : fs_E → fs_Hp → Nat → fs_Ps → Prop) (E : fs_E) (K : Int32 → fs_Hp → Prop) (Post : fs_Ps) : Nat → Nat → Int32 → Int32 → fs_Hp → Prop
  | 0 => fun _ _ _ _ => False
  | n + 1 => fun z0 z1 z2 h1 => fs_gP h1 z0 (fun a101 => fs_an h1 a101 (E.1.2 6) (fun n102 => (if (Int32.ofNat n102) ≤ z2 then K z1 h1 else fs_gP h1 z0 (fun a104 => fs_aq h1 a104 (E.1.2 6) z2 (fun o9 => match o9 with | none => False | some a107 => self E h1 a107 (fs_ki (fun x109 h108 => (w_PT_lostReferences_L4 self E K Post n) z0 (z1 + x109) (z2 + 1) h108) (fun C_ h_ => Post (.inr C_) h_)))))))
def w_PT_lostReferences (self : fs_E → fs_Hp → Nat → fs_Ps → Prop) (E : fs_E) (h : fs_Hp) (a0 : Nat) (Post : fs_Ps) : Prop := (∃ n112 : Nat, w_PT_lostReferences_L4 self E (fun y110 h111 => Post (.inl (some (.int y110))) h111) Post n112 a0 0 0 h)
set_option maxHeartbeats 4000000 in
set_option maxRecDepth 100000 in
theorem lw_w_PT_lostReferences_4 {p : Program} {l : Launch} {e : Env} {R : Room} {s : State} {m : MethodId} {args : Array Value} {below : List Frame} {meth : Method} {c : Code} {s00 : State} {E : fs_E} {Post : fs_Ps} (hE : fs_SE l s00 E) {self : fs_E → fs_Hp → Nat → fs_Ps → Prop} {fn ln : Nat} (hself : ∀ {h9 : fs_Hp} {q0 : Nat} {P9 : fs_Ps}, self E h9 q0 P9 → fs_CtV l s00 E.1 y_PT_lostReferences { frames := fn, cells := 0, slots := 0, locals := ln } q0 [] h9 P9 3) (B : fs_B p l e s m args meth c s00 E.1 y_PT_lostReferences b_PT_lostReferences 3 (some .int)) (hout : ∀ pc, ∀ x ∈ c.exceptionTable.toList, covers x pc = false) (hRf : fn + 1 ≤ R.frames) (hRl : ln + 15 ≤ R.locals) (K : Int32 → fs_Hp → Prop) : ∀ (n : Nat) (z0 : Nat) (z1 : Int32) (z2 : Int32) (h1 : fs_Hp) (H : Heap) (locs : List Loc) (ls : Array Slot), w_PT_lostReferences_L4 self E K Post n z0 z1 z2 h1 → fs_P E.1.1 fs_cl (fs_A s00) h1 H → va_S (fs_A s00) s00.heap H locs → lv_has ls 3 [(0, .ref z0), (1, .int z1), (2, .int z2)] → (∀ (y1 : Int32) (h' : fs_Hp) (H : Heap) (locs : List Loc) (ls : Array Slot), K y1 h' → fs_P E.1.1 fs_cl (fs_A s00) h' H → va_S (fs_A s00) s00.heap H locs → lv_has ls 3 [(0, .ref z0), (1, .int y1)] → W p l e R s m args below meth c H locs 0 0 (fx_MQ below (fs_Qc s00 E.1 Post) args s 0 0 (fs_A s00)) (F0 m 31 ls [])) → W p l e R s m args below meth c H locs 0 0 (fx_MQ below (fs_Qc s00 E.1 Post) args s 0 0 (fs_A s00)) (F0 m 4 ls []) := by
  obtain ⟨hx, hb, hr, hml, hown, hts, hlocks, hname, hK, hw, htr⟩ := id B
  have hown : s.vm.findClass "FormulaSheet$Part" = some m.cls := hown
  intro n
  induction n with
  | zero => intro z0 z1 z2 h1 H locs ls hq; exact False.elim hq
  | succ n ih =>
    intro z0 z1 z2 h1 H locs ls hq hP hS hl kk
    rw [w_PT_lostReferences_L4] at hq
    refine lv_iload_n hx hb d_PT_lostReferences_4 rfl (lv_at hl 2 rfl) ?_
    refine lv_aload_n hx hb d_PT_lostReferences_5 rfl (lv_at hl 0 rfl) ?_
    obtain ⟨ci_, fs_, a101, e_, hc_, hv_, hq⟩ := fs_gP_some hq
    refine fs_getP hx hb hts hown hK hP e_ hc_ hv_ (hts _ (fs_tb_at 673 tw_673 rfl)) d_PT_lostReferences_6 ?_
    obtain ⟨x_, n102, en_, e_, hq⟩ := fs_an_some hq
    refine fs_alen hx hb hK hP 6 e_ rfl rfl d_PT_lostReferences_9 ?_
    rw [← en_]
    refine lv_icmp_ge (tgt := 31) hx hb d_PT_lostReferences_10 (by decide) (fun c_103 => ?_) (fun c_103 => ?_)
    · have hq := fs_wifp c_103 hq
      exact kk z1 _ _ _ _ hq hP hS (show lv_has ls 3 [(0, .ref z0), (1, .int z1)] from lv_sub hl [0, 1] rfl)
    · have hq := fs_wifn c_103 hq
      refine lv_iload_n hx hb d_PT_lostReferences_13 rfl (lv_at hl 1 rfl) ?_
      refine lv_aload_n hx hb d_PT_lostReferences_14 rfl (lv_at hl 0 rfl) ?_
      obtain ⟨ci_, fs_, a104, e_, hc_, hv_, hq⟩ := fs_gP_some hq
      refine fs_getP hx hb hts hown hK hP e_ hc_ hv_ (hts _ (fs_tb_at 673 tw_673 rfl)) d_PT_lostReferences_15 ?_
      refine lv_iload_n hx hb d_PT_lostReferences_18 rfl (lv_at hl 2 rfl) ?_
      obtain ⟨n_, f_, o105, e_, hi_, ex_, hq⟩ := fs_aq_some hq
      refine fs_aald hx hb hK hP 6 e_ rfl hi_ d_PT_lostReferences_19 ?_
      rw [← ex_]
      cases o105 with
      | none =>
        refine W.eq (g2 := F0 m 20 ls (.null :: .int z1 :: [])) rfl ?_
        exact False.elim hq
      | some a107 =>
        refine W.eq (g2 := F0 m 20 ls (.ref a107 :: .int z1 :: [])) rfl ?_
        refine fs_cVV (owner := "FormulaSheet$Part") B hl.1 hP hS (hself hq) (fs_tb_at 482 tw_482 rfl) (fs_tb_at 472 tw_472 rfl) (fs_dclC (fs_tb_at 471 tw_471 rfl) (fs_tb_at 481 tw_481 rfl)) (by decide) (show (parseMethodDescriptor y_PT_lostReferences.desc).map (fun d => d.parameters.length) = some 0 by decide +kernel) rfl d_PT_lostReferences_20 (fs_rm (k := 1) (by omega) (by omega) (by omega) (by omega) rfl) (fun v_ h108 H locs hq hP hS => ?_) (fun C_ a_ h_ H locs hq hP hS hX => fs_out (hout _) hlocks hw hP hS hX (Nat.le_of_ble_eq_true rfl) (Nat.le_of_ble_eq_true rfl) hq)
        refine fs_cs (k := 0) (n := 0) rfl rfl ?_
        replace hq := fs_ki_some hq
        obtain ⟨x109, rfl, hq⟩ := hq
        refine W.eq (g2 := F0 m 23 ls (.int x109 :: .int z1 :: [])) rfl ?_
        refine lv_iadd hx hb d_PT_lostReferences_23 ?_
        refine lv_istore_n (lv' := [(1, .int (z1 + x109)), (0, .ref z0), (2, .int z2)]) hx hb d_PT_lostReferences_24 rfl hl (by decide) rfl (fun ls hl => ?_)
        refine lv_iinc (v := z2 + 1) (lv' := [(2, .int (z2 + 1)), (1, .int (z1 + x109)), (0, .ref z0)]) hx hb d_PT_lostReferences_25 hl (k := 2) rfl rfl (by decide) rfl (fun ls hl => ?_)
        refine lv_goto (tgt := 4) hx hb d_PT_lostReferences_28 (by decide) ?_
        exact ih z0 (z1 + x109) (z2 + 1) _ _ _ _ hq hP hS (show lv_has ls 3 [(0, .ref z0), (1, .int (z1 + x109)), (2, .int (z2 + 1))] from lv_sub hl [2, 1, 0] rfl) kk
set_option maxHeartbeats 4000000 in
set_option maxRecDepth 100000 in
theorem kw_PT_lostReferences {l : Launch} {s00 : State} {E : fs_E} (hE : fs_SE l s00 E) {self : fs_E → fs_Hp → Nat → fs_Ps → Prop} {fn ln : Nat} (hself : ∀ {h9 : fs_Hp} {q0 : Nat} {P9 : fs_Ps}, self E h9 q0 P9 → fs_CtV l s00 E.1 y_PT_lostReferences { frames := fn, cells := 0, slots := 0, locals := ln } q0 [] h9 P9 3) {h : fs_Hp} {a0 : Nat} {Post : fs_Ps} (hq : w_PT_lostReferences self E h a0 Post) : fs_Ct l s00 E.1 y_PT_lostReferences (.code y_PT_lostReferences b_PT_lostReferences 3 (some .int)) { frames := fn + 1, cells := 0, slots := 0, locals := ln + 15 } [.ref a0] h Post := by
  refine fs_Ct.ofR hE.1 (by decide) ?_
  intro p e R s m below meth c hRf hRl hRc hRs B hout hP
  skip
  obtain ⟨hx, hb, hr, hml, hown, hts, hlocks, hname, hK, hw, htr⟩ := id B
  have hown : s.vm.findClass "FormulaSheet$Part" = some m.cls := hown
  have hS := hw.S
  have hl := lv_entry ([.ref a0]) (n := 3) (Nat.le_of_ble_eq_true rfl)
  rw [lg_entry_eq]
  generalize (lg_sl ([.ref a0]) ++ List.replicate (3 - (lg_sl ([.ref a0])).length) Slot.unset).toArray = ls at hl ⊢
  have hl : lv_has ls 3 [(0, .ref a0)] := hl
  unfold w_PT_lostReferences at hq
  refine lv_iconst (v := 0) hx hb d_PT_lostReferences_0 (by decide) ?_
  refine lv_istore_n (lv' := [(1, .int 0), (0, .ref a0)]) hx hb d_PT_lostReferences_1 rfl hl (by decide) rfl (fun ls hl => ?_)
  refine lv_iconst (v := 0) hx hb d_PT_lostReferences_2 (by decide) ?_
  refine lv_istore_n (lv' := [(2, .int 0), (1, .int 0), (0, .ref a0)]) hx hb d_PT_lostReferences_3 rfl hl (by decide) rfl (fun ls hl => ?_)
  obtain ⟨n112, hq⟩ := hq
  refine lw_w_PT_lostReferences_4 hE hself B hout (by omega) (by omega) _ n112 a0 0 0 _ _ _ _ hq hP hS (show lv_has ls 3 [(0, .ref a0), (1, .int 0), (2, .int 0)] from lv_sub hl [2, 1, 0] rfl) (fun y110 h111 H locs ls hq hP hS hl => ?_)
  refine lv_iload_n hx hb d_PT_lostReferences_31 rfl (lv_at hl 1 rfl) ?_
  exact fs_iret hx hb hr hlocks hw hP hS (vp_nar_int _) (Nat.le_refl _) (Nat.le_refl _) hq d_PT_lostReferences_32
def w_RE_lostReferences (self : fs_E → fs_Hp → Nat → fs_Ps → Prop) (E : fs_E) (h : fs_Hp) (a0 : Nat) (Post : fs_Ps) : Prop := fs_gi h a0 5 4 (fun x101 => (if x101 = 0 then Post (.inl (some (.int 0))) h else Post (.inl (some (.int 1))) h))
set_option maxHeartbeats 4000000 in
set_option maxRecDepth 100000 in
theorem kw_RE_lostReferences {l : Launch} {s00 : State} {E : fs_E} (hE : fs_SE l s00 E) {self : fs_E → fs_Hp → Nat → fs_Ps → Prop} {fn ln : Nat} (hself : ∀ {h9 : fs_Hp} {q0 : Nat} {P9 : fs_Ps}, self E h9 q0 P9 → fs_CtV l s00 E.1 y_PT_lostReferences { frames := fn, cells := 0, slots := 0, locals := ln } q0 [] h9 P9 3) {h : fs_Hp} {a0 : Nat} {Post : fs_Ps} (hq : w_RE_lostReferences self E h a0 Post) : fs_Ct l s00 E.1 y_RE_lostReferences (.code y_RE_lostReferences b_RE_lostReferences 1 (some .int)) { frames := fn + 1, cells := 0, slots := 0, locals := ln + 15 } [.ref a0] h Post := by
  refine fs_Ct.ofR hE.1 (by decide) ?_
  intro p e R s m below meth c hRf hRl hRc hRs B hout hP
  skip
  obtain ⟨hx, hb, hr, hml, hown, hts, hlocks, hname, hK, hw, htr⟩ := id B
  have hown : s.vm.findClass "FormulaSheet$Reference" = some m.cls := hown
  have hS := hw.S
  have hl := lv_entry ([.ref a0]) (n := 1) (Nat.le_of_ble_eq_true rfl)
  rw [lg_entry_eq]
  generalize (lg_sl ([.ref a0]) ++ List.replicate (1 - (lg_sl ([.ref a0])).length) Slot.unset).toArray = ls at hl ⊢
  have hl : lv_has ls 1 [(0, .ref a0)] := hl
  unfold w_RE_lostReferences at hq
  refine lv_aload_n hx hb d_RE_lostReferences_0 rfl (lv_at hl 0 rfl) ?_
  obtain ⟨fs_, x101, he_, hv_, hq⟩ := fs_gi_some hq
  refine fs_get hx hb hts hown hK c_RE hP he_ 4 (by decide) (hts _ (fs_tb_at 708 tw_708 rfl)) (fun _ h9 => h9) hv_ d_RE_lostReferences_1 ?_
  refine lv_if_eq (tgt := 11) hx hb d_RE_lostReferences_4 (by decide) (fun c_102 => ?_) (fun c_102 => ?_)
  · have hq := fs_wifp c_102 hq
    refine lv_iconst (v := 0) hx hb d_RE_lostReferences_11 (by decide) ?_
    exact fs_iret hx hb hr hlocks hw hP hS (vp_nar_int _) (Nat.le_refl _) (Nat.le_refl _) hq d_RE_lostReferences_12
  · have hq := fs_wifn c_102 hq
    refine lv_iconst (v := 1) hx hb d_RE_lostReferences_7 (by decide) ?_
    refine lv_goto (tgt := 12) hx hb d_RE_lostReferences_8 (by decide) ?_
    exact fs_iret hx hb hr hlocks hw hP hS (vp_nar_int _) (Nat.le_refl _) (Nat.le_refl _) hq d_RE_lostReferences_12
def w_V_lostReferences (self : fs_E → fs_Hp → Nat → fs_Ps → Prop) (E : fs_E) (h : fs_Hp) (x0 : Nat) (Post : fs_Ps) : Prop := (fs_isc h x0 4 ∧ w_PT_lostReferences self E h x0 Post) ∨ (fs_isc h x0 5 ∧ w_RE_lostReferences self E h x0 Post) ∨ (fs_isc h x0 6 ∧ w_PT_lostReferences self E h x0 Post) ∨ (fs_isc h x0 7 ∧ w_PT_lostReferences self E h x0 Post) ∨ (fs_isc h x0 8 ∧ w_PT_lostReferences self E h x0 Post) ∨ (fs_isc h x0 9 ∧ w_PT_lostReferences self E h x0 Post)
theorem kw_V_lostReferences {l : Launch} {s00 : State} {E : fs_E} (hE : fs_SE l s00 E) {self : fs_E → fs_Hp → Nat → fs_Ps → Prop} {fn ln : Nat} (hself : ∀ {h9 : fs_Hp} {q0 : Nat} {P9 : fs_Ps}, self E h9 q0 P9 → fs_CtV l s00 E.1 y_PT_lostReferences { frames := fn, cells := 0, slots := 0, locals := ln } q0 [] h9 P9 3) {h : fs_Hp} {x0 : Nat} {Post : fs_Ps} (hq : w_V_lostReferences self E h x0 Post) : fs_CtV l s00 E.1 y_PT_lostReferences { frames := fn + 1, cells := 0, slots := 0, locals := ln + 15 } x0 [] h Post 3 := by
  rcases hq with ⟨hi, hq⟩ | ⟨hi, hq⟩ | ⟨hi, hq⟩ | ⟨hi, hq⟩ | ⟨hi, hq⟩ | ⟨hi, hq⟩
  · obtain ⟨fs_, he_⟩ := fs_isc_some hi
    exact ⟨y_PT_lostReferences, b_PT_lostReferences, 3, (some .int), 4, fs_, _, _, _, he_, rfl, (fs_tb_at 474 tw_474 rfl), (fs_tb_at 471 tw_471 rfl), (fs_tb_at 103 tw_103 rfl), (fs_tb_at 481 tw_481 rfl), by decide, kw_PT_lostReferences hE hself hq⟩
  · obtain ⟨fs_, he_⟩ := fs_isc_some hi
    exact ⟨y_RE_lostReferences, b_RE_lostReferences, 1, (some .int), 5, fs_, _, _, _, he_, rfl, (fs_tb_at 477 tw_477 rfl), (fs_tb_at 478 tw_478 rfl), (fs_tb_at 105 tw_105 rfl), (fs_tb_at 479 tw_479 rfl), by decide, kw_RE_lostReferences hE hself hq⟩
  · obtain ⟨fs_, he_⟩ := fs_isc_some hi
    exact ⟨y_PT_lostReferences, b_PT_lostReferences, 3, (some .int), 6, fs_, _, _, _, he_, rfl, (fs_tb_at 480 tw_480 rfl), (fs_tb_at 471 tw_471 rfl), (fs_tb_at 103 tw_103 rfl), (fs_tb_at 481 tw_481 rfl), by decide, kw_PT_lostReferences hE hself hq⟩
  · obtain ⟨fs_, he_⟩ := fs_isc_some hi
    exact ⟨y_PT_lostReferences, b_PT_lostReferences, 3, (some .int), 7, fs_, _, _, _, he_, rfl, (fs_tb_at 476 tw_476 rfl), (fs_tb_at 471 tw_471 rfl), (fs_tb_at 103 tw_103 rfl), (fs_tb_at 481 tw_481 rfl), by decide, kw_PT_lostReferences hE hself hq⟩
  · obtain ⟨fs_, he_⟩ := fs_isc_some hi
    exact ⟨y_PT_lostReferences, b_PT_lostReferences, 3, (some .int), 8, fs_, _, _, _, he_, rfl, (fs_tb_at 473 tw_473 rfl), (fs_tb_at 471 tw_471 rfl), (fs_tb_at 103 tw_103 rfl), (fs_tb_at 481 tw_481 rfl), by decide, kw_PT_lostReferences hE hself hq⟩
  · obtain ⟨fs_, he_⟩ := fs_isc_some hi
    exact ⟨y_PT_lostReferences, b_PT_lostReferences, 3, (some .int), 9, fs_, _, _, _, he_, rfl, (fs_tb_at 475 tw_475 rfl), (fs_tb_at 471 tw_471 rfl), (fs_tb_at 103 tw_103 rfl), (fs_tb_at 481 tw_481 rfl), by decide, kw_PT_lostReferences hE hself hq⟩
def w_N_lostReferences : Nat → fs_E → fs_Hp → Nat → fs_Ps → Prop
  | 0 => fun _ _ _ _ => False
  | n + 1 => w_V_lostReferences (w_N_lostReferences n)
theorem kN_lostReferences {l : Launch} {s00 : State} {E : fs_E} (hE : fs_SE l s00 E) : ∀ {n : Nat} {h : fs_Hp} {x0 : Nat} {Post : fs_Ps}, w_N_lostReferences n E h x0 Post → fs_CtV l s00 E.1 y_PT_lostReferences { frames := 1 * n, cells := 0, slots := 0, locals := 15 * n } x0 [] h Post 3 := by
  intro n
  induction n with
  | zero => intro h x0 Post hq; exact False.elim hq
  | succ n ih => intro h x0 Post hq; exact kw_V_lostReferences hE ih hq
