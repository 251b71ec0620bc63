/-! Sets of cells, as conditions. -/
abbrev b_LO_bitCount : ByteArray := prog_25_method_50_code
def y_LO_bitCount : MethodName := ⟨"java/lang/Long", "bitCount", "(J)I"⟩
theorem d_LO_bitCount_0 : decode b_LO_bitCount 0 = .ok (.lload_n 0, 1) := by decide +kernel
theorem d_LO_bitCount_1 : decode b_LO_bitCount 1 = .ok (.lload_n 0, 1) := by decide +kernel
theorem d_LO_bitCount_2 : decode b_LO_bitCount 2 = .ok (.iconst 1, 1) := by decide +kernel
theorem d_LO_bitCount_3 : decode b_LO_bitCount 3 = .ok (.lushr, 1) := by decide +kernel
theorem d_LO_bitCount_4 : decode b_LO_bitCount 4 = .ok (.ldc2_w 314, 3) := by decide +kernel
theorem d_LO_bitCount_7 : decode b_LO_bitCount 7 = .ok (.land, 1) := by decide +kernel
theorem d_LO_bitCount_8 : decode b_LO_bitCount 8 = .ok (.lsub, 1) := by decide +kernel
theorem d_LO_bitCount_9 : decode b_LO_bitCount 9 = .ok (.lstore_n 0, 1) := by decide +kernel
theorem d_LO_bitCount_10 : decode b_LO_bitCount 10 = .ok (.lload_n 0, 1) := by decide +kernel
theorem d_LO_bitCount_11 : decode b_LO_bitCount 11 = .ok (.ldc2_w 316, 3) := by decide +kernel
theorem d_LO_bitCount_14 : decode b_LO_bitCount 14 = .ok (.land, 1) := by decide +kernel
theorem d_LO_bitCount_15 : decode b_LO_bitCount 15 = .ok (.lload_n 0, 1) := by decide +kernel
theorem d_LO_bitCount_16 : decode b_LO_bitCount 16 = .ok (.iconst 2, 1) := by decide +kernel
theorem d_LO_bitCount_17 : decode b_LO_bitCount 17 = .ok (.lushr, 1) := by decide +kernel
theorem d_LO_bitCount_18 : decode b_LO_bitCount 18 = .ok (.ldc2_w 316, 3) := by decide +kernel
theorem d_LO_bitCount_21 : decode b_LO_bitCount 21 = .ok (.land, 1) := by decide +kernel
theorem d_LO_bitCount_22 : decode b_LO_bitCount 22 = .ok (.ladd, 1) := by decide +kernel
theorem d_LO_bitCount_23 : decode b_LO_bitCount 23 = .ok (.lstore_n 0, 1) := by decide +kernel
theorem d_LO_bitCount_24 : decode b_LO_bitCount 24 = .ok (.lload_n 0, 1) := by decide +kernel
theorem d_LO_bitCount_25 : decode b_LO_bitCount 25 = .ok (.lload_n 0, 1) := by decide +kernel
theorem d_LO_bitCount_26 : decode b_LO_bitCount 26 = .ok (.iconst 4, 1) := by decide +kernel
theorem d_LO_bitCount_27 : decode b_LO_bitCount 27 = .ok (.lushr, 1) := by decide +kernel
theorem d_LO_bitCount_28 : decode b_LO_bitCount 28 = .ok (.ladd, 1) := by decide +kernel
theorem d_LO_bitCount_29 : decode b_LO_bitCount 29 = .ok (.ldc2_w 318, 3) := by decide +kernel
theorem d_LO_bitCount_32 : decode b_LO_bitCount 32 = .ok (.land, 1) := by decide +kernel
theorem d_LO_bitCount_33 : decode b_LO_bitCount 33 = .ok (.lstore_n 0, 1) := by decide +kernel
theorem d_LO_bitCount_34 : decode b_LO_bitCount 34 = .ok (.lload_n 0, 1) := by decide +kernel
theorem d_LO_bitCount_35 : decode b_LO_bitCount 35 = .ok (.lload_n 0, 1) := by decide +kernel
theorem d_LO_bitCount_36 : decode b_LO_bitCount 36 = .ok (.bipush 8, 2) := by decide +kernel
theorem d_LO_bitCount_38 : decode b_LO_bitCount 38 = .ok (.lushr, 1) := by decide +kernel
theorem d_LO_bitCount_39 : decode b_LO_bitCount 39 = .ok (.ladd, 1) := by decide +kernel
theorem d_LO_bitCount_40 : decode b_LO_bitCount 40 = .ok (.lstore_n 0, 1) := by decide +kernel
theorem d_LO_bitCount_41 : decode b_LO_bitCount 41 = .ok (.lload_n 0, 1) := by decide +kernel
theorem d_LO_bitCount_42 : decode b_LO_bitCount 42 = .ok (.lload_n 0, 1) := by decide +kernel
theorem d_LO_bitCount_43 : decode b_LO_bitCount 43 = .ok (.bipush 16, 2) := by decide +kernel
theorem d_LO_bitCount_45 : decode b_LO_bitCount 45 = .ok (.lushr, 1) := by decide +kernel
theorem d_LO_bitCount_46 : decode b_LO_bitCount 46 = .ok (.ladd, 1) := by decide +kernel
theorem d_LO_bitCount_47 : decode b_LO_bitCount 47 = .ok (.lstore_n 0, 1) := by decide +kernel
theorem d_LO_bitCount_48 : decode b_LO_bitCount 48 = .ok (.lload_n 0, 1) := by decide +kernel
theorem d_LO_bitCount_49 : decode b_LO_bitCount 49 = .ok (.lload_n 0, 1) := by decide +kernel
theorem d_LO_bitCount_50 : decode b_LO_bitCount 50 = .ok (.bipush 32, 2) := by decide +kernel
theorem d_LO_bitCount_52 : decode b_LO_bitCount 52 = .ok (.lushr, 1) := by decide +kernel
theorem d_LO_bitCount_53 : decode b_LO_bitCount 53 = .ok (.ladd, 1) := by decide +kernel
theorem d_LO_bitCount_54 : decode b_LO_bitCount 54 = .ok (.lstore_n 0, 1) := by decide +kernel
theorem d_LO_bitCount_55 : decode b_LO_bitCount 55 = .ok (.lload_n 0, 1) := by decide +kernel
theorem d_LO_bitCount_56 : decode b_LO_bitCount 56 = .ok (.l2i, 1) := by decide +kernel
theorem d_LO_bitCount_57 : decode b_LO_bitCount 57 = .ok (.bipush 127, 2) := by decide +kernel
theorem d_LO_bitCount_59 : decode b_LO_bitCount 59 = .ok (.iand, 1) := by decide +kernel
theorem d_LO_bitCount_60 : decode b_LO_bitCount 60 = .ok (.ireturn, 1) := by decide +kernel
abbrev b_OV_left : ByteArray := prog_8_method_5_code
def y_OV_left : MethodName := ⟨"FormulaSheet$OverRange", "left", "()I"⟩
theorem d_OV_left_0 : decode b_OV_left 0 = .ok (.aload_n 0, 1) := by decide +kernel
theorem d_OV_left_1 : decode b_OV_left 1 = .ok (.getfield 15, 3) := by decide +kernel
theorem d_OV_left_4 : decode b_OV_left 4 = .ok (.getfield 35, 3) := by decide +kernel
theorem d_OV_left_7 : decode b_OV_left 7 = .ok (.aload_n 0, 1) := by decide +kernel
theorem d_OV_left_8 : decode b_OV_left 8 = .ok (.getfield 19, 3) := by decide +kernel
theorem d_OV_left_11 : decode b_OV_left 11 = .ok (.getfield 35, 3) := by decide +kernel
theorem d_OV_left_14 : decode b_OV_left 14 = .ok (.invokestatic 39, 3) := by decide +kernel
theorem d_OV_left_17 : decode b_OV_left 17 = .ok (.ireturn, 1) := by decide +kernel
theorem tw_108 : lw_tbl[108]? = some (Jvm.Cond.initialized "java/lang/Math") := by decide +kernel
theorem tw_113 : lw_tbl[113]? = some (Jvm.Cond.initialized "java/lang/Long") := by decide +kernel
theorem tw_306 : lw_tbl[306]? = some (Jvm.Cond.methodLink "FormulaSheet$OverRange" (39 : Nat) ({ cls := "java/lang/Math", name := "min", desc := "(II)I" } : Jvm.MethodName)) := by decide +kernel
theorem tw_307 : lw_tbl[307]? = some (Jvm.Cond.static ({ cls := "java/lang/Math", name := "min", desc := "(II)I" } : Jvm.MethodName)) := by decide +kernel
theorem tw_308 : lw_tbl[308]? = some (Jvm.Cond.code ({ cls := "java/lang/Math", name := "min", desc := "(II)I" } : Jvm.MethodName) prog_26_method_69_code (2 : Nat) (Option.some Jvm.ClassFile.FieldType.int)) := by decide +kernel
theorem tw_370 : lw_tbl[370]? = some (Jvm.Cond.methodLink "FormulaSheet$CellSet" (18 : Nat) ({ cls := "java/lang/Long", name := "bitCount", desc := "(J)I" } : Jvm.MethodName)) := by decide +kernel
theorem tw_371 : lw_tbl[371]? = some (Jvm.Cond.static ({ cls := "java/lang/Long", name := "bitCount", desc := "(J)I" } : Jvm.MethodName)) := by decide +kernel
theorem tw_372 : lw_tbl[372]? = some (Jvm.Cond.code ({ cls := "java/lang/Long", name := "bitCount", desc := "(J)I" } : Jvm.MethodName) prog_25_method_50_code (2 : Nat) (Option.some Jvm.ClassFile.FieldType.int)) := by decide +kernel
theorem tw_373 : lw_tbl[373]? = some (Jvm.Cond.constantLong "java/lang/Long" (314 : Nat) (6148914691236517205 : Int64)) := by decide +kernel
theorem tw_374 : lw_tbl[374]? = some (Jvm.Cond.constantLong "java/lang/Long" (316 : Nat) (3689348814741910323 : Int64)) := by decide +kernel
theorem tw_375 : lw_tbl[375]? = some (Jvm.Cond.constantLong "java/lang/Long" (318 : Nat) (1085102592571150095 : Int64)) := by decide +kernel
theorem tw_704 : lw_tbl[704]? = some (Jvm.Cond.fieldLink "FormulaSheet$OverRange" (35 : Nat) "FormulaSheet$Reference" "column" "I") := by decide +kernel
theorem tw_798 : lw_tbl[798]? = some (Jvm.Cond.fieldLink "FormulaSheet$OverRange" (15 : Nat) "FormulaSheet$OverRange" "first" "LFormulaSheet$Reference;") := by decide +kernel
theorem tw_799 : lw_tbl[799]? = some (Jvm.Cond.fieldLink "FormulaSheet$OverRange" (19 : Nat) "FormulaSheet$OverRange" "second" "LFormulaSheet$Reference;") := by decide +kernel
set_option maxRecDepth 100000 in
def w_LO_bitCount (E : fs_E) (h : fs_Hp) (x1 : Int64) (Post : fs_Ps) : Prop := Post (.inl (some (.int ((Int64.toInt32 ((((((((x1 - (((Int64.toUInt64 x1 >>> ((Int32.toInt64 1).toUInt64 &&& Int64.toUInt64 63)).toInt64) &&& (6148914691236517205 : Int64))) &&& (3689348814741910323 : Int64)) + (((Int64.toUInt64 (x1 - (((Int64.toUInt64 x1 >>> ((Int32.toInt64 1).toUInt64 &&& Int64.toUInt64 63)).toInt64) &&& (6148914691236517205 : Int64))) >>> ((Int32.toInt64 2).toUInt64 &&& Int64.toUInt64 63)).toInt64) &&& (3689348814741910323 : Int64))) + ((Int64.toUInt64 (((x1 - (((Int64.toUInt64 x1 >>> ((Int32.toInt64 1).toUInt64 &&& Int64.toUInt64 63)).toInt64) &&& (6148914691236517205 : Int64))) &&& (3689348814741910323 : Int64)) + (((Int64.toUInt64 (x1 - (((Int64.toUInt64 x1 >>> ((Int32.toInt64 1).toUInt64 &&& Int64.toUInt64 63)).toInt64) &&& (6148914691236517205 : Int64))) >>> ((Int32.toInt64 2).toUInt64 &&& Int64.toUInt64 63)).toInt64) &&& (3689348814741910323 : Int64))) >>> ((Int32.toInt64 4).toUInt64 &&& Int64.toUInt64 63)).toInt64)) &&& (1085102592571150095 : Int64)) + ((Int64.toUInt64 (((((x1 - (((Int64.toUInt64 x1 >>> ((Int32.toInt64 1).toUInt64 &&& Int64.toUInt64 63)).toInt64) &&& (6148914691236517205 : Int64))) &&& (3689348814741910323 : Int64)) + (((Int64.toUInt64 (x1 - (((Int64.toUInt64 x1 >>> ((Int32.toInt64 1).toUInt64 &&& Int64.toUInt64 63)).toInt64) &&& (6148914691236517205 : Int64))) >>> ((Int32.toInt64 2).toUInt64 &&& Int64.toUInt64 63)).toInt64) &&& (3689348814741910323 : Int64))) + ((Int64.toUInt64 (((x1 - (((Int64.toUInt64 x1 >>> ((Int32.toInt64 1).toUInt64 &&& Int64.toUInt64 63)).toInt64) &&& (6148914691236517205 : Int64))) &&& (3689348814741910323 : Int64)) + (((Int64.toUInt64 (x1 - (((Int64.toUInt64 x1 >>> ((Int32.toInt64 1).toUInt64 &&& Int64.toUInt64 63)).toInt64) &&& (6148914691236517205 : Int64))) >>> ((Int32.toInt64 2).toUInt64 &&& Int64.toUInt64 63)).toInt64) &&& (3689348814741910323 : Int64))) >>> ((Int32.toInt64 4).toUInt64 &&& Int64.toUInt64 63)).toInt64)) &&& (1085102592571150095 : Int64)) >>> ((Int32.toInt64 8).toUInt64 &&& Int64.toUInt64 63)).toInt64)) + ((Int64.toUInt64 ((((((x1 - (((Int64.toUInt64 x1 >>> ((Int32.toInt64 1).toUInt64 &&& Int64.toUInt64 63)).toInt64) &&& (6148914691236517205 : Int64))) &&& (3689348814741910323 : Int64)) + (((Int64.toUInt64 (x1 - (((Int64.toUInt64 x1 >>> ((Int32.toInt64 1).toUInt64 &&& Int64.toUInt64 63)).toInt64) &&& (6148914691236517205 : Int64))) >>> ((Int32.toInt64 2).toUInt64 &&& Int64.toUInt64 63)).toInt64) &&& (3689348814741910323 : Int64))) + ((Int64.toUInt64 (((x1 - (((Int64.toUInt64 x1 >>> ((Int32.toInt64 1).toUInt64 &&& Int64.toUInt64 63)).toInt64) &&& (6148914691236517205 : Int64))) &&& (3689348814741910323 : Int64)) + (((Int64.toUInt64 (x1 - (((Int64.toUInt64 x1 >>> ((Int32.toInt64 1).toUInt64 &&& Int64.toUInt64 63)).toInt64) &&& (6148914691236517205 : Int64))) >>> ((Int32.toInt64 2).toUInt64 &&& Int64.toUInt64 63)).toInt64) &&& (3689348814741910323 : Int64))) >>> ((Int32.toInt64 4).toUInt64 &&& Int64.toUInt64 63)).toInt64)) &&& (1085102592571150095 : Int64)) + ((Int64.toUInt64 (((((x1 - (((Int64.toUInt64 x1 >>> ((Int32.toInt64 1).toUInt64 &&& Int64.toUInt64 63)).toInt64) &&& (6148914691236517205 : Int64))) &&& (3689348814741910323 : Int64)) + (((Int64.toUInt64 (x1 - (((Int64.toUInt64 x1 >>> ((Int32.toInt64 1).toUInt64 &&& Int64.toUInt64 63)).toInt64) &&& (6148914691236517205 : Int64))) >>> ((Int32.toInt64 2).toUInt64 &&& Int64.toUInt64 63)).toInt64) &&& (3689348814741910323 : Int64))) + ((Int64.toUInt64 (((x1 - (((Int64.toUInt64 x1 >>> ((Int32.toInt64 1).toUInt64 &&& Int64.toUInt64 63)).toInt64) &&& (6148914691236517205 : Int64))) &&& (3689348814741910323 : Int64)) + (((Int64.toUInt64 (x1 - (((Int64.toUInt64 x1 >>> ((Int32.toInt64 1).toUInt64 &&& Int64.toUInt64 63)).toInt64) &&& (6148914691236517205 : Int64))) >>> ((Int32.toInt64 2).toUInt64 &&& Int64.toUInt64 63)).toInt64) &&& (3689348814741910323 : Int64))) >>> ((Int32.toInt64 4).toUInt64 &&& Int64.toUInt64 63)).toInt64)) &&& (1085102592571150095 : Int64)) >>> ((Int32.toInt64 8).toUInt64 &&& Int64.toUInt64 63)).toInt64)) >>> ((Int32.toInt64 16).toUInt64 &&& Int64.toUInt64 63)).toInt64)) + ((Int64.toUInt64 (((((((x1 - (((Int64.toUInt64 x1 >>> ((Int32.toInt64 1).toUInt64 &&& Int64.toUInt64 63)).toInt64) &&& (6148914691236517205 : Int64))) &&& (3689348814741910323 : Int64)) + (((Int64.toUInt64 (x1 - (((Int64.toUInt64 x1 >>> ((Int32.toInt64 1).toUInt64 &&& Int64.toUInt64 63)).toInt64) &&& (6148914691236517205 : Int64))) >>> ((Int32.toInt64 2).toUInt64 &&& Int64.toUInt64 63)).toInt64) &&& (3689348814741910323 : Int64))) + ((Int64.toUInt64 (((x1 - (((Int64.toUInt64 x1 >>> ((Int32.toInt64 1).toUInt64 &&& Int64.toUInt64 63)).toInt64) &&& (6148914691236517205 : Int64))) &&& (3689348814741910323 : Int64)) + (((Int64.toUInt64 (x1 - (((Int64.toUInt64 x1 >>> ((Int32.toInt64 1).toUInt64 &&& Int64.toUInt64 63)).toInt64) &&& (6148914691236517205 : Int64))) >>> ((Int32.toInt64 2).toUInt64 &&& Int64.toUInt64 63)).toInt64) &&& (3689348814741910323 : Int64))) >>> ((Int32.toInt64 4).toUInt64 &&& Int64.toUInt64 63)).toInt64)) &&& (1085102592571150095 : Int64)) + ((Int64.toUInt64 (((((x1 - (((Int64.toUInt64 x1 >>> ((Int32.toInt64 1).toUInt64 &&& Int64.toUInt64 63)).toInt64) &&& (6148914691236517205 : Int64))) &&& (3689348814741910323 : Int64)) + (((Int64.toUInt64 (x1 - (((Int64.toUInt64 x1 >>> ((Int32.toInt64 1).toUInt64 &&& Int64.toUInt64 63)).toInt64) &&& (6148914691236517205 : Int64))) >>> ((Int32.toInt64 2).toUInt64 &&& Int64.toUInt64 63)).toInt64) &&& (3689348814741910323 : Int64))) + ((Int64.toUInt64 (((x1 - (((Int64.toUInt64 x1 >>> ((Int32.toInt64 1).toUInt64 &&& Int64.toUInt64 63)).toInt64) &&& (6148914691236517205 : Int64))) &&& (3689348814741910323 : Int64)) + (((Int64.toUInt64 (x1 - (((Int64.toUInt64 x1 >>> ((Int32.toInt64 1).toUInt64 &&& Int64.toUInt64 63)).toInt64) &&& (6148914691236517205 : Int64))) >>> ((Int32.toInt64 2).toUInt64 &&& Int64.toUInt64 63)).toInt64) &&& (3689348814741910323 : Int64))) >>> ((Int32.toInt64 4).toUInt64 &&& Int64.toUInt64 63)).toInt64)) &&& (1085102592571150095 : Int64)) >>> ((Int32.toInt64 8).toUInt64 &&& Int64.toUInt64 63)).toInt64)) + ((Int64.toUInt64 ((((((x1 - (((Int64.toUInt64 x1 >>> ((Int32.toInt64 1).toUInt64 &&& Int64.toUInt64 63)).toInt64) &&& (6148914691236517205 : Int64))) &&& (3689348814741910323 : Int64)) + (((Int64.toUInt64 (x1 - (((Int64.toUInt64 x1 >>> ((Int32.toInt64 1).toUInt64 &&& Int64.toUInt64 63)).toInt64) &&& (6148914691236517205 : Int64))) >>> ((Int32.toInt64 2).toUInt64 &&& Int64.toUInt64 63)).toInt64) &&& (3689348814741910323 : Int64))) + ((Int64.toUInt64 (((x1 - (((Int64.toUInt64 x1 >>> ((Int32.toInt64 1).toUInt64 &&& Int64.toUInt64 63)).toInt64) &&& (6148914691236517205 : Int64))) &&& (3689348814741910323 : Int64)) + (((Int64.toUInt64 (x1 - (((Int64.toUInt64 x1 >>> ((Int32.toInt64 1).toUInt64 &&& Int64.toUInt64 63)).toInt64) &&& (6148914691236517205 : Int64))) >>> ((Int32.toInt64 2).toUInt64 &&& Int64.toUInt64 63)).toInt64) &&& (3689348814741910323 : Int64))) >>> ((Int32.toInt64 4).toUInt64 &&& Int64.toUInt64 63)).toInt64)) &&& (1085102592571150095 : Int64)) + ((Int64.toUInt64 (((((x1 - (((Int64.toUInt64 x1 >>> ((Int32.toInt64 1).toUInt64 &&& Int64.toUInt64 63)).toInt64) &&& (6148914691236517205 : Int64))) &&& (3689348814741910323 : Int64)) + (((Int64.toUInt64 (x1 - (((Int64.toUInt64 x1 >>> ((Int32.toInt64 1).toUInt64 &&& Int64.toUInt64 63)).toInt64) &&& (6148914691236517205 : Int64))) >>> ((Int32.toInt64 2).toUInt64 &&& Int64.toUInt64 63)).toInt64) &&& (3689348814741910323 : Int64))) + ((Int64.toUInt64 (((x1 - (((Int64.toUInt64 x1 >>> ((Int32.toInt64 1).toUInt64 &&& Int64.toUInt64 63)).toInt64) &&& (6148914691236517205 : Int64))) &&& (3689348814741910323 : Int64)) + (((Int64.toUInt64 (x1 - (((Int64.toUInt64 x1 >>> ((Int32.toInt64 1).toUInt64 &&& Int64.toUInt64 63)).toInt64) &&& (6148914691236517205 : Int64))) >>> ((Int32.toInt64 2).toUInt64 &&& Int64.toUInt64 63)).toInt64) &&& (3689348814741910323 : Int64))) >>> ((Int32.toInt64 4).toUInt64 &&& Int64.toUInt64 63)).toInt64)) &&& (1085102592571150095 : Int64)) >>> ((Int32.toInt64 8).toUInt64 &&& Int64.toUInt64 63)).toInt64)) >>> ((Int32.toInt64 16).toUInt64 &&& Int64.toUInt64 63)).toInt64)) >>> ((Int32.toInt64 32).toUInt64 &&& Int64.toUInt64 63)).toInt64))) &&& (127 : Int32))))) h
set_option maxHeartbeats 4000000 in
set_option maxRecDepth 100000 in
theorem kw_LO_bitCount {l : Launch} {s00 : State} {E : fs_E} (hE : fs_SE l s00 E) {h : fs_Hp} {x1 : Int64} {Post : fs_Ps} (hq : w_LO_bitCount E h x1 Post) : fs_Ct l s00 E.1 y_LO_bitCount (.code y_LO_bitCount b_LO_bitCount 2 (some .int)) { frames := 0, cells := 0, slots := 0, locals := 0 } [.long x1] h Post := by
  refine fs_Ct.ofR hE.1 (by decide) ?_
  intro p e R s m below meth c hRf hRl hRc hRs B hout hP
  skip
  obtain ⟨hx, hb, hr, hml, hown, hts, hlocks, hname, hK, hw, htr⟩ := id B
  have hown : s.vm.findClass "java/lang/Long" = some m.cls := hown
  have hS := hw.S
  have hl := lv_entry ([.long x1]) (n := 2) (Nat.le_of_ble_eq_true rfl)
  rw [lg_entry_eq]
  generalize (lg_sl ([.long x1]) ++ List.replicate (2 - (lg_sl ([.long x1])).length) Slot.unset).toArray = ls at hl ⊢
  have hl : lv_has ls 2 [(0, .long x1)] := hl
  unfold w_LO_bitCount at hq
  refine lv_lload_n hx hb d_LO_bitCount_0 rfl (lv_at hl 0 rfl) ?_
  refine lv_lload_n hx hb d_LO_bitCount_1 rfl (lv_at hl 0 rfl) ?_
  refine lv_iconst (v := 1) hx hb d_LO_bitCount_2 (by decide) ?_
  refine lv_lushr hx hb d_LO_bitCount_3 rfl ?_
  refine lv_ldc2 (v := 6148914691236517205) hx hb hown (hts _ (fs_tb_at 373 tw_373 rfl)) d_LO_bitCount_4 ?_
  refine lv_land hx hb d_LO_bitCount_7 ?_
  refine lv_lsub hx hb d_LO_bitCount_8 ?_
  refine lv_lstore_n (lv' := [(0, .long (x1 - (((Int64.toUInt64 x1 >>> ((Int32.toInt64 1).toUInt64 &&& Int64.toUInt64 63)).toInt64) &&& (6148914691236517205 : Int64))))]) hx hb d_LO_bitCount_9 rfl hl (by decide) rfl (fun ls hl => ?_)
  refine lv_lload_n hx hb d_LO_bitCount_10 rfl (lv_at hl 0 rfl) ?_
  refine lv_ldc2 (v := 3689348814741910323) hx hb hown (hts _ (fs_tb_at 374 tw_374 rfl)) d_LO_bitCount_11 ?_
  refine lv_land hx hb d_LO_bitCount_14 ?_
  refine lv_lload_n hx hb d_LO_bitCount_15 rfl (lv_at hl 0 rfl) ?_
  refine lv_iconst (v := 2) hx hb d_LO_bitCount_16 (by decide) ?_
  refine lv_lushr hx hb d_LO_bitCount_17 rfl ?_
  refine lv_ldc2 (v := 3689348814741910323) hx hb hown (hts _ (fs_tb_at 374 tw_374 rfl)) d_LO_bitCount_18 ?_
  refine lv_land hx hb d_LO_bitCount_21 ?_
  refine lv_ladd hx hb d_LO_bitCount_22 ?_
  refine lv_lstore_n (lv' := [(0, .long (((x1 - (((Int64.toUInt64 x1 >>> ((Int32.toInt64 1).toUInt64 &&& Int64.toUInt64 63)).toInt64) &&& (6148914691236517205 : Int64))) &&& (3689348814741910323 : Int64)) + (((Int64.toUInt64 (x1 - (((Int64.toUInt64 x1 >>> ((Int32.toInt64 1).toUInt64 &&& Int64.toUInt64 63)).toInt64) &&& (6148914691236517205 : Int64))) >>> ((Int32.toInt64 2).toUInt64 &&& Int64.toUInt64 63)).toInt64) &&& (3689348814741910323 : Int64))))]) hx hb d_LO_bitCount_23 rfl hl (by decide) rfl (fun ls hl => ?_)
  refine lv_lload_n hx hb d_LO_bitCount_24 rfl (lv_at hl 0 rfl) ?_
  refine lv_lload_n hx hb d_LO_bitCount_25 rfl (lv_at hl 0 rfl) ?_
  refine lv_iconst (v := 4) hx hb d_LO_bitCount_26 (by decide) ?_
  refine lv_lushr hx hb d_LO_bitCount_27 rfl ?_
  refine lv_ladd hx hb d_LO_bitCount_28 ?_
  refine lv_ldc2 (v := 1085102592571150095) hx hb hown (hts _ (fs_tb_at 375 tw_375 rfl)) d_LO_bitCount_29 ?_
  refine lv_land hx hb d_LO_bitCount_32 ?_
  refine lv_lstore_n (lv' := [(0, .long (((((x1 - (((Int64.toUInt64 x1 >>> ((Int32.toInt64 1).toUInt64 &&& Int64.toUInt64 63)).toInt64) &&& (6148914691236517205 : Int64))) &&& (3689348814741910323 : Int64)) + (((Int64.toUInt64 (x1 - (((Int64.toUInt64 x1 >>> ((Int32.toInt64 1).toUInt64 &&& Int64.toUInt64 63)).toInt64) &&& (6148914691236517205 : Int64))) >>> ((Int32.toInt64 2).toUInt64 &&& Int64.toUInt64 63)).toInt64) &&& (3689348814741910323 : Int64))) + ((Int64.toUInt64 (((x1 - (((Int64.toUInt64 x1 >>> ((Int32.toInt64 1).toUInt64 &&& Int64.toUInt64 63)).toInt64) &&& (6148914691236517205 : Int64))) &&& (3689348814741910323 : Int64)) + (((Int64.toUInt64 (x1 - (((Int64.toUInt64 x1 >>> ((Int32.toInt64 1).toUInt64 &&& Int64.toUInt64 63)).toInt64) &&& (6148914691236517205 : Int64))) >>> ((Int32.toInt64 2).toUInt64 &&& Int64.toUInt64 63)).toInt64) &&& (3689348814741910323 : Int64))) >>> ((Int32.toInt64 4).toUInt64 &&& Int64.toUInt64 63)).toInt64)) &&& (1085102592571150095 : Int64)))]) hx hb d_LO_bitCount_33 rfl hl (by decide) rfl (fun ls hl => ?_)
  refine lv_lload_n hx hb d_LO_bitCount_34 rfl (lv_at hl 0 rfl) ?_
  refine lv_lload_n hx hb d_LO_bitCount_35 rfl (lv_at hl 0 rfl) ?_
  refine lv_bipush (v := 8) hx hb d_LO_bitCount_36 (by decide) ?_
  refine lv_lushr hx hb d_LO_bitCount_38 rfl ?_
  refine lv_ladd hx hb d_LO_bitCount_39 ?_
  refine lv_lstore_n (lv' := [(0, .long ((((((x1 - (((Int64.toUInt64 x1 >>> ((Int32.toInt64 1).toUInt64 &&& Int64.toUInt64 63)).toInt64) &&& (6148914691236517205 : Int64))) &&& (3689348814741910323 : Int64)) + (((Int64.toUInt64 (x1 - (((Int64.toUInt64 x1 >>> ((Int32.toInt64 1).toUInt64 &&& Int64.toUInt64 63)).toInt64) &&& (6148914691236517205 : Int64))) >>> ((Int32.toInt64 2).toUInt64 &&& Int64.toUInt64 63)).toInt64) &&& (3689348814741910323 : Int64))) + ((Int64.toUInt64 (((x1 - (((Int64.toUInt64 x1 >>> ((Int32.toInt64 1).toUInt64 &&& Int64.toUInt64 63)).toInt64) &&& (6148914691236517205 : Int64))) &&& (3689348814741910323 : Int64)) + (((Int64.toUInt64 (x1 - (((Int64.toUInt64 x1 >>> ((Int32.toInt64 1).toUInt64 &&& Int64.toUInt64 63)).toInt64) &&& (6148914691236517205 : Int64))) >>> ((Int32.toInt64 2).toUInt64 &&& Int64.toUInt64 63)).toInt64) &&& (3689348814741910323 : Int64))) >>> ((Int32.toInt64 4).toUInt64 &&& Int64.toUInt64 63)).toInt64)) &&& (1085102592571150095 : Int64)) + ((Int64.toUInt64 (((((x1 - (((Int64.toUInt64 x1 >>> ((Int32.toInt64 1).toUInt64 &&& Int64.toUInt64 63)).toInt64) &&& (6148914691236517205 : Int64))) &&& (3689348814741910323 : Int64)) + (((Int64.toUInt64 (x1 - (((Int64.toUInt64 x1 >>> ((Int32.toInt64 1).toUInt64 &&& Int64.toUInt64 63)).toInt64) &&& (6148914691236517205 : Int64))) >>> ((Int32.toInt64 2).toUInt64 &&& Int64.toUInt64 63)).toInt64) &&& (3689348814741910323 : Int64))) + ((Int64.toUInt64 (((x1 - (((Int64.toUInt64 x1 >>> ((Int32.toInt64 1).toUInt64 &&& Int64.toUInt64 63)).toInt64) &&& (6148914691236517205 : Int64))) &&& (3689348814741910323 : Int64)) + (((Int64.toUInt64 (x1 - (((Int64.toUInt64 x1 >>> ((Int32.toInt64 1).toUInt64 &&& Int64.toUInt64 63)).toInt64) &&& (6148914691236517205 : Int64))) >>> ((Int32.toInt64 2).toUInt64 &&& Int64.toUInt64 63)).toInt64) &&& (3689348814741910323 : Int64))) >>> ((Int32.toInt64 4).toUInt64 &&& Int64.toUInt64 63)).toInt64)) &&& (1085102592571150095 : Int64)) >>> ((Int32.toInt64 8).toUInt64 &&& Int64.toUInt64 63)).toInt64)))]) hx hb d_LO_bitCount_40 rfl hl (by decide) rfl (fun ls hl => ?_)
  refine lv_lload_n hx hb d_LO_bitCount_41 rfl (lv_at hl 0 rfl) ?_
  refine lv_lload_n hx hb d_LO_bitCount_42 rfl (lv_at hl 0 rfl) ?_
  refine lv_bipush (v := 16) hx hb d_LO_bitCount_43 (by decide) ?_
  refine lv_lushr hx hb d_LO_bitCount_45 rfl ?_
  refine lv_ladd hx hb d_LO_bitCount_46 ?_
  refine lv_lstore_n (lv' := [(0, .long (((((((x1 - (((Int64.toUInt64 x1 >>> ((Int32.toInt64 1).toUInt64 &&& Int64.toUInt64 63)).toInt64) &&& (6148914691236517205 : Int64))) &&& (3689348814741910323 : Int64)) + (((Int64.toUInt64 (x1 - (((Int64.toUInt64 x1 >>> ((Int32.toInt64 1).toUInt64 &&& Int64.toUInt64 63)).toInt64) &&& (6148914691236517205 : Int64))) >>> ((Int32.toInt64 2).toUInt64 &&& Int64.toUInt64 63)).toInt64) &&& (3689348814741910323 : Int64))) + ((Int64.toUInt64 (((x1 - (((Int64.toUInt64 x1 >>> ((Int32.toInt64 1).toUInt64 &&& Int64.toUInt64 63)).toInt64) &&& (6148914691236517205 : Int64))) &&& (3689348814741910323 : Int64)) + (((Int64.toUInt64 (x1 - (((Int64.toUInt64 x1 >>> ((Int32.toInt64 1).toUInt64 &&& Int64.toUInt64 63)).toInt64) &&& (6148914691236517205 : Int64))) >>> ((Int32.toInt64 2).toUInt64 &&& Int64.toUInt64 63)).toInt64) &&& (3689348814741910323 : Int64))) >>> ((Int32.toInt64 4).toUInt64 &&& Int64.toUInt64 63)).toInt64)) &&& (1085102592571150095 : Int64)) + ((Int64.toUInt64 (((((x1 - (((Int64.toUInt64 x1 >>> ((Int32.toInt64 1).toUInt64 &&& Int64.toUInt64 63)).toInt64) &&& (6148914691236517205 : Int64))) &&& (3689348814741910323 : Int64)) + (((Int64.toUInt64 (x1 - (((Int64.toUInt64 x1 >>> ((Int32.toInt64 1).toUInt64 &&& Int64.toUInt64 63)).toInt64) &&& (6148914691236517205 : Int64))) >>> ((Int32.toInt64 2).toUInt64 &&& Int64.toUInt64 63)).toInt64) &&& (3689348814741910323 : Int64))) + ((Int64.toUInt64 (((x1 - (((Int64.toUInt64 x1 >>> ((Int32.toInt64 1).toUInt64 &&& Int64.toUInt64 63)).toInt64) &&& (6148914691236517205 : Int64))) &&& (3689348814741910323 : Int64)) + (((Int64.toUInt64 (x1 - (((Int64.toUInt64 x1 >>> ((Int32.toInt64 1).toUInt64 &&& Int64.toUInt64 63)).toInt64) &&& (6148914691236517205 : Int64))) >>> ((Int32.toInt64 2).toUInt64 &&& Int64.toUInt64 63)).toInt64) &&& (3689348814741910323 : Int64))) >>> ((Int32.toInt64 4).toUInt64 &&& Int64.toUInt64 63)).toInt64)) &&& (1085102592571150095 : Int64)) >>> ((Int32.toInt64 8).toUInt64 &&& Int64.toUInt64 63)).toInt64)) + ((Int64.toUInt64 ((((((x1 - (((Int64.toUInt64 x1 >>> ((Int32.toInt64 1).toUInt64 &&& Int64.toUInt64 63)).toInt64) &&& (6148914691236517205 : Int64))) &&& (3689348814741910323 : Int64)) + (((Int64.toUInt64 (x1 - (((Int64.toUInt64 x1 >>> ((Int32.toInt64 1).toUInt64 &&& Int64.toUInt64 63)).toInt64) &&& (6148914691236517205 : Int64))) >>> ((Int32.toInt64 2).toUInt64 &&& Int64.toUInt64 63)).toInt64) &&& (3689348814741910323 : Int64))) + ((Int64.toUInt64 (((x1 - (((Int64.toUInt64 x1 >>> ((Int32.toInt64 1).toUInt64 &&& Int64.toUInt64 63)).toInt64) &&& (6148914691236517205 : Int64))) &&& (3689348814741910323 : Int64)) + (((Int64.toUInt64 (x1 - (((Int64.toUInt64 x1 >>> ((Int32.toInt64 1).toUInt64 &&& Int64.toUInt64 63)).toInt64) &&& (6148914691236517205 : Int64))) >>> ((Int32.toInt64 2).toUInt64 &&& Int64.toUInt64 63)).toInt64) &&& (3689348814741910323 : Int64))) >>> ((Int32.toInt64 4).toUInt64 &&& Int64.toUInt64 63)).toInt64)) &&& (1085102592571150095 : Int64)) + ((Int64.toUInt64 (((((x1 - (((Int64.toUInt64 x1 >>> ((Int32.toInt64 1).toUInt64 &&& Int64.toUInt64 63)).toInt64) &&& (6148914691236517205 : Int64))) &&& (3689348814741910323 : Int64)) + (((Int64.toUInt64 (x1 - (((Int64.toUInt64 x1 >>> ((Int32.toInt64 1).toUInt64 &&& Int64.toUInt64 63)).toInt64) &&& (6148914691236517205 : Int64))) >>> ((Int32.toInt64 2).toUInt64 &&& Int64.toUInt64 63)).toInt64) &&& (3689348814741910323 : Int64))) + ((Int64.toUInt64 (((x1 - (((Int64.toUInt64 x1 >>> ((Int32.toInt64 1).toUInt64 &&& Int64.toUInt64 63)).toInt64) &&& (6148914691236517205 : Int64))) &&& (3689348814741910323 : Int64)) + (((Int64.toUInt64 (x1 - (((Int64.toUInt64 x1 >>> ((Int32.toInt64 1).toUInt64 &&& Int64.toUInt64 63)).toInt64) &&& (6148914691236517205 : Int64))) >>> ((Int32.toInt64 2).toUInt64 &&& Int64.toUInt64 63)).toInt64) &&& (3689348814741910323 : Int64))) >>> ((Int32.toInt64 4).toUInt64 &&& Int64.toUInt64 63)).toInt64)) &&& (1085102592571150095 : Int64)) >>> ((Int32.toInt64 8).toUInt64 &&& Int64.toUInt64 63)).toInt64)) >>> ((Int32.toInt64 16).toUInt64 &&& Int64.toUInt64 63)).toInt64)))]) hx hb d_LO_bitCount_47 rfl hl (by decide) rfl (fun ls hl => ?_)
  refine lv_lload_n hx hb d_LO_bitCount_48 rfl (lv_at hl 0 rfl) ?_
  refine lv_lload_n hx hb d_LO_bitCount_49 rfl (lv_at hl 0 rfl) ?_
  refine lv_bipush (v := 32) hx hb d_LO_bitCount_50 (by decide) ?_
  refine lv_lushr hx hb d_LO_bitCount_52 rfl ?_
  refine lv_ladd hx hb d_LO_bitCount_53 ?_
  refine lv_lstore_n (lv' := [(0, .long ((((((((x1 - (((Int64.toUInt64 x1 >>> ((Int32.toInt64 1).toUInt64 &&& Int64.toUInt64 63)).toInt64) &&& (6148914691236517205 : Int64))) &&& (3689348814741910323 : Int64)) + (((Int64.toUInt64 (x1 - (((Int64.toUInt64 x1 >>> ((Int32.toInt64 1).toUInt64 &&& Int64.toUInt64 63)).toInt64) &&& (6148914691236517205 : Int64))) >>> ((Int32.toInt64 2).toUInt64 &&& Int64.toUInt64 63)).toInt64) &&& (3689348814741910323 : Int64))) + ((Int64.toUInt64 (((x1 - (((Int64.toUInt64 x1 >>> ((Int32.toInt64 1).toUInt64 &&& Int64.toUInt64 63)).toInt64) &&& (6148914691236517205 : Int64))) &&& (3689348814741910323 : Int64)) + (((Int64.toUInt64 (x1 - (((Int64.toUInt64 x1 >>> ((Int32.toInt64 1).toUInt64 &&& Int64.toUInt64 63)).toInt64) &&& (6148914691236517205 : Int64))) >>> ((Int32.toInt64 2).toUInt64 &&& Int64.toUInt64 63)).toInt64) &&& (3689348814741910323 : Int64))) >>> ((Int32.toInt64 4).toUInt64 &&& Int64.toUInt64 63)).toInt64)) &&& (1085102592571150095 : Int64)) + ((Int64.toUInt64 (((((x1 - (((Int64.toUInt64 x1 >>> ((Int32.toInt64 1).toUInt64 &&& Int64.toUInt64 63)).toInt64) &&& (6148914691236517205 : Int64))) &&& (3689348814741910323 : Int64)) + (((Int64.toUInt64 (x1 - (((Int64.toUInt64 x1 >>> ((Int32.toInt64 1).toUInt64 &&& Int64.toUInt64 63)).toInt64) &&& (6148914691236517205 : Int64))) >>> ((Int32.toInt64 2).toUInt64 &&& Int64.toUInt64 63)).toInt64) &&& (3689348814741910323 : Int64))) + ((Int64.toUInt64 (((x1 - (((Int64.toUInt64 x1 >>> ((Int32.toInt64 1).toUInt64 &&& Int64.toUInt64 63)).toInt64) &&& (6148914691236517205 : Int64))) &&& (3689348814741910323 : Int64)) + (((Int64.toUInt64 (x1 - (((Int64.toUInt64 x1 >>> ((Int32.toInt64 1).toUInt64 &&& Int64.toUInt64 63)).toInt64) &&& (6148914691236517205 : Int64))) >>> ((Int32.toInt64 2).toUInt64 &&& Int64.toUInt64 63)).toInt64) &&& (3689348814741910323 : Int64))) >>> ((Int32.toInt64 4).toUInt64 &&& Int64.toUInt64 63)).toInt64)) &&& (1085102592571150095 : Int64)) >>> ((Int32.toInt64 8).toUInt64 &&& Int64.toUInt64 63)).toInt64)) + ((Int64.toUInt64 ((((((x1 - (((Int64.toUInt64 x1 >>> ((Int32.toInt64 1).toUInt64 &&& Int64.toUInt64 63)).toInt64) &&& (6148914691236517205 : Int64))) &&& (3689348814741910323 : Int64)) + (((Int64.toUInt64 (x1 - (((Int64.toUInt64 x1 >>> ((Int32.toInt64 1).toUInt64 &&& Int64.toUInt64 63)).toInt64) &&& (6148914691236517205 : Int64))) >>> ((Int32.toInt64 2).toUInt64 &&& Int64.toUInt64 63)).toInt64) &&& (3689348814741910323 : Int64))) + ((Int64.toUInt64 (((x1 - (((Int64.toUInt64 x1 >>> ((Int32.toInt64 1).toUInt64 &&& Int64.toUInt64 63)).toInt64) &&& (6148914691236517205 : Int64))) &&& (3689348814741910323 : Int64)) + (((Int64.toUInt64 (x1 - (((Int64.toUInt64 x1 >>> ((Int32.toInt64 1).toUInt64 &&& Int64.toUInt64 63)).toInt64) &&& (6148914691236517205 : Int64))) >>> ((Int32.toInt64 2).toUInt64 &&& Int64.toUInt64 63)).toInt64) &&& (3689348814741910323 : Int64))) >>> ((Int32.toInt64 4).toUInt64 &&& Int64.toUInt64 63)).toInt64)) &&& (1085102592571150095 : Int64)) + ((Int64.toUInt64 (((((x1 - (((Int64.toUInt64 x1 >>> ((Int32.toInt64 1).toUInt64 &&& Int64.toUInt64 63)).toInt64) &&& (6148914691236517205 : Int64))) &&& (3689348814741910323 : Int64)) + (((Int64.toUInt64 (x1 - (((Int64.toUInt64 x1 >>> ((Int32.toInt64 1).toUInt64 &&& Int64.toUInt64 63)).toInt64) &&& (6148914691236517205 : Int64))) >>> ((Int32.toInt64 2).toUInt64 &&& Int64.toUInt64 63)).toInt64) &&& (3689348814741910323 : Int64))) + ((Int64.toUInt64 (((x1 - (((Int64.toUInt64 x1 >>> ((Int32.toInt64 1).toUInt64 &&& Int64.toUInt64 63)).toInt64) &&& (6148914691236517205 : Int64))) &&& (3689348814741910323 : Int64)) + (((Int64.toUInt64 (x1 - (((Int64.toUInt64 x1 >>> ((Int32.toInt64 1).toUInt64 &&& Int64.toUInt64 63)).toInt64) &&& (6148914691236517205 : Int64))) >>> ((Int32.toInt64 2).toUInt64 &&& Int64.toUInt64 63)).toInt64) &&& (3689348814741910323 : Int64))) >>> ((Int32.toInt64 4).toUInt64 &&& Int64.toUInt64 63)).toInt64)) &&& (1085102592571150095 : Int64)) >>> ((Int32.toInt64 8).toUInt64 &&& Int64.toUInt64 63)).toInt64)) >>> ((Int32.toInt64 16).toUInt64 &&& Int64.toUInt64 63)).toInt64)) + ((Int64.toUInt64 (((((((x1 - (((Int64.toUInt64 x1 >>> ((Int32.toInt64 1).toUInt64 &&& Int64.toUInt64 63)).toInt64) &&& (6148914691236517205 : Int64))) &&& (3689348814741910323 : Int64)) + (((Int64.toUInt64 (x1 - (((Int64.toUInt64 x1 >>> ((Int32.toInt64 1).toUInt64 &&& Int64.toUInt64 63)).toInt64) &&& (6148914691236517205 : Int64))) >>> ((Int32.toInt64 2).toUInt64 &&& Int64.toUInt64 63)).toInt64) &&& (3689348814741910323 : Int64))) + ((Int64.toUInt64 (((x1 - (((Int64.toUInt64 x1 >>> ((Int32.toInt64 1).toUInt64 &&& Int64.toUInt64 63)).toInt64) &&& (6148914691236517205 : Int64))) &&& (3689348814741910323 : Int64)) + (((Int64.toUInt64 (x1 - (((Int64.toUInt64 x1 >>> ((Int32.toInt64 1).toUInt64 &&& Int64.toUInt64 63)).toInt64) &&& (6148914691236517205 : Int64))) >>> ((Int32.toInt64 2).toUInt64 &&& Int64.toUInt64 63)).toInt64) &&& (3689348814741910323 : Int64))) >>> ((Int32.toInt64 4).toUInt64 &&& Int64.toUInt64 63)).toInt64)) &&& (1085102592571150095 : Int64)) + ((Int64.toUInt64 (((((x1 - (((Int64.toUInt64 x1 >>> ((Int32.toInt64 1).toUInt64 &&& Int64.toUInt64 63)).toInt64) &&& (6148914691236517205 : Int64))) &&& (3689348814741910323 : Int64)) + (((Int64.toUInt64 (x1 - (((Int64.toUInt64 x1 >>> ((Int32.toInt64 1).toUInt64 &&& Int64.toUInt64 63)).toInt64) &&& (6148914691236517205 : Int64))) >>> ((Int32.toInt64 2).toUInt64 &&& Int64.toUInt64 63)).toInt64) &&& (3689348814741910323 : Int64))) + ((Int64.toUInt64 (((x1 - (((Int64.toUInt64 x1 >>> ((Int32.toInt64 1).toUInt64 &&& Int64.toUInt64 63)).toInt64) &&& (6148914691236517205 : Int64))) &&& (3689348814741910323 : Int64)) + (((Int64.toUInt64 (x1 - (((Int64.toUInt64 x1 >>> ((Int32.toInt64 1).toUInt64 &&& Int64.toUInt64 63)).toInt64) &&& (6148914691236517205 : Int64))) >>> ((Int32.toInt64 2).toUInt64 &&& Int64.toUInt64 63)).toInt64) &&& (3689348814741910323 : Int64))) >>> ((Int32.toInt64 4).toUInt64 &&& Int64.toUInt64 63)).toInt64)) &&& (1085102592571150095 : Int64)) >>> ((Int32.toInt64 8).toUInt64 &&& Int64.toUInt64 63)).toInt64)) + ((Int64.toUInt64 ((((((x1 - (((Int64.toUInt64 x1 >>> ((Int32.toInt64 1).toUInt64 &&& Int64.toUInt64 63)).toInt64) &&& (6148914691236517205 : Int64))) &&& (3689348814741910323 : Int64)) + (((Int64.toUInt64 (x1 - (((Int64.toUInt64 x1 >>> ((Int32.toInt64 1).toUInt64 &&& Int64.toUInt64 63)).toInt64) &&& (6148914691236517205 : Int64))) >>> ((Int32.toInt64 2).toUInt64 &&& Int64.toUInt64 63)).toInt64) &&& (3689348814741910323 : Int64))) + ((Int64.toUInt64 (((x1 - (((Int64.toUInt64 x1 >>> ((Int32.toInt64 1).toUInt64 &&& Int64.toUInt64 63)).toInt64) &&& (6148914691236517205 : Int64))) &&& (3689348814741910323 : Int64)) + (((Int64.toUInt64 (x1 - (((Int64.toUInt64 x1 >>> ((Int32.toInt64 1).toUInt64 &&& Int64.toUInt64 63)).toInt64) &&& (6148914691236517205 : Int64))) >>> ((Int32.toInt64 2).toUInt64 &&& Int64.toUInt64 63)).toInt64) &&& (3689348814741910323 : Int64))) >>> ((Int32.toInt64 4).toUInt64 &&& Int64.toUInt64 63)).toInt64)) &&& (1085102592571150095 : Int64)) + ((Int64.toUInt64 (((((x1 - (((Int64.toUInt64 x1 >>> ((Int32.toInt64 1).toUInt64 &&& Int64.toUInt64 63)).toInt64) &&& (6148914691236517205 : Int64))) &&& (3689348814741910323 : Int64)) + (((Int64.toUInt64 (x1 - (((Int64.toUInt64 x1 >>> ((Int32.toInt64 1).toUInt64 &&& Int64.toUInt64 63)).toInt64) &&& (6148914691236517205 : Int64))) >>> ((Int32.toInt64 2).toUInt64 &&& Int64.toUInt64 63)).toInt64) &&& (3689348814741910323 : Int64))) + ((Int64.toUInt64 (((x1 - (((Int64.toUInt64 x1 >>> ((Int32.toInt64 1).toUInt64 &&& Int64.toUInt64 63)).toInt64) &&& (6148914691236517205 : Int64))) &&& (3689348814741910323 : Int64)) + (((Int64.toUInt64 (x1 - (((Int64.toUInt64 x1 >>> ((Int32.toInt64 1).toUInt64 &&& Int64.toUInt64 63)).toInt64) &&& (6148914691236517205 : Int64))) >>> ((Int32.toInt64 2).toUInt64 &&& Int64.toUInt64 63)).toInt64) &&& (3689348814741910323 : Int64))) >>> ((Int32.toInt64 4).toUInt64 &&& Int64.toUInt64 63)).toInt64)) &&& (1085102592571150095 : Int64)) >>> ((Int32.toInt64 8).toUInt64 &&& Int64.toUInt64 63)).toInt64)) >>> ((Int32.toInt64 16).toUInt64 &&& Int64.toUInt64 63)).toInt64)) >>> ((Int32.toInt64 32).toUInt64 &&& Int64.toUInt64 63)).toInt64)))]) hx hb d_LO_bitCount_54 rfl hl (by decide) rfl (fun ls hl => ?_)
  refine lv_lload_n hx hb d_LO_bitCount_55 rfl (lv_at hl 0 rfl) ?_
  refine lv_l2i hx hb d_LO_bitCount_56 rfl ?_
  refine lv_bipush (v := 127) hx hb d_LO_bitCount_57 (by decide) ?_
  refine lv_iand hx hb d_LO_bitCount_59 ?_
  exact fs_iret hx hb hr hlocks hw hP hS (vp_nar_int _) (Nat.le_refl _) (Nat.le_refl _) hq d_LO_bitCount_60
def w_OV_left (E : fs_E) (h : fs_Hp) (a0 : Nat) (Post : fs_Ps) : Prop := fs_gr h a0 9 1 (fun a101 => fs_gi h a101 5 2 (fun x102 => fs_gr h a0 9 2 (fun a103 => fs_gi h a103 5 2 (fun x104 => Post (.inl (some (.int (if x104 < x102 then x104 else x102)))) h))))
set_option maxHeartbeats 4000000 in
set_option maxRecDepth 100000 in
theorem kw_OV_left {l : Launch} {s00 : State} {E : fs_E} (hE : fs_SE l s00 E) {h : fs_Hp} {a0 : Nat} {Post : fs_Ps} (hq : w_OV_left E h a0 Post) : fs_Ct l s00 E.1 y_OV_left (.code y_OV_left b_OV_left 1 (some .int)) { frames := 1, cells := 0, slots := 0, locals := 13 } [.ref a0] h Post := by
  refine fs_Ct.ofR hE.1 (by decide) ?_
  intro p e R s m below meth c hRf hRl hRc hRs B hout hP
  skip
  obtain ⟨hx, hb, hr, hml, hown, hts, hlocks, hname, hK, hw, htr⟩ := id B
  have hown : s.vm.findClass "FormulaSheet$OverRange" = some m.cls := hown
  have hS := hw.S
  have hl := lv_entry ([.ref a0]) (n := 1) (Nat.le_of_ble_eq_true rfl)
  rw [lg_entry_eq]
  generalize (lg_sl ([.ref a0]) ++ List.replicate (1 - (lg_sl ([.ref a0])).length) Slot.unset).toArray = ls at hl ⊢
  have hl : lv_has ls 1 [(0, .ref a0)] := hl
  unfold w_OV_left at hq
  refine lv_aload_n hx hb d_OV_left_0 rfl (lv_at hl 0 rfl) ?_
  obtain ⟨fs_, a101, he_, hv_, hq⟩ := fs_gr_some hq
  refine fs_get hx hb hts hown hK c_OV hP he_ 1 (by decide) (hts _ (fs_tb_at 798 tw_798 rfl)) (fun _ h9 => h9) hv_ d_OV_left_1 ?_
  obtain ⟨fs_, x102, he_, hv_, hq⟩ := fs_gi_some hq
  refine fs_get hx hb hts hown hK c_RE hP he_ 2 (by decide) (hts _ (fs_tb_at 704 tw_704 rfl)) (fun _ h9 => h9) hv_ d_OV_left_4 ?_
  refine lv_aload_n hx hb d_OV_left_7 rfl (lv_at hl 0 rfl) ?_
  obtain ⟨fs_, a103, he_, hv_, hq⟩ := fs_gr_some hq
  refine fs_get hx hb hts hown hK c_OV hP he_ 2 (by decide) (hts _ (fs_tb_at 799 tw_799 rfl)) (fun _ h9 => h9) hv_ d_OV_left_8 ?_
  obtain ⟨fs_, x104, he_, hv_, hq⟩ := fs_gi_some hq
  refine fs_get hx hb hts hown hK c_RE hP he_ 2 (by decide) (hts _ (fs_tb_at 704 tw_704 rfl)) (fun _ h9 => h9) hv_ d_OV_left_11 ?_
  refine va_mmin hx hb (by rw [hml]; exact hl.1.symm) hown (hts _ (fs_tb_at 306 tw_306 rfl)) (hts _ (fs_tb_at 307 tw_307 rfl)) (hts _ (fs_tb_at 108 tw_108 rfl)) (hts _ (fs_tb_at 308 tw_308 rfl)) (by omega) (fs_lc (k := 0) rfl (by omega)) (Nat.zero_le _) (Nat.zero_le _) d_OV_left_14 ?_
  exact fs_iret hx hb hr hlocks hw hP hS (vp_nar_int _) (Nat.le_refl _) (Nat.le_refl _) hq d_OV_left_17
def w_CS_init (E : fs_E) (h : fs_Hp) (a0 : Nat) (Post : fs_Ps) : Prop := Post (.inl none) h
set_option maxHeartbeats 4000000 in
set_option maxRecDepth 100000 in
theorem kw_CS_init {l : Launch} {s00 : State} {E : fs_E} (hE : fs_SE l s00 E) {h : fs_Hp} {a0 : Nat} {Post : fs_Ps} (hq : w_CS_init E h a0 Post) : fs_Ct l s00 E.1 y_CS_init (.code y_CS_init b_CS_init 1 none) { frames := 1, cells := 0, slots := 0, locals := 20 } [.ref a0] h Post := by
  refine fs_Ct.ofR hE.1 (by decide) ?_
  intro p e R s m below meth c hRf hRl hRc hRs B hout hP
  skip
  obtain ⟨hx, hb, hr, hml, hown, hts, hlocks, hname, hK, hw, htr⟩ := id B
  have hown : s.vm.findClass "FormulaSheet$CellSet" = some m.cls := hown
  have hS := hw.S
  have hl := lv_entry ([.ref a0]) (n := 1) (Nat.le_of_ble_eq_true rfl)
  rw [lg_entry_eq]
  generalize (lg_sl ([.ref a0]) ++ List.replicate (1 - (lg_sl ([.ref a0])).length) Slot.unset).toArray = ls at hl ⊢
  have hl : lv_has ls 1 [(0, .ref a0)] := hl
  unfold w_CS_init at hq
  refine lv_aload_n hx hb d_CS_init_0 rfl (lv_at hl 0 rfl) ?_
  refine W.objInit hx hb hown (hts _ (fs_tb_at 169 tw_169 rfl)) (hts _ (fs_tb_at 131 tw_131 rfl)) (hts _ (fs_tb_at 132 tw_132 rfl)) rfl (by rw [hml]; exact hl.1) rfl d_CS_init_1 (Nat.le_trans (Nat.le_of_ble_eq_true rfl) hRf) (Nat.le_trans (Nat.le_of_ble_eq_true rfl) hRl) ?_
  refine W.eq (g2 := F0 m 4 ls ([])) rfl ?_
  exact fs_vret hx hb hr hlocks hw hP hS (Nat.le_refl _) (Nat.le_refl _) hq d_CS_init_4
def w_CS_clear (E : fs_E) (h : fs_Hp) (a0 : Nat) (Post : fs_Ps) : Prop := fs_pw h a0 3 0 (.long 0) (fun h101 => fs_pw h101 a0 3 1 (.long 0) (fun h102 => Post (.inl none) h102))
set_option maxHeartbeats 4000000 in
set_option maxRecDepth 100000 in
theorem kw_CS_clear {l : Launch} {s00 : State} {E : fs_E} (hE : fs_SE l s00 E) {h : fs_Hp} {a0 : Nat} {Post : fs_Ps} (hq : w_CS_clear E h a0 Post) : fs_Ct l s00 E.1 y_CS_clear (.code y_CS_clear b_CS_clear 1 none) { frames := 0, cells := 0, slots := 0, locals := 0 } [.ref a0] h Post := by
  refine fs_Ct.ofR hE.1 (by decide) ?_
  intro p e R s m below meth c hRf hRl hRc hRs B hout hP
  skip
  obtain ⟨hx, hb, hr, hml, hown, hts, hlocks, hname, hK, hw, htr⟩ := id B
  have hown : s.vm.findClass "FormulaSheet$CellSet" = some m.cls := hown
  have hS := hw.S
  have hl := lv_entry ([.ref a0]) (n := 1) (Nat.le_of_ble_eq_true rfl)
  rw [lg_entry_eq]
  generalize (lg_sl ([.ref a0]) ++ List.replicate (1 - (lg_sl ([.ref a0])).length) Slot.unset).toArray = ls at hl ⊢
  have hl : lv_has ls 1 [(0, .ref a0)] := hl
  unfold w_CS_clear at hq
  refine lv_aload_n hx hb d_CS_clear_0 rfl (lv_at hl 0 rfl) ?_
  refine lv_lconst (v := 0) hx hb d_CS_clear_1 (by decide) ?_
  obtain ⟨fs_, h101, e_, hl_, eh_, hq⟩ := fs_pw_some hq
  refine fs_put hx hb hts hown hK c_CS hP hS e_ 0 (by decide) (hts _ (fs_tb_at 170 tw_170 rfl)) (fun _ h9 => h9) rfl rfl rfl hl_ d_CS_clear_2 (fun H locs hP hS => ?_)
  rw [← eh_] at hP
  refine lv_aload_n hx hb d_CS_clear_5 rfl (lv_at hl 0 rfl) ?_
  refine lv_lconst (v := 0) hx hb d_CS_clear_6 (by decide) ?_
  obtain ⟨fs_, h102, e_, hl_, eh_, hq⟩ := fs_pw_some hq
  refine fs_put hx hb hts hown hK c_CS hP hS e_ 1 (by decide) (hts _ (fs_tb_at 171 tw_171 rfl)) (fun _ h9 => h9) rfl rfl rfl hl_ d_CS_clear_7 (fun H locs hP hS => ?_)
  rw [← eh_] at hP
  exact fs_vret hx hb hr hlocks hw hP hS (Nat.le_refl _) (Nat.le_refl _) hq d_CS_clear_10
def w_CS_add (E : fs_E) (h : fs_Hp) (a0 : Nat) (x1 : Int32) (Post : fs_Ps) : Prop := (if 64 ≤ x1 then fs_gl h a0 3 1 (fun x102 => fs_pw h a0 3 1 (.long (x102 ||| (1 <<< (Int32.toInt64 (x1 - 64) &&& 63)))) (fun h103 => Post (.inl none) h103)) else fs_gl h a0 3 0 (fun x104 => fs_pw h a0 3 0 (.long (x104 ||| (1 <<< (Int32.toInt64 x1 &&& 63)))) (fun h105 => Post (.inl none) h105)))
set_option maxHeartbeats 4000000 in
set_option maxRecDepth 100000 in
theorem kw_CS_add {l : Launch} {s00 : State} {E : fs_E} (hE : fs_SE l s00 E) {h : fs_Hp} {a0 : Nat} {x1 : Int32} {Post : fs_Ps} (hq : w_CS_add E h a0 x1 Post) : fs_Ct l s00 E.1 y_CS_add (.code y_CS_add b_CS_add 2 none) { frames := 0, cells := 0, slots := 0, locals := 0 } [.ref a0, .int x1] h Post := by
  refine fs_Ct.ofR hE.1 (by decide) ?_
  intro p e R s m below meth c hRf hRl hRc hRs B hout hP
  skip
  obtain ⟨hx, hb, hr, hml, hown, hts, hlocks, hname, hK, hw, htr⟩ := id B
  have hown : s.vm.findClass "FormulaSheet$CellSet" = some m.cls := hown
  have hS := hw.S
  have hl := lv_entry ([.ref a0, .int x1]) (n := 2) (Nat.le_of_ble_eq_true rfl)
  rw [lg_entry_eq]
  generalize (lg_sl ([.ref a0, .int x1]) ++ List.replicate (2 - (lg_sl ([.ref a0, .int x1])).length) Slot.unset).toArray = ls at hl ⊢
  have hl : lv_has ls 2 [(0, .ref a0), (1, .int x1)] := hl
  unfold w_CS_add at hq
  refine lv_iload_n hx hb d_CS_add_0 rfl (lv_at hl 1 rfl) ?_
  refine lv_bipush (v := 64) hx hb d_CS_add_1 (by decide) ?_
  refine lv_icmp_ge (tgt := 21) hx hb d_CS_add_3 (by decide) (fun c_101 => ?_) (fun c_101 => ?_)
  · have hq := fs_wifp c_101 hq
    refine lv_aload_n hx hb d_CS_add_21 rfl (lv_at hl 0 rfl) ?_
    refine lv_dup hx hb d_CS_add_22 rfl ?_
    obtain ⟨fs_, x102, he_, hv_, hq⟩ := fs_gl_some hq
    refine fs_get hx hb hts hown hK c_CS hP he_ 1 (by decide) (hts _ (fs_tb_at 171 tw_171 rfl)) (fun _ h9 => h9) hv_ d_CS_add_23 ?_
    refine lv_lconst (v := 1) hx hb d_CS_add_26 (by decide) ?_
    refine lv_iload_n hx hb d_CS_add_27 rfl (lv_at hl 1 rfl) ?_
    refine lv_bipush (v := 64) hx hb d_CS_add_28 (by decide) ?_
    refine lv_isub hx hb d_CS_add_30 ?_
    refine lv_lshl hx hb d_CS_add_31 rfl ?_
    refine lv_lor hx hb d_CS_add_32 ?_
    obtain ⟨fs_, h103, e_, hl_, eh_, hq⟩ := fs_pw_some hq
    refine fs_put hx hb hts hown hK c_CS hP hS e_ 1 (by decide) (hts _ (fs_tb_at 171 tw_171 rfl)) (fun _ h9 => h9) rfl rfl rfl hl_ d_CS_add_33 (fun H locs hP hS => ?_)
    rw [← eh_] at hP
    exact fs_vret hx hb hr hlocks hw hP hS (Nat.le_refl _) (Nat.le_refl _) hq d_CS_add_36
  · have hq := fs_wifn c_101 hq
    refine lv_aload_n hx hb d_CS_add_6 rfl (lv_at hl 0 rfl) ?_
    refine lv_dup hx hb d_CS_add_7 rfl ?_
    obtain ⟨fs_, x104, he_, hv_, hq⟩ := fs_gl_some hq
    refine fs_get hx hb hts hown hK c_CS hP he_ 0 (by decide) (hts _ (fs_tb_at 170 tw_170 rfl)) (fun _ h9 => h9) hv_ d_CS_add_8 ?_
    refine lv_lconst (v := 1) hx hb d_CS_add_11 (by decide) ?_
    refine lv_iload_n hx hb d_CS_add_12 rfl (lv_at hl 1 rfl) ?_
    refine lv_lshl hx hb d_CS_add_13 rfl ?_
    refine lv_lor hx hb d_CS_add_14 ?_
    obtain ⟨fs_, h105, e_, hl_, eh_, hq⟩ := fs_pw_some hq
    refine fs_put hx hb hts hown hK c_CS hP hS e_ 0 (by decide) (hts _ (fs_tb_at 170 tw_170 rfl)) (fun _ h9 => h9) rfl rfl rfl hl_ d_CS_add_15 (fun H locs hP hS => ?_)
    rw [← eh_] at hP
    refine lv_goto (tgt := 36) hx hb d_CS_add_18 (by decide) ?_
    exact fs_vret hx hb hr hlocks hw hP hS (Nat.le_refl _) (Nat.le_refl _) hq d_CS_add_36
def w_CS_addAll (E : fs_E) (h : fs_Hp) (a0 : Nat) (x1 : Nat) (Post : fs_Ps) : Prop := fs_gl h a0 3 0 (fun x101 => fs_gl h x1 3 0 (fun x102 => fs_pw h a0 3 0 (.long (x101 ||| x102)) (fun h103 => fs_gl h103 a0 3 1 (fun x104 => fs_gl h103 x1 3 1 (fun x105 => fs_pw h103 a0 3 1 (.long (x104 ||| x105)) (fun h106 => Post (.inl none) h106))))))
set_option maxHeartbeats 4000000 in
set_option maxRecDepth 100000 in
theorem kw_CS_addAll {l : Launch} {s00 : State} {E : fs_E} (hE : fs_SE l s00 E) {h : fs_Hp} {a0 : Nat} {x1 : Nat} {Post : fs_Ps} (hq : w_CS_addAll E h a0 x1 Post) : fs_Ct l s00 E.1 y_CS_addAll (.code y_CS_addAll b_CS_addAll 2 none) { frames := 0, cells := 0, slots := 0, locals := 0 } [.ref a0, .ref x1] h Post := by
  refine fs_Ct.ofR hE.1 (by decide) ?_
  intro p e R s m below meth c hRf hRl hRc hRs B hout hP
  skip
  obtain ⟨hx, hb, hr, hml, hown, hts, hlocks, hname, hK, hw, htr⟩ := id B
  have hown : s.vm.findClass "FormulaSheet$CellSet" = some m.cls := hown
  have hS := hw.S
  have hl := lv_entry ([.ref a0, .ref x1]) (n := 2) (Nat.le_of_ble_eq_true rfl)
  rw [lg_entry_eq]
  generalize (lg_sl ([.ref a0, .ref x1]) ++ List.replicate (2 - (lg_sl ([.ref a0, .ref x1])).length) Slot.unset).toArray = ls at hl ⊢
  have hl : lv_has ls 2 [(0, .ref a0), (1, .ref x1)] := hl
  unfold w_CS_addAll at hq
  refine lv_aload_n hx hb d_CS_addAll_0 rfl (lv_at hl 0 rfl) ?_
  refine lv_dup hx hb d_CS_addAll_1 rfl ?_
  obtain ⟨fs_, x101, he_, hv_, hq⟩ := fs_gl_some hq
  refine fs_get hx hb hts hown hK c_CS hP he_ 0 (by decide) (hts _ (fs_tb_at 170 tw_170 rfl)) (fun _ h9 => h9) hv_ d_CS_addAll_2 ?_
  refine lv_aload_n hx hb d_CS_addAll_5 rfl (lv_at hl 1 rfl) ?_
  obtain ⟨fs_, x102, he_, hv_, hq⟩ := fs_gl_some hq
  refine fs_get hx hb hts hown hK c_CS hP he_ 0 (by decide) (hts _ (fs_tb_at 170 tw_170 rfl)) (fun _ h9 => h9) hv_ d_CS_addAll_6 ?_
  refine lv_lor hx hb d_CS_addAll_9 ?_
  obtain ⟨fs_, h103, e_, hl_, eh_, hq⟩ := fs_pw_some hq
  refine fs_put hx hb hts hown hK c_CS hP hS e_ 0 (by decide) (hts _ (fs_tb_at 170 tw_170 rfl)) (fun _ h9 => h9) rfl rfl rfl hl_ d_CS_addAll_10 (fun H locs hP hS => ?_)
  rw [← eh_] at hP
  refine lv_aload_n hx hb d_CS_addAll_13 rfl (lv_at hl 0 rfl) ?_
  refine lv_dup hx hb d_CS_addAll_14 rfl ?_
  obtain ⟨fs_, x104, he_, hv_, hq⟩ := fs_gl_some hq
  refine fs_get hx hb hts hown hK c_CS hP he_ 1 (by decide) (hts _ (fs_tb_at 171 tw_171 rfl)) (fun _ h9 => h9) hv_ d_CS_addAll_15 ?_
  refine lv_aload_n hx hb d_CS_addAll_18 rfl (lv_at hl 1 rfl) ?_
  obtain ⟨fs_, x105, he_, hv_, hq⟩ := fs_gl_some hq
  refine fs_get hx hb hts hown hK c_CS hP he_ 1 (by decide) (hts _ (fs_tb_at 171 tw_171 rfl)) (fun _ h9 => h9) hv_ d_CS_addAll_19 ?_
  refine lv_lor hx hb d_CS_addAll_22 ?_
  obtain ⟨fs_, h106, e_, hl_, eh_, hq⟩ := fs_pw_some hq
  refine fs_put hx hb hts hown hK c_CS hP hS e_ 1 (by decide) (hts _ (fs_tb_at 171 tw_171 rfl)) (fun _ h9 => h9) rfl rfl rfl hl_ d_CS_addAll_23 (fun H locs hP hS => ?_)
  rw [← eh_] at hP
  exact fs_vret hx hb hr hlocks hw hP hS (Nat.le_refl _) (Nat.le_refl _) hq d_CS_addAll_26
def w_CS_has_J24 (E : fs_E) (Post : fs_Ps) (w0 : Int64) (h1 : fs_Hp) : Prop := (if (lg_cmp (w0 &&& (1 : Int64)) 0) = 0 then Post (.inl (some (.int 0))) h1 else Post (.inl (some (.int 1))) h1)
def w_CS_has (E : fs_E) (h : fs_Hp) (a0 : Nat) (x1 : Int32) (Post : fs_Ps) : Prop := (if 64 ≤ x1 then fs_gl h a0 3 1 (fun x103 => w_CS_has_J24 E Post ((Int64.toUInt64 x103 >>> ((Int32.toInt64 (x1 - 64)).toUInt64 &&& Int64.toUInt64 63)).toInt64) h) else fs_gl h a0 3 0 (fun x104 => w_CS_has_J24 E Post ((Int64.toUInt64 x104 >>> ((Int32.toInt64 x1).toUInt64 &&& Int64.toUInt64 63)).toInt64) h))
set_option maxHeartbeats 4000000 in
set_option maxRecDepth 100000 in
theorem kw_CS_has {l : Launch} {s00 : State} {E : fs_E} (hE : fs_SE l s00 E) {h : fs_Hp} {a0 : Nat} {x1 : Int32} {Post : fs_Ps} (hq : w_CS_has E h a0 x1 Post) : fs_Ct l s00 E.1 y_CS_has (.code y_CS_has b_CS_has 4 (some .boolean)) { frames := 0, cells := 0, slots := 0, locals := 0 } [.ref a0, .int x1] h Post := by
  refine fs_Ct.ofR hE.1 (by decide) ?_
  intro p e R s m below meth c hRf hRl hRc hRs B hout hP
  skip
  obtain ⟨hx, hb, hr, hml, hown, hts, hlocks, hname, hK, hw, htr⟩ := id B
  have hown : s.vm.findClass "FormulaSheet$CellSet" = some m.cls := hown
  have hS := hw.S
  have hJ24 : ∀ (w0 : Int64) (h1 : fs_Hp) (H : Heap) (locs : List Loc) (ls : Array Slot), w_CS_has_J24 E Post w0 h1 → fs_P E.1.1 fs_cl (fs_A s00) h1 H → va_S (fs_A s00) s00.heap H locs → lv_has ls 4 [] → W p l e R s m ([.ref a0, .int x1] : List Value).toArray below meth c H locs 0 0 (fx_MQ below (fs_Qc s00 E.1 Post) ([.ref a0, .int x1] : List Value).toArray s 0 0 (fs_A s00)) (F0 m 24 ls (.long w0 :: [])) := by
    intro w0 h1 H locs ls hq hP hS hl
    unfold w_CS_has_J24 at hq
    refine lv_lstore_n (lv' := [(2, .long w0)]) hx hb d_CS_has_24 rfl hl (by decide) rfl (fun ls hl => ?_)
    refine lv_lload_n hx hb d_CS_has_25 rfl (lv_at hl 0 rfl) ?_
    refine lv_lconst (v := 1) hx hb d_CS_has_26 (by decide) ?_
    refine lv_land hx hb d_CS_has_27 ?_
    refine lv_lconst (v := 0) hx hb d_CS_has_28 (by decide) ?_
    refine W.lcmp hx hb d_CS_has_29 ?_
    refine lv_if_eq (tgt := 37) hx hb d_CS_has_30 (by decide) (fun c_101 => ?_) (fun c_101 => ?_)
    · have hq := fs_wifp c_101 hq
      refine lv_iconst (v := 0) hx hb d_CS_has_37 (by decide) ?_
      exact fs_iret hx hb hr hlocks hw hP hS (by decide) (Nat.le_refl _) (Nat.le_refl _) hq d_CS_has_38
    · have hq := fs_wifn c_101 hq
      refine lv_iconst (v := 1) hx hb d_CS_has_33 (by decide) ?_
      refine lv_goto (tgt := 38) hx hb d_CS_has_34 (by decide) ?_
      exact fs_iret hx hb hr hlocks hw hP hS (by decide) (Nat.le_refl _) (Nat.le_refl _) hq d_CS_has_38
  have hl := lv_entry ([.ref a0, .int x1]) (n := 4) (Nat.le_of_ble_eq_true rfl)
  rw [lg_entry_eq]
  generalize (lg_sl ([.ref a0, .int x1]) ++ List.replicate (4 - (lg_sl ([.ref a0, .int x1])).length) Slot.unset).toArray = ls at hl ⊢
  have hl : lv_has ls 4 [(0, .ref a0), (1, .int x1)] := hl
  unfold w_CS_has at hq
  refine lv_iload_n hx hb d_CS_has_0 rfl (lv_at hl 1 rfl) ?_
  refine lv_bipush (v := 64) hx hb d_CS_has_1 (by decide) ?_
  refine lv_icmp_ge (tgt := 15) hx hb d_CS_has_3 (by decide) (fun c_102 => ?_) (fun c_102 => ?_)
  · have hq := fs_wifp c_102 hq
    refine lv_aload_n hx hb d_CS_has_15 rfl (lv_at hl 0 rfl) ?_
    obtain ⟨fs_, x103, he_, hv_, hq⟩ := fs_gl_some hq
    refine fs_get hx hb hts hown hK c_CS hP he_ 1 (by decide) (hts _ (fs_tb_at 171 tw_171 rfl)) (fun _ h9 => h9) hv_ d_CS_has_16 ?_
    refine lv_iload_n hx hb d_CS_has_19 rfl (lv_at hl 1 rfl) ?_
    refine lv_bipush (v := 64) hx hb d_CS_has_20 (by decide) ?_
    refine lv_isub hx hb d_CS_has_22 ?_
    refine lv_lushr hx hb d_CS_has_23 rfl ?_
    exact hJ24 ((Int64.toUInt64 x103 >>> ((Int32.toInt64 (x1 - 64)).toUInt64 &&& Int64.toUInt64 63)).toInt64) _ _ _ _ hq hP hS (show lv_has ls 4 [] from lv_sub hl [] rfl)
  · have hq := fs_wifn c_102 hq
    refine lv_aload_n hx hb d_CS_has_6 rfl (lv_at hl 0 rfl) ?_
    obtain ⟨fs_, x104, he_, hv_, hq⟩ := fs_gl_some hq
    refine fs_get hx hb hts hown hK c_CS hP he_ 0 (by decide) (hts _ (fs_tb_at 170 tw_170 rfl)) (fun _ h9 => h9) hv_ d_CS_has_7 ?_
    refine lv_iload_n hx hb d_CS_has_10 rfl (lv_at hl 1 rfl) ?_
    refine lv_lushr hx hb d_CS_has_11 rfl ?_
    refine lv_goto (tgt := 24) hx hb d_CS_has_12 (by decide) ?_
    exact hJ24 ((Int64.toUInt64 x104 >>> ((Int32.toInt64 x1).toUInt64 &&& Int64.toUInt64 63)).toInt64) _ _ _ _ hq hP hS (show lv_has ls 4 [] from lv_sub hl [] rfl)
def w_CS_size (E : fs_E) (h : fs_Hp) (a0 : Nat) (Post : fs_Ps) : Prop := fs_gl h a0 3 0 (fun x101 => w_LO_bitCount E h x101 (fs_ki (fun x103 h102 => fs_gl h102 a0 3 1 (fun x104 => w_LO_bitCount E h102 x104 (fs_ki (fun x106 h105 => Post (.inl (some (.int (x103 + x106)))) h105) (fun C_ h_ => Post (.inr C_) h_)))) (fun C_ h_ => Post (.inr C_) h_)))
set_option maxHeartbeats 4000000 in
set_option maxRecDepth 100000 in
theorem kw_CS_size {l : Launch} {s00 : State} {E : fs_E} (hE : fs_SE l s00 E) {h : fs_Hp} {a0 : Nat} {Post : fs_Ps} (hq : w_CS_size E h a0 Post) : fs_Ct l s00 E.1 y_CS_size (.code y_CS_size b_CS_size 1 (some .int)) { frames := 1, cells := 0, slots := 0, locals := 14 } [.ref a0] h Post := by
  refine fs_Ct.ofR hE.1 (by decide) ?_
  intro p e R s m below meth c hRf hRl hRc hRs B hout hP
  skip
  obtain ⟨hx, hb, hr, hml, hown, hts, hlocks, hname, hK, hw, htr⟩ := id B
  have hown : s.vm.findClass "FormulaSheet$CellSet" = some m.cls := hown
  have hS := hw.S
  have hl := lv_entry ([.ref a0]) (n := 1) (Nat.le_of_ble_eq_true rfl)
  rw [lg_entry_eq]
  generalize (lg_sl ([.ref a0]) ++ List.replicate (1 - (lg_sl ([.ref a0])).length) Slot.unset).toArray = ls at hl ⊢
  have hl : lv_has ls 1 [(0, .ref a0)] := hl
  unfold w_CS_size at hq
  refine lv_aload_n hx hb d_CS_size_0 rfl (lv_at hl 0 rfl) ?_
  obtain ⟨fs_, x101, he_, hv_, hq⟩ := fs_gl_some hq
  refine fs_get hx hb hts hown hK c_CS hP he_ 0 (by decide) (hts _ (fs_tb_at 170 tw_170 rfl)) (fun _ h9 => h9) hv_ d_CS_size_1 ?_
  refine fs_cS B hl.1 hP hS (kw_LO_bitCount hE hq) (fs_tb_at 370 tw_370 rfl) (fs_tb_at 371 tw_371 rfl) (fs_tb_at 113 tw_113 rfl) (fs_tb_at 372 tw_372 rfl) (by decide) (show (parseMethodDescriptor y_LO_bitCount.desc).map (fun d => d.parameters.length) = some 1 by decide +kernel) rfl d_CS_size_4 (fs_rm (k := 0) (by omega) (by omega) (by omega) (by omega) rfl) (fun v_ h102 H locs hq hP hS => ?_) (fun C_ a_ h_ H locs hq hP hS hX => fs_out (hout _) hlocks hw hP hS hX (Nat.le_of_ble_eq_true rfl) (Nat.le_of_ble_eq_true rfl) hq)
  refine fs_cs (k := 0) (n := 0) rfl rfl ?_
  replace hq := fs_ki_some hq
  obtain ⟨x103, rfl, hq⟩ := hq
  refine W.eq (g2 := F0 m 7 ls (.int x103 :: [])) rfl ?_
  refine lv_aload_n hx hb d_CS_size_7 rfl (lv_at hl 0 rfl) ?_
  obtain ⟨fs_, x104, he_, hv_, hq⟩ := fs_gl_some hq
  refine fs_get hx hb hts hown hK c_CS hP he_ 1 (by decide) (hts _ (fs_tb_at 171 tw_171 rfl)) (fun _ h9 => h9) hv_ d_CS_size_8 ?_
  refine fs_cS B hl.1 hP hS (kw_LO_bitCount hE hq) (fs_tb_at 370 tw_370 rfl) (fs_tb_at 371 tw_371 rfl) (fs_tb_at 113 tw_113 rfl) (fs_tb_at 372 tw_372 rfl) (by decide) (show (parseMethodDescriptor y_LO_bitCount.desc).map (fun d => d.parameters.length) = some 1 by decide +kernel) rfl d_CS_size_11 (fs_rm (k := 1) (by omega) (by omega) (by omega) (by omega) rfl) (fun v_ h105 H locs hq hP hS => ?_) (fun C_ a_ h_ H locs hq hP hS hX => fs_out (hout _) hlocks hw hP hS hX (Nat.le_of_ble_eq_true rfl) (Nat.le_of_ble_eq_true rfl) hq)
  refine fs_cs (k := 0) (n := 0) rfl rfl ?_
  replace hq := fs_ki_some hq
  obtain ⟨x106, rfl, hq⟩ := hq
  refine W.eq (g2 := F0 m 14 ls (.int x106 :: .int x103 :: [])) rfl ?_
  refine lv_iadd hx hb d_CS_size_14 ?_
  exact fs_iret hx hb hr hlocks hw hP hS (vp_nar_int _) (Nat.le_refl _) (Nat.le_refl _) hq d_CS_size_15
