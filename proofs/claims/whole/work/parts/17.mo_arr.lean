/-! The reference: small methods over its arrays. -/
theorem i32_0 : Int32.toInt 0 = 0 := by decide
theorem i32_1 : Int32.toInt 1 = 1 := by decide
theorem i32_2 : Int32.toInt 2 = 2 := by decide
theorem i32_3 : Int32.toInt 3 = 3 := by decide
theorem i32_4 : Int32.toInt 4 = 4 := by decide
theorem i32_5 : Int32.toInt 5 = 5 := by decide
theorem i32_6 : Int32.toInt 6 = 6 := by decide
theorem i32_7 : Int32.toInt 7 = 7 := by decide
theorem i32_8 : Int32.toInt 8 = 8 := by decide
theorem i32_9 : Int32.toInt 9 = 9 := by decide
theorem i32_10 : Int32.toInt 10 = 10 := by decide
theorem i32_11 : Int32.toInt 11 = 11 := by decide
theorem i32_12 : Int32.toInt 12 = 12 := by decide
theorem i32_16 : Int32.toInt 16 = 16 := by decide
theorem i32_24 : Int32.toInt 24 = 24 := by decide
theorem i32_39 : Int32.toInt 39 = 39 := by decide
theorem i32_40 : Int32.toInt 40 = 40 := by decide
theorem i32_41 : Int32.toInt 41 = 41 := by decide
theorem i32_43 : Int32.toInt 43 = 43 := by decide
theorem i32_44 : Int32.toInt 44 = 44 := by decide
theorem i32_48 : Int32.toInt 48 = 48 := by decide
theorem i32_49 : Int32.toInt 49 = 49 := by decide
theorem i32_57 : Int32.toInt 57 = 57 := by decide
theorem i32_64 : Int32.toInt 64 = 64 := by decide
theorem i32_80 : Int32.toInt 80 = 80 := by decide
theorem i32_81 : Int32.toInt 81 = 81 := by decide
theorem i32_100 : Int32.toInt 100 = 100 := by decide
theorem i32_101 : Int32.toInt 101 = 101 := by decide
theorem i32_121 : Int32.toInt 121 = 121 := by decide
theorem i32_127 : Int32.toInt 127 = 127 := by decide
theorem i32_128 : Int32.toInt 128 = 128 := by decide
theorem i32_256 : Int32.toInt 256 = 256 := by decide
theorem i32_384 : Int32.toInt 384 = 384 := by decide
theorem i32_400 : Int32.toInt 400 = 400 := by decide
theorem i32_512 : Int32.toInt 512 = 512 := by decide
theorem i32_3199 : Int32.toInt 3199 = 3199 := by decide
theorem i32_3200 : Int32.toInt 3200 = 3200 := by decide
theorem i32_3239 : Int32.toInt 3239 = 3239 := by decide
theorem i32_3240 : Int32.toInt 3240 = 3240 := by decide
theorem i32_m1 : Int32.toInt (-1) = -1 := by decide
theorem i32_add {x y : Int32} (h : -2147483648 ≤ x.toInt + y.toInt ∧ x.toInt + y.toInt < 2147483648) : (x + y).toInt = x.toInt + y.toInt := by
  rw [Int32.toInt_add]; exact Int.bmod_eq_of_le (by omega) (by omega)
theorem i32_sub {x y : Int32} (h : -2147483648 ≤ x.toInt - y.toInt ∧ x.toInt - y.toInt < 2147483648) : (x - y).toInt = x.toInt - y.toInt := by
  rw [Int32.toInt_sub]; exact Int.bmod_eq_of_le (by omega) (by omega)
theorem i32_mul {x y : Int32} (h : -2147483648 ≤ x.toInt * y.toInt ∧ x.toInt * y.toInt < 2147483648) : (x * y).toInt = x.toInt * y.toInt := by
  rw [Int32.toInt_mul]; exact Int.bmod_eq_of_le (by omega) (by omega)
theorem i32_clamp {x : Int32} (h : 0 ≤ x.toInt) : (x.toNatClampNeg : Int) = x.toInt := by
  unfold Int32.toNatClampNeg; exact Int.toNat_of_nonneg h
abbrev b_MO_type : ByteArray := prog_14_method_5_code
def y_MO_type : MethodName := ⟨"FormulaSheetModel", "type", "(I)I"⟩
theorem d_MO_type_0 : decode b_MO_type 0 = .ok (.aload_n 0, 1) := by decide +kernel
theorem d_MO_type_1 : decode b_MO_type 1 = .ok (.iconst 0, 1) := by decide +kernel
theorem d_MO_type_2 : decode b_MO_type 2 = .ok (.putfield 96, 3) := by decide +kernel
theorem d_MO_type_5 : decode b_MO_type 5 = .ok (.iload_n 1, 1) := by decide +kernel
theorem d_MO_type_6 : decode b_MO_type 6 = .ok (.ifCond .lt 9, 3) := by decide +kernel
theorem d_MO_type_9 : decode b_MO_type 9 = .ok (.iload_n 1, 1) := by decide +kernel
theorem d_MO_type_10 : decode b_MO_type 10 = .ok (.bipush 127, 2) := by decide +kernel
theorem d_MO_type_12 : decode b_MO_type 12 = .ok (.if_icmp .le 9, 3) := by decide +kernel
theorem d_MO_type_15 : decode b_MO_type 15 = .ok (.aload_n 0, 1) := by decide +kernel
theorem d_MO_type_16 : decode b_MO_type 16 = .ok (.iconst 1, 1) := by decide +kernel
theorem d_MO_type_17 : decode b_MO_type 17 = .ok (.invokevirtual 99, 3) := by decide +kernel
theorem d_MO_type_20 : decode b_MO_type 20 = .ok (.ireturn, 1) := by decide +kernel
theorem d_MO_type_21 : decode b_MO_type 21 = .ok (.aload_n 0, 1) := by decide +kernel
theorem d_MO_type_22 : decode b_MO_type 22 = .ok (.getfield 103, 3) := by decide +kernel
theorem d_MO_type_25 : decode b_MO_type 25 = .ok (.bipush 40, 2) := by decide +kernel
theorem d_MO_type_27 : decode b_MO_type 27 = .ok (.if_icmp .ne 9, 3) := by decide +kernel
theorem d_MO_type_30 : decode b_MO_type 30 = .ok (.aload_n 0, 1) := by decide +kernel
theorem d_MO_type_31 : decode b_MO_type 31 = .ok (.iconst 2, 1) := by decide +kernel
theorem d_MO_type_32 : decode b_MO_type 32 = .ok (.invokevirtual 99, 3) := by decide +kernel
theorem d_MO_type_35 : decode b_MO_type 35 = .ok (.ireturn, 1) := by decide +kernel
theorem d_MO_type_36 : decode b_MO_type 36 = .ok (.aload_n 0, 1) := by decide +kernel
theorem d_MO_type_37 : decode b_MO_type 37 = .ok (.getfield 36, 3) := by decide +kernel
theorem d_MO_type_40 : decode b_MO_type 40 = .ok (.aload_n 0, 1) := by decide +kernel
theorem d_MO_type_41 : decode b_MO_type 41 = .ok (.getfield 103, 3) := by decide +kernel
theorem d_MO_type_44 : decode b_MO_type 44 = .ok (.iload_n 1, 1) := by decide +kernel
theorem d_MO_type_45 : decode b_MO_type 45 = .ok (.iastore, 1) := by decide +kernel
theorem d_MO_type_46 : decode b_MO_type 46 = .ok (.aload_n 0, 1) := by decide +kernel
theorem d_MO_type_47 : decode b_MO_type 47 = .ok (.dup, 1) := by decide +kernel
theorem d_MO_type_48 : decode b_MO_type 48 = .ok (.getfield 103, 3) := by decide +kernel
theorem d_MO_type_51 : decode b_MO_type 51 = .ok (.iconst 1, 1) := by decide +kernel
theorem d_MO_type_52 : decode b_MO_type 52 = .ok (.iadd, 1) := by decide +kernel
theorem d_MO_type_53 : decode b_MO_type 53 = .ok (.putfield 103, 3) := by decide +kernel
theorem d_MO_type_56 : decode b_MO_type 56 = .ok (.aload_n 0, 1) := by decide +kernel
theorem d_MO_type_57 : decode b_MO_type 57 = .ok (.getfield 103, 3) := by decide +kernel
theorem d_MO_type_60 : decode b_MO_type 60 = .ok (.ireturn, 1) := by decide +kernel
abbrev b_MO_here : ByteArray := prog_14_method_6_code
def y_MO_here : MethodName := ⟨"FormulaSheetModel", "here", "()I"⟩
theorem d_MO_here_0 : decode b_MO_here 0 = .ok (.aload_n 0, 1) := by decide +kernel
theorem d_MO_here_1 : decode b_MO_here 1 = .ok (.getfield 106, 3) := by decide +kernel
theorem d_MO_here_4 : decode b_MO_here 4 = .ok (.aload_n 0, 1) := by decide +kernel
theorem d_MO_here_5 : decode b_MO_here 5 = .ok (.getfield 103, 3) := by decide +kernel
theorem d_MO_here_8 : decode b_MO_here 8 = .ok (.if_icmp .ge 15, 3) := by decide +kernel
theorem d_MO_here_11 : decode b_MO_here 11 = .ok (.aload_n 0, 1) := by decide +kernel
theorem d_MO_here_12 : decode b_MO_here 12 = .ok (.getfield 36, 3) := by decide +kernel
theorem d_MO_here_15 : decode b_MO_here 15 = .ok (.aload_n 0, 1) := by decide +kernel
theorem d_MO_here_16 : decode b_MO_here 16 = .ok (.getfield 106, 3) := by decide +kernel
theorem d_MO_here_19 : decode b_MO_here 19 = .ok (.iaload, 1) := by decide +kernel
theorem d_MO_here_20 : decode b_MO_here 20 = .ok (.goto 4, 3) := by decide +kernel
theorem d_MO_here_23 : decode b_MO_here 23 = .ok (.iconst (-1), 1) := by decide +kernel
theorem d_MO_here_24 : decode b_MO_here 24 = .ok (.ireturn, 1) := by decide +kernel
abbrev b_MO_add : ByteArray := prog_14_method_8_code
def y_MO_add : MethodName := ⟨"FormulaSheetModel", "add", "(I)V"⟩
theorem d_MO_add_0 : decode b_MO_add 0 = .ok (.aload_n 0, 1) := by decide +kernel
theorem d_MO_add_1 : decode b_MO_add 1 = .ok (.getfield 20, 3) := by decide +kernel
theorem d_MO_add_4 : decode b_MO_add 4 = .ok (.sipush 3200, 3) := by decide +kernel
theorem d_MO_add_7 : decode b_MO_add 7 = .ok (.aload_n 0, 1) := by decide +kernel
theorem d_MO_add_8 : decode b_MO_add 8 = .ok (.getfield 109, 3) := by decide +kernel
theorem d_MO_add_11 : decode b_MO_add 11 = .ok (.iadd, 1) := by decide +kernel
theorem d_MO_add_12 : decode b_MO_add 12 = .ok (.iload_n 1, 1) := by decide +kernel
theorem d_MO_add_13 : decode b_MO_add 13 = .ok (.iastore, 1) := by decide +kernel
theorem d_MO_add_14 : decode b_MO_add 14 = .ok (.aload_n 0, 1) := by decide +kernel
theorem d_MO_add_15 : decode b_MO_add 15 = .ok (.dup, 1) := by decide +kernel
theorem d_MO_add_16 : decode b_MO_add 16 = .ok (.getfield 109, 3) := by decide +kernel
theorem d_MO_add_19 : decode b_MO_add 19 = .ok (.iconst 1, 1) := by decide +kernel
theorem d_MO_add_20 : decode b_MO_add 20 = .ok (.iadd, 1) := by decide +kernel
theorem d_MO_add_21 : decode b_MO_add 21 = .ok (.putfield 109, 3) := by decide +kernel
theorem d_MO_add_24 : decode b_MO_add 24 = .ok (.return_, 1) := by decide +kernel
abbrev b_MO_nameLetter : ByteArray := prog_14_method_11_code
def y_MO_nameLetter : MethodName := ⟨"FormulaSheetModel", "nameLetter", "(II)I"⟩
theorem d_MO_nameLetter_0 : decode b_MO_nameLetter 0 = .ok (.aload_n 0, 1) := by decide +kernel
theorem d_MO_nameLetter_1 : decode b_MO_nameLetter 1 = .ok (.getfield 33, 3) := by decide +kernel
theorem d_MO_nameLetter_4 : decode b_MO_nameLetter 4 = .ok (.iconst 3, 1) := by decide +kernel
theorem d_MO_nameLetter_5 : decode b_MO_nameLetter 5 = .ok (.iload_n 1, 1) := by decide +kernel
theorem d_MO_nameLetter_6 : decode b_MO_nameLetter 6 = .ok (.iconst 2, 1) := by decide +kernel
theorem d_MO_nameLetter_7 : decode b_MO_nameLetter 7 = .ok (.isub, 1) := by decide +kernel
theorem d_MO_nameLetter_8 : decode b_MO_nameLetter 8 = .ok (.imul, 1) := by decide +kernel
theorem d_MO_nameLetter_9 : decode b_MO_nameLetter 9 = .ok (.iload_n 2, 1) := by decide +kernel
theorem d_MO_nameLetter_10 : decode b_MO_nameLetter 10 = .ok (.iadd, 1) := by decide +kernel
theorem d_MO_nameLetter_11 : decode b_MO_nameLetter 11 = .ok (.iaload, 1) := by decide +kernel
theorem d_MO_nameLetter_12 : decode b_MO_nameLetter 12 = .ok (.ireturn, 1) := by decide +kernel
abbrev b_MO_pushSign : ByteArray := prog_14_method_19_code
def y_MO_pushSign : MethodName := ⟨"FormulaSheetModel", "pushSign", "(I)V"⟩
theorem d_MO_pushSign_0 : decode b_MO_pushSign 0 = .ok (.aload_n 0, 1) := by decide +kernel
theorem d_MO_pushSign_1 : decode b_MO_pushSign 1 = .ok (.getfield 84, 3) := by decide +kernel
theorem d_MO_pushSign_4 : decode b_MO_pushSign 4 = .ok (.aload_n 0, 1) := by decide +kernel
theorem d_MO_pushSign_5 : decode b_MO_pushSign 5 = .ok (.getfield 160, 3) := by decide +kernel
theorem d_MO_pushSign_8 : decode b_MO_pushSign 8 = .ok (.iload_n 1, 1) := by decide +kernel
theorem d_MO_pushSign_9 : decode b_MO_pushSign 9 = .ok (.iastore, 1) := by decide +kernel
theorem d_MO_pushSign_10 : decode b_MO_pushSign 10 = .ok (.aload_n 0, 1) := by decide +kernel
theorem d_MO_pushSign_11 : decode b_MO_pushSign 11 = .ok (.dup, 1) := by decide +kernel
theorem d_MO_pushSign_12 : decode b_MO_pushSign 12 = .ok (.getfield 160, 3) := by decide +kernel
theorem d_MO_pushSign_15 : decode b_MO_pushSign 15 = .ok (.iconst 1, 1) := by decide +kernel
theorem d_MO_pushSign_16 : decode b_MO_pushSign 16 = .ok (.iadd, 1) := by decide +kernel
theorem d_MO_pushSign_17 : decode b_MO_pushSign 17 = .ok (.putfield 160, 3) := by decide +kernel
theorem d_MO_pushSign_20 : decode b_MO_pushSign 20 = .ok (.return_, 1) := by decide +kernel
abbrev b_MO_refer : ByteArray := prog_14_method_31_code
def y_MO_refer : MethodName := ⟨"FormulaSheetModel", "refer", "(II)V"⟩
theorem d_MO_refer_0 : decode b_MO_refer 0 = .ok (.iload_n 2, 1) := by decide +kernel
theorem d_MO_refer_1 : decode b_MO_refer 1 = .ok (.bipush 40, 2) := by decide +kernel
theorem d_MO_refer_3 : decode b_MO_refer 3 = .ok (.if_icmp .ge 18, 3) := by decide +kernel
theorem d_MO_refer_6 : decode b_MO_refer 6 = .ok (.aload_n 0, 1) := by decide +kernel
theorem d_MO_refer_7 : decode b_MO_refer 7 = .ok (.getfield 47, 3) := by decide +kernel
theorem d_MO_refer_10 : decode b_MO_refer 10 = .ok (.iload_n 1, 1) := by decide +kernel
theorem d_MO_refer_11 : decode b_MO_refer 11 = .ok (.dup2, 1) := by decide +kernel
theorem d_MO_refer_12 : decode b_MO_refer 12 = .ok (.laload, 1) := by decide +kernel
theorem d_MO_refer_13 : decode b_MO_refer 13 = .ok (.lconst 1, 1) := by decide +kernel
theorem d_MO_refer_14 : decode b_MO_refer 14 = .ok (.iload_n 2, 1) := by decide +kernel
theorem d_MO_refer_15 : decode b_MO_refer 15 = .ok (.lshl, 1) := by decide +kernel
theorem d_MO_refer_16 : decode b_MO_refer 16 = .ok (.lor, 1) := by decide +kernel
theorem d_MO_refer_17 : decode b_MO_refer 17 = .ok (.lastore, 1) := by decide +kernel
theorem d_MO_refer_18 : decode b_MO_refer 18 = .ok (.goto 18, 3) := by decide +kernel
theorem d_MO_refer_21 : decode b_MO_refer 21 = .ok (.aload_n 0, 1) := by decide +kernel
theorem d_MO_refer_22 : decode b_MO_refer 22 = .ok (.getfield 50, 3) := by decide +kernel
theorem d_MO_refer_25 : decode b_MO_refer 25 = .ok (.iload_n 1, 1) := by decide +kernel
theorem d_MO_refer_26 : decode b_MO_refer 26 = .ok (.dup2, 1) := by decide +kernel
theorem d_MO_refer_27 : decode b_MO_refer 27 = .ok (.laload, 1) := by decide +kernel
theorem d_MO_refer_28 : decode b_MO_refer 28 = .ok (.lconst 1, 1) := by decide +kernel
theorem d_MO_refer_29 : decode b_MO_refer 29 = .ok (.iload_n 2, 1) := by decide +kernel
theorem d_MO_refer_30 : decode b_MO_refer 30 = .ok (.bipush 40, 2) := by decide +kernel
theorem d_MO_refer_32 : decode b_MO_refer 32 = .ok (.isub, 1) := by decide +kernel
theorem d_MO_refer_33 : decode b_MO_refer 33 = .ok (.lshl, 1) := by decide +kernel
theorem d_MO_refer_34 : decode b_MO_refer 34 = .ok (.lor, 1) := by decide +kernel
theorem d_MO_refer_35 : decode b_MO_refer 35 = .ok (.lastore, 1) := by decide +kernel
theorem d_MO_refer_36 : decode b_MO_refer 36 = .ok (.return_, 1) := by decide +kernel
abbrev b_MO_circular : ByteArray := prog_14_method_36_code
def y_MO_circular : MethodName := ⟨"FormulaSheetModel", "circular", "(I)Z"⟩
theorem d_MO_circular_0 : decode b_MO_circular 0 = .ok (.aload_n 0, 1) := by decide +kernel
theorem d_MO_circular_1 : decode b_MO_circular 1 = .ok (.getfield 53, 3) := by decide +kernel
theorem d_MO_circular_4 : decode b_MO_circular 4 = .ok (.iload_n 1, 1) := by decide +kernel
theorem d_MO_circular_5 : decode b_MO_circular 5 = .ok (.laload, 1) := by decide +kernel
theorem d_MO_circular_6 : decode b_MO_circular 6 = .ok (.aload_n 0, 1) := by decide +kernel
theorem d_MO_circular_7 : decode b_MO_circular 7 = .ok (.getfield 56, 3) := by decide +kernel
theorem d_MO_circular_10 : decode b_MO_circular 10 = .ok (.iload_n 1, 1) := by decide +kernel
theorem d_MO_circular_11 : decode b_MO_circular 11 = .ok (.laload, 1) := by decide +kernel
theorem d_MO_circular_12 : decode b_MO_circular 12 = .ok (.iload_n 1, 1) := by decide +kernel
theorem d_MO_circular_13 : decode b_MO_circular 13 = .ok (.invokestatic 196, 3) := by decide +kernel
theorem d_MO_circular_16 : decode b_MO_circular 16 = .ok (.ireturn, 1) := by decide +kernel
abbrev b_MO_hold : ByteArray := prog_14_method_39_code
def y_MO_hold : MethodName := ⟨"FormulaSheetModel", "hold", "(IDZ)V"⟩
theorem d_MO_hold_0 : decode b_MO_hold 0 = .ok (.aload_n 0, 1) := by decide +kernel
theorem d_MO_hold_1 : decode b_MO_hold 1 = .ok (.getfield 69, 3) := by decide +kernel
theorem d_MO_hold_4 : decode b_MO_hold 4 = .ok (.iload_n 1, 1) := by decide +kernel
theorem d_MO_hold_5 : decode b_MO_hold 5 = .ok (.iload 4, 2) := by decide +kernel
theorem d_MO_hold_7 : decode b_MO_hold 7 = .ok (.ifCond .eq 7, 3) := by decide +kernel
theorem d_MO_hold_10 : decode b_MO_hold 10 = .ok (.dconst 0, 1) := by decide +kernel
theorem d_MO_hold_11 : decode b_MO_hold 11 = .ok (.goto 4, 3) := by decide +kernel
theorem d_MO_hold_14 : decode b_MO_hold 14 = .ok (.dload_n 2, 1) := by decide +kernel
theorem d_MO_hold_15 : decode b_MO_hold 15 = .ok (.dastore, 1) := by decide +kernel
theorem d_MO_hold_16 : decode b_MO_hold 16 = .ok (.aload_n 0, 1) := by decide +kernel
theorem d_MO_hold_17 : decode b_MO_hold 17 = .ok (.getfield 72, 3) := by decide +kernel
theorem d_MO_hold_20 : decode b_MO_hold 20 = .ok (.iload_n 1, 1) := by decide +kernel
theorem d_MO_hold_21 : decode b_MO_hold 21 = .ok (.iload 4, 2) := by decide +kernel
theorem d_MO_hold_23 : decode b_MO_hold 23 = .ok (.bastore, 1) := by decide +kernel
theorem d_MO_hold_24 : decode b_MO_hold 24 = .ok (.return_, 1) := by decide +kernel
abbrev b_MO_errorAt : ByteArray := prog_14_method_25_code
def y_MO_errorAt : MethodName := ⟨"FormulaSheetModel", "errorAt", "()I"⟩
theorem d_MO_errorAt_0 : decode b_MO_errorAt 0 = .ok (.aload_n 0, 1) := by decide +kernel
theorem d_MO_errorAt_1 : decode b_MO_errorAt 1 = .ok (.iconst 0, 1) := by decide +kernel
theorem d_MO_errorAt_2 : decode b_MO_errorAt 2 = .ok (.putfield 96, 3) := by decide +kernel
theorem d_MO_errorAt_5 : decode b_MO_errorAt 5 = .ok (.aload_n 0, 1) := by decide +kernel
theorem d_MO_errorAt_6 : decode b_MO_errorAt 6 = .ok (.getfield 39, 3) := by decide +kernel
theorem d_MO_errorAt_9 : decode b_MO_errorAt 9 = .ok (.ireturn, 1) := by decide +kernel
theorem tw_40 : lw_tbl[40]? = some (Cond.selects "FormulaSheetModel" ⟨"FormulaSheetModel", "fail", "(I)I"⟩ ⟨"FormulaSheetModel", "fail", "(I)I"⟩) := by decide +kernel
theorem tw_96 : lw_tbl[96]? = some (Jvm.Cond.initialized "FormulaSheetModel") := by decide +kernel
theorem tw_1459 : lw_tbl[1459]? = some (Jvm.Cond.fieldLink "FormulaSheetModel" (20 : Nat) "FormulaSheetModel" "item" "[I") := by decide +kernel
theorem tw_1463 : lw_tbl[1463]? = some (Jvm.Cond.fieldLink "FormulaSheetModel" (33 : Nat) "FormulaSheetModel" "names" "[I") := by decide +kernel
theorem tw_1464 : lw_tbl[1464]? = some (Jvm.Cond.fieldLink "FormulaSheetModel" (36 : Nat) "FormulaSheetModel" "line" "[I") := by decide +kernel
theorem tw_1465 : lw_tbl[1465]? = some (Jvm.Cond.fieldLink "FormulaSheetModel" (103 : Nat) "FormulaSheetModel" "length" "I") := by decide +kernel
theorem tw_1466 : lw_tbl[1466]? = some (Jvm.Cond.fieldLink "FormulaSheetModel" (39 : Nat) "FormulaSheetModel" "errorAt" "I") := by decide +kernel
theorem tw_1469 : lw_tbl[1469]? = some (Jvm.Cond.fieldLink "FormulaSheetModel" (47 : Nat) "FormulaSheetModel" "low" "[J") := by decide +kernel
theorem tw_1470 : lw_tbl[1470]? = some (Jvm.Cond.fieldLink "FormulaSheetModel" (50 : Nat) "FormulaSheetModel" "high" "[J") := by decide +kernel
theorem tw_1471 : lw_tbl[1471]? = some (Jvm.Cond.fieldLink "FormulaSheetModel" (53 : Nat) "FormulaSheetModel" "farLow" "[J") := by decide +kernel
theorem tw_1472 : lw_tbl[1472]? = some (Jvm.Cond.fieldLink "FormulaSheetModel" (56 : Nat) "FormulaSheetModel" "farHigh" "[J") := by decide +kernel
theorem tw_1476 : lw_tbl[1476]? = some (Jvm.Cond.fieldLink "FormulaSheetModel" (69 : Nat) "FormulaSheetModel" "stack" "[D") := by decide +kernel
theorem tw_1477 : lw_tbl[1477]? = some (Jvm.Cond.fieldLink "FormulaSheetModel" (72 : Nat) "FormulaSheetModel" "broken" "[Z") := by decide +kernel
theorem tw_1478 : lw_tbl[1478]? = some (Jvm.Cond.fieldLink "FormulaSheetModel" (106 : Nat) "FormulaSheetModel" "at" "I") := by decide +kernel
theorem tw_1484 : lw_tbl[1484]? = some (Jvm.Cond.fieldLink "FormulaSheetModel" (84 : Nat) "FormulaSheetModel" "signs" "[I") := by decide +kernel
theorem tw_1485 : lw_tbl[1485]? = some (Jvm.Cond.fieldLink "FormulaSheetModel" (160 : Nat) "FormulaSheetModel" "signCount" "I") := by decide +kernel
theorem tw_1486 : lw_tbl[1486]? = some (Jvm.Cond.fieldLink "FormulaSheetModel" (109 : Nat) "FormulaSheetModel" "made" "I") := by decide +kernel
theorem tw_1574 : lw_tbl[1574]? = some (Jvm.Cond.methodLink "FormulaSheetModel" (99 : Nat) ({ cls := "FormulaSheetModel", name := "fail", desc := "(I)I" } : Jvm.MethodName)) := by decide +kernel
theorem tw_1576 : lw_tbl[1576]? = some (Jvm.Cond.instanceMethod ({ cls := "FormulaSheetModel", name := "fail", desc := "(I)I" } : Jvm.MethodName)) := by decide +kernel
theorem tw_1577 : lw_tbl[1577]? = some (Jvm.Cond.code ({ cls := "FormulaSheetModel", name := "fail", desc := "(I)I" } : Jvm.MethodName) prog_14_method_3_code (2 : Nat) (Option.some Jvm.ClassFile.FieldType.int)) := by decide +kernel
theorem tw_1695 : lw_tbl[1695]? = some (Jvm.Cond.methodLink "FormulaSheetModel" (196 : Nat) ({ cls := "FormulaSheetModel", name := "in", desc := "(JJI)Z" } : Jvm.MethodName)) := by decide +kernel
theorem tw_1696 : lw_tbl[1696]? = some (Jvm.Cond.static ({ cls := "FormulaSheetModel", name := "in", desc := "(JJI)Z" } : Jvm.MethodName)) := by decide +kernel
theorem tw_1697 : lw_tbl[1697]? = some (Jvm.Cond.code ({ cls := "FormulaSheetModel", name := "in", desc := "(JJI)Z" } : Jvm.MethodName) prog_14_method_30_code (5 : Nat) (Option.some Jvm.ClassFile.FieldType.boolean)) := by decide +kernel
def p_MO_type (M : mo_S) (x1 : Int32) : Int32 × mo_S := (if x1 < 0 then ((p_MO_fail (mo_f M 11 0) 1).1, (p_MO_fail (mo_f M 11 0) 1).2) else (if x1 ≤ 127 then (if ((mo_f M 11 0).1 9) = 40 then ((p_MO_fail (mo_f M 11 0) 2).1, (p_MO_fail (mo_f M 11 0) 2).2) else ((mo_f (mo_i (mo_f M 11 0) 8 (Int32.toNatClampNeg ((mo_f M 11 0).1 9)) x1) 9 (((mo_i (mo_f M 11 0) 8 (Int32.toNatClampNeg ((mo_f M 11 0).1 9)) x1).1 9) + 1)).1 9, (mo_f (mo_i (mo_f M 11 0) 8 (Int32.toNatClampNeg ((mo_f M 11 0).1 9)) x1) 9 (((mo_i (mo_f M 11 0) 8 (Int32.toNatClampNeg ((mo_f M 11 0).1 9)) x1).1 9) + 1)))) else ((p_MO_fail (mo_f M 11 0) 1).1, (p_MO_fail (mo_f M 11 0) 1).2)))
set_option maxHeartbeats 4000000 in
set_option maxRecDepth 100000 in
theorem k_MO_type {l : Launch} {s00 : State} {G : fs_G} (hSt : fs_St l s00 G) {h : fs_Hp} {a : Nat} {ad : Nat → Nat} {M : mo_S} (hM : mo_at G h a ad M) (x1 : Int32) (b1 : 0 ≤ (M.1 9).toInt) (b2 : (M.1 9).toInt ≤ 40) : fs_Ct l s00 G y_MO_type (.code y_MO_type b_MO_type 2 (some .int)) { frames := 1, cells := 0, slots := 0, locals := 13 } [.ref a, .int x1] h (fun o h' => o = .inl (some (.int (p_MO_type M x1).1)) ∧ mo_at G h' a ad (p_MO_type M x1).2 ∧ mo_fr a ad h h') := by
  refine fs_Ct.ofW hSt (by decide) ?_
  intro p e s m below meth c B hout hP
  obtain ⟨hx, hb, hr, hml, hown, hts, hlocks, hname, hK, hw, htr⟩ := id B
  have hown : s.vm.findClass "FormulaSheetModel" = some m.cls := hown
  have hS := hw.S
  have hA : ∀ q : Nat, s00.heap.size ≤ q → fs_A s00 q := fun _ h9 => h9
  generalize hH : s.heap = H at hP hS ⊢
  have hH0 : s.heap.size ≤ H.size := by rw [hH]; exact Nat.le_refl _
  have hl := lv_entry ([.ref a, .int x1]) (n := 2) (Nat.le_of_ble_eq_true rfl)
  rw [lg_entry_eq]
  generalize (lg_sl ([.ref a, .int x1]) ++ List.replicate (2 - (lg_sl ([.ref a, .int x1])).length) Slot.unset).toArray = ls at hl ⊢
  have hl : lv_has ls 2 [(0, .ref a), (1, .int x1)] := hl
  have hf : mo_fr a ad h h := mo_fr.rf
  refine lv_aload_n hx hb d_MO_type_0 rfl (lv_at hl 0 rfl) ?_
  refine lv_iconst (v := 0) hx hb d_MO_type_1 (by decide) ?_
  refine fs_put hx hb hts hown hK c_MO hP hS hM.1 11 (by decide) (hts _ (fs_tb_at 1467 tw_1467 rfl)) (fun _ h9 => h9) rfl rfl rfl (Nat.le_of_ble_eq_true rfl) d_MO_type_2 (fun H locs hP hS => ?_)
  obtain ⟨h19, hP, hM, hf⟩ : ∃ x, fs_P G.1 fs_cl (fs_A s00) x H ∧ mo_at G x a ad (mo_f M 11 0) ∧ mo_fr a ad h x := ⟨_, hP, hM.F (mo_F11 ad M 0), hf.self⟩
  refine lv_iload_n hx hb d_MO_type_5 rfl (lv_at hl 1 rfl) ?_
  refine lv_if_lt (tgt := 15) hx hb d_MO_type_6 (by decide) (fun c_20 => ?_) (fun c_20 => ?_)
  · refine lv_aload_n hx hb d_MO_type_15 rfl (lv_at hl 0 rfl) ?_
    refine lv_iconst (v := 1) hx hb d_MO_type_16 (by decide) ?_
    refine fs_cV B hl.1 hP hS (k_MO_fail hSt hM 1 ) (fs_tb_at 1574 tw_1574 rfl) hM.1 rfl (fs_tb_at 1576 tw_1576 rfl) (fs_tb_at 40 tw_40 rfl) (fs_tb_at 96 tw_96 rfl) (fs_tb_at 1577 tw_1577 rfl) (by decide) (show (parseMethodDescriptor y_MO_fail.desc).map (fun d => d.parameters.length) = some 1 by decide +kernel) rfl d_MO_type_17 ⟨Nat.le_of_ble_eq_true rfl, Nat.le_of_ble_eq_true rfl, Nat.le_of_ble_eq_true rfl, Nat.le_of_ble_eq_true rfl⟩ (fun v_ h_ H locs hq hP hS => ?_) (fun C_ a_ h_ H locs hq => absurd hq.1 (fun h9 => by cases h9))
    obtain ⟨ev, hM, hf2⟩ := hq
    cases ev
    have hf := hf.trans hf2
    refine W.widen (k := 0) (n := 0) (Nat.le_of_ble_eq_true rfl) (Nat.le_of_ble_eq_true rfl) ?_
    refine W.eq (g2 := F0 m 20 ls (.int ((p_MO_fail (mo_f M 11 0) 1).1) :: [])) rfl ?_
    have e_ : p_MO_type M x1 = ((p_MO_fail (mo_f M 11 0) 1).1, (p_MO_fail (mo_f M 11 0) 1).2) := by rw [p_MO_type, if_pos c_20]
    exact fs_iret hx hb hr hlocks hw hP hS (by first | rfl | exact vp_nar_int _) (by omega) (by omega) (⟨by rw [e_], by rw [e_]; exact hM, hf⟩) d_MO_type_20
  · refine lv_iload_n hx hb d_MO_type_9 rfl (lv_at hl 1 rfl) ?_
    refine lv_bipush (v := 127) hx hb d_MO_type_10 (by decide) ?_
    refine lv_icmp_le (tgt := 21) hx hb d_MO_type_12 (by decide) (fun c_21 => ?_) (fun c_21 => ?_)
    · refine lv_aload_n hx hb d_MO_type_21 rfl (lv_at hl 0 rfl) ?_
      refine fs_get hx hb hts hown hK c_MO hP hM.1 9 (by decide) (hts _ (fs_tb_at 1465 tw_1465 rfl)) (fun _ h9 => h9) rfl d_MO_type_22 ?_
      refine lv_bipush (v := 40) hx hb d_MO_type_25 (by decide) ?_
      refine lv_icmp_ne (tgt := 36) hx hb d_MO_type_27 (by decide) (fun c_22 => ?_) (fun c_22 => ?_)
      · refine lv_aload_n hx hb d_MO_type_36 rfl (lv_at hl 0 rfl) ?_
        refine fs_get hx hb hts hown hK c_MO hP hM.1 8 (by decide) (hts _ (fs_tb_at 1464 tw_1464 rfl)) (fun _ h9 => h9) rfl d_MO_type_37 ?_
        refine lv_aload_n hx hb d_MO_type_40 rfl (lv_at hl 0 rfl) ?_
        refine fs_get hx hb hts hown hK c_MO hP hM.1 9 (by decide) (hts _ (fs_tb_at 1465 tw_1465 rfl)) (fun _ h9 => h9) rfl d_MO_type_41 ?_
        refine lv_iload_n hx hb d_MO_type_44 rfl (lv_at hl 1 rfl) ?_
        have hi_ : vp_in ((mo_f M 11 0).1 9) 40 := (by show vp_in (M.1 9) 40; rw [vp_in_iff]; have c9 : ¬ M.1 9 = 40 := c_22; simp only [Int32.lt_iff_toInt_lt, Int32.le_iff_toInt_le, ← Int32.toInt_inj, i32_0, i32_1, i32_2, i32_3, i32_4, i32_5, i32_6, i32_7, i32_8, i32_9, i32_10, i32_11, i32_12, i32_16, i32_24, i32_39, i32_40, i32_41, i32_43, i32_44, i32_48, i32_49, i32_57, i32_64, i32_80, i32_81, i32_100, i32_101, i32_121, i32_127, i32_128, i32_256, i32_384, i32_400, i32_512, i32_3199, i32_3200, i32_3239, i32_3240, i32_m1] at c9; omega)
        refine fs_iast hx hb hK hP hS 0 (hM.2.1 8 0 40 rfl) rfl hi_ d_MO_type_45 (fun H locs hP hS => ?_)
        obtain ⟨h23, hP, hM, hf⟩ : ∃ x, fs_P G.1 fs_cl (fs_A s00) x H ∧ mo_at G x a ad (mo_i (mo_f M 11 0) 8 (Int32.toNatClampNeg ((mo_f M 11 0).1 9)) x1) ∧ mo_fr a ad h x := ⟨_, hP, hM.I (j := 8) (k := (Int32.toNatClampNeg ((mo_f M 11 0).1 9))) (x := x1) rfl (fun _ => rfl), hf.arr (j := 8) (by decide)⟩
        refine lv_aload_n hx hb d_MO_type_46 rfl (lv_at hl 0 rfl) ?_
        refine lv_dup hx hb d_MO_type_47 rfl ?_
        refine fs_get hx hb hts hown hK c_MO hP hM.1 9 (by decide) (hts _ (fs_tb_at 1465 tw_1465 rfl)) (fun _ h9 => h9) rfl d_MO_type_48 ?_
        refine lv_iconst (v := 1) hx hb d_MO_type_51 (by decide) ?_
        refine lv_iadd hx hb d_MO_type_52 ?_
        refine fs_put hx hb hts hown hK c_MO hP hS hM.1 9 (by decide) (hts _ (fs_tb_at 1465 tw_1465 rfl)) (fun _ h9 => h9) rfl rfl rfl (Nat.le_of_ble_eq_true rfl) d_MO_type_53 (fun H locs hP hS => ?_)
        obtain ⟨h24, hP, hM, hf⟩ : ∃ x, fs_P G.1 fs_cl (fs_A s00) x H ∧ mo_at G x a ad (mo_f (mo_i (mo_f M 11 0) 8 (Int32.toNatClampNeg ((mo_f M 11 0).1 9)) x1) 9 (((mo_i (mo_f M 11 0) 8 (Int32.toNatClampNeg ((mo_f M 11 0).1 9)) x1).1 9) + 1)) ∧ mo_fr a ad h x := ⟨_, hP, hM.F (mo_F9 ad (mo_i (mo_f M 11 0) 8 (Int32.toNatClampNeg ((mo_f M 11 0).1 9)) x1) (((mo_i (mo_f M 11 0) 8 (Int32.toNatClampNeg ((mo_f M 11 0).1 9)) x1).1 9) + 1)), hf.self⟩
        refine lv_aload_n hx hb d_MO_type_56 rfl (lv_at hl 0 rfl) ?_
        refine fs_get hx hb hts hown hK c_MO hP hM.1 9 (by decide) (hts _ (fs_tb_at 1465 tw_1465 rfl)) (fun _ h9 => h9) rfl d_MO_type_57 ?_
        have e_ : p_MO_type M x1 = ((mo_f (mo_i (mo_f M 11 0) 8 (Int32.toNatClampNeg ((mo_f M 11 0).1 9)) x1) 9 (((mo_i (mo_f M 11 0) 8 (Int32.toNatClampNeg ((mo_f M 11 0).1 9)) x1).1 9) + 1)).1 9, (mo_f (mo_i (mo_f M 11 0) 8 (Int32.toNatClampNeg ((mo_f M 11 0).1 9)) x1) 9 (((mo_i (mo_f M 11 0) 8 (Int32.toNatClampNeg ((mo_f M 11 0).1 9)) x1).1 9) + 1))) := by rw [p_MO_type, if_neg c_20, if_pos c_21, if_neg c_22]
        exact fs_iret hx hb hr hlocks hw hP hS (by first | rfl | exact vp_nar_int _) (by omega) (by omega) (⟨by rw [e_], by rw [e_]; exact hM, hf⟩) d_MO_type_60
      · refine lv_aload_n hx hb d_MO_type_30 rfl (lv_at hl 0 rfl) ?_
        refine lv_iconst (v := 2) hx hb d_MO_type_31 (by decide) ?_
        refine fs_cV B hl.1 hP hS (k_MO_fail hSt hM 2 ) (fs_tb_at 1574 tw_1574 rfl) hM.1 rfl (fs_tb_at 1576 tw_1576 rfl) (fs_tb_at 40 tw_40 rfl) (fs_tb_at 96 tw_96 rfl) (fs_tb_at 1577 tw_1577 rfl) (by decide) (show (parseMethodDescriptor y_MO_fail.desc).map (fun d => d.parameters.length) = some 1 by decide +kernel) rfl d_MO_type_32 ⟨Nat.le_of_ble_eq_true rfl, Nat.le_of_ble_eq_true rfl, Nat.le_of_ble_eq_true rfl, Nat.le_of_ble_eq_true rfl⟩ (fun v_ h_ H locs hq hP hS => ?_) (fun C_ a_ h_ H locs hq => absurd hq.1 (fun h9 => by cases h9))
        obtain ⟨ev, hM, hf2⟩ := hq
        cases ev
        have hf := hf.trans hf2
        refine W.widen (k := 0) (n := 0) (Nat.le_of_ble_eq_true rfl) (Nat.le_of_ble_eq_true rfl) ?_
        refine W.eq (g2 := F0 m 35 ls (.int ((p_MO_fail (mo_f M 11 0) 2).1) :: [])) rfl ?_
        have e_ : p_MO_type M x1 = ((p_MO_fail (mo_f M 11 0) 2).1, (p_MO_fail (mo_f M 11 0) 2).2) := by rw [p_MO_type, if_neg c_20, if_pos c_21, if_pos c_22]
        exact fs_iret hx hb hr hlocks hw hP hS (by first | rfl | exact vp_nar_int _) (by omega) (by omega) (⟨by rw [e_], by rw [e_]; exact hM, hf⟩) d_MO_type_35
    · refine lv_aload_n hx hb d_MO_type_15 rfl (lv_at hl 0 rfl) ?_
      refine lv_iconst (v := 1) hx hb d_MO_type_16 (by decide) ?_
      refine fs_cV B hl.1 hP hS (k_MO_fail hSt hM 1 ) (fs_tb_at 1574 tw_1574 rfl) hM.1 rfl (fs_tb_at 1576 tw_1576 rfl) (fs_tb_at 40 tw_40 rfl) (fs_tb_at 96 tw_96 rfl) (fs_tb_at 1577 tw_1577 rfl) (by decide) (show (parseMethodDescriptor y_MO_fail.desc).map (fun d => d.parameters.length) = some 1 by decide +kernel) rfl d_MO_type_17 ⟨Nat.le_of_ble_eq_true rfl, Nat.le_of_ble_eq_true rfl, Nat.le_of_ble_eq_true rfl, Nat.le_of_ble_eq_true rfl⟩ (fun v_ h_ H locs hq hP hS => ?_) (fun C_ a_ h_ H locs hq => absurd hq.1 (fun h9 => by cases h9))
      obtain ⟨ev, hM, hf2⟩ := hq
      cases ev
      have hf := hf.trans hf2
      refine W.widen (k := 0) (n := 0) (Nat.le_of_ble_eq_true rfl) (Nat.le_of_ble_eq_true rfl) ?_
      refine W.eq (g2 := F0 m 20 ls (.int ((p_MO_fail (mo_f M 11 0) 1).1) :: [])) rfl ?_
      have e_ : p_MO_type M x1 = ((p_MO_fail (mo_f M 11 0) 1).1, (p_MO_fail (mo_f M 11 0) 1).2) := by rw [p_MO_type, if_neg c_20, if_neg c_21]
      exact fs_iret hx hb hr hlocks hw hP hS (by first | rfl | exact vp_nar_int _) (by omega) (by omega) (⟨by rw [e_], by rw [e_]; exact hM, hf⟩) d_MO_type_20
def p_MO_here (M : mo_S)  : Int32 × mo_S := (if (M.1 9) ≤ (M.1 22) then ((-1), M) else (M.2.1 8 (Int32.toNatClampNeg (M.1 22)), M))
theorem ke_MO_here (M : mo_S)  : (p_MO_here M).2 = M := by unfold p_MO_here; (repeat' split) <;> rfl
set_option maxHeartbeats 4000000 in
set_option maxRecDepth 100000 in
theorem k_MO_here {l : Launch} {s00 : State} {G : fs_G} (hSt : fs_St l s00 G) {h : fs_Hp} {a : Nat} {ad : Nat → Nat} {M : mo_S} (hM : mo_at G h a ad M)  (b1 : 0 ≤ (M.1 22).toInt) (b2 : (M.1 9).toInt ≤ 40) : fs_Ct l s00 G y_MO_here (.code y_MO_here b_MO_here 1 (some .int)) { frames := 0, cells := 0, slots := 0, locals := 0 } [.ref a] h (fun o h' => o = .inl (some (.int (p_MO_here M).1)) ∧ mo_at G h' a ad (p_MO_here M).2 ∧ mo_fr a ad h h') := by
  refine fs_Ct.ofW hSt (by decide) ?_
  intro p e s m below meth c B hout hP
  obtain ⟨hx, hb, hr, hml, hown, hts, hlocks, hname, hK, hw, htr⟩ := id B
  have hown : s.vm.findClass "FormulaSheetModel" = some m.cls := hown
  have hS := hw.S
  have hA : ∀ q : Nat, s00.heap.size ≤ q → fs_A s00 q := fun _ h9 => h9
  generalize hH : s.heap = H at hP hS ⊢
  have hH0 : s.heap.size ≤ H.size := by rw [hH]; exact Nat.le_refl _
  have hl := lv_entry ([.ref a]) (n := 1) (Nat.le_of_ble_eq_true rfl)
  rw [lg_entry_eq]
  generalize (lg_sl ([.ref a]) ++ List.replicate (1 - (lg_sl ([.ref a])).length) Slot.unset).toArray = ls at hl ⊢
  have hl : lv_has ls 1 [(0, .ref a)] := hl
  have hf : mo_fr a ad h h := mo_fr.rf
  refine lv_aload_n hx hb d_MO_here_0 rfl (lv_at hl 0 rfl) ?_
  refine fs_get hx hb hts hown hK c_MO hP hM.1 22 (by decide) (hts _ (fs_tb_at 1478 tw_1478 rfl)) (fun _ h9 => h9) rfl d_MO_here_1 ?_
  refine lv_aload_n hx hb d_MO_here_4 rfl (lv_at hl 0 rfl) ?_
  refine fs_get hx hb hts hown hK c_MO hP hM.1 9 (by decide) (hts _ (fs_tb_at 1465 tw_1465 rfl)) (fun _ h9 => h9) rfl d_MO_here_5 ?_
  refine lv_icmp_ge (tgt := 23) hx hb d_MO_here_8 (by decide) (fun c_25 => ?_) (fun c_25 => ?_)
  · refine lv_iconst (v := (-1)) hx hb d_MO_here_23 (by decide) ?_
    have e_ : p_MO_here M = ((-1), M) := by rw [p_MO_here, if_pos c_25]
    exact fs_iret hx hb hr hlocks hw hP hS (by first | rfl | exact vp_nar_int _) (by omega) (by omega) (⟨by rw [e_], by rw [e_]; exact hM, hf⟩) d_MO_here_24
  · refine lv_aload_n hx hb d_MO_here_11 rfl (lv_at hl 0 rfl) ?_
    refine fs_get hx hb hts hown hK c_MO hP hM.1 8 (by decide) (hts _ (fs_tb_at 1464 tw_1464 rfl)) (fun _ h9 => h9) rfl d_MO_here_12 ?_
    refine lv_aload_n hx hb d_MO_here_15 rfl (lv_at hl 0 rfl) ?_
    refine fs_get hx hb hts hown hK c_MO hP hM.1 22 (by decide) (hts _ (fs_tb_at 1478 tw_1478 rfl)) (fun _ h9 => h9) rfl d_MO_here_16 ?_
    have hi_ : vp_in (M.1 22) 40 := (by rw [vp_in_iff];  (try simp only [Int32.lt_iff_toInt_lt, Int32.le_iff_toInt_le, ← Int32.toInt_inj, i32_0, i32_1, i32_2, i32_3, i32_4, i32_5, i32_6, i32_7, i32_8, i32_9, i32_10, i32_11, i32_12, i32_16, i32_24, i32_39, i32_40, i32_41, i32_43, i32_44, i32_48, i32_49, i32_57, i32_64, i32_80, i32_81, i32_100, i32_101, i32_121, i32_127, i32_128, i32_256, i32_384, i32_400, i32_512, i32_3199, i32_3200, i32_3239, i32_3240, i32_m1] at c_25); omega)
    refine fs_iald hx hb hK hP 0 (hM.2.1 8 0 40 rfl) rfl hi_ d_MO_here_19 ?_
    refine lv_goto (tgt := 24) hx hb d_MO_here_20 (by decide) ?_
    have e_ : p_MO_here M = (M.2.1 8 (Int32.toNatClampNeg (M.1 22)), M) := by rw [p_MO_here, if_neg c_25]
    exact fs_iret hx hb hr hlocks hw hP hS (by first | rfl | exact vp_nar_int _) (by omega) (by omega) (⟨by rw [e_], by rw [e_]; exact hM, hf⟩) d_MO_here_24
def p_MO_add (M : mo_S) (x1 : Int32) : mo_S := (mo_f (mo_i M 3 (Int32.toNatClampNeg (3200 + (M.1 30))) x1) 30 (((mo_i M 3 (Int32.toNatClampNeg (3200 + (M.1 30))) x1).1 30) + 1))
set_option maxHeartbeats 4000000 in
set_option maxRecDepth 100000 in
theorem k_MO_add {l : Launch} {s00 : State} {G : fs_G} (hSt : fs_St l s00 G) {h : fs_Hp} {a : Nat} {ad : Nat → Nat} {M : mo_S} (hM : mo_at G h a ad M) (x1 : Int32) (b1 : 0 ≤ (M.1 30).toInt) (b2 : (M.1 30).toInt < 40) : fs_Ct l s00 G y_MO_add (.code y_MO_add b_MO_add 2 none) { frames := 0, cells := 0, slots := 0, locals := 0 } [.ref a, .int x1] h (fun o h' => o = .inl none ∧ mo_at G h' a ad (p_MO_add M x1) ∧ mo_fr a ad h h') := by
  refine fs_Ct.ofW hSt (by decide) ?_
  intro p e s m below meth c B hout hP
  obtain ⟨hx, hb, hr, hml, hown, hts, hlocks, hname, hK, hw, htr⟩ := id B
  have hown : s.vm.findClass "FormulaSheetModel" = some m.cls := hown
  have hS := hw.S
  have hA : ∀ q : Nat, s00.heap.size ≤ q → fs_A s00 q := fun _ h9 => h9
  generalize hH : s.heap = H at hP hS ⊢
  have hH0 : s.heap.size ≤ H.size := by rw [hH]; exact Nat.le_refl _
  have hl := lv_entry ([.ref a, .int x1]) (n := 2) (Nat.le_of_ble_eq_true rfl)
  rw [lg_entry_eq]
  generalize (lg_sl ([.ref a, .int x1]) ++ List.replicate (2 - (lg_sl ([.ref a, .int x1])).length) Slot.unset).toArray = ls at hl ⊢
  have hl : lv_has ls 2 [(0, .ref a), (1, .int x1)] := hl
  have hf : mo_fr a ad h h := mo_fr.rf
  refine lv_aload_n hx hb d_MO_add_0 rfl (lv_at hl 0 rfl) ?_
  refine fs_get hx hb hts hown hK c_MO hP hM.1 3 (by decide) (hts _ (fs_tb_at 1459 tw_1459 rfl)) (fun _ h9 => h9) rfl d_MO_add_1 ?_
  refine lv_sipush (v := 3200) hx hb d_MO_add_4 (by decide) ?_
  refine lv_aload_n hx hb d_MO_add_7 rfl (lv_at hl 0 rfl) ?_
  refine fs_get hx hb hts hown hK c_MO hP hM.1 30 (by decide) (hts _ (fs_tb_at 1486 tw_1486 rfl)) (fun _ h9 => h9) rfl d_MO_add_8 ?_
  refine lv_iadd hx hb d_MO_add_11 ?_
  refine lv_iload_n hx hb d_MO_add_12 rfl (lv_at hl 1 rfl) ?_
  have hi_ : vp_in (3200 + (M.1 30)) 3240 := (by rw [vp_in_iff]; rw [i32_add (by rw [i32_3200]; omega), i32_3200];  omega)
  refine fs_iast hx hb hK hP hS 0 (hM.2.1 3 0 3240 rfl) rfl hi_ d_MO_add_13 (fun H locs hP hS => ?_)
  obtain ⟨h26, hP, hM, hf⟩ : ∃ x, fs_P G.1 fs_cl (fs_A s00) x H ∧ mo_at G x a ad (mo_i M 3 (Int32.toNatClampNeg (3200 + (M.1 30))) x1) ∧ mo_fr a ad h x := ⟨_, hP, hM.I (j := 3) (k := (Int32.toNatClampNeg (3200 + (M.1 30)))) (x := x1) rfl (fun _ => rfl), hf.arr (j := 3) (by decide)⟩
  refine lv_aload_n hx hb d_MO_add_14 rfl (lv_at hl 0 rfl) ?_
  refine lv_dup hx hb d_MO_add_15 rfl ?_
  refine fs_get hx hb hts hown hK c_MO hP hM.1 30 (by decide) (hts _ (fs_tb_at 1486 tw_1486 rfl)) (fun _ h9 => h9) rfl d_MO_add_16 ?_
  refine lv_iconst (v := 1) hx hb d_MO_add_19 (by decide) ?_
  refine lv_iadd hx hb d_MO_add_20 ?_
  refine fs_put hx hb hts hown hK c_MO hP hS hM.1 30 (by decide) (hts _ (fs_tb_at 1486 tw_1486 rfl)) (fun _ h9 => h9) rfl rfl rfl (Nat.le_of_ble_eq_true rfl) d_MO_add_21 (fun H locs hP hS => ?_)
  obtain ⟨h27, hP, hM, hf⟩ : ∃ x, fs_P G.1 fs_cl (fs_A s00) x H ∧ mo_at G x a ad (mo_f (mo_i M 3 (Int32.toNatClampNeg (3200 + (M.1 30))) x1) 30 (((mo_i M 3 (Int32.toNatClampNeg (3200 + (M.1 30))) x1).1 30) + 1)) ∧ mo_fr a ad h x := ⟨_, hP, hM.F (mo_F30 ad (mo_i M 3 (Int32.toNatClampNeg (3200 + (M.1 30))) x1) (((mo_i M 3 (Int32.toNatClampNeg (3200 + (M.1 30))) x1).1 30) + 1)), hf.self⟩
  have e_ : p_MO_add M x1 = (mo_f (mo_i M 3 (Int32.toNatClampNeg (3200 + (M.1 30))) x1) 30 (((mo_i M 3 (Int32.toNatClampNeg (3200 + (M.1 30))) x1).1 30) + 1)) := by rw [p_MO_add]
  exact fs_vret hx hb hr hlocks hw hP hS  (by omega) (by omega) (⟨rfl, by rw [e_]; exact hM, hf⟩) d_MO_add_24
def p_MO_nameLetter (M : mo_S) (x1 : Int32) (x2 : Int32) : Int32 × mo_S := (M.2.1 7 (Int32.toNatClampNeg ((3 * (x1 - 2)) + x2)), M)
theorem ke_MO_nameLetter (M : mo_S) (x1 : Int32) (x2 : Int32) : (p_MO_nameLetter M x1 x2).2 = M := by unfold p_MO_nameLetter; (repeat' split) <;> rfl
set_option maxHeartbeats 4000000 in
set_option maxRecDepth 100000 in
theorem k_MO_nameLetter {l : Launch} {s00 : State} {G : fs_G} (hSt : fs_St l s00 G) {h : fs_Hp} {a : Nat} {ad : Nat → Nat} {M : mo_S} (hM : mo_at G h a ad M) (x1 : Int32) (x2 : Int32) (b1 : 2 ≤ x1.toInt) (b2 : x1.toInt ≤ 9) (b3 : 0 ≤ x2.toInt) (b4 : x2.toInt < 3) : fs_Ct l s00 G y_MO_nameLetter (.code y_MO_nameLetter b_MO_nameLetter 3 (some .int)) { frames := 0, cells := 0, slots := 0, locals := 0 } [.ref a, .int x1, .int x2] h (fun o h' => o = .inl (some (.int (p_MO_nameLetter M x1 x2).1)) ∧ mo_at G h' a ad (p_MO_nameLetter M x1 x2).2 ∧ mo_fr a ad h h') := by
  refine fs_Ct.ofW hSt (by decide) ?_
  intro p e s m below meth c B hout hP
  obtain ⟨hx, hb, hr, hml, hown, hts, hlocks, hname, hK, hw, htr⟩ := id B
  have hown : s.vm.findClass "FormulaSheetModel" = some m.cls := hown
  have hS := hw.S
  have hA : ∀ q : Nat, s00.heap.size ≤ q → fs_A s00 q := fun _ h9 => h9
  generalize hH : s.heap = H at hP hS ⊢
  have hH0 : s.heap.size ≤ H.size := by rw [hH]; exact Nat.le_refl _
  have hl := lv_entry ([.ref a, .int x1, .int x2]) (n := 3) (Nat.le_of_ble_eq_true rfl)
  rw [lg_entry_eq]
  generalize (lg_sl ([.ref a, .int x1, .int x2]) ++ List.replicate (3 - (lg_sl ([.ref a, .int x1, .int x2])).length) Slot.unset).toArray = ls at hl ⊢
  have hl : lv_has ls 3 [(0, .ref a), (1, .int x1), (2, .int x2)] := hl
  have hf : mo_fr a ad h h := mo_fr.rf
  refine lv_aload_n hx hb d_MO_nameLetter_0 rfl (lv_at hl 0 rfl) ?_
  refine fs_get hx hb hts hown hK c_MO hP hM.1 7 (by decide) (hts _ (fs_tb_at 1463 tw_1463 rfl)) (fun _ h9 => h9) rfl d_MO_nameLetter_1 ?_
  refine lv_iconst (v := 3) hx hb d_MO_nameLetter_4 (by decide) ?_
  refine lv_iload_n hx hb d_MO_nameLetter_5 rfl (lv_at hl 1 rfl) ?_
  refine lv_iconst (v := 2) hx hb d_MO_nameLetter_6 (by decide) ?_
  refine lv_isub hx hb d_MO_nameLetter_7 ?_
  refine lv_imul hx hb d_MO_nameLetter_8 ?_
  refine lv_iload_n hx hb d_MO_nameLetter_9 rfl (lv_at hl 2 rfl) ?_
  refine lv_iadd hx hb d_MO_nameLetter_10 ?_
  have hi_ : vp_in ((3 * (x1 - 2)) + x2) 24 := (by rw [vp_in_iff]; have e1 : (x1 - 2).toInt = x1.toInt - 2 := (by rw [i32_sub (by rw [i32_2]; omega), i32_2]);  have e2 : (3 * (x1 - 2)).toInt = 3 * (x1.toInt - 2) := (by rw [i32_mul (by rw [i32_3, e1]; omega), i32_3, e1]);  rw [i32_add (by rw [e2]; omega), e2];  omega)
  refine fs_iald hx hb hK hP 0 (hM.2.1 7 0 24 rfl) rfl hi_ d_MO_nameLetter_11 ?_
  have e_ : p_MO_nameLetter M x1 x2 = (M.2.1 7 (Int32.toNatClampNeg ((3 * (x1 - 2)) + x2)), M) := by rw [p_MO_nameLetter]
  exact fs_iret hx hb hr hlocks hw hP hS (by first | rfl | exact vp_nar_int _) (by omega) (by omega) (⟨by rw [e_], by rw [e_]; exact hM, hf⟩) d_MO_nameLetter_12
def p_MO_pushSign (M : mo_S) (x1 : Int32) : mo_S := (mo_f (mo_i M 28 (Int32.toNatClampNeg (M.1 29)) x1) 29 (((mo_i M 28 (Int32.toNatClampNeg (M.1 29)) x1).1 29) + 1))
set_option maxHeartbeats 4000000 in
set_option maxRecDepth 100000 in
theorem k_MO_pushSign {l : Launch} {s00 : State} {G : fs_G} (hSt : fs_St l s00 G) {h : fs_Hp} {a : Nat} {ad : Nat → Nat} {M : mo_S} (hM : mo_at G h a ad M) (x1 : Int32) (b1 : 0 ≤ (M.1 29).toInt) (b2 : (M.1 29).toInt < 44) : fs_Ct l s00 G y_MO_pushSign (.code y_MO_pushSign b_MO_pushSign 2 none) { frames := 0, cells := 0, slots := 0, locals := 0 } [.ref a, .int x1] h (fun o h' => o = .inl none ∧ mo_at G h' a ad (p_MO_pushSign M x1) ∧ mo_fr a ad h h') := by
  refine fs_Ct.ofW hSt (by decide) ?_
  intro p e s m below meth c B hout hP
  obtain ⟨hx, hb, hr, hml, hown, hts, hlocks, hname, hK, hw, htr⟩ := id B
  have hown : s.vm.findClass "FormulaSheetModel" = some m.cls := hown
  have hS := hw.S
  have hA : ∀ q : Nat, s00.heap.size ≤ q → fs_A s00 q := fun _ h9 => h9
  generalize hH : s.heap = H at hP hS ⊢
  have hH0 : s.heap.size ≤ H.size := by rw [hH]; exact Nat.le_refl _
  have hl := lv_entry ([.ref a, .int x1]) (n := 2) (Nat.le_of_ble_eq_true rfl)
  rw [lg_entry_eq]
  generalize (lg_sl ([.ref a, .int x1]) ++ List.replicate (2 - (lg_sl ([.ref a, .int x1])).length) Slot.unset).toArray = ls at hl ⊢
  have hl : lv_has ls 2 [(0, .ref a), (1, .int x1)] := hl
  have hf : mo_fr a ad h h := mo_fr.rf
  refine lv_aload_n hx hb d_MO_pushSign_0 rfl (lv_at hl 0 rfl) ?_
  refine fs_get hx hb hts hown hK c_MO hP hM.1 28 (by decide) (hts _ (fs_tb_at 1484 tw_1484 rfl)) (fun _ h9 => h9) rfl d_MO_pushSign_1 ?_
  refine lv_aload_n hx hb d_MO_pushSign_4 rfl (lv_at hl 0 rfl) ?_
  refine fs_get hx hb hts hown hK c_MO hP hM.1 29 (by decide) (hts _ (fs_tb_at 1485 tw_1485 rfl)) (fun _ h9 => h9) rfl d_MO_pushSign_5 ?_
  refine lv_iload_n hx hb d_MO_pushSign_8 rfl (lv_at hl 1 rfl) ?_
  have hi_ : vp_in (M.1 29) 44 := (by rw [vp_in_iff];   omega)
  refine fs_iast hx hb hK hP hS 0 (hM.2.1 28 0 44 rfl) rfl hi_ d_MO_pushSign_9 (fun H locs hP hS => ?_)
  obtain ⟨h28, hP, hM, hf⟩ : ∃ x, fs_P G.1 fs_cl (fs_A s00) x H ∧ mo_at G x a ad (mo_i M 28 (Int32.toNatClampNeg (M.1 29)) x1) ∧ mo_fr a ad h x := ⟨_, hP, hM.I (j := 28) (k := (Int32.toNatClampNeg (M.1 29))) (x := x1) rfl (fun _ => rfl), hf.arr (j := 28) (by decide)⟩
  refine lv_aload_n hx hb d_MO_pushSign_10 rfl (lv_at hl 0 rfl) ?_
  refine lv_dup hx hb d_MO_pushSign_11 rfl ?_
  refine fs_get hx hb hts hown hK c_MO hP hM.1 29 (by decide) (hts _ (fs_tb_at 1485 tw_1485 rfl)) (fun _ h9 => h9) rfl d_MO_pushSign_12 ?_
  refine lv_iconst (v := 1) hx hb d_MO_pushSign_15 (by decide) ?_
  refine lv_iadd hx hb d_MO_pushSign_16 ?_
  refine fs_put hx hb hts hown hK c_MO hP hS hM.1 29 (by decide) (hts _ (fs_tb_at 1485 tw_1485 rfl)) (fun _ h9 => h9) rfl rfl rfl (Nat.le_of_ble_eq_true rfl) d_MO_pushSign_17 (fun H locs hP hS => ?_)
  obtain ⟨h29, hP, hM, hf⟩ : ∃ x, fs_P G.1 fs_cl (fs_A s00) x H ∧ mo_at G x a ad (mo_f (mo_i M 28 (Int32.toNatClampNeg (M.1 29)) x1) 29 (((mo_i M 28 (Int32.toNatClampNeg (M.1 29)) x1).1 29) + 1)) ∧ mo_fr a ad h x := ⟨_, hP, hM.F (mo_F29 ad (mo_i M 28 (Int32.toNatClampNeg (M.1 29)) x1) (((mo_i M 28 (Int32.toNatClampNeg (M.1 29)) x1).1 29) + 1)), hf.self⟩
  have e_ : p_MO_pushSign M x1 = (mo_f (mo_i M 28 (Int32.toNatClampNeg (M.1 29)) x1) 29 (((mo_i M 28 (Int32.toNatClampNeg (M.1 29)) x1).1 29) + 1)) := by rw [p_MO_pushSign]
  exact fs_vret hx hb hr hlocks hw hP hS  (by omega) (by omega) (⟨rfl, by rw [e_]; exact hM, hf⟩) d_MO_pushSign_20
def p_MO_refer (M : mo_S) (x1 : Int32) (x2 : Int32) : mo_S := (if 40 ≤ x2 then (mo_l M 14 (Int32.toNatClampNeg x1) ((M.2.2.1 14 (Int32.toNatClampNeg x1)) ||| (1 <<< (Int32.toInt64 (x2 - 40) &&& 63)))) else (mo_l M 13 (Int32.toNatClampNeg x1) ((M.2.2.1 13 (Int32.toNatClampNeg x1)) ||| (1 <<< (Int32.toInt64 x2 &&& 63)))))
set_option maxHeartbeats 4000000 in
set_option maxRecDepth 100000 in
theorem k_MO_refer {l : Launch} {s00 : State} {G : fs_G} (hSt : fs_St l s00 G) {h : fs_Hp} {a : Nat} {ad : Nat → Nat} {M : mo_S} (hM : mo_at G h a ad M) (x1 : Int32) (x2 : Int32) (b1 : 0 ≤ x1.toInt) (b2 : x1.toInt < 80) : fs_Ct l s00 G y_MO_refer (.code y_MO_refer b_MO_refer 3 none) { frames := 0, cells := 0, slots := 0, locals := 0 } [.ref a, .int x1, .int x2] h (fun o h' => o = .inl none ∧ mo_at G h' a ad (p_MO_refer M x1 x2) ∧ mo_fr a ad h h') := by
  refine fs_Ct.ofW hSt (by decide) ?_
  intro p e s m below meth c B hout hP
  obtain ⟨hx, hb, hr, hml, hown, hts, hlocks, hname, hK, hw, htr⟩ := id B
  have hown : s.vm.findClass "FormulaSheetModel" = some m.cls := hown
  have hS := hw.S
  have hA : ∀ q : Nat, s00.heap.size ≤ q → fs_A s00 q := fun _ h9 => h9
  generalize hH : s.heap = H at hP hS ⊢
  have hH0 : s.heap.size ≤ H.size := by rw [hH]; exact Nat.le_refl _
  have hl := lv_entry ([.ref a, .int x1, .int x2]) (n := 3) (Nat.le_of_ble_eq_true rfl)
  rw [lg_entry_eq]
  generalize (lg_sl ([.ref a, .int x1, .int x2]) ++ List.replicate (3 - (lg_sl ([.ref a, .int x1, .int x2])).length) Slot.unset).toArray = ls at hl ⊢
  have hl : lv_has ls 3 [(0, .ref a), (1, .int x1), (2, .int x2)] := hl
  have hf : mo_fr a ad h h := mo_fr.rf
  refine lv_iload_n hx hb d_MO_refer_0 rfl (lv_at hl 2 rfl) ?_
  refine lv_bipush (v := 40) hx hb d_MO_refer_1 (by decide) ?_
  refine lv_icmp_ge (tgt := 21) hx hb d_MO_refer_3 (by decide) (fun c_30 => ?_) (fun c_30 => ?_)
  · refine lv_aload_n hx hb d_MO_refer_21 rfl (lv_at hl 0 rfl) ?_
    refine fs_get hx hb hts hown hK c_MO hP hM.1 14 (by decide) (hts _ (fs_tb_at 1470 tw_1470 rfl)) (fun _ h9 => h9) rfl d_MO_refer_22 ?_
    refine lv_iload_n hx hb d_MO_refer_25 rfl (lv_at hl 1 rfl) ?_
    refine lv_dup2_11 hx hb d_MO_refer_26 rfl rfl ?_
    have hi_ : vp_in x1 80 := (by rw [vp_in_iff];  (try simp only [Int32.lt_iff_toInt_lt, Int32.le_iff_toInt_le, ← Int32.toInt_inj, i32_0, i32_1, i32_2, i32_3, i32_4, i32_5, i32_6, i32_7, i32_8, i32_9, i32_10, i32_11, i32_12, i32_16, i32_24, i32_39, i32_40, i32_41, i32_43, i32_44, i32_48, i32_49, i32_57, i32_64, i32_80, i32_81, i32_100, i32_101, i32_121, i32_127, i32_128, i32_256, i32_384, i32_400, i32_512, i32_3199, i32_3200, i32_3239, i32_3240, i32_m1] at c_30); omega)
    refine fs_lald hx hb hK hP 1 (hM.2.1 14 1 80 rfl) rfl hi_ d_MO_refer_27 ?_
    refine lv_lconst (v := 1) hx hb d_MO_refer_28 (by decide) ?_
    refine lv_iload_n hx hb d_MO_refer_29 rfl (lv_at hl 2 rfl) ?_
    refine lv_bipush (v := 40) hx hb d_MO_refer_30 (by decide) ?_
    refine lv_isub hx hb d_MO_refer_32 ?_
    refine lv_lshl hx hb d_MO_refer_33 rfl ?_
    refine lv_lor hx hb d_MO_refer_34 ?_
    have hi_ : vp_in x1 80 := (by rw [vp_in_iff];  (try simp only [Int32.lt_iff_toInt_lt, Int32.le_iff_toInt_le, ← Int32.toInt_inj, i32_0, i32_1, i32_2, i32_3, i32_4, i32_5, i32_6, i32_7, i32_8, i32_9, i32_10, i32_11, i32_12, i32_16, i32_24, i32_39, i32_40, i32_41, i32_43, i32_44, i32_48, i32_49, i32_57, i32_64, i32_80, i32_81, i32_100, i32_101, i32_121, i32_127, i32_128, i32_256, i32_384, i32_400, i32_512, i32_3199, i32_3200, i32_3239, i32_3240, i32_m1] at c_30); omega)
    refine fs_last hx hb hK hP hS 1 (hM.2.1 14 1 80 rfl) rfl hi_ d_MO_refer_35 (fun H locs hP hS => ?_)
    obtain ⟨h31, hP, hM, hf⟩ : ∃ x, fs_P G.1 fs_cl (fs_A s00) x H ∧ mo_at G x a ad (mo_l M 14 (Int32.toNatClampNeg x1) ((M.2.2.1 14 (Int32.toNatClampNeg x1)) ||| (1 <<< (Int32.toInt64 (x2 - 40) &&& 63)))) ∧ mo_fr a ad h x := ⟨_, hP, hM.L (j := 14) (k := (Int32.toNatClampNeg x1)) (x := ((M.2.2.1 14 (Int32.toNatClampNeg x1)) ||| (1 <<< (Int32.toInt64 (x2 - 40) &&& 63)))) rfl, hf.arr (j := 14) (by decide)⟩
    have e_ : p_MO_refer M x1 x2 = (mo_l M 14 (Int32.toNatClampNeg x1) ((M.2.2.1 14 (Int32.toNatClampNeg x1)) ||| (1 <<< (Int32.toInt64 (x2 - 40) &&& 63)))) := by rw [p_MO_refer, if_pos c_30]
    exact fs_vret hx hb hr hlocks hw hP hS  (by omega) (by omega) (⟨rfl, by rw [e_]; exact hM, hf⟩) d_MO_refer_36
  · refine lv_aload_n hx hb d_MO_refer_6 rfl (lv_at hl 0 rfl) ?_
    refine fs_get hx hb hts hown hK c_MO hP hM.1 13 (by decide) (hts _ (fs_tb_at 1469 tw_1469 rfl)) (fun _ h9 => h9) rfl d_MO_refer_7 ?_
    refine lv_iload_n hx hb d_MO_refer_10 rfl (lv_at hl 1 rfl) ?_
    refine lv_dup2_11 hx hb d_MO_refer_11 rfl rfl ?_
    have hi_ : vp_in x1 80 := (by rw [vp_in_iff];  (try simp only [Int32.lt_iff_toInt_lt, Int32.le_iff_toInt_le, ← Int32.toInt_inj, i32_0, i32_1, i32_2, i32_3, i32_4, i32_5, i32_6, i32_7, i32_8, i32_9, i32_10, i32_11, i32_12, i32_16, i32_24, i32_39, i32_40, i32_41, i32_43, i32_44, i32_48, i32_49, i32_57, i32_64, i32_80, i32_81, i32_100, i32_101, i32_121, i32_127, i32_128, i32_256, i32_384, i32_400, i32_512, i32_3199, i32_3200, i32_3239, i32_3240, i32_m1] at c_30); omega)
    refine fs_lald hx hb hK hP 1 (hM.2.1 13 1 80 rfl) rfl hi_ d_MO_refer_12 ?_
    refine lv_lconst (v := 1) hx hb d_MO_refer_13 (by decide) ?_
    refine lv_iload_n hx hb d_MO_refer_14 rfl (lv_at hl 2 rfl) ?_
    refine lv_lshl hx hb d_MO_refer_15 rfl ?_
    refine lv_lor hx hb d_MO_refer_16 ?_
    have hi_ : vp_in x1 80 := (by rw [vp_in_iff];  (try simp only [Int32.lt_iff_toInt_lt, Int32.le_iff_toInt_le, ← Int32.toInt_inj, i32_0, i32_1, i32_2, i32_3, i32_4, i32_5, i32_6, i32_7, i32_8, i32_9, i32_10, i32_11, i32_12, i32_16, i32_24, i32_39, i32_40, i32_41, i32_43, i32_44, i32_48, i32_49, i32_57, i32_64, i32_80, i32_81, i32_100, i32_101, i32_121, i32_127, i32_128, i32_256, i32_384, i32_400, i32_512, i32_3199, i32_3200, i32_3239, i32_3240, i32_m1] at c_30); omega)
    refine fs_last hx hb hK hP hS 1 (hM.2.1 13 1 80 rfl) rfl hi_ d_MO_refer_17 (fun H locs hP hS => ?_)
    obtain ⟨h32, hP, hM, hf⟩ : ∃ x, fs_P G.1 fs_cl (fs_A s00) x H ∧ mo_at G x a ad (mo_l M 13 (Int32.toNatClampNeg x1) ((M.2.2.1 13 (Int32.toNatClampNeg x1)) ||| (1 <<< (Int32.toInt64 x2 &&& 63)))) ∧ mo_fr a ad h x := ⟨_, hP, hM.L (j := 13) (k := (Int32.toNatClampNeg x1)) (x := ((M.2.2.1 13 (Int32.toNatClampNeg x1)) ||| (1 <<< (Int32.toInt64 x2 &&& 63)))) rfl, hf.arr (j := 13) (by decide)⟩
    refine lv_goto (tgt := 36) hx hb d_MO_refer_18 (by decide) ?_
    have e_ : p_MO_refer M x1 x2 = (mo_l M 13 (Int32.toNatClampNeg x1) ((M.2.2.1 13 (Int32.toNatClampNeg x1)) ||| (1 <<< (Int32.toInt64 x2 &&& 63)))) := by rw [p_MO_refer, if_neg c_30]
    exact fs_vret hx hb hr hlocks hw hP hS  (by omega) (by omega) (⟨rfl, by rw [e_]; exact hM, hf⟩) d_MO_refer_36
def p_MO_circular (M : mo_S) (x1 : Int32) : Int32 × mo_S := ((p_MO_in (M.2.2.1 15 (Int32.toNatClampNeg x1)) (M.2.2.1 16 (Int32.toNatClampNeg x1)) x1), M)
theorem bo_MO_circular (M : mo_S) (x1 : Int32) : (p_MO_circular M x1).1 = 0 ∨ (p_MO_circular M x1).1 = 1 := by unfold p_MO_circular; first | exact bo_MO_in (M.2.2.1 15 (Int32.toNatClampNeg x1)) (M.2.2.1 16 (Int32.toNatClampNeg x1)) x1 | ((repeat' split) <;> simp)
theorem ke_MO_circular (M : mo_S) (x1 : Int32) : (p_MO_circular M x1).2 = M := by unfold p_MO_circular; (repeat' split) <;> rfl
set_option maxHeartbeats 4000000 in
set_option maxRecDepth 100000 in
theorem k_MO_circular {l : Launch} {s00 : State} {G : fs_G} (hSt : fs_St l s00 G) {h : fs_Hp} {a : Nat} {ad : Nat → Nat} {M : mo_S} (hM : mo_at G h a ad M) (x1 : Int32) (b1 : 0 ≤ x1.toInt) (b2 : x1.toInt < 80) : fs_Ct l s00 G y_MO_circular (.code y_MO_circular b_MO_circular 2 (some .boolean)) { frames := 1, cells := 0, slots := 0, locals := 16 } [.ref a, .int x1] h (fun o h' => o = .inl (some (.int (p_MO_circular M x1).1)) ∧ mo_at G h' a ad (p_MO_circular M x1).2 ∧ mo_fr a ad h h') := by
  refine fs_Ct.ofW hSt (by decide) ?_
  intro p e s m below meth c B hout hP
  obtain ⟨hx, hb, hr, hml, hown, hts, hlocks, hname, hK, hw, htr⟩ := id B
  have hown : s.vm.findClass "FormulaSheetModel" = some m.cls := hown
  have hS := hw.S
  have hA : ∀ q : Nat, s00.heap.size ≤ q → fs_A s00 q := fun _ h9 => h9
  generalize hH : s.heap = H at hP hS ⊢
  have hH0 : s.heap.size ≤ H.size := by rw [hH]; exact Nat.le_refl _
  have hl := lv_entry ([.ref a, .int x1]) (n := 2) (Nat.le_of_ble_eq_true rfl)
  rw [lg_entry_eq]
  generalize (lg_sl ([.ref a, .int x1]) ++ List.replicate (2 - (lg_sl ([.ref a, .int x1])).length) Slot.unset).toArray = ls at hl ⊢
  have hl : lv_has ls 2 [(0, .ref a), (1, .int x1)] := hl
  have hf : mo_fr a ad h h := mo_fr.rf
  refine lv_aload_n hx hb d_MO_circular_0 rfl (lv_at hl 0 rfl) ?_
  refine fs_get hx hb hts hown hK c_MO hP hM.1 15 (by decide) (hts _ (fs_tb_at 1471 tw_1471 rfl)) (fun _ h9 => h9) rfl d_MO_circular_1 ?_
  refine lv_iload_n hx hb d_MO_circular_4 rfl (lv_at hl 1 rfl) ?_
  have hi_ : vp_in x1 80 := (by rw [vp_in_iff];   omega)
  refine fs_lald hx hb hK hP 1 (hM.2.1 15 1 80 rfl) rfl hi_ d_MO_circular_5 ?_
  refine lv_aload_n hx hb d_MO_circular_6 rfl (lv_at hl 0 rfl) ?_
  refine fs_get hx hb hts hown hK c_MO hP hM.1 16 (by decide) (hts _ (fs_tb_at 1472 tw_1472 rfl)) (fun _ h9 => h9) rfl d_MO_circular_7 ?_
  refine lv_iload_n hx hb d_MO_circular_10 rfl (lv_at hl 1 rfl) ?_
  have hi_ : vp_in x1 80 := (by rw [vp_in_iff];   omega)
  refine fs_lald hx hb hK hP 1 (hM.2.1 16 1 80 rfl) rfl hi_ d_MO_circular_11 ?_
  refine lv_iload_n hx hb d_MO_circular_12 rfl (lv_at hl 1 rfl) ?_
  refine fs_cS B hl.1 hP hS (k_MO_in hSt (M.2.2.1 15 (Int32.toNatClampNeg x1)) (M.2.2.1 16 (Int32.toNatClampNeg x1)) x1 ) (fs_tb_at 1695 tw_1695 rfl) (fs_tb_at 1696 tw_1696 rfl) (fs_tb_at 96 tw_96 rfl) (fs_tb_at 1697 tw_1697 rfl) (by decide) (show (parseMethodDescriptor y_MO_in.desc).map (fun d => d.parameters.length) = some 3 by decide +kernel) rfl d_MO_circular_13 ⟨Nat.le_of_ble_eq_true rfl, Nat.le_of_ble_eq_true rfl, Nat.le_of_ble_eq_true rfl, Nat.le_of_ble_eq_true rfl⟩ (fun v_ h_ H locs hq hP hS => ?_) (fun C_ a_ h_ H locs hq => absurd hq.1 (fun h9 => by cases h9))
  obtain ⟨ev, eh⟩ := hq
  cases ev
  rw [eh] at hP
  refine W.widen (k := 0) (n := 0) (Nat.le_of_ble_eq_true rfl) (Nat.le_of_ble_eq_true rfl) ?_
  refine W.eq (g2 := F0 m 16 ls (.int (p_MO_in (M.2.2.1 15 (Int32.toNatClampNeg x1)) (M.2.2.1 16 (Int32.toNatClampNeg x1)) x1) :: [])) rfl ?_
  have e_ : p_MO_circular M x1 = ((p_MO_in (M.2.2.1 15 (Int32.toNatClampNeg x1)) (M.2.2.1 16 (Int32.toNatClampNeg x1)) x1), M) := by rw [p_MO_circular]
  exact fs_iret hx hb hr hlocks hw hP hS (fs_nbo (bo_MO_in (M.2.2.1 15 (Int32.toNatClampNeg x1)) (M.2.2.1 16 (Int32.toNatClampNeg x1)) x1)) (by omega) (by omega) (⟨by rw [e_], by rw [e_]; exact hM, hf⟩) d_MO_circular_16
def p_MO_hold (M : mo_S) (x1 : Int32) (x2 : UInt64) (x3 : Int32) : mo_S := (if x3 = 0 then (mo_i (mo_d M 20 (Int32.toNatClampNeg x1) x2) 21 (Int32.toNatClampNeg x1) (vp_nar .boolean x3)) else (mo_i (mo_d M 20 (Int32.toNatClampNeg x1) FP.dconst0) 21 (Int32.toNatClampNeg x1) (vp_nar .boolean x3)))
set_option maxHeartbeats 4000000 in
set_option maxRecDepth 100000 in
theorem k_MO_hold {l : Launch} {s00 : State} {G : fs_G} (hSt : fs_St l s00 G) {h : fs_Hp} {a : Nat} {ad : Nat → Nat} {M : mo_S} (hM : mo_at G h a ad M) (x1 : Int32) (x2 : UInt64) (x3 : Int32) (b1 : 0 ≤ x1.toInt) (b2 : x1.toInt < 44) : fs_Ct l s00 G y_MO_hold (.code y_MO_hold b_MO_hold 5 none) { frames := 0, cells := 0, slots := 0, locals := 0 } [.ref a, .int x1, .double x2, .int x3] h (fun o h' => o = .inl none ∧ mo_at G h' a ad (p_MO_hold M x1 x2 x3) ∧ mo_fr a ad h h') := by
  refine fs_Ct.ofW hSt (by decide) ?_
  intro p e s m below meth c B hout hP
  obtain ⟨hx, hb, hr, hml, hown, hts, hlocks, hname, hK, hw, htr⟩ := id B
  have hown : s.vm.findClass "FormulaSheetModel" = some m.cls := hown
  have hS := hw.S
  have hA : ∀ q : Nat, s00.heap.size ≤ q → fs_A s00 q := fun _ h9 => h9
  generalize hH : s.heap = H at hP hS ⊢
  have hH0 : s.heap.size ≤ H.size := by rw [hH]; exact Nat.le_refl _
  have hl := lv_entry ([.ref a, .int x1, .double x2, .int x3]) (n := 5) (Nat.le_of_ble_eq_true rfl)
  rw [lg_entry_eq]
  generalize (lg_sl ([.ref a, .int x1, .double x2, .int x3]) ++ List.replicate (5 - (lg_sl ([.ref a, .int x1, .double x2, .int x3])).length) Slot.unset).toArray = ls at hl ⊢
  have hl : lv_has ls 5 [(0, .ref a), (1, .int x1), (2, .double x2), (4, .int x3)] := hl
  have hf : mo_fr a ad h h := mo_fr.rf
  refine lv_aload_n hx hb d_MO_hold_0 rfl (lv_at hl 0 rfl) ?_
  refine fs_get hx hb hts hown hK c_MO hP hM.1 20 (by decide) (hts _ (fs_tb_at 1476 tw_1476 rfl)) (fun _ h9 => h9) rfl d_MO_hold_1 ?_
  refine lv_iload_n hx hb d_MO_hold_4 rfl (lv_at hl 1 rfl) ?_
  refine lv_iload hx hb d_MO_hold_5 (lv_at hl 3 rfl) ?_
  refine lv_if_eq (tgt := 14) hx hb d_MO_hold_7 (by decide) (fun c_33 => ?_) (fun c_33 => ?_)
  · refine lv_dload_n hx hb d_MO_hold_14 rfl (lv_at hl 2 rfl) ?_
    have hi_ : vp_in x1 44 := (by rw [vp_in_iff];  (try simp only [Int32.lt_iff_toInt_lt, Int32.le_iff_toInt_le, ← Int32.toInt_inj, i32_0, i32_1, i32_2, i32_3, i32_4, i32_5, i32_6, i32_7, i32_8, i32_9, i32_10, i32_11, i32_12, i32_16, i32_24, i32_39, i32_40, i32_41, i32_43, i32_44, i32_48, i32_49, i32_57, i32_64, i32_80, i32_81, i32_100, i32_101, i32_121, i32_127, i32_128, i32_256, i32_384, i32_400, i32_512, i32_3199, i32_3200, i32_3239, i32_3240, i32_m1] at c_33); omega)
    refine fs_dast hx hb hK hP hS 2 (hM.2.1 20 2 44 rfl) rfl hi_ d_MO_hold_15 (fun H locs hP hS => ?_)
    obtain ⟨h34, hP, hM, hf⟩ : ∃ x, fs_P G.1 fs_cl (fs_A s00) x H ∧ mo_at G x a ad (mo_d M 20 (Int32.toNatClampNeg x1) x2) ∧ mo_fr a ad h x := ⟨_, hP, hM.D (j := 20) (k := (Int32.toNatClampNeg x1)) (x := x2) rfl, hf.arr (j := 20) (by decide)⟩
    refine lv_aload_n hx hb d_MO_hold_16 rfl (lv_at hl 0 rfl) ?_
    refine fs_get hx hb hts hown hK c_MO hP hM.1 21 (by decide) (hts _ (fs_tb_at 1477 tw_1477 rfl)) (fun _ h9 => h9) rfl d_MO_hold_17 ?_
    refine lv_iload_n hx hb d_MO_hold_20 rfl (lv_at hl 1 rfl) ?_
    refine lv_iload hx hb d_MO_hold_21 (lv_at hl 3 rfl) ?_
    have hi_ : vp_in x1 44 := (by rw [vp_in_iff];  (try simp only [Int32.lt_iff_toInt_lt, Int32.le_iff_toInt_le, ← Int32.toInt_inj, i32_0, i32_1, i32_2, i32_3, i32_4, i32_5, i32_6, i32_7, i32_8, i32_9, i32_10, i32_11, i32_12, i32_16, i32_24, i32_39, i32_40, i32_41, i32_43, i32_44, i32_48, i32_49, i32_57, i32_64, i32_80, i32_81, i32_100, i32_101, i32_121, i32_127, i32_128, i32_256, i32_384, i32_400, i32_512, i32_3199, i32_3200, i32_3239, i32_3240, i32_m1] at c_33); omega)
    refine fs_zast hx hb hK hP hS 3 (hM.2.1 21 3 44 rfl) rfl hi_ d_MO_hold_23 (fun H locs hP hS => ?_)
    obtain ⟨h35, hP, hM, hf⟩ : ∃ x, fs_P G.1 fs_cl (fs_A s00) x H ∧ mo_at G x a ad (mo_i (mo_d M 20 (Int32.toNatClampNeg x1) x2) 21 (Int32.toNatClampNeg x1) (vp_nar .boolean x3)) ∧ mo_fr a ad h x := ⟨_, hP, hM.I (j := 21) (t := 3) (k := (Int32.toNatClampNeg x1)) (x := (vp_nar .boolean x3)) rfl (fun _ => rfl), hf.arr (j := 21) (by decide)⟩
    have e_ : p_MO_hold M x1 x2 x3 = (mo_i (mo_d M 20 (Int32.toNatClampNeg x1) x2) 21 (Int32.toNatClampNeg x1) (vp_nar .boolean x3)) := by rw [p_MO_hold, if_pos c_33]
    exact fs_vret hx hb hr hlocks hw hP hS  (by omega) (by omega) (⟨rfl, by rw [e_]; exact hM, hf⟩) d_MO_hold_24
  · refine lv_dconst0 hx hb d_MO_hold_10 ?_
    refine lv_goto (tgt := 15) hx hb d_MO_hold_11 (by decide) ?_
    have hi_ : vp_in x1 44 := (by rw [vp_in_iff];  (try simp only [Int32.lt_iff_toInt_lt, Int32.le_iff_toInt_le, ← Int32.toInt_inj, i32_0, i32_1, i32_2, i32_3, i32_4, i32_5, i32_6, i32_7, i32_8, i32_9, i32_10, i32_11, i32_12, i32_16, i32_24, i32_39, i32_40, i32_41, i32_43, i32_44, i32_48, i32_49, i32_57, i32_64, i32_80, i32_81, i32_100, i32_101, i32_121, i32_127, i32_128, i32_256, i32_384, i32_400, i32_512, i32_3199, i32_3200, i32_3239, i32_3240, i32_m1] at c_33); omega)
    refine fs_dast hx hb hK hP hS 2 (hM.2.1 20 2 44 rfl) rfl hi_ d_MO_hold_15 (fun H locs hP hS => ?_)
    obtain ⟨h36, hP, hM, hf⟩ : ∃ x, fs_P G.1 fs_cl (fs_A s00) x H ∧ mo_at G x a ad (mo_d M 20 (Int32.toNatClampNeg x1) FP.dconst0) ∧ mo_fr a ad h x := ⟨_, hP, hM.D (j := 20) (k := (Int32.toNatClampNeg x1)) (x := FP.dconst0) rfl, hf.arr (j := 20) (by decide)⟩
    refine lv_aload_n hx hb d_MO_hold_16 rfl (lv_at hl 0 rfl) ?_
    refine fs_get hx hb hts hown hK c_MO hP hM.1 21 (by decide) (hts _ (fs_tb_at 1477 tw_1477 rfl)) (fun _ h9 => h9) rfl d_MO_hold_17 ?_
    refine lv_iload_n hx hb d_MO_hold_20 rfl (lv_at hl 1 rfl) ?_
    refine lv_iload hx hb d_MO_hold_21 (lv_at hl 3 rfl) ?_
    have hi_ : vp_in x1 44 := (by rw [vp_in_iff];  (try simp only [Int32.lt_iff_toInt_lt, Int32.le_iff_toInt_le, ← Int32.toInt_inj, i32_0, i32_1, i32_2, i32_3, i32_4, i32_5, i32_6, i32_7, i32_8, i32_9, i32_10, i32_11, i32_12, i32_16, i32_24, i32_39, i32_40, i32_41, i32_43, i32_44, i32_48, i32_49, i32_57, i32_64, i32_80, i32_81, i32_100, i32_101, i32_121, i32_127, i32_128, i32_256, i32_384, i32_400, i32_512, i32_3199, i32_3200, i32_3239, i32_3240, i32_m1] at c_33); omega)
    refine fs_zast hx hb hK hP hS 3 (hM.2.1 21 3 44 rfl) rfl hi_ d_MO_hold_23 (fun H locs hP hS => ?_)
    obtain ⟨h37, hP, hM, hf⟩ : ∃ x, fs_P G.1 fs_cl (fs_A s00) x H ∧ mo_at G x a ad (mo_i (mo_d M 20 (Int32.toNatClampNeg x1) FP.dconst0) 21 (Int32.toNatClampNeg x1) (vp_nar .boolean x3)) ∧ mo_fr a ad h x := ⟨_, hP, hM.I (j := 21) (t := 3) (k := (Int32.toNatClampNeg x1)) (x := (vp_nar .boolean x3)) rfl (fun _ => rfl), hf.arr (j := 21) (by decide)⟩
    have e_ : p_MO_hold M x1 x2 x3 = (mo_i (mo_d M 20 (Int32.toNatClampNeg x1) FP.dconst0) 21 (Int32.toNatClampNeg x1) (vp_nar .boolean x3)) := by rw [p_MO_hold, if_neg c_33]
    exact fs_vret hx hb hr hlocks hw hP hS  (by omega) (by omega) (⟨rfl, by rw [e_]; exact hM, hf⟩) d_MO_hold_24
def p_MO_errorAt (M : mo_S)  : Int32 × mo_S := ((mo_f M 11 0).1 10, (mo_f M 11 0))
set_option maxHeartbeats 4000000 in
set_option maxRecDepth 100000 in
theorem k_MO_errorAt {l : Launch} {s00 : State} {G : fs_G} (hSt : fs_St l s00 G) {h : fs_Hp} {a : Nat} {ad : Nat → Nat} {M : mo_S} (hM : mo_at G h a ad M)   : fs_Ct l s00 G y_MO_errorAt (.code y_MO_errorAt b_MO_errorAt 1 (some .int)) { frames := 0, cells := 0, slots := 0, locals := 0 } [.ref a] h (fun o h' => o = .inl (some (.int (p_MO_errorAt M).1)) ∧ mo_at G h' a ad (p_MO_errorAt M).2 ∧ mo_fr a ad h h') := by
  refine fs_Ct.ofW hSt (by decide) ?_
  intro p e s m below meth c B hout hP
  obtain ⟨hx, hb, hr, hml, hown, hts, hlocks, hname, hK, hw, htr⟩ := id B
  have hown : s.vm.findClass "FormulaSheetModel" = some m.cls := hown
  have hS := hw.S
  have hA : ∀ q : Nat, s00.heap.size ≤ q → fs_A s00 q := fun _ h9 => h9
  generalize hH : s.heap = H at hP hS ⊢
  have hH0 : s.heap.size ≤ H.size := by rw [hH]; exact Nat.le_refl _
  have hl := lv_entry ([.ref a]) (n := 1) (Nat.le_of_ble_eq_true rfl)
  rw [lg_entry_eq]
  generalize (lg_sl ([.ref a]) ++ List.replicate (1 - (lg_sl ([.ref a])).length) Slot.unset).toArray = ls at hl ⊢
  have hl : lv_has ls 1 [(0, .ref a)] := hl
  have hf : mo_fr a ad h h := mo_fr.rf
  refine lv_aload_n hx hb d_MO_errorAt_0 rfl (lv_at hl 0 rfl) ?_
  refine lv_iconst (v := 0) hx hb d_MO_errorAt_1 (by decide) ?_
  refine fs_put hx hb hts hown hK c_MO hP hS hM.1 11 (by decide) (hts _ (fs_tb_at 1467 tw_1467 rfl)) (fun _ h9 => h9) rfl rfl rfl (Nat.le_of_ble_eq_true rfl) d_MO_errorAt_2 (fun H locs hP hS => ?_)
  obtain ⟨h38, hP, hM, hf⟩ : ∃ x, fs_P G.1 fs_cl (fs_A s00) x H ∧ mo_at G x a ad (mo_f M 11 0) ∧ mo_fr a ad h x := ⟨_, hP, hM.F (mo_F11 ad M 0), hf.self⟩
  refine lv_aload_n hx hb d_MO_errorAt_5 rfl (lv_at hl 0 rfl) ?_
  refine fs_get hx hb hts hown hK c_MO hP hM.1 10 (by decide) (hts _ (fs_tb_at 1466 tw_1466 rfl)) (fun _ h9 => h9) rfl d_MO_errorAt_6 ?_
  have e_ : p_MO_errorAt M = ((mo_f M 11 0).1 10, (mo_f M 11 0)) := by rw [p_MO_errorAt]
  exact fs_iret hx hb hr hlocks hw hP hS (by first | rfl | exact vp_nar_int _) (by omega) (by omega) (⟨by rw [e_], by rw [e_]; exact hM, hf⟩) d_MO_errorAt_9
