/-! The line: small readings, as conditions. -/
abbrev b_LN_init : ByteArray := prog_5_method_1_code
def y_LN_init : MethodName := ⟨"FormulaSheet$Line", "<init>", "()V"⟩
theorem d_LN_init_0 : decode b_LN_init 0 = .ok (.aload_n 0, 1) := by decide +kernel
theorem d_LN_init_1 : decode b_LN_init 1 = .ok (.invokespecial 3, 3) := by decide +kernel
theorem d_LN_init_4 : decode b_LN_init 4 = .ok (.aload_n 0, 1) := by decide +kernel
theorem d_LN_init_5 : decode b_LN_init 5 = .ok (.bipush 40, 2) := by decide +kernel
theorem d_LN_init_7 : decode b_LN_init 7 = .ok (.newarray .char, 2) := by decide +kernel
theorem d_LN_init_9 : decode b_LN_init 9 = .ok (.putfield 9, 3) := by decide +kernel
theorem d_LN_init_12 : decode b_LN_init 12 = .ok (.return_, 1) := by decide +kernel
abbrev b_LN_add : ByteArray := prog_5_method_2_code
def y_LN_add : MethodName := ⟨"FormulaSheet$Line", "add", "(C)V"⟩
theorem d_LN_add_0 : decode b_LN_add 0 = .ok (.aload_n 0, 1) := by decide +kernel
theorem d_LN_add_1 : decode b_LN_add 1 = .ok (.getfield 9, 3) := by decide +kernel
theorem d_LN_add_4 : decode b_LN_add 4 = .ok (.aload_n 0, 1) := by decide +kernel
theorem d_LN_add_5 : decode b_LN_add 5 = .ok (.getfield 15, 3) := by decide +kernel
theorem d_LN_add_8 : decode b_LN_add 8 = .ok (.iload_n 1, 1) := by decide +kernel
theorem d_LN_add_9 : decode b_LN_add 9 = .ok (.castore, 1) := by decide +kernel
theorem d_LN_add_10 : decode b_LN_add 10 = .ok (.aload_n 0, 1) := by decide +kernel
theorem d_LN_add_11 : decode b_LN_add 11 = .ok (.dup, 1) := by decide +kernel
theorem d_LN_add_12 : decode b_LN_add 12 = .ok (.getfield 15, 3) := by decide +kernel
theorem d_LN_add_15 : decode b_LN_add 15 = .ok (.iconst 1, 1) := by decide +kernel
theorem d_LN_add_16 : decode b_LN_add 16 = .ok (.iadd, 1) := by decide +kernel
theorem d_LN_add_17 : decode b_LN_add 17 = .ok (.putfield 15, 3) := by decide +kernel
theorem d_LN_add_20 : decode b_LN_add 20 = .ok (.return_, 1) := by decide +kernel
abbrev b_LN_next : ByteArray := prog_5_method_4_code
def y_LN_next : MethodName := ⟨"FormulaSheet$Line", "next", "()I"⟩
theorem d_LN_next_0 : decode b_LN_next 0 = .ok (.aload_n 0, 1) := by decide +kernel
theorem d_LN_next_1 : decode b_LN_next 1 = .ok (.getfield 19, 3) := by decide +kernel
theorem d_LN_next_4 : decode b_LN_next 4 = .ok (.aload_n 0, 1) := by decide +kernel
theorem d_LN_next_5 : decode b_LN_next 5 = .ok (.getfield 15, 3) := by decide +kernel
theorem d_LN_next_8 : decode b_LN_next 8 = .ok (.if_icmp .ge 15, 3) := by decide +kernel
theorem d_LN_next_11 : decode b_LN_next 11 = .ok (.aload_n 0, 1) := by decide +kernel
theorem d_LN_next_12 : decode b_LN_next 12 = .ok (.getfield 9, 3) := by decide +kernel
theorem d_LN_next_15 : decode b_LN_next 15 = .ok (.aload_n 0, 1) := by decide +kernel
theorem d_LN_next_16 : decode b_LN_next 16 = .ok (.getfield 19, 3) := by decide +kernel
theorem d_LN_next_19 : decode b_LN_next 19 = .ok (.caload, 1) := by decide +kernel
theorem d_LN_next_20 : decode b_LN_next 20 = .ok (.goto 4, 3) := by decide +kernel
theorem d_LN_next_23 : decode b_LN_next 23 = .ok (.iconst (-1), 1) := by decide +kernel
theorem d_LN_next_24 : decode b_LN_next 24 = .ok (.ireturn, 1) := by decide +kernel
abbrev b_LN_nextIs : ByteArray := prog_5_method_5_code
def y_LN_nextIs : MethodName := ⟨"FormulaSheet$Line", "nextIs", "(CC)Z"⟩
theorem d_LN_nextIs_0 : decode b_LN_nextIs 0 = .ok (.aload_n 0, 1) := by decide +kernel
theorem d_LN_nextIs_1 : decode b_LN_nextIs 1 = .ok (.invokevirtual 29, 3) := by decide +kernel
theorem d_LN_nextIs_4 : decode b_LN_nextIs 4 = .ok (.iload_n 1, 1) := by decide +kernel
theorem d_LN_nextIs_5 : decode b_LN_nextIs 5 = .ok (.if_icmp .eq 11, 3) := by decide +kernel
theorem d_LN_nextIs_8 : decode b_LN_nextIs 8 = .ok (.aload_n 0, 1) := by decide +kernel
theorem d_LN_nextIs_9 : decode b_LN_nextIs 9 = .ok (.invokevirtual 29, 3) := by decide +kernel
theorem d_LN_nextIs_12 : decode b_LN_nextIs 12 = .ok (.iload_n 2, 1) := by decide +kernel
theorem d_LN_nextIs_13 : decode b_LN_nextIs 13 = .ok (.if_icmp .ne 7, 3) := by decide +kernel
theorem d_LN_nextIs_16 : decode b_LN_nextIs 16 = .ok (.iconst 1, 1) := by decide +kernel
theorem d_LN_nextIs_17 : decode b_LN_nextIs 17 = .ok (.goto 4, 3) := by decide +kernel
theorem d_LN_nextIs_20 : decode b_LN_nextIs 20 = .ok (.iconst 0, 1) := by decide +kernel
theorem d_LN_nextIs_21 : decode b_LN_nextIs 21 = .ok (.ireturn, 1) := by decide +kernel
abbrev b_LN_nextIsDigit : ByteArray := prog_5_method_6_code
def y_LN_nextIsDigit : MethodName := ⟨"FormulaSheet$Line", "nextIsDigit", "()Z"⟩
theorem d_LN_nextIsDigit_0 : decode b_LN_nextIsDigit 0 = .ok (.aload_n 0, 1) := by decide +kernel
theorem d_LN_nextIsDigit_1 : decode b_LN_nextIsDigit 1 = .ok (.invokevirtual 29, 3) := by decide +kernel
theorem d_LN_nextIsDigit_4 : decode b_LN_nextIsDigit 4 = .ok (.bipush 48, 2) := by decide +kernel
theorem d_LN_nextIsDigit_6 : decode b_LN_nextIsDigit 6 = .ok (.if_icmp .lt 16, 3) := by decide +kernel
theorem d_LN_nextIsDigit_9 : decode b_LN_nextIsDigit 9 = .ok (.aload_n 0, 1) := by decide +kernel
theorem d_LN_nextIsDigit_10 : decode b_LN_nextIsDigit 10 = .ok (.invokevirtual 29, 3) := by decide +kernel
theorem d_LN_nextIsDigit_13 : decode b_LN_nextIsDigit 13 = .ok (.bipush 57, 2) := by decide +kernel
theorem d_LN_nextIsDigit_15 : decode b_LN_nextIsDigit 15 = .ok (.if_icmp .gt 7, 3) := by decide +kernel
theorem d_LN_nextIsDigit_18 : decode b_LN_nextIsDigit 18 = .ok (.iconst 1, 1) := by decide +kernel
theorem d_LN_nextIsDigit_19 : decode b_LN_nextIsDigit 19 = .ok (.goto 4, 3) := by decide +kernel
theorem d_LN_nextIsDigit_22 : decode b_LN_nextIsDigit 22 = .ok (.iconst 0, 1) := by decide +kernel
theorem d_LN_nextIsDigit_23 : decode b_LN_nextIsDigit 23 = .ok (.ireturn, 1) := by decide +kernel
abbrev b_LN_nextIsColumn : ByteArray := prog_5_method_7_code
def y_LN_nextIsColumn : MethodName := ⟨"FormulaSheet$Line", "nextIsColumn", "()Z"⟩
theorem d_LN_nextIsColumn_0 : decode b_LN_nextIsColumn 0 = .ok (.aload_n 0, 1) := by decide +kernel
theorem d_LN_nextIsColumn_1 : decode b_LN_nextIsColumn 1 = .ok (.invokevirtual 29, 3) := by decide +kernel
theorem d_LN_nextIsColumn_4 : decode b_LN_nextIsColumn 4 = .ok (.bipush 97, 2) := by decide +kernel
theorem d_LN_nextIsColumn_6 : decode b_LN_nextIsColumn 6 = .ok (.if_icmp .lt 16, 3) := by decide +kernel
theorem d_LN_nextIsColumn_9 : decode b_LN_nextIsColumn 9 = .ok (.aload_n 0, 1) := by decide +kernel
theorem d_LN_nextIsColumn_10 : decode b_LN_nextIsColumn 10 = .ok (.invokevirtual 29, 3) := by decide +kernel
theorem d_LN_nextIsColumn_13 : decode b_LN_nextIsColumn 13 = .ok (.bipush 105, 2) := by decide +kernel
theorem d_LN_nextIsColumn_15 : decode b_LN_nextIsColumn 15 = .ok (.if_icmp .ge 7, 3) := by decide +kernel
theorem d_LN_nextIsColumn_18 : decode b_LN_nextIsColumn 18 = .ok (.iconst 1, 1) := by decide +kernel
theorem d_LN_nextIsColumn_19 : decode b_LN_nextIsColumn 19 = .ok (.goto 4, 3) := by decide +kernel
theorem d_LN_nextIsColumn_22 : decode b_LN_nextIsColumn 22 = .ok (.iconst 0, 1) := by decide +kernel
theorem d_LN_nextIsColumn_23 : decode b_LN_nextIsColumn 23 = .ok (.ireturn, 1) := by decide +kernel
abbrev b_LN_take : ByteArray := prog_5_method_8_code
def y_LN_take : MethodName := ⟨"FormulaSheet$Line", "take", "(C)Z"⟩
theorem d_LN_take_0 : decode b_LN_take 0 = .ok (.aload_n 0, 1) := by decide +kernel
theorem d_LN_take_1 : decode b_LN_take 1 = .ok (.invokevirtual 29, 3) := by decide +kernel
theorem d_LN_take_4 : decode b_LN_take 4 = .ok (.iload_n 1, 1) := by decide +kernel
theorem d_LN_take_5 : decode b_LN_take 5 = .ok (.if_icmp .eq 5, 3) := by decide +kernel
theorem d_LN_take_8 : decode b_LN_take 8 = .ok (.iconst 0, 1) := by decide +kernel
theorem d_LN_take_9 : decode b_LN_take 9 = .ok (.ireturn, 1) := by decide +kernel
theorem d_LN_take_10 : decode b_LN_take 10 = .ok (.aload_n 0, 1) := by decide +kernel
theorem d_LN_take_11 : decode b_LN_take 11 = .ok (.dup, 1) := by decide +kernel
theorem d_LN_take_12 : decode b_LN_take 12 = .ok (.getfield 19, 3) := by decide +kernel
theorem d_LN_take_15 : decode b_LN_take 15 = .ok (.iconst 1, 1) := by decide +kernel
theorem d_LN_take_16 : decode b_LN_take 16 = .ok (.iadd, 1) := by decide +kernel
theorem d_LN_take_17 : decode b_LN_take 17 = .ok (.putfield 19, 3) := by decide +kernel
theorem d_LN_take_20 : decode b_LN_take 20 = .ok (.iconst 1, 1) := by decide +kernel
theorem d_LN_take_21 : decode b_LN_take 21 = .ok (.ireturn, 1) := by decide +kernel
abbrev b_LN_takeNext : ByteArray := prog_5_method_9_code
def y_LN_takeNext : MethodName := ⟨"FormulaSheet$Line", "takeNext", "()C"⟩
theorem d_LN_takeNext_0 : decode b_LN_takeNext 0 = .ok (.aload_n 0, 1) := by decide +kernel
theorem d_LN_takeNext_1 : decode b_LN_takeNext 1 = .ok (.invokevirtual 29, 3) := by decide +kernel
theorem d_LN_takeNext_4 : decode b_LN_takeNext 4 = .ok (.i2c, 1) := by decide +kernel
theorem d_LN_takeNext_5 : decode b_LN_takeNext 5 = .ok (.istore_n 1, 1) := by decide +kernel
theorem d_LN_takeNext_6 : decode b_LN_takeNext 6 = .ok (.aload_n 0, 1) := by decide +kernel
theorem d_LN_takeNext_7 : decode b_LN_takeNext 7 = .ok (.dup, 1) := by decide +kernel
theorem d_LN_takeNext_8 : decode b_LN_takeNext 8 = .ok (.getfield 19, 3) := by decide +kernel
theorem d_LN_takeNext_11 : decode b_LN_takeNext 11 = .ok (.iconst 1, 1) := by decide +kernel
theorem d_LN_takeNext_12 : decode b_LN_takeNext 12 = .ok (.iadd, 1) := by decide +kernel
theorem d_LN_takeNext_13 : decode b_LN_takeNext 13 = .ok (.putfield 19, 3) := by decide +kernel
theorem d_LN_takeNext_16 : decode b_LN_takeNext 16 = .ok (.iload_n 1, 1) := by decide +kernel
theorem d_LN_takeNext_17 : decode b_LN_takeNext 17 = .ok (.ireturn, 1) := by decide +kernel
abbrev b_LN_single : ByteArray := prog_5_method_25_code
def y_LN_single : MethodName := ⟨"FormulaSheet$Line", "single", "(CLFormulaSheet$Part;)LFormulaSheet$Part;"⟩
theorem d_LN_single_0 : decode b_LN_single 0 = .ok (.aload_n 1, 1) := by decide +kernel
theorem d_LN_single_1 : decode b_LN_single 1 = .ok (.ifnonnull 7, 3) := by decide +kernel
theorem d_LN_single_4 : decode b_LN_single 4 = .ok (.aconst_null, 1) := by decide +kernel
theorem d_LN_single_5 : decode b_LN_single 5 = .ok (.goto 12, 3) := by decide +kernel
theorem d_LN_single_8 : decode b_LN_single 8 = .ok (.new 159, 3) := by decide +kernel
theorem d_LN_single_11 : decode b_LN_single 11 = .ok (.dup, 1) := by decide +kernel
theorem d_LN_single_12 : decode b_LN_single 12 = .ok (.iload_n 0, 1) := by decide +kernel
theorem d_LN_single_13 : decode b_LN_single 13 = .ok (.aload_n 1, 1) := by decide +kernel
theorem d_LN_single_14 : decode b_LN_single 14 = .ok (.invokespecial 161, 3) := by decide +kernel
theorem d_LN_single_17 : decode b_LN_single 17 = .ok (.areturn, 1) := by decide +kernel
abbrev b_LN_pair : ByteArray := prog_5_method_26_code
def y_LN_pair : MethodName := ⟨"FormulaSheet$Line", "pair", "(CLFormulaSheet$Part;LFormulaSheet$Part;)LFormulaSheet$Part;"⟩
theorem d_LN_pair_0 : decode b_LN_pair 0 = .ok (.aload_n 2, 1) := by decide +kernel
theorem d_LN_pair_1 : decode b_LN_pair 1 = .ok (.ifnonnull 7, 3) := by decide +kernel
theorem d_LN_pair_4 : decode b_LN_pair 4 = .ok (.aconst_null, 1) := by decide +kernel
theorem d_LN_pair_5 : decode b_LN_pair 5 = .ok (.goto 13, 3) := by decide +kernel
theorem d_LN_pair_8 : decode b_LN_pair 8 = .ok (.new 164, 3) := by decide +kernel
theorem d_LN_pair_11 : decode b_LN_pair 11 = .ok (.dup, 1) := by decide +kernel
theorem d_LN_pair_12 : decode b_LN_pair 12 = .ok (.iload_n 0, 1) := by decide +kernel
theorem d_LN_pair_13 : decode b_LN_pair 13 = .ok (.aload_n 1, 1) := by decide +kernel
theorem d_LN_pair_14 : decode b_LN_pair 14 = .ok (.aload_n 2, 1) := by decide +kernel
theorem d_LN_pair_15 : decode b_LN_pair 15 = .ok (.invokespecial 166, 3) := by decide +kernel
theorem d_LN_pair_18 : decode b_LN_pair 18 = .ok (.areturn, 1) := by decide +kernel
abbrev b_LN_closed : ByteArray := prog_5_method_16_code
def y_LN_closed : MethodName := ⟨"FormulaSheet$Line", "closed", "(LFormulaSheet$Part;)LFormulaSheet$Part;"⟩
theorem d_LN_closed_0 : decode b_LN_closed 0 = .ok (.aload_n 1, 1) := by decide +kernel
theorem d_LN_closed_1 : decode b_LN_closed 1 = .ok (.ifnull 12, 3) := by decide +kernel
theorem d_LN_closed_4 : decode b_LN_closed 4 = .ok (.aload_n 0, 1) := by decide +kernel
theorem d_LN_closed_5 : decode b_LN_closed 5 = .ok (.bipush 41, 2) := by decide +kernel
theorem d_LN_closed_7 : decode b_LN_closed 7 = .ok (.invokevirtual 48, 3) := by decide +kernel
theorem d_LN_closed_10 : decode b_LN_closed 10 = .ok (.ifCond .ne 5, 3) := by decide +kernel
theorem d_LN_closed_13 : decode b_LN_closed 13 = .ok (.aconst_null, 1) := by decide +kernel
theorem d_LN_closed_14 : decode b_LN_closed 14 = .ok (.areturn, 1) := by decide +kernel
theorem d_LN_closed_15 : decode b_LN_closed 15 = .ok (.aload_n 0, 1) := by decide +kernel
theorem d_LN_closed_16 : decode b_LN_closed 16 = .ok (.dup, 1) := by decide +kernel
theorem d_LN_closed_17 : decode b_LN_closed 17 = .ok (.getfield 22, 3) := by decide +kernel
theorem d_LN_closed_20 : decode b_LN_closed 20 = .ok (.iconst 1, 1) := by decide +kernel
theorem d_LN_closed_21 : decode b_LN_closed 21 = .ok (.isub, 1) := by decide +kernel
theorem d_LN_closed_22 : decode b_LN_closed 22 = .ok (.putfield 22, 3) := by decide +kernel
theorem d_LN_closed_25 : decode b_LN_closed 25 = .ok (.aload_n 1, 1) := by decide +kernel
theorem d_LN_closed_26 : decode b_LN_closed 26 = .ok (.areturn, 1) := by decide +kernel
abbrev b_LN_digits : ByteArray := prog_5_method_24_code
def y_LN_digits : MethodName := ⟨"FormulaSheet$Line", "digits", "(JI)J"⟩
theorem d_LN_digits_0 : decode b_LN_digits 0 = .ok (.lload_n 1, 1) := by decide +kernel
theorem d_LN_digits_1 : decode b_LN_digits 1 = .ok (.lstore 4, 2) := by decide +kernel
theorem d_LN_digits_3 : decode b_LN_digits 3 = .ok (.iconst 0, 1) := by decide +kernel
theorem d_LN_digits_4 : decode b_LN_digits 4 = .ok (.istore 6, 2) := by decide +kernel
theorem d_LN_digits_6 : decode b_LN_digits 6 = .ok (.iload 6, 2) := by decide +kernel
theorem d_LN_digits_8 : decode b_LN_digits 8 = .ok (.iload_n 3, 1) := by decide +kernel
theorem d_LN_digits_9 : decode b_LN_digits 9 = .ok (.if_icmp .ge 33, 3) := by decide +kernel
theorem d_LN_digits_12 : decode b_LN_digits 12 = .ok (.aload_n 0, 1) := by decide +kernel
theorem d_LN_digits_13 : decode b_LN_digits 13 = .ok (.invokevirtual 68, 3) := by decide +kernel
theorem d_LN_digits_16 : decode b_LN_digits 16 = .ok (.ifCond .eq 26, 3) := by decide +kernel
theorem d_LN_digits_19 : decode b_LN_digits 19 = .ok (.lload 4, 2) := by decide +kernel
theorem d_LN_digits_21 : decode b_LN_digits 21 = .ok (.ldc2_w 157, 3) := by decide +kernel
theorem d_LN_digits_24 : decode b_LN_digits 24 = .ok (.lmul, 1) := by decide +kernel
theorem d_LN_digits_25 : decode b_LN_digits 25 = .ok (.aload_n 0, 1) := by decide +kernel
theorem d_LN_digits_26 : decode b_LN_digits 26 = .ok (.invokevirtual 40, 3) := by decide +kernel
theorem d_LN_digits_29 : decode b_LN_digits 29 = .ok (.bipush 48, 2) := by decide +kernel
theorem d_LN_digits_31 : decode b_LN_digits 31 = .ok (.isub, 1) := by decide +kernel
theorem d_LN_digits_32 : decode b_LN_digits 32 = .ok (.i2l, 1) := by decide +kernel
theorem d_LN_digits_33 : decode b_LN_digits 33 = .ok (.ladd, 1) := by decide +kernel
theorem d_LN_digits_34 : decode b_LN_digits 34 = .ok (.lstore 4, 2) := by decide +kernel
theorem d_LN_digits_36 : decode b_LN_digits 36 = .ok (.iinc 6 1, 3) := by decide +kernel
theorem d_LN_digits_39 : decode b_LN_digits 39 = .ok (.goto (-33), 3) := by decide +kernel
theorem d_LN_digits_42 : decode b_LN_digits 42 = .ok (.lload 4, 2) := by decide +kernel
theorem d_LN_digits_44 : decode b_LN_digits 44 = .ok (.lreturn, 1) := by decide +kernel
abbrev b_LN_numeral : ByteArray := prog_5_method_23_code
def y_LN_numeral : MethodName := ⟨"FormulaSheet$Line", "numeral", "()LFormulaSheet$Part;"⟩
theorem d_LN_numeral_0 : decode b_LN_numeral 0 = .ok (.aload_n 0, 1) := by decide +kernel
theorem d_LN_numeral_1 : decode b_LN_numeral 1 = .ok (.lconst 0, 1) := by decide +kernel
theorem d_LN_numeral_2 : decode b_LN_numeral 2 = .ok (.bipush 9, 2) := by decide +kernel
theorem d_LN_numeral_4 : decode b_LN_numeral 4 = .ok (.invokevirtual 148, 3) := by decide +kernel
theorem d_LN_numeral_7 : decode b_LN_numeral 7 = .ok (.lstore_n 1, 1) := by decide +kernel
theorem d_LN_numeral_8 : decode b_LN_numeral 8 = .ok (.aload_n 0, 1) := by decide +kernel
theorem d_LN_numeral_9 : decode b_LN_numeral 9 = .ok (.bipush 46, 2) := by decide +kernel
theorem d_LN_numeral_11 : decode b_LN_numeral 11 = .ok (.invokevirtual 48, 3) := by decide +kernel
theorem d_LN_numeral_14 : decode b_LN_numeral 14 = .ok (.ifCond .ne 13, 3) := by decide +kernel
theorem d_LN_numeral_17 : decode b_LN_numeral 17 = .ok (.new 152, 3) := by decide +kernel
theorem d_LN_numeral_20 : decode b_LN_numeral 20 = .ok (.dup, 1) := by decide +kernel
theorem d_LN_numeral_21 : decode b_LN_numeral 21 = .ok (.lload_n 1, 1) := by decide +kernel
theorem d_LN_numeral_22 : decode b_LN_numeral 22 = .ok (.iconst 0, 1) := by decide +kernel
theorem d_LN_numeral_23 : decode b_LN_numeral 23 = .ok (.invokespecial 154, 3) := by decide +kernel
theorem d_LN_numeral_26 : decode b_LN_numeral 26 = .ok (.areturn, 1) := by decide +kernel
theorem d_LN_numeral_27 : decode b_LN_numeral 27 = .ok (.aload_n 0, 1) := by decide +kernel
theorem d_LN_numeral_28 : decode b_LN_numeral 28 = .ok (.getfield 19, 3) := by decide +kernel
theorem d_LN_numeral_31 : decode b_LN_numeral 31 = .ok (.istore_n 3, 1) := by decide +kernel
theorem d_LN_numeral_32 : decode b_LN_numeral 32 = .ok (.aload_n 0, 1) := by decide +kernel
theorem d_LN_numeral_33 : decode b_LN_numeral 33 = .ok (.lload_n 1, 1) := by decide +kernel
theorem d_LN_numeral_34 : decode b_LN_numeral 34 = .ok (.iconst 4, 1) := by decide +kernel
theorem d_LN_numeral_35 : decode b_LN_numeral 35 = .ok (.invokevirtual 148, 3) := by decide +kernel
theorem d_LN_numeral_38 : decode b_LN_numeral 38 = .ok (.lstore_n 1, 1) := by decide +kernel
theorem d_LN_numeral_39 : decode b_LN_numeral 39 = .ok (.aload_n 0, 1) := by decide +kernel
theorem d_LN_numeral_40 : decode b_LN_numeral 40 = .ok (.getfield 19, 3) := by decide +kernel
theorem d_LN_numeral_43 : decode b_LN_numeral 43 = .ok (.iload_n 3, 1) := by decide +kernel
theorem d_LN_numeral_44 : decode b_LN_numeral 44 = .ok (.if_icmp .ne 7, 3) := by decide +kernel
theorem d_LN_numeral_47 : decode b_LN_numeral 47 = .ok (.aconst_null, 1) := by decide +kernel
theorem d_LN_numeral_48 : decode b_LN_numeral 48 = .ok (.goto 17, 3) := by decide +kernel
theorem d_LN_numeral_51 : decode b_LN_numeral 51 = .ok (.new 152, 3) := by decide +kernel
theorem d_LN_numeral_54 : decode b_LN_numeral 54 = .ok (.dup, 1) := by decide +kernel
theorem d_LN_numeral_55 : decode b_LN_numeral 55 = .ok (.lload_n 1, 1) := by decide +kernel
theorem d_LN_numeral_56 : decode b_LN_numeral 56 = .ok (.aload_n 0, 1) := by decide +kernel
theorem d_LN_numeral_57 : decode b_LN_numeral 57 = .ok (.getfield 19, 3) := by decide +kernel
theorem d_LN_numeral_60 : decode b_LN_numeral 60 = .ok (.iload_n 3, 1) := by decide +kernel
theorem d_LN_numeral_61 : decode b_LN_numeral 61 = .ok (.isub, 1) := by decide +kernel
theorem d_LN_numeral_62 : decode b_LN_numeral 62 = .ok (.invokespecial 154, 3) := by decide +kernel
theorem d_LN_numeral_65 : decode b_LN_numeral 65 = .ok (.areturn, 1) := by decide +kernel
abbrev b_LN_reference : ByteArray := prog_5_method_22_code
def y_LN_reference : MethodName := ⟨"FormulaSheet$Line", "reference", "()LFormulaSheet$Reference;"⟩
theorem d_LN_reference_0 : decode b_LN_reference 0 = .ok (.aload_n 0, 1) := by decide +kernel
theorem d_LN_reference_1 : decode b_LN_reference 1 = .ok (.bipush 36, 2) := by decide +kernel
theorem d_LN_reference_3 : decode b_LN_reference 3 = .ok (.invokevirtual 48, 3) := by decide +kernel
theorem d_LN_reference_6 : decode b_LN_reference 6 = .ok (.istore_n 1, 1) := by decide +kernel
theorem d_LN_reference_7 : decode b_LN_reference 7 = .ok (.aload_n 0, 1) := by decide +kernel
theorem d_LN_reference_8 : decode b_LN_reference 8 = .ok (.invokevirtual 75, 3) := by decide +kernel
theorem d_LN_reference_11 : decode b_LN_reference 11 = .ok (.ifCond .ne 5, 3) := by decide +kernel
theorem d_LN_reference_14 : decode b_LN_reference 14 = .ok (.aconst_null, 1) := by decide +kernel
theorem d_LN_reference_15 : decode b_LN_reference 15 = .ok (.areturn, 1) := by decide +kernel
theorem d_LN_reference_16 : decode b_LN_reference 16 = .ok (.aload_n 0, 1) := by decide +kernel
theorem d_LN_reference_17 : decode b_LN_reference 17 = .ok (.invokevirtual 40, 3) := by decide +kernel
theorem d_LN_reference_20 : decode b_LN_reference 20 = .ok (.bipush 97, 2) := by decide +kernel
theorem d_LN_reference_22 : decode b_LN_reference 22 = .ok (.isub, 1) := by decide +kernel
theorem d_LN_reference_23 : decode b_LN_reference 23 = .ok (.istore_n 2, 1) := by decide +kernel
theorem d_LN_reference_24 : decode b_LN_reference 24 = .ok (.aload_n 0, 1) := by decide +kernel
theorem d_LN_reference_25 : decode b_LN_reference 25 = .ok (.bipush 36, 2) := by decide +kernel
theorem d_LN_reference_27 : decode b_LN_reference 27 = .ok (.invokevirtual 48, 3) := by decide +kernel
theorem d_LN_reference_30 : decode b_LN_reference 30 = .ok (.istore_n 3, 1) := by decide +kernel
theorem d_LN_reference_31 : decode b_LN_reference 31 = .ok (.aload_n 0, 1) := by decide +kernel
theorem d_LN_reference_32 : decode b_LN_reference 32 = .ok (.invokevirtual 68, 3) := by decide +kernel
theorem d_LN_reference_35 : decode b_LN_reference 35 = .ok (.ifCond .eq 12, 3) := by decide +kernel
theorem d_LN_reference_38 : decode b_LN_reference 38 = .ok (.aload_n 0, 1) := by decide +kernel
theorem d_LN_reference_39 : decode b_LN_reference 39 = .ok (.invokevirtual 29, 3) := by decide +kernel
theorem d_LN_reference_42 : decode b_LN_reference 42 = .ok (.bipush 48, 2) := by decide +kernel
theorem d_LN_reference_44 : decode b_LN_reference 44 = .ok (.if_icmp .ne 5, 3) := by decide +kernel
theorem d_LN_reference_47 : decode b_LN_reference 47 = .ok (.aconst_null, 1) := by decide +kernel
theorem d_LN_reference_48 : decode b_LN_reference 48 = .ok (.areturn, 1) := by decide +kernel
theorem d_LN_reference_49 : decode b_LN_reference 49 = .ok (.aload_n 0, 1) := by decide +kernel
theorem d_LN_reference_50 : decode b_LN_reference 50 = .ok (.invokevirtual 40, 3) := by decide +kernel
theorem d_LN_reference_53 : decode b_LN_reference 53 = .ok (.bipush 49, 2) := by decide +kernel
theorem d_LN_reference_55 : decode b_LN_reference 55 = .ok (.isub, 1) := by decide +kernel
theorem d_LN_reference_56 : decode b_LN_reference 56 = .ok (.istore 4, 2) := by decide +kernel
theorem d_LN_reference_58 : decode b_LN_reference 58 = .ok (.iload 4, 2) := by decide +kernel
theorem d_LN_reference_60 : decode b_LN_reference 60 = .ok (.ifCond .ne 16, 3) := by decide +kernel
theorem d_LN_reference_63 : decode b_LN_reference 63 = .ok (.aload_n 0, 1) := by decide +kernel
theorem d_LN_reference_64 : decode b_LN_reference 64 = .ok (.bipush 48, 2) := by decide +kernel
theorem d_LN_reference_66 : decode b_LN_reference 66 = .ok (.invokevirtual 48, 3) := by decide +kernel
theorem d_LN_reference_69 : decode b_LN_reference 69 = .ok (.ifCond .eq 7, 3) := by decide +kernel
theorem d_LN_reference_72 : decode b_LN_reference 72 = .ok (.bipush 9, 2) := by decide +kernel
theorem d_LN_reference_74 : decode b_LN_reference 74 = .ok (.istore 4, 2) := by decide +kernel
theorem d_LN_reference_76 : decode b_LN_reference 76 = .ok (.new 143, 3) := by decide +kernel
theorem d_LN_reference_79 : decode b_LN_reference 79 = .ok (.dup, 1) := by decide +kernel
theorem d_LN_reference_80 : decode b_LN_reference 80 = .ok (.iload_n 1, 1) := by decide +kernel
theorem d_LN_reference_81 : decode b_LN_reference 81 = .ok (.iload_n 2, 1) := by decide +kernel
theorem d_LN_reference_82 : decode b_LN_reference 82 = .ok (.iload_n 3, 1) := by decide +kernel
theorem d_LN_reference_83 : decode b_LN_reference 83 = .ok (.iload 4, 2) := by decide +kernel
theorem d_LN_reference_85 : decode b_LN_reference 85 = .ok (.invokespecial 145, 3) := by decide +kernel
theorem d_LN_reference_88 : decode b_LN_reference 88 = .ok (.areturn, 1) := by decide +kernel
abbrev b_LN_overRange : ByteArray := prog_5_method_21_code
def y_LN_overRange : MethodName := ⟨"FormulaSheet$Line", "overRange", "(LFormulaSheet$Name;)LFormulaSheet$Part;"⟩
theorem d_LN_overRange_0 : decode b_LN_overRange 0 = .ok (.aload_n 0, 1) := by decide +kernel
theorem d_LN_overRange_1 : decode b_LN_overRange 1 = .ok (.invokevirtual 78, 3) := by decide +kernel
theorem d_LN_overRange_4 : decode b_LN_overRange 4 = .ok (.astore_n 2, 1) := by decide +kernel
theorem d_LN_overRange_5 : decode b_LN_overRange 5 = .ok (.aload_n 2, 1) := by decide +kernel
theorem d_LN_overRange_6 : decode b_LN_overRange 6 = .ok (.ifnull 12, 3) := by decide +kernel
theorem d_LN_overRange_9 : decode b_LN_overRange 9 = .ok (.aload_n 0, 1) := by decide +kernel
theorem d_LN_overRange_10 : decode b_LN_overRange 10 = .ok (.bipush 58, 2) := by decide +kernel
theorem d_LN_overRange_12 : decode b_LN_overRange 12 = .ok (.invokevirtual 48, 3) := by decide +kernel
theorem d_LN_overRange_15 : decode b_LN_overRange 15 = .ok (.ifCond .ne 5, 3) := by decide +kernel
theorem d_LN_overRange_18 : decode b_LN_overRange 18 = .ok (.aconst_null, 1) := by decide +kernel
theorem d_LN_overRange_19 : decode b_LN_overRange 19 = .ok (.areturn, 1) := by decide +kernel
theorem d_LN_overRange_20 : decode b_LN_overRange 20 = .ok (.aload_n 0, 1) := by decide +kernel
theorem d_LN_overRange_21 : decode b_LN_overRange 21 = .ok (.invokevirtual 78, 3) := by decide +kernel
theorem d_LN_overRange_24 : decode b_LN_overRange 24 = .ok (.astore_n 3, 1) := by decide +kernel
theorem d_LN_overRange_25 : decode b_LN_overRange 25 = .ok (.aload_n 3, 1) := by decide +kernel
theorem d_LN_overRange_26 : decode b_LN_overRange 26 = .ok (.ifnonnull 7, 3) := by decide +kernel
theorem d_LN_overRange_29 : decode b_LN_overRange 29 = .ok (.aconst_null, 1) := by decide +kernel
theorem d_LN_overRange_30 : decode b_LN_overRange 30 = .ok (.goto 13, 3) := by decide +kernel
theorem d_LN_overRange_33 : decode b_LN_overRange 33 = .ok (.new 138, 3) := by decide +kernel
theorem d_LN_overRange_36 : decode b_LN_overRange 36 = .ok (.dup, 1) := by decide +kernel
theorem d_LN_overRange_37 : decode b_LN_overRange 37 = .ok (.aload_n 1, 1) := by decide +kernel
theorem d_LN_overRange_38 : decode b_LN_overRange 38 = .ok (.aload_n 2, 1) := by decide +kernel
theorem d_LN_overRange_39 : decode b_LN_overRange 39 = .ok (.aload_n 3, 1) := by decide +kernel
theorem d_LN_overRange_40 : decode b_LN_overRange 40 = .ok (.invokespecial 140, 3) := by decide +kernel
theorem d_LN_overRange_43 : decode b_LN_overRange 43 = .ok (.areturn, 1) := by decide +kernel
theorem tw_17 : lw_tbl[17]? = some (Cond.selects "FormulaSheet$Line" ⟨"FormulaSheet$Line", "take", "(C)Z"⟩ ⟨"FormulaSheet$Line", "take", "(C)Z"⟩) := by decide +kernel
theorem tw_18 : lw_tbl[18]? = some (Cond.selects "FormulaSheet$Line" ⟨"FormulaSheet$Line", "next", "()I"⟩ ⟨"FormulaSheet$Line", "next", "()I"⟩) := by decide +kernel
theorem tw_23 : lw_tbl[23]? = some (Cond.selects "FormulaSheet$Line" ⟨"FormulaSheet$Line", "nextIsDigit", "()Z"⟩ ⟨"FormulaSheet$Line", "nextIsDigit", "()Z"⟩) := by decide +kernel
theorem tw_25 : lw_tbl[25]? = some (Cond.selects "FormulaSheet$Line" ⟨"FormulaSheet$Line", "digits", "(JI)J"⟩ ⟨"FormulaSheet$Line", "digits", "(JI)J"⟩) := by decide +kernel
theorem tw_26 : lw_tbl[26]? = some (Cond.selects "FormulaSheet$Line" ⟨"FormulaSheet$Line", "takeNext", "()C"⟩ ⟨"FormulaSheet$Line", "takeNext", "()C"⟩) := by decide +kernel
theorem tw_27 : lw_tbl[27]? = some (Cond.selects "FormulaSheet$Line" ⟨"FormulaSheet$Line", "nextIsColumn", "()Z"⟩ ⟨"FormulaSheet$Line", "nextIsColumn", "()Z"⟩) := by decide +kernel
theorem tw_28 : lw_tbl[28]? = some (Cond.selects "FormulaSheet$Line" ⟨"FormulaSheet$Line", "reference", "()LFormulaSheet$Reference;"⟩ ⟨"FormulaSheet$Line", "reference", "()LFormulaSheet$Reference;"⟩) := by decide +kernel
theorem tw_89 : lw_tbl[89]? = some (Jvm.Cond.initialized "FormulaSheet$Line") := by decide +kernel
theorem tw_138 : lw_tbl[138]? = some (Jvm.Cond.methodLink "FormulaSheet$Line" (3 : Nat) ({ cls := "java/lang/Object", name := "<init>", desc := "()V" } : Jvm.MethodName)) := by decide +kernel
theorem tw_139 : lw_tbl[139]? = some (Jvm.Cond.fieldLink "FormulaSheet$Line" (9 : Nat) "FormulaSheet$Line" "characters" "[C") := by decide +kernel
theorem tw_140 : lw_tbl[140]? = some (Jvm.Cond.fieldLink "FormulaSheet$Line" (15 : Nat) "FormulaSheet$Line" "length" "I") := by decide +kernel
theorem tw_142 : lw_tbl[142]? = some (Jvm.Cond.fieldLink "FormulaSheet$Line" (19 : Nat) "FormulaSheet$Line" "at" "I") := by decide +kernel
theorem tw_144 : lw_tbl[144]? = some (Jvm.Cond.fieldLink "FormulaSheet$Line" (22 : Nat) "FormulaSheet$Line" "open" "I") := by decide +kernel
theorem tw_154 : lw_tbl[154]? = some (Jvm.Cond.arrayClass Jvm.ClassFile.FieldType.char) := by decide +kernel
theorem tw_388 : lw_tbl[388]? = some (Jvm.Cond.instantiable "FormulaSheet$Numeral" (3 : Nat)) := by decide +kernel
theorem tw_621 : lw_tbl[621]? = some (Jvm.Cond.methodLink "FormulaSheet$Line" (48 : Nat) ({ cls := "FormulaSheet$Line", name := "take", desc := "(C)Z" } : Jvm.MethodName)) := by decide +kernel
theorem tw_623 : lw_tbl[623]? = some (Jvm.Cond.instanceMethod ({ cls := "FormulaSheet$Line", name := "take", desc := "(C)Z" } : Jvm.MethodName)) := by decide +kernel
theorem tw_624 : lw_tbl[624]? = some (Jvm.Cond.code ({ cls := "FormulaSheet$Line", name := "take", desc := "(C)Z" } : Jvm.MethodName) prog_5_method_8_code (2 : Nat) (Option.some Jvm.ClassFile.FieldType.boolean)) := by decide +kernel
theorem tw_625 : lw_tbl[625]? = some (Jvm.Cond.methodLink "FormulaSheet$Line" (29 : Nat) ({ cls := "FormulaSheet$Line", name := "next", desc := "()I" } : Jvm.MethodName)) := by decide +kernel
theorem tw_627 : lw_tbl[627]? = some (Jvm.Cond.instanceMethod ({ cls := "FormulaSheet$Line", name := "next", desc := "()I" } : Jvm.MethodName)) := by decide +kernel
theorem tw_628 : lw_tbl[628]? = some (Jvm.Cond.code ({ cls := "FormulaSheet$Line", name := "next", desc := "()I" } : Jvm.MethodName) prog_5_method_4_code (1 : Nat) (Option.some Jvm.ClassFile.FieldType.int)) := by decide +kernel
theorem tw_645 : lw_tbl[645]? = some (Jvm.Cond.methodLink "FormulaSheet$Line" (68 : Nat) ({ cls := "FormulaSheet$Line", name := "nextIsDigit", desc := "()Z" } : Jvm.MethodName)) := by decide +kernel
theorem tw_647 : lw_tbl[647]? = some (Jvm.Cond.instanceMethod ({ cls := "FormulaSheet$Line", name := "nextIsDigit", desc := "()Z" } : Jvm.MethodName)) := by decide +kernel
theorem tw_648 : lw_tbl[648]? = some (Jvm.Cond.code ({ cls := "FormulaSheet$Line", name := "nextIsDigit", desc := "()Z" } : Jvm.MethodName) prog_5_method_6_code (1 : Nat) (Option.some Jvm.ClassFile.FieldType.boolean)) := by decide +kernel
theorem tw_653 : lw_tbl[653]? = some (Jvm.Cond.methodLink "FormulaSheet$Line" (148 : Nat) ({ cls := "FormulaSheet$Line", name := "digits", desc := "(JI)J" } : Jvm.MethodName)) := by decide +kernel
theorem tw_655 : lw_tbl[655]? = some (Jvm.Cond.instanceMethod ({ cls := "FormulaSheet$Line", name := "digits", desc := "(JI)J" } : Jvm.MethodName)) := by decide +kernel
theorem tw_656 : lw_tbl[656]? = some (Jvm.Cond.code ({ cls := "FormulaSheet$Line", name := "digits", desc := "(JI)J" } : Jvm.MethodName) prog_5_method_24_code (7 : Nat) (Option.some Jvm.ClassFile.FieldType.long)) := by decide +kernel
theorem tw_657 : lw_tbl[657]? = some (Jvm.Cond.constantLong "FormulaSheet$Line" (157 : Nat) (10 : Int64)) := by decide +kernel
theorem tw_658 : lw_tbl[658]? = some (Jvm.Cond.methodLink "FormulaSheet$Line" (40 : Nat) ({ cls := "FormulaSheet$Line", name := "takeNext", desc := "()C" } : Jvm.MethodName)) := by decide +kernel
theorem tw_660 : lw_tbl[660]? = some (Jvm.Cond.instanceMethod ({ cls := "FormulaSheet$Line", name := "takeNext", desc := "()C" } : Jvm.MethodName)) := by decide +kernel
theorem tw_661 : lw_tbl[661]? = some (Jvm.Cond.code ({ cls := "FormulaSheet$Line", name := "takeNext", desc := "()C" } : Jvm.MethodName) prog_5_method_9_code (2 : Nat) (Option.some Jvm.ClassFile.FieldType.char)) := by decide +kernel
theorem tw_662 : lw_tbl[662]? = some (Jvm.Cond.classLink "FormulaSheet$Line" (152 : Nat) "FormulaSheet$Numeral") := by decide +kernel
theorem tw_663 : lw_tbl[663]? = some (Jvm.Cond.methodLink "FormulaSheet$Line" (154 : Nat) ({ cls := "FormulaSheet$Numeral", name := "<init>", desc := "(JI)V" } : Jvm.MethodName)) := by decide +kernel
theorem tw_664 : lw_tbl[664]? = some (Jvm.Cond.instanceMethod ({ cls := "FormulaSheet$Numeral", name := "<init>", desc := "(JI)V" } : Jvm.MethodName)) := by decide +kernel
theorem tw_665 : lw_tbl[665]? = some (Jvm.Cond.code ({ cls := "FormulaSheet$Numeral", name := "<init>", desc := "(JI)V" } : Jvm.MethodName) prog_7_method_1_code (4 : Nat) (Option.none : Option Jvm.ClassFile.FieldType)) := by decide +kernel
theorem tw_687 : lw_tbl[687]? = some (Jvm.Cond.methodLink "FormulaSheet$Line" (75 : Nat) ({ cls := "FormulaSheet$Line", name := "nextIsColumn", desc := "()Z" } : Jvm.MethodName)) := by decide +kernel
theorem tw_689 : lw_tbl[689]? = some (Jvm.Cond.instanceMethod ({ cls := "FormulaSheet$Line", name := "nextIsColumn", desc := "()Z" } : Jvm.MethodName)) := by decide +kernel
theorem tw_690 : lw_tbl[690]? = some (Jvm.Cond.code ({ cls := "FormulaSheet$Line", name := "nextIsColumn", desc := "()Z" } : Jvm.MethodName) prog_5_method_7_code (1 : Nat) (Option.some Jvm.ClassFile.FieldType.boolean)) := by decide +kernel
theorem tw_691 : lw_tbl[691]? = some (Jvm.Cond.methodLink "FormulaSheet$Line" (78 : Nat) ({ cls := "FormulaSheet$Line", name := "reference", desc := "()LFormulaSheet$Reference;" } : Jvm.MethodName)) := by decide +kernel
theorem tw_693 : lw_tbl[693]? = some (Jvm.Cond.instanceMethod ({ cls := "FormulaSheet$Line", name := "reference", desc := "()LFormulaSheet$Reference;" } : Jvm.MethodName)) := by decide +kernel
theorem tw_694 : lw_tbl[694]? = some (Jvm.Cond.code ({ cls := "FormulaSheet$Line", name := "reference", desc := "()LFormulaSheet$Reference;" } : Jvm.MethodName) prog_5_method_22_code (5 : Nat) (Option.some (Jvm.ClassFile.FieldType.object "FormulaSheet$Reference"))) := by decide +kernel
theorem tw_695 : lw_tbl[695]? = some (Jvm.Cond.classLink "FormulaSheet$Line" (143 : Nat) "FormulaSheet$Reference") := by decide +kernel
theorem tw_696 : lw_tbl[696]? = some (Jvm.Cond.methodLink "FormulaSheet$Line" (145 : Nat) ({ cls := "FormulaSheet$Reference", name := "<init>", desc := "(ZIZI)V" } : Jvm.MethodName)) := by decide +kernel
theorem tw_791 : lw_tbl[791]? = some (Jvm.Cond.classLink "FormulaSheet$Line" (138 : Nat) "FormulaSheet$OverRange") := by decide +kernel
theorem tw_792 : lw_tbl[792]? = some (Jvm.Cond.methodLink "FormulaSheet$Line" (140 : Nat) ({ cls := "FormulaSheet$OverRange", name := "<init>", desc := "(LFormulaSheet$Name;LFormulaSheet$Reference;LFormulaSheet$Reference;)V" } : Jvm.MethodName)) := by decide +kernel
theorem tw_827 : lw_tbl[827]? = some (Jvm.Cond.classLink "FormulaSheet$Line" (159 : Nat) "FormulaSheet$Single") := by decide +kernel
theorem tw_829 : lw_tbl[829]? = some (Jvm.Cond.methodLink "FormulaSheet$Line" (161 : Nat) ({ cls := "FormulaSheet$Single", name := "<init>", desc := "(CLFormulaSheet$Part;)V" } : Jvm.MethodName)) := by decide +kernel
theorem tw_846 : lw_tbl[846]? = some (Jvm.Cond.classLink "FormulaSheet$Line" (164 : Nat) "FormulaSheet$Pair") := by decide +kernel
theorem tw_847 : lw_tbl[847]? = some (Jvm.Cond.methodLink "FormulaSheet$Line" (166 : Nat) ({ cls := "FormulaSheet$Pair", name := "<init>", desc := "(CLFormulaSheet$Part;LFormulaSheet$Part;)V" } : Jvm.MethodName)) := by decide +kernel
def w_LN_init (mc ms : Nat) (E : fs_E) (h : fs_Hp) (a0 : Nat) (Post : fs_Ps) : Prop := ¬ (40 : Int32) < 0 ∧ (Int32.toNatClampNeg 40) * 2 ≤ 536870912 ∧ 1 ≤ mc ∧ (Int32.toNatClampNeg 40) ≤ ms ∧ ∀ a101 : Nat, h a101 = none → (fun h102 : fs_Hp => fs_pw h102 a0 1 0 (.ref a101) (fun h103 => Post (.inl none) h103)) (fs_up h a101 (.inl (E.1.2 4, (Int32.toNatClampNeg 40), .inl (fun _ : Nat => (0 : Int32)))))
set_option maxHeartbeats 4000000 in
set_option maxRecDepth 100000 in
theorem kw_LN_init {l : Launch} {s00 : State} {E : fs_E} (hE : fs_SE l s00 E) {mc ms : Nat} {h : fs_Hp} {a0 : Nat} {Post : fs_Ps} (hq : w_LN_init mc ms E h a0 Post) : fs_Ct l s00 E.1 y_LN_init (.code y_LN_init b_LN_init 1 none) { frames := 1, cells := mc, slots := ms, locals := 20 } [.ref a0] h Post := by
  refine fs_Ct.ofR hE.1 (by decide) ?_
  intro p e R s m below meth c hRf hRl hRc hRs B hout hP
  skip
  obtain ⟨hx, hb, hr, hml, hown, hts, hlocks, hname, hK, hw, htr⟩ := id B
  have hown : s.vm.findClass "FormulaSheet$Line" = some m.cls := hown
  have hS := hw.S
  have hl := lv_entry ([.ref a0]) (n := 1) (Nat.le_of_ble_eq_true rfl)
  rw [lg_entry_eq]
  generalize (lg_sl ([.ref a0]) ++ List.replicate (1 - (lg_sl ([.ref a0])).length) Slot.unset).toArray = ls at hl ⊢
  have hl : lv_has ls 1 [(0, .ref a0)] := hl
  unfold w_LN_init at hq
  refine lv_aload_n hx hb d_LN_init_0 rfl (lv_at hl 0 rfl) ?_
  refine W.objInit hx hb hown (hts _ (fs_tb_at 138 tw_138 rfl)) (hts _ (fs_tb_at 131 tw_131 rfl)) (hts _ (fs_tb_at 132 tw_132 rfl)) rfl (by rw [hml]; exact hl.1) rfl d_LN_init_1 (Nat.le_trans (Nat.le_of_ble_eq_true rfl) hRf) (Nat.le_trans (Nat.le_of_ble_eq_true rfl) hRl) ?_
  refine W.eq (g2 := F0 m 4 ls ([])) rfl ?_
  refine lv_aload_n hx hb d_LN_init_4 rfl (lv_at hl 0 rfl) ?_
  refine lv_bipush (v := 40) hx hb d_LN_init_5 (by decide) ?_
  obtain ⟨hn_, hb_, hc_, hs_, hq⟩ := hq
  refine fs_newa (atype := .char) (a0 := ((Int32.toNatClampNeg 40), .inl (fun _ : Nat => (0 : Int32)))) hx hb (hts _ (fs_tb_at 154 tw_154 rfl)) rfl (by intro C9 h9; cases h9) hK 4 rfl hP hS (fun _ h9 => h9) (fun _ => rfl) hn_ rfl hb_ (by omega) (by omega) d_LN_init_7 (fun a101 H hn_ hP hS => ?_)
  have hq := hq a101 hn_
  generalize eh_ : fs_up h a101 (.inl (E.1.2 4, (Int32.toNatClampNeg 40), .inl (fun _ : Nat => (0 : Int32)))) = h102 at hP hq
  obtain ⟨fs_, h103, e_, hl_, eh_, hq⟩ := fs_pw_some hq
  refine fs_putF hx hb hts hown hK c_LN hP hS e_ 0 (by decide) (hts _ (fs_tb_at 139 tw_139 rfl)) (fun _ h9 => h9) rfl hname rfl rfl rfl hl_ d_LN_init_9 (fun H locs hP hS => ?_)
  rw [← eh_] at hP
  exact fs_vret hx hb hr hlocks hw hP hS (by omega) (by omega) hq d_LN_init_12
def w_LN_add (E : fs_E) (h : fs_Hp) (a0 : Nat) (x1 : Int32) (Post : fs_Ps) : Prop := fs_gr h a0 1 0 (fun a101 => fs_gi h a0 1 1 (fun x102 => fs_si h a101 (E.1.2 4) x102 (vp_nar .char x1) (fun h103 => fs_gi h103 a0 1 1 (fun x104 => fs_pw h103 a0 1 1 (.int (x104 + 1)) (fun h105 => Post (.inl none) h105)))))
set_option maxHeartbeats 4000000 in
set_option maxRecDepth 100000 in
theorem kw_LN_add {l : Launch} {s00 : State} {E : fs_E} (hE : fs_SE l s00 E) {h : fs_Hp} {a0 : Nat} {x1 : Int32} {Post : fs_Ps} (hq : w_LN_add E h a0 x1 Post) : fs_Ct l s00 E.1 y_LN_add (.code y_LN_add b_LN_add 2 none) { frames := 0, cells := 0, slots := 0, locals := 0 } [.ref a0, .int x1] h Post := by
  refine fs_Ct.ofR hE.1 (by decide) ?_
  intro p e R s m below meth c hRf hRl hRc hRs B hout hP
  skip
  obtain ⟨hx, hb, hr, hml, hown, hts, hlocks, hname, hK, hw, htr⟩ := id B
  have hown : s.vm.findClass "FormulaSheet$Line" = some m.cls := hown
  have hS := hw.S
  have hl := lv_entry ([.ref a0, .int x1]) (n := 2) (Nat.le_of_ble_eq_true rfl)
  rw [lg_entry_eq]
  generalize (lg_sl ([.ref a0, .int x1]) ++ List.replicate (2 - (lg_sl ([.ref a0, .int x1])).length) Slot.unset).toArray = ls at hl ⊢
  have hl : lv_has ls 2 [(0, .ref a0), (1, .int x1)] := hl
  unfold w_LN_add at hq
  refine lv_aload_n hx hb d_LN_add_0 rfl (lv_at hl 0 rfl) ?_
  obtain ⟨fs_, a101, he_, hv_, hq⟩ := fs_gr_some hq
  refine fs_get hx hb hts hown hK c_LN hP he_ 0 (by decide) (hts _ (fs_tb_at 139 tw_139 rfl)) (fun _ h9 => h9) hv_ d_LN_add_1 ?_
  refine lv_aload_n hx hb d_LN_add_4 rfl (lv_at hl 0 rfl) ?_
  obtain ⟨fs_, x102, he_, hv_, hq⟩ := fs_gi_some hq
  refine fs_get hx hb hts hown hK c_LN hP he_ 1 (by decide) (hts _ (fs_tb_at 140 tw_140 rfl)) (fun _ h9 => h9) hv_ d_LN_add_5 ?_
  refine lv_iload_n hx hb d_LN_add_8 rfl (lv_at hl 1 rfl) ?_
  obtain ⟨n_, f_, h103, e_, hi_, eh_, hq⟩ := fs_si_some hq
  refine fs_cast hx hb hK hP hS 4 e_ rfl hi_ d_LN_add_9 (fun H locs hP hS => ?_)
  rw [← eh_] at hP
  refine lv_aload_n hx hb d_LN_add_10 rfl (lv_at hl 0 rfl) ?_
  refine lv_dup hx hb d_LN_add_11 rfl ?_
  obtain ⟨fs_, x104, he_, hv_, hq⟩ := fs_gi_some hq
  refine fs_get hx hb hts hown hK c_LN hP he_ 1 (by decide) (hts _ (fs_tb_at 140 tw_140 rfl)) (fun _ h9 => h9) hv_ d_LN_add_12 ?_
  refine lv_iconst (v := 1) hx hb d_LN_add_15 (by decide) ?_
  refine lv_iadd hx hb d_LN_add_16 ?_
  obtain ⟨fs_, h105, e_, hl_, eh_, hq⟩ := fs_pw_some hq
  refine fs_put hx hb hts hown hK c_LN hP hS e_ 1 (by decide) (hts _ (fs_tb_at 140 tw_140 rfl)) (fun _ h9 => h9) rfl rfl rfl hl_ d_LN_add_17 (fun H locs hP hS => ?_)
  rw [← eh_] at hP
  exact fs_vret hx hb hr hlocks hw hP hS (Nat.le_refl _) (Nat.le_refl _) hq d_LN_add_20
def w_LN_next (E : fs_E) (h : fs_Hp) (a0 : Nat) (Post : fs_Ps) : Prop := fs_gi h a0 1 2 (fun x101 => fs_gi h a0 1 1 (fun x102 => (if x102 ≤ x101 then Post (.inl (some (.int (-1)))) h else fs_gr h a0 1 0 (fun a104 => fs_gi h a0 1 2 (fun x105 => fs_ai h a104 (E.1.2 4) x105 (fun x106 => Post (.inl (some (.int x106))) h))))))
set_option maxHeartbeats 4000000 in
set_option maxRecDepth 100000 in
theorem kw_LN_next {l : Launch} {s00 : State} {E : fs_E} (hE : fs_SE l s00 E) {h : fs_Hp} {a0 : Nat} {Post : fs_Ps} (hq : w_LN_next E h a0 Post) : fs_Ct l s00 E.1 y_LN_next (.code y_LN_next b_LN_next 1 (some .int)) { frames := 0, cells := 0, slots := 0, locals := 0 } [.ref a0] h Post := by
  refine fs_Ct.ofR hE.1 (by decide) ?_
  intro p e R s m below meth c hRf hRl hRc hRs B hout hP
  skip
  obtain ⟨hx, hb, hr, hml, hown, hts, hlocks, hname, hK, hw, htr⟩ := id B
  have hown : s.vm.findClass "FormulaSheet$Line" = some m.cls := hown
  have hS := hw.S
  have hl := lv_entry ([.ref a0]) (n := 1) (Nat.le_of_ble_eq_true rfl)
  rw [lg_entry_eq]
  generalize (lg_sl ([.ref a0]) ++ List.replicate (1 - (lg_sl ([.ref a0])).length) Slot.unset).toArray = ls at hl ⊢
  have hl : lv_has ls 1 [(0, .ref a0)] := hl
  unfold w_LN_next at hq
  refine lv_aload_n hx hb d_LN_next_0 rfl (lv_at hl 0 rfl) ?_
  obtain ⟨fs_, x101, he_, hv_, hq⟩ := fs_gi_some hq
  refine fs_get hx hb hts hown hK c_LN hP he_ 2 (by decide) (hts _ (fs_tb_at 142 tw_142 rfl)) (fun _ h9 => h9) hv_ d_LN_next_1 ?_
  refine lv_aload_n hx hb d_LN_next_4 rfl (lv_at hl 0 rfl) ?_
  obtain ⟨fs_, x102, he_, hv_, hq⟩ := fs_gi_some hq
  refine fs_get hx hb hts hown hK c_LN hP he_ 1 (by decide) (hts _ (fs_tb_at 140 tw_140 rfl)) (fun _ h9 => h9) hv_ d_LN_next_5 ?_
  refine lv_icmp_ge (tgt := 23) hx hb d_LN_next_8 (by decide) (fun c_103 => ?_) (fun c_103 => ?_)
  · have hq := fs_wifp c_103 hq
    refine lv_iconst (v := (-1)) hx hb d_LN_next_23 (by decide) ?_
    exact fs_iret hx hb hr hlocks hw hP hS (vp_nar_int _) (Nat.le_refl _) (Nat.le_refl _) hq d_LN_next_24
  · have hq := fs_wifn c_103 hq
    refine lv_aload_n hx hb d_LN_next_11 rfl (lv_at hl 0 rfl) ?_
    obtain ⟨fs_, a104, he_, hv_, hq⟩ := fs_gr_some hq
    refine fs_get hx hb hts hown hK c_LN hP he_ 0 (by decide) (hts _ (fs_tb_at 139 tw_139 rfl)) (fun _ h9 => h9) hv_ d_LN_next_12 ?_
    refine lv_aload_n hx hb d_LN_next_15 rfl (lv_at hl 0 rfl) ?_
    obtain ⟨fs_, x105, he_, hv_, hq⟩ := fs_gi_some hq
    refine fs_get hx hb hts hown hK c_LN hP he_ 2 (by decide) (hts _ (fs_tb_at 142 tw_142 rfl)) (fun _ h9 => h9) hv_ d_LN_next_16 ?_
    obtain ⟨n_, f_, x106, e_, hi_, ex_, hq⟩ := fs_ai_some hq
    refine fs_cald hx hb hK hP 4 e_ rfl hi_ d_LN_next_19 ?_
    rw [← ex_]
    refine lv_goto (tgt := 24) hx hb d_LN_next_20 (by decide) ?_
    exact fs_iret hx hb hr hlocks hw hP hS (vp_nar_int _) (Nat.le_refl _) (Nat.le_refl _) hq d_LN_next_24
def w_LN_nextIs (E : fs_E) (h : fs_Hp) (a0 : Nat) (x1 : Int32) (x2 : Int32) (Post : fs_Ps) : Prop := fs_isc h a0 1 ∧ (w_LN_next E h a0 (fs_ki (fun x102 h101 => (if x102 = x1 then Post (.inl (some (.int 1))) h101 else fs_isc h101 a0 1 ∧ (w_LN_next E h101 a0 (fs_ki (fun x105 h104 => (if x105 = x2 then Post (.inl (some (.int 1))) h104 else Post (.inl (some (.int 0))) h104)) (fun C_ h_ => Post (.inr C_) h_))))) (fun C_ h_ => Post (.inr C_) h_)))
set_option maxHeartbeats 4000000 in
set_option maxRecDepth 100000 in
theorem kw_LN_nextIs {l : Launch} {s00 : State} {E : fs_E} (hE : fs_SE l s00 E) {h : fs_Hp} {a0 : Nat} {x1 : Int32} {x2 : Int32} {Post : fs_Ps} (hq : w_LN_nextIs E h a0 x1 x2 Post) : fs_Ct l s00 E.1 y_LN_nextIs (.code y_LN_nextIs b_LN_nextIs 3 (some .boolean)) { frames := 1, cells := 0, slots := 0, locals := 12 } [.ref a0, .int x1, .int x2] h Post := by
  refine fs_Ct.ofR hE.1 (by decide) ?_
  intro p e R s m below meth c hRf hRl hRc hRs B hout hP
  skip
  obtain ⟨hx, hb, hr, hml, hown, hts, hlocks, hname, hK, hw, htr⟩ := id B
  have hown : s.vm.findClass "FormulaSheet$Line" = some m.cls := hown
  have hS := hw.S
  have hl := lv_entry ([.ref a0, .int x1, .int x2]) (n := 3) (Nat.le_of_ble_eq_true rfl)
  rw [lg_entry_eq]
  generalize (lg_sl ([.ref a0, .int x1, .int x2]) ++ List.replicate (3 - (lg_sl ([.ref a0, .int x1, .int x2])).length) Slot.unset).toArray = ls at hl ⊢
  have hl : lv_has ls 3 [(0, .ref a0), (1, .int x1), (2, .int x2)] := hl
  unfold w_LN_nextIs at hq
  refine lv_aload_n hx hb d_LN_nextIs_0 rfl (lv_at hl 0 rfl) ?_
  obtain ⟨hi_, hq⟩ := hq
  obtain ⟨fs_, he_⟩ := fs_isc_some hi_
  refine fs_cV B hl.1 hP hS (kw_LN_next hE hq) (fs_tb_at 625 tw_625 rfl) he_ rfl (fs_tb_at 627 tw_627 rfl) (fs_tb_at 18 tw_18 rfl) (fs_tb_at 89 tw_89 rfl) (fs_tb_at 628 tw_628 rfl) (by decide) (show (parseMethodDescriptor y_LN_next.desc).map (fun d => d.parameters.length) = some 0 by decide +kernel) rfl d_LN_nextIs_1 (fs_rm (k := 0) (by omega) (by omega) (by omega) (by omega) rfl) (fun v_ h101 H locs hq hP hS => ?_) (fun C_ a_ h_ H locs hq hP hS hX => fs_out (hout _) hlocks hw hP hS hX (Nat.le_of_ble_eq_true rfl) (Nat.le_of_ble_eq_true rfl) hq)
  refine fs_cs (k := 0) (n := 0) rfl rfl ?_
  replace hq := fs_ki_some hq
  obtain ⟨x102, rfl, hq⟩ := hq
  refine W.eq (g2 := F0 m 4 ls (.int x102 :: [])) rfl ?_
  refine lv_iload_n hx hb d_LN_nextIs_4 rfl (lv_at hl 1 rfl) ?_
  refine lv_icmp_eq (tgt := 16) hx hb d_LN_nextIs_5 (by decide) (fun c_103 => ?_) (fun c_103 => ?_)
  · have hq := fs_wifp c_103 hq
    refine lv_iconst (v := 1) hx hb d_LN_nextIs_16 (by decide) ?_
    refine lv_goto (tgt := 21) hx hb d_LN_nextIs_17 (by decide) ?_
    exact fs_iret hx hb hr hlocks hw hP hS (by decide) (Nat.le_refl _) (Nat.le_refl _) hq d_LN_nextIs_21
  · have hq := fs_wifn c_103 hq
    refine lv_aload_n hx hb d_LN_nextIs_8 rfl (lv_at hl 0 rfl) ?_
    obtain ⟨hi_, hq⟩ := hq
    obtain ⟨fs_, he_⟩ := fs_isc_some hi_
    refine fs_cV B hl.1 hP hS (kw_LN_next hE hq) (fs_tb_at 625 tw_625 rfl) he_ rfl (fs_tb_at 627 tw_627 rfl) (fs_tb_at 18 tw_18 rfl) (fs_tb_at 89 tw_89 rfl) (fs_tb_at 628 tw_628 rfl) (by decide) (show (parseMethodDescriptor y_LN_next.desc).map (fun d => d.parameters.length) = some 0 by decide +kernel) rfl d_LN_nextIs_9 (fs_rm (k := 0) (by omega) (by omega) (by omega) (by omega) rfl) (fun v_ h104 H locs hq hP hS => ?_) (fun C_ a_ h_ H locs hq hP hS hX => fs_out (hout _) hlocks hw hP hS hX (Nat.le_of_ble_eq_true rfl) (Nat.le_of_ble_eq_true rfl) hq)
    refine fs_cs (k := 0) (n := 0) rfl rfl ?_
    replace hq := fs_ki_some hq
    obtain ⟨x105, rfl, hq⟩ := hq
    refine W.eq (g2 := F0 m 12 ls (.int x105 :: [])) rfl ?_
    refine lv_iload_n hx hb d_LN_nextIs_12 rfl (lv_at hl 2 rfl) ?_
    refine lv_icmp_ne (tgt := 20) hx hb d_LN_nextIs_13 (by decide) (fun c_106 => ?_) (fun c_106 => ?_)
    · have hq := fs_wifn c_106 hq
      refine lv_iconst (v := 0) hx hb d_LN_nextIs_20 (by decide) ?_
      exact fs_iret hx hb hr hlocks hw hP hS (by decide) (Nat.le_refl _) (Nat.le_refl _) hq d_LN_nextIs_21
    · have hq := fs_wifp c_106 hq
      refine lv_iconst (v := 1) hx hb d_LN_nextIs_16 (by decide) ?_
      refine lv_goto (tgt := 21) hx hb d_LN_nextIs_17 (by decide) ?_
      exact fs_iret hx hb hr hlocks hw hP hS (by decide) (Nat.le_refl _) (Nat.le_refl _) hq d_LN_nextIs_21
def w_LN_nextIsDigit (E : fs_E) (h : fs_Hp) (a0 : Nat) (Post : fs_Ps) : Prop := fs_isc h a0 1 ∧ (w_LN_next E h a0 (fs_ki (fun x102 h101 => (if x102 < 48 then Post (.inl (some (.int 0))) h101 else fs_isc h101 a0 1 ∧ (w_LN_next E h101 a0 (fs_ki (fun x105 h104 => (if 57 < x105 then Post (.inl (some (.int 0))) h104 else Post (.inl (some (.int 1))) h104)) (fun C_ h_ => Post (.inr C_) h_))))) (fun C_ h_ => Post (.inr C_) h_)))
set_option maxHeartbeats 4000000 in
set_option maxRecDepth 100000 in
theorem kw_LN_nextIsDigit {l : Launch} {s00 : State} {E : fs_E} (hE : fs_SE l s00 E) {h : fs_Hp} {a0 : Nat} {Post : fs_Ps} (hq : w_LN_nextIsDigit E h a0 Post) : fs_Ct l s00 E.1 y_LN_nextIsDigit (.code y_LN_nextIsDigit b_LN_nextIsDigit 1 (some .boolean)) { frames := 1, cells := 0, slots := 0, locals := 12 } [.ref a0] h Post := by
  refine fs_Ct.ofR hE.1 (by decide) ?_
  intro p e R s m below meth c hRf hRl hRc hRs B hout hP
  skip
  obtain ⟨hx, hb, hr, hml, hown, hts, hlocks, hname, hK, hw, htr⟩ := id B
  have hown : s.vm.findClass "FormulaSheet$Line" = some m.cls := hown
  have hS := hw.S
  have hl := lv_entry ([.ref a0]) (n := 1) (Nat.le_of_ble_eq_true rfl)
  rw [lg_entry_eq]
  generalize (lg_sl ([.ref a0]) ++ List.replicate (1 - (lg_sl ([.ref a0])).length) Slot.unset).toArray = ls at hl ⊢
  have hl : lv_has ls 1 [(0, .ref a0)] := hl
  unfold w_LN_nextIsDigit at hq
  refine lv_aload_n hx hb d_LN_nextIsDigit_0 rfl (lv_at hl 0 rfl) ?_
  obtain ⟨hi_, hq⟩ := hq
  obtain ⟨fs_, he_⟩ := fs_isc_some hi_
  refine fs_cV B hl.1 hP hS (kw_LN_next hE hq) (fs_tb_at 625 tw_625 rfl) he_ rfl (fs_tb_at 627 tw_627 rfl) (fs_tb_at 18 tw_18 rfl) (fs_tb_at 89 tw_89 rfl) (fs_tb_at 628 tw_628 rfl) (by decide) (show (parseMethodDescriptor y_LN_next.desc).map (fun d => d.parameters.length) = some 0 by decide +kernel) rfl d_LN_nextIsDigit_1 (fs_rm (k := 0) (by omega) (by omega) (by omega) (by omega) rfl) (fun v_ h101 H locs hq hP hS => ?_) (fun C_ a_ h_ H locs hq hP hS hX => fs_out (hout _) hlocks hw hP hS hX (Nat.le_of_ble_eq_true rfl) (Nat.le_of_ble_eq_true rfl) hq)
  refine fs_cs (k := 0) (n := 0) rfl rfl ?_
  replace hq := fs_ki_some hq
  obtain ⟨x102, rfl, hq⟩ := hq
  refine W.eq (g2 := F0 m 4 ls (.int x102 :: [])) rfl ?_
  refine lv_bipush (v := 48) hx hb d_LN_nextIsDigit_4 (by decide) ?_
  refine lv_icmp_lt (tgt := 22) hx hb d_LN_nextIsDigit_6 (by decide) (fun c_103 => ?_) (fun c_103 => ?_)
  · have hq := fs_wifp c_103 hq
    refine lv_iconst (v := 0) hx hb d_LN_nextIsDigit_22 (by decide) ?_
    exact fs_iret hx hb hr hlocks hw hP hS (by decide) (Nat.le_refl _) (Nat.le_refl _) hq d_LN_nextIsDigit_23
  · have hq := fs_wifn c_103 hq
    refine lv_aload_n hx hb d_LN_nextIsDigit_9 rfl (lv_at hl 0 rfl) ?_
    obtain ⟨hi_, hq⟩ := hq
    obtain ⟨fs_, he_⟩ := fs_isc_some hi_
    refine fs_cV B hl.1 hP hS (kw_LN_next hE hq) (fs_tb_at 625 tw_625 rfl) he_ rfl (fs_tb_at 627 tw_627 rfl) (fs_tb_at 18 tw_18 rfl) (fs_tb_at 89 tw_89 rfl) (fs_tb_at 628 tw_628 rfl) (by decide) (show (parseMethodDescriptor y_LN_next.desc).map (fun d => d.parameters.length) = some 0 by decide +kernel) rfl d_LN_nextIsDigit_10 (fs_rm (k := 0) (by omega) (by omega) (by omega) (by omega) rfl) (fun v_ h104 H locs hq hP hS => ?_) (fun C_ a_ h_ H locs hq hP hS hX => fs_out (hout _) hlocks hw hP hS hX (Nat.le_of_ble_eq_true rfl) (Nat.le_of_ble_eq_true rfl) hq)
    refine fs_cs (k := 0) (n := 0) rfl rfl ?_
    replace hq := fs_ki_some hq
    obtain ⟨x105, rfl, hq⟩ := hq
    refine W.eq (g2 := F0 m 13 ls (.int x105 :: [])) rfl ?_
    refine lv_bipush (v := 57) hx hb d_LN_nextIsDigit_13 (by decide) ?_
    refine lv_icmp_gt (tgt := 22) hx hb d_LN_nextIsDigit_15 (by decide) (fun c_106 => ?_) (fun c_106 => ?_)
    · have hq := fs_wifp c_106 hq
      refine lv_iconst (v := 0) hx hb d_LN_nextIsDigit_22 (by decide) ?_
      exact fs_iret hx hb hr hlocks hw hP hS (by decide) (Nat.le_refl _) (Nat.le_refl _) hq d_LN_nextIsDigit_23
    · have hq := fs_wifn c_106 hq
      refine lv_iconst (v := 1) hx hb d_LN_nextIsDigit_18 (by decide) ?_
      refine lv_goto (tgt := 23) hx hb d_LN_nextIsDigit_19 (by decide) ?_
      exact fs_iret hx hb hr hlocks hw hP hS (by decide) (Nat.le_refl _) (Nat.le_refl _) hq d_LN_nextIsDigit_23
def w_LN_nextIsColumn (E : fs_E) (h : fs_Hp) (a0 : Nat) (Post : fs_Ps) : Prop := fs_isc h a0 1 ∧ (w_LN_next E h a0 (fs_ki (fun x102 h101 => (if x102 < 97 then Post (.inl (some (.int 0))) h101 else fs_isc h101 a0 1 ∧ (w_LN_next E h101 a0 (fs_ki (fun x105 h104 => (if 105 ≤ x105 then Post (.inl (some (.int 0))) h104 else Post (.inl (some (.int 1))) h104)) (fun C_ h_ => Post (.inr C_) h_))))) (fun C_ h_ => Post (.inr C_) h_)))
set_option maxHeartbeats 4000000 in
set_option maxRecDepth 100000 in
theorem kw_LN_nextIsColumn {l : Launch} {s00 : State} {E : fs_E} (hE : fs_SE l s00 E) {h : fs_Hp} {a0 : Nat} {Post : fs_Ps} (hq : w_LN_nextIsColumn E h a0 Post) : fs_Ct l s00 E.1 y_LN_nextIsColumn (.code y_LN_nextIsColumn b_LN_nextIsColumn 1 (some .boolean)) { frames := 1, cells := 0, slots := 0, locals := 12 } [.ref a0] h Post := by
  refine fs_Ct.ofR hE.1 (by decide) ?_
  intro p e R s m below meth c hRf hRl hRc hRs B hout hP
  skip
  obtain ⟨hx, hb, hr, hml, hown, hts, hlocks, hname, hK, hw, htr⟩ := id B
  have hown : s.vm.findClass "FormulaSheet$Line" = some m.cls := hown
  have hS := hw.S
  have hl := lv_entry ([.ref a0]) (n := 1) (Nat.le_of_ble_eq_true rfl)
  rw [lg_entry_eq]
  generalize (lg_sl ([.ref a0]) ++ List.replicate (1 - (lg_sl ([.ref a0])).length) Slot.unset).toArray = ls at hl ⊢
  have hl : lv_has ls 1 [(0, .ref a0)] := hl
  unfold w_LN_nextIsColumn at hq
  refine lv_aload_n hx hb d_LN_nextIsColumn_0 rfl (lv_at hl 0 rfl) ?_
  obtain ⟨hi_, hq⟩ := hq
  obtain ⟨fs_, he_⟩ := fs_isc_some hi_
  refine fs_cV B hl.1 hP hS (kw_LN_next hE hq) (fs_tb_at 625 tw_625 rfl) he_ rfl (fs_tb_at 627 tw_627 rfl) (fs_tb_at 18 tw_18 rfl) (fs_tb_at 89 tw_89 rfl) (fs_tb_at 628 tw_628 rfl) (by decide) (show (parseMethodDescriptor y_LN_next.desc).map (fun d => d.parameters.length) = some 0 by decide +kernel) rfl d_LN_nextIsColumn_1 (fs_rm (k := 0) (by omega) (by omega) (by omega) (by omega) rfl) (fun v_ h101 H locs hq hP hS => ?_) (fun C_ a_ h_ H locs hq hP hS hX => fs_out (hout _) hlocks hw hP hS hX (Nat.le_of_ble_eq_true rfl) (Nat.le_of_ble_eq_true rfl) hq)
  refine fs_cs (k := 0) (n := 0) rfl rfl ?_
  replace hq := fs_ki_some hq
  obtain ⟨x102, rfl, hq⟩ := hq
  refine W.eq (g2 := F0 m 4 ls (.int x102 :: [])) rfl ?_
  refine lv_bipush (v := 97) hx hb d_LN_nextIsColumn_4 (by decide) ?_
  refine lv_icmp_lt (tgt := 22) hx hb d_LN_nextIsColumn_6 (by decide) (fun c_103 => ?_) (fun c_103 => ?_)
  · have hq := fs_wifp c_103 hq
    refine lv_iconst (v := 0) hx hb d_LN_nextIsColumn_22 (by decide) ?_
    exact fs_iret hx hb hr hlocks hw hP hS (by decide) (Nat.le_refl _) (Nat.le_refl _) hq d_LN_nextIsColumn_23
  · have hq := fs_wifn c_103 hq
    refine lv_aload_n hx hb d_LN_nextIsColumn_9 rfl (lv_at hl 0 rfl) ?_
    obtain ⟨hi_, hq⟩ := hq
    obtain ⟨fs_, he_⟩ := fs_isc_some hi_
    refine fs_cV B hl.1 hP hS (kw_LN_next hE hq) (fs_tb_at 625 tw_625 rfl) he_ rfl (fs_tb_at 627 tw_627 rfl) (fs_tb_at 18 tw_18 rfl) (fs_tb_at 89 tw_89 rfl) (fs_tb_at 628 tw_628 rfl) (by decide) (show (parseMethodDescriptor y_LN_next.desc).map (fun d => d.parameters.length) = some 0 by decide +kernel) rfl d_LN_nextIsColumn_10 (fs_rm (k := 0) (by omega) (by omega) (by omega) (by omega) rfl) (fun v_ h104 H locs hq hP hS => ?_) (fun C_ a_ h_ H locs hq hP hS hX => fs_out (hout _) hlocks hw hP hS hX (Nat.le_of_ble_eq_true rfl) (Nat.le_of_ble_eq_true rfl) hq)
    refine fs_cs (k := 0) (n := 0) rfl rfl ?_
    replace hq := fs_ki_some hq
    obtain ⟨x105, rfl, hq⟩ := hq
    refine W.eq (g2 := F0 m 13 ls (.int x105 :: [])) rfl ?_
    refine lv_bipush (v := 105) hx hb d_LN_nextIsColumn_13 (by decide) ?_
    refine lv_icmp_ge (tgt := 22) hx hb d_LN_nextIsColumn_15 (by decide) (fun c_106 => ?_) (fun c_106 => ?_)
    · have hq := fs_wifp c_106 hq
      refine lv_iconst (v := 0) hx hb d_LN_nextIsColumn_22 (by decide) ?_
      exact fs_iret hx hb hr hlocks hw hP hS (by decide) (Nat.le_refl _) (Nat.le_refl _) hq d_LN_nextIsColumn_23
    · have hq := fs_wifn c_106 hq
      refine lv_iconst (v := 1) hx hb d_LN_nextIsColumn_18 (by decide) ?_
      refine lv_goto (tgt := 23) hx hb d_LN_nextIsColumn_19 (by decide) ?_
      exact fs_iret hx hb hr hlocks hw hP hS (by decide) (Nat.le_refl _) (Nat.le_refl _) hq d_LN_nextIsColumn_23
def w_LN_take (E : fs_E) (h : fs_Hp) (a0 : Nat) (x1 : Int32) (Post : fs_Ps) : Prop := fs_isc h a0 1 ∧ (w_LN_next E h a0 (fs_ki (fun x102 h101 => (if x102 = x1 then fs_gi h101 a0 1 2 (fun x104 => fs_pw h101 a0 1 2 (.int (x104 + 1)) (fun h105 => Post (.inl (some (.int 1))) h105)) else Post (.inl (some (.int 0))) h101)) (fun C_ h_ => Post (.inr C_) h_)))
set_option maxHeartbeats 4000000 in
set_option maxRecDepth 100000 in
theorem kw_LN_take {l : Launch} {s00 : State} {E : fs_E} (hE : fs_SE l s00 E) {h : fs_Hp} {a0 : Nat} {x1 : Int32} {Post : fs_Ps} (hq : w_LN_take E h a0 x1 Post) : fs_Ct l s00 E.1 y_LN_take (.code y_LN_take b_LN_take 2 (some .boolean)) { frames := 1, cells := 0, slots := 0, locals := 12 } [.ref a0, .int x1] h Post := by
  refine fs_Ct.ofR hE.1 (by decide) ?_
  intro p e R s m below meth c hRf hRl hRc hRs B hout hP
  skip
  obtain ⟨hx, hb, hr, hml, hown, hts, hlocks, hname, hK, hw, htr⟩ := id B
  have hown : s.vm.findClass "FormulaSheet$Line" = some m.cls := hown
  have hS := hw.S
  have hl := lv_entry ([.ref a0, .int x1]) (n := 2) (Nat.le_of_ble_eq_true rfl)
  rw [lg_entry_eq]
  generalize (lg_sl ([.ref a0, .int x1]) ++ List.replicate (2 - (lg_sl ([.ref a0, .int x1])).length) Slot.unset).toArray = ls at hl ⊢
  have hl : lv_has ls 2 [(0, .ref a0), (1, .int x1)] := hl
  unfold w_LN_take at hq
  refine lv_aload_n hx hb d_LN_take_0 rfl (lv_at hl 0 rfl) ?_
  obtain ⟨hi_, hq⟩ := hq
  obtain ⟨fs_, he_⟩ := fs_isc_some hi_
  refine fs_cV B hl.1 hP hS (kw_LN_next hE hq) (fs_tb_at 625 tw_625 rfl) he_ rfl (fs_tb_at 627 tw_627 rfl) (fs_tb_at 18 tw_18 rfl) (fs_tb_at 89 tw_89 rfl) (fs_tb_at 628 tw_628 rfl) (by decide) (show (parseMethodDescriptor y_LN_next.desc).map (fun d => d.parameters.length) = some 0 by decide +kernel) rfl d_LN_take_1 (fs_rm (k := 0) (by omega) (by omega) (by omega) (by omega) rfl) (fun v_ h101 H locs hq hP hS => ?_) (fun C_ a_ h_ H locs hq hP hS hX => fs_out (hout _) hlocks hw hP hS hX (Nat.le_of_ble_eq_true rfl) (Nat.le_of_ble_eq_true rfl) hq)
  refine fs_cs (k := 0) (n := 0) rfl rfl ?_
  replace hq := fs_ki_some hq
  obtain ⟨x102, rfl, hq⟩ := hq
  refine W.eq (g2 := F0 m 4 ls (.int x102 :: [])) rfl ?_
  refine lv_iload_n hx hb d_LN_take_4 rfl (lv_at hl 1 rfl) ?_
  refine lv_icmp_eq (tgt := 10) hx hb d_LN_take_5 (by decide) (fun c_103 => ?_) (fun c_103 => ?_)
  · have hq := fs_wifp c_103 hq
    refine lv_aload_n hx hb d_LN_take_10 rfl (lv_at hl 0 rfl) ?_
    refine lv_dup hx hb d_LN_take_11 rfl ?_
    obtain ⟨fs_, x104, he_, hv_, hq⟩ := fs_gi_some hq
    refine fs_get hx hb hts hown hK c_LN hP he_ 2 (by decide) (hts _ (fs_tb_at 142 tw_142 rfl)) (fun _ h9 => h9) hv_ d_LN_take_12 ?_
    refine lv_iconst (v := 1) hx hb d_LN_take_15 (by decide) ?_
    refine lv_iadd hx hb d_LN_take_16 ?_
    obtain ⟨fs_, h105, e_, hl_, eh_, hq⟩ := fs_pw_some hq
    refine fs_put hx hb hts hown hK c_LN hP hS e_ 2 (by decide) (hts _ (fs_tb_at 142 tw_142 rfl)) (fun _ h9 => h9) rfl rfl rfl hl_ d_LN_take_17 (fun H locs hP hS => ?_)
    rw [← eh_] at hP
    refine lv_iconst (v := 1) hx hb d_LN_take_20 (by decide) ?_
    exact fs_iret hx hb hr hlocks hw hP hS (by decide) (Nat.le_refl _) (Nat.le_refl _) hq d_LN_take_21
  · have hq := fs_wifn c_103 hq
    refine lv_iconst (v := 0) hx hb d_LN_take_8 (by decide) ?_
    exact fs_iret hx hb hr hlocks hw hP hS (by decide) (Nat.le_refl _) (Nat.le_refl _) hq d_LN_take_9
def w_LN_takeNext (E : fs_E) (h : fs_Hp) (a0 : Nat) (Post : fs_Ps) : Prop := fs_isc h a0 1 ∧ (w_LN_next E h a0 (fs_ki (fun x102 h101 => fs_gi h101 a0 1 2 (fun x103 => fs_pw h101 a0 1 2 (.int (x103 + 1)) (fun h104 => (narrow .char (.int ((Int32.toUInt32 x102 % 65536).toInt32)) = (.int ((Int32.toUInt32 x102 % 65536).toInt32))) ∧ (Post (.inl (some (.int ((Int32.toUInt32 x102 % 65536).toInt32)))) h104)))) (fun C_ h_ => Post (.inr C_) h_)))
set_option maxHeartbeats 4000000 in
set_option maxRecDepth 100000 in
theorem kw_LN_takeNext {l : Launch} {s00 : State} {E : fs_E} (hE : fs_SE l s00 E) {h : fs_Hp} {a0 : Nat} {Post : fs_Ps} (hq : w_LN_takeNext E h a0 Post) : fs_Ct l s00 E.1 y_LN_takeNext (.code y_LN_takeNext b_LN_takeNext 2 (some .char)) { frames := 1, cells := 0, slots := 0, locals := 12 } [.ref a0] h Post := by
  refine fs_Ct.ofR hE.1 (by decide) ?_
  intro p e R s m below meth c hRf hRl hRc hRs B hout hP
  skip
  obtain ⟨hx, hb, hr, hml, hown, hts, hlocks, hname, hK, hw, htr⟩ := id B
  have hown : s.vm.findClass "FormulaSheet$Line" = some m.cls := hown
  have hS := hw.S
  have hl := lv_entry ([.ref a0]) (n := 2) (Nat.le_of_ble_eq_true rfl)
  rw [lg_entry_eq]
  generalize (lg_sl ([.ref a0]) ++ List.replicate (2 - (lg_sl ([.ref a0])).length) Slot.unset).toArray = ls at hl ⊢
  have hl : lv_has ls 2 [(0, .ref a0)] := hl
  unfold w_LN_takeNext at hq
  refine lv_aload_n hx hb d_LN_takeNext_0 rfl (lv_at hl 0 rfl) ?_
  obtain ⟨hi_, hq⟩ := hq
  obtain ⟨fs_, he_⟩ := fs_isc_some hi_
  refine fs_cV B hl.1 hP hS (kw_LN_next hE hq) (fs_tb_at 625 tw_625 rfl) he_ rfl (fs_tb_at 627 tw_627 rfl) (fs_tb_at 18 tw_18 rfl) (fs_tb_at 89 tw_89 rfl) (fs_tb_at 628 tw_628 rfl) (by decide) (show (parseMethodDescriptor y_LN_next.desc).map (fun d => d.parameters.length) = some 0 by decide +kernel) rfl d_LN_takeNext_1 (fs_rm (k := 0) (by omega) (by omega) (by omega) (by omega) rfl) (fun v_ h101 H locs hq hP hS => ?_) (fun C_ a_ h_ H locs hq hP hS hX => fs_out (hout _) hlocks hw hP hS hX (Nat.le_of_ble_eq_true rfl) (Nat.le_of_ble_eq_true rfl) hq)
  refine fs_cs (k := 0) (n := 0) rfl rfl ?_
  replace hq := fs_ki_some hq
  obtain ⟨x102, rfl, hq⟩ := hq
  refine W.eq (g2 := F0 m 4 ls (.int x102 :: [])) rfl ?_
  refine lv_i2c hx hb d_LN_takeNext_4 rfl ?_
  refine lv_istore_n (lv' := [(1, .int ((Int32.toUInt32 x102 % 65536).toInt32)), (0, .ref a0)]) hx hb d_LN_takeNext_5 rfl hl (by decide) rfl (fun ls hl => ?_)
  refine lv_aload_n hx hb d_LN_takeNext_6 rfl (lv_at hl 1 rfl) ?_
  refine lv_dup hx hb d_LN_takeNext_7 rfl ?_
  obtain ⟨fs_, x103, he_, hv_, hq⟩ := fs_gi_some hq
  refine fs_get hx hb hts hown hK c_LN hP he_ 2 (by decide) (hts _ (fs_tb_at 142 tw_142 rfl)) (fun _ h9 => h9) hv_ d_LN_takeNext_8 ?_
  refine lv_iconst (v := 1) hx hb d_LN_takeNext_11 (by decide) ?_
  refine lv_iadd hx hb d_LN_takeNext_12 ?_
  obtain ⟨fs_, h104, e_, hl_, eh_, hq⟩ := fs_pw_some hq
  refine fs_put hx hb hts hown hK c_LN hP hS e_ 2 (by decide) (hts _ (fs_tb_at 142 tw_142 rfl)) (fun _ h9 => h9) rfl rfl rfl hl_ d_LN_takeNext_13 (fun H locs hP hS => ?_)
  rw [← eh_] at hP
  refine lv_iload_n hx hb d_LN_takeNext_16 rfl (lv_at hl 0 rfl) ?_
  obtain ⟨hn_, hq⟩ := hq
  exact fs_iret hx hb hr hlocks hw hP hS hn_ (Nat.le_refl _) (Nat.le_refl _) hq d_LN_takeNext_17
def w_LN_single (mc ms : Nat) (E : fs_E) (h : fs_Hp) (x1 : Int32) (x2 : Option Nat) (Post : fs_Ps) : Prop := (match x2 with | none => Post (.inl (some (.null))) h | some a102 => 1 ≤ mc ∧ 2 ≤ ms ∧ ∀ a103 : Nat, h a103 = none → (fun h104 : fs_Hp => ∃ c105 s106 : Nat, c105 ≤ (mc - 1) ∧ s106 ≤ (ms - 2) ∧ (w_SI_init c105 s106 E h104 a103 x1 a102 (fs_kv (fun h107 => Post (.inl (some (.ref a103))) h107) (fun C_ h_ => Post (.inr C_) h_)))) (fs_up h a103 (.inr (6, [.int 0, .null]))))
set_option maxHeartbeats 4000000 in
set_option maxRecDepth 100000 in
theorem kw_LN_single {l : Launch} {s00 : State} {E : fs_E} (hE : fs_SE l s00 E) {mc ms : Nat} {h : fs_Hp} {x1 : Int32} {x2 : Option Nat} {Post : fs_Ps} (hq : w_LN_single mc ms E h x1 x2 Post) : fs_Ct l s00 E.1 y_LN_single (.code y_LN_single b_LN_single 2 (some ((.object "FormulaSheet$Part")))) { frames := 3, cells := mc, slots := ms, locals := 48 } [.int x1, va_rf x2] h Post := by
  refine fs_Ct.ofR hE.1 (by decide) ?_
  intro p e R s m below meth c hRf hRl hRc hRs B hout hP
  skip
  obtain ⟨hx, hb, hr, hml, hown, hts, hlocks, hname, hK, hw, htr⟩ := id B
  have hown : s.vm.findClass "FormulaSheet$Line" = some m.cls := hown
  have hS := hw.S
  have hl := lv_entry ([.int x1, va_rf x2]) (n := 2) (by cases x2 <;> exact Nat.le_of_ble_eq_true rfl)
  rw [lg_entry_eq]
  generalize (lg_sl ([.int x1, va_rf x2]) ++ List.replicate (2 - (lg_sl ([.int x1, va_rf x2])).length) Slot.unset).toArray = ls at hl ⊢
  have hl : lv_has ls 2 [(0, .int x1), (1, va_rf x2)] := by cases x2 <;> exact hl
  unfold w_LN_single at hq
  cases x2 with
  | none =>
    have hl : lv_has ls 2 [(0, .int x1), (1, .null)] := hl
    refine lv_aload_nN hx hb d_LN_single_0 rfl (lv_at hl 1 rfl) ?_
    refine lv_ifnonnullN hx hb d_LN_single_1 ?_
    refine lv_null hx hb d_LN_single_4 ?_
    refine lv_goto (tgt := 17) hx hb d_LN_single_5 (by decide) ?_
    exact fs_aret hx hb hr (Or.inl ⟨_, rfl⟩) (Or.inl rfl) hlocks hw hP hS (by omega) (by omega) hq d_LN_single_17
  | some a102 =>
    have hl : lv_has ls 2 [(0, .int x1), (1, .ref a102)] := hl
    refine lv_aload_n hx hb d_LN_single_0 rfl (lv_at hl 1 rfl) ?_
    refine lv_ifnonnull (tgt := 8) hx hb d_LN_single_1 (by decide) ?_
    obtain ⟨hc_, hs_, hq⟩ := hq
    refine fs_new (fs := [.int 0, .null]) hx hb hts hown hK c_SI hP hS (fun _ h9 => h9) (hts _ (fs_tb_at 827 tw_827 rfl)) (hts _ (fs_tb_at 828 tw_828 rfl)) (hts _ (fs_tb_at 111 tw_111 rfl)) (by decide) (by omega) (by omega) d_LN_single_8 (fun a103 H hn_ hP hS => ?_)
    have hq := hq a103 hn_
    generalize eh_ : fs_up h a103 (.inr (6, [.int 0, .null])) = h104 at hP hq
    refine lv_dup hx hb d_LN_single_11 rfl ?_
    refine lv_iload_n hx hb d_LN_single_12 rfl (lv_at hl 0 rfl) ?_
    refine lv_aload_n hx hb d_LN_single_13 rfl (lv_at hl 1 rfl) ?_
    obtain ⟨c105, s106, hc_, hs_, hq⟩ := hq
    refine fs_cI B hl.1 hP hS (kw_SI_init hE hq) (fs_tb_at 829 tw_829 rfl) (fs_tb_at 830 tw_830 rfl) rfl (fs_tb_at 111 tw_111 rfl) (fs_tb_at 831 tw_831 rfl) (by decide) (show (parseMethodDescriptor y_SI_init.desc).map (fun d => d.parameters.length) = some 2 by decide +kernel) rfl d_LN_single_14 (fs_rm (k := 1) (by omega) (by omega) (by omega) (by omega) rfl) (fun v_ h107 H locs hq hP hS => ?_) (fun C_ a_ h_ H locs hq hP hS hX => fs_out (hout _) hlocks hw hP hS hX (show ((0 + 1) + c105) ≤ mc by omega) (show ((0 + 2) + s106) ≤ ms by omega) hq)
    refine fs_cs (k := ((0 + 1) + c105)) (n := ((0 + 2) + s106)) rfl rfl ?_
    replace hq := fs_kv_some hq
    obtain ⟨rfl, hq⟩ := hq
    refine W.eq (g2 := F0 m 17 ls (.ref a103 :: [])) rfl ?_
    exact fs_aret hx hb hr (Or.inl ⟨_, rfl⟩) (Or.inr ⟨_, rfl⟩) hlocks hw hP hS (by omega) (by omega) hq d_LN_single_17
def w_LN_pair (mc ms : Nat) (E : fs_E) (h : fs_Hp) (x1 : Int32) (x2 : Option Nat) (x3 : Option Nat) (Post : fs_Ps) : Prop := (match x2 with | none => (match x3 with | none => Post (.inl (some (.null))) h | some a103 => 1 ≤ mc ∧ 2 ≤ ms ∧ ∀ a104 : Nat, h a104 = none → (fun h105 : fs_Hp => False) (fs_up h a104 (.inr (7, [.int 0, .null])))) | some a106 => (match x3 with | none => Post (.inl (some (.null))) h | some a108 => 1 ≤ mc ∧ 2 ≤ ms ∧ ∀ a109 : Nat, h a109 = none → (fun h110 : fs_Hp => ∃ c111 s112 : Nat, c111 ≤ (mc - 1) ∧ s112 ≤ (ms - 2) ∧ (w_PA_init c111 s112 E h110 a109 x1 a106 a108 (fs_kv (fun h113 => Post (.inl (some (.ref a109))) h113) (fun C_ h_ => Post (.inr C_) h_)))) (fs_up h a109 (.inr (7, [.int 0, .null])))))
set_option maxHeartbeats 4000000 in
set_option maxRecDepth 100000 in
theorem kw_LN_pair {l : Launch} {s00 : State} {E : fs_E} (hE : fs_SE l s00 E) {mc ms : Nat} {h : fs_Hp} {x1 : Int32} {x2 : Option Nat} {x3 : Option Nat} {Post : fs_Ps} (hq : w_LN_pair mc ms E h x1 x2 x3 Post) : fs_Ct l s00 E.1 y_LN_pair (.code y_LN_pair b_LN_pair 3 (some ((.object "FormulaSheet$Part")))) { frames := 3, cells := mc, slots := ms, locals := 49 } [.int x1, va_rf x2, va_rf x3] h Post := by
  refine fs_Ct.ofR hE.1 (by decide) ?_
  intro p e R s m below meth c hRf hRl hRc hRs B hout hP
  skip
  obtain ⟨hx, hb, hr, hml, hown, hts, hlocks, hname, hK, hw, htr⟩ := id B
  have hown : s.vm.findClass "FormulaSheet$Line" = some m.cls := hown
  have hS := hw.S
  have hl := lv_entry ([.int x1, va_rf x2, va_rf x3]) (n := 3) (by cases x2 <;> cases x3 <;> exact Nat.le_of_ble_eq_true rfl)
  rw [lg_entry_eq]
  generalize (lg_sl ([.int x1, va_rf x2, va_rf x3]) ++ List.replicate (3 - (lg_sl ([.int x1, va_rf x2, va_rf x3])).length) Slot.unset).toArray = ls at hl ⊢
  have hl : lv_has ls 3 [(0, .int x1), (1, va_rf x2), (2, va_rf x3)] := by cases x2 <;> cases x3 <;> exact hl
  unfold w_LN_pair at hq
  cases x2 with
  | none =>
    have hl : lv_has ls 3 [(0, .int x1), (1, .null), (2, va_rf x3)] := hl
    cases x3 with
    | none =>
      have hl : lv_has ls 3 [(0, .int x1), (1, .null), (2, .null)] := hl
      refine lv_aload_nN hx hb d_LN_pair_0 rfl (lv_at hl 2 rfl) ?_
      refine lv_ifnonnullN hx hb d_LN_pair_1 ?_
      refine lv_null hx hb d_LN_pair_4 ?_
      refine lv_goto (tgt := 18) hx hb d_LN_pair_5 (by decide) ?_
      exact fs_aret hx hb hr (Or.inl ⟨_, rfl⟩) (Or.inl rfl) hlocks hw hP hS (by omega) (by omega) hq d_LN_pair_18
    | some a103 =>
      have hl : lv_has ls 3 [(0, .int x1), (1, .null), (2, .ref a103)] := hl
      refine lv_aload_n hx hb d_LN_pair_0 rfl (lv_at hl 2 rfl) ?_
      refine lv_ifnonnull (tgt := 8) hx hb d_LN_pair_1 (by decide) ?_
      obtain ⟨hc_, hs_, hq⟩ := hq
      refine fs_new (fs := [.int 0, .null]) hx hb hts hown hK c_PA hP hS (fun _ h9 => h9) (hts _ (fs_tb_at 846 tw_846 rfl)) (hts _ (fs_tb_at 448 tw_448 rfl)) (hts _ (fs_tb_at 112 tw_112 rfl)) (by decide) (by omega) (by omega) d_LN_pair_8 (fun a104 H hn_ hP hS => ?_)
      have hq := hq a104 hn_
      generalize eh_ : fs_up h a104 (.inr (7, [.int 0, .null])) = h105 at hP hq
      refine lv_dup hx hb d_LN_pair_11 rfl ?_
      refine lv_iload_n hx hb d_LN_pair_12 rfl (lv_at hl 0 rfl) ?_
      refine lv_aload_nN hx hb d_LN_pair_13 rfl (lv_at hl 1 rfl) ?_
      refine lv_aload_n hx hb d_LN_pair_14 rfl (lv_at hl 2 rfl) ?_
      exact False.elim hq
  | some a106 =>
    have hl : lv_has ls 3 [(0, .int x1), (1, .ref a106), (2, va_rf x3)] := hl
    cases x3 with
    | none =>
      have hl : lv_has ls 3 [(0, .int x1), (1, .ref a106), (2, .null)] := hl
      refine lv_aload_nN hx hb d_LN_pair_0 rfl (lv_at hl 2 rfl) ?_
      refine lv_ifnonnullN hx hb d_LN_pair_1 ?_
      refine lv_null hx hb d_LN_pair_4 ?_
      refine lv_goto (tgt := 18) hx hb d_LN_pair_5 (by decide) ?_
      exact fs_aret hx hb hr (Or.inl ⟨_, rfl⟩) (Or.inl rfl) hlocks hw hP hS (by omega) (by omega) hq d_LN_pair_18
    | some a108 =>
      have hl : lv_has ls 3 [(0, .int x1), (1, .ref a106), (2, .ref a108)] := hl
      refine lv_aload_n hx hb d_LN_pair_0 rfl (lv_at hl 2 rfl) ?_
      refine lv_ifnonnull (tgt := 8) hx hb d_LN_pair_1 (by decide) ?_
      obtain ⟨hc_, hs_, hq⟩ := hq
      refine fs_new (fs := [.int 0, .null]) hx hb hts hown hK c_PA hP hS (fun _ h9 => h9) (hts _ (fs_tb_at 846 tw_846 rfl)) (hts _ (fs_tb_at 448 tw_448 rfl)) (hts _ (fs_tb_at 112 tw_112 rfl)) (by decide) (by omega) (by omega) d_LN_pair_8 (fun a109 H hn_ hP hS => ?_)
      have hq := hq a109 hn_
      generalize eh_ : fs_up h a109 (.inr (7, [.int 0, .null])) = h110 at hP hq
      refine lv_dup hx hb d_LN_pair_11 rfl ?_
      refine lv_iload_n hx hb d_LN_pair_12 rfl (lv_at hl 0 rfl) ?_
      refine lv_aload_n hx hb d_LN_pair_13 rfl (lv_at hl 1 rfl) ?_
      refine lv_aload_n hx hb d_LN_pair_14 rfl (lv_at hl 2 rfl) ?_
      obtain ⟨c111, s112, hc_, hs_, hq⟩ := hq
      refine fs_cI B hl.1 hP hS (kw_PA_init hE hq) (fs_tb_at 847 tw_847 rfl) (fs_tb_at 848 tw_848 rfl) rfl (fs_tb_at 112 tw_112 rfl) (fs_tb_at 849 tw_849 rfl) (by decide) (show (parseMethodDescriptor y_PA_init.desc).map (fun d => d.parameters.length) = some 3 by decide +kernel) rfl d_LN_pair_15 (fs_rm (k := 1) (by omega) (by omega) (by omega) (by omega) rfl) (fun v_ h113 H locs hq hP hS => ?_) (fun C_ a_ h_ H locs hq hP hS hX => fs_out (hout _) hlocks hw hP hS hX (show ((0 + 1) + c111) ≤ mc by omega) (show ((0 + 2) + s112) ≤ ms by omega) hq)
      refine fs_cs (k := ((0 + 1) + c111)) (n := ((0 + 2) + s112)) rfl rfl ?_
      replace hq := fs_kv_some hq
      obtain ⟨rfl, hq⟩ := hq
      refine W.eq (g2 := F0 m 18 ls (.ref a109 :: [])) rfl ?_
      exact fs_aret hx hb hr (Or.inl ⟨_, rfl⟩) (Or.inr ⟨_, rfl⟩) hlocks hw hP hS (by omega) (by omega) hq d_LN_pair_18
def w_LN_closed (E : fs_E) (h : fs_Hp) (a0 : Nat) (x1 : Option Nat) (Post : fs_Ps) : Prop := (match x1 with | none => Post (.inl (some (.null))) h | some a102 => fs_isc h a0 1 ∧ (w_LN_take E h a0 41 (fs_ki (fun x104 h103 => (if x104 = 0 then Post (.inl (some (.null))) h103 else fs_gi h103 a0 1 3 (fun x106 => fs_pw h103 a0 1 3 (.int (x106 - 1)) (fun h107 => Post (.inl (some (.ref a102))) h107)))) (fun C_ h_ => Post (.inr C_) h_))))
set_option maxHeartbeats 4000000 in
set_option maxRecDepth 100000 in
theorem kw_LN_closed {l : Launch} {s00 : State} {E : fs_E} (hE : fs_SE l s00 E) {h : fs_Hp} {a0 : Nat} {x1 : Option Nat} {Post : fs_Ps} (hq : w_LN_closed E h a0 x1 Post) : fs_Ct l s00 E.1 y_LN_closed (.code y_LN_closed b_LN_closed 2 (some ((.object "FormulaSheet$Part")))) { frames := 2, cells := 0, slots := 0, locals := 25 } [.ref a0, va_rf x1] h Post := by
  refine fs_Ct.ofR hE.1 (by decide) ?_
  intro p e R s m below meth c hRf hRl hRc hRs B hout hP
  skip
  obtain ⟨hx, hb, hr, hml, hown, hts, hlocks, hname, hK, hw, htr⟩ := id B
  have hown : s.vm.findClass "FormulaSheet$Line" = some m.cls := hown
  have hS := hw.S
  have hl := lv_entry ([.ref a0, va_rf x1]) (n := 2) (by cases x1 <;> exact Nat.le_of_ble_eq_true rfl)
  rw [lg_entry_eq]
  generalize (lg_sl ([.ref a0, va_rf x1]) ++ List.replicate (2 - (lg_sl ([.ref a0, va_rf x1])).length) Slot.unset).toArray = ls at hl ⊢
  have hl : lv_has ls 2 [(0, .ref a0), (1, va_rf x1)] := by cases x1 <;> exact hl
  unfold w_LN_closed at hq
  cases x1 with
  | none =>
    have hl : lv_has ls 2 [(0, .ref a0), (1, .null)] := hl
    refine lv_aload_nN hx hb d_LN_closed_0 rfl (lv_at hl 1 rfl) ?_
    refine lv_ifnullN (tgt := 13) hx hb d_LN_closed_1 (by decide) ?_
    refine lv_null hx hb d_LN_closed_13 ?_
    exact fs_aret hx hb hr (Or.inl ⟨_, rfl⟩) (Or.inl rfl) hlocks hw hP hS (Nat.le_refl _) (Nat.le_refl _) hq d_LN_closed_14
  | some a102 =>
    have hl : lv_has ls 2 [(0, .ref a0), (1, .ref a102)] := hl
    refine lv_aload_n hx hb d_LN_closed_0 rfl (lv_at hl 1 rfl) ?_
    refine lv_ifnull hx hb d_LN_closed_1 ?_
    refine lv_aload_n hx hb d_LN_closed_4 rfl (lv_at hl 0 rfl) ?_
    refine lv_bipush (v := 41) hx hb d_LN_closed_5 (by decide) ?_
    obtain ⟨hi_, hq⟩ := hq
    obtain ⟨fs_, he_⟩ := fs_isc_some hi_
    refine fs_cV B hl.1 hP hS (kw_LN_take hE hq) (fs_tb_at 621 tw_621 rfl) he_ rfl (fs_tb_at 623 tw_623 rfl) (fs_tb_at 17 tw_17 rfl) (fs_tb_at 89 tw_89 rfl) (fs_tb_at 624 tw_624 rfl) (by decide) (show (parseMethodDescriptor y_LN_take.desc).map (fun d => d.parameters.length) = some 1 by decide +kernel) rfl d_LN_closed_7 (fs_rm (k := 0) (by omega) (by omega) (by omega) (by omega) rfl) (fun v_ h103 H locs hq hP hS => ?_) (fun C_ a_ h_ H locs hq hP hS hX => fs_out (hout _) hlocks hw hP hS hX (Nat.le_of_ble_eq_true rfl) (Nat.le_of_ble_eq_true rfl) hq)
    refine fs_cs (k := 0) (n := 0) rfl rfl ?_
    replace hq := fs_ki_some hq
    obtain ⟨x104, rfl, hq⟩ := hq
    refine W.eq (g2 := F0 m 10 ls (.int x104 :: [])) rfl ?_
    refine lv_if_ne (tgt := 15) hx hb d_LN_closed_10 (by decide) (fun c_105 => ?_) (fun c_105 => ?_)
    · have hq := fs_wifn c_105 hq
      refine lv_aload_n hx hb d_LN_closed_15 rfl (lv_at hl 0 rfl) ?_
      refine lv_dup hx hb d_LN_closed_16 rfl ?_
      obtain ⟨fs_, x106, he_, hv_, hq⟩ := fs_gi_some hq
      refine fs_get hx hb hts hown hK c_LN hP he_ 3 (by decide) (hts _ (fs_tb_at 144 tw_144 rfl)) (fun _ h9 => h9) hv_ d_LN_closed_17 ?_
      refine lv_iconst (v := 1) hx hb d_LN_closed_20 (by decide) ?_
      refine lv_isub hx hb d_LN_closed_21 ?_
      obtain ⟨fs_, h107, e_, hl_, eh_, hq⟩ := fs_pw_some hq
      refine fs_put hx hb hts hown hK c_LN hP hS e_ 3 (by decide) (hts _ (fs_tb_at 144 tw_144 rfl)) (fun _ h9 => h9) rfl rfl rfl hl_ d_LN_closed_22 (fun H locs hP hS => ?_)
      rw [← eh_] at hP
      refine lv_aload_n hx hb d_LN_closed_25 rfl (lv_at hl 1 rfl) ?_
      exact fs_aret hx hb hr (Or.inl ⟨_, rfl⟩) (Or.inr ⟨_, rfl⟩) hlocks hw hP hS (Nat.le_refl _) (Nat.le_refl _) hq d_LN_closed_26
    · have hq := fs_wifp c_105 hq
      refine lv_null hx hb d_LN_closed_13 ?_
      exact fs_aret hx hb hr (Or.inl ⟨_, rfl⟩) (Or.inl rfl) hlocks hw hP hS (Nat.le_refl _) (Nat.le_refl _) hq d_LN_closed_14
def w_LN_digits_L6 (E : fs_E) (K : Int64 → fs_Hp → Prop) (Post : fs_Ps) : Nat → Nat → Int32 → Int64 → Int32 → fs_Hp → Prop
  | 0 => fun _ _ _ _ _ => False
  | n + 1 => fun z0 z3 z4 z6 h1 => (if z3 ≤ z6 then K z4 h1 else fs_isc h1 z0 1 ∧ (w_LN_nextIsDigit E h1 z0 (fs_ki (fun x103 h102 => (if x103 = 0 then K z4 h102 else fs_isc h102 z0 1 ∧ (w_LN_takeNext E h102 z0 (fs_ki (fun x106 h105 => (w_LN_digits_L6 E K Post n) z0 z3 ((z4 * 10) + (Int32.toInt64 (x106 - 48))) (z6 + 1) h105) (fun C_ h_ => Post (.inr C_) h_))))) (fun C_ h_ => Post (.inr C_) h_))))
def w_LN_digits (E : fs_E) (h : fs_Hp) (a0 : Nat) (x1 : Int64) (x2 : Int32) (Post : fs_Ps) : Prop := (∃ n109 : Nat, w_LN_digits_L6 E (fun y107 h108 => Post (.inl (some (.long y107))) h108) Post n109 a0 x2 x1 0 h)
set_option maxHeartbeats 4000000 in
set_option maxRecDepth 100000 in
theorem lw_w_LN_digits_6 {p : Program} {l : Launch} {e : Env} {R : Room} {s : State} {m : MethodId} {args : Array Value} {below : List Frame} {meth : Method} {c : Code} {s00 : State} {E : fs_E} {Post : fs_Ps} (hE : fs_SE l s00 E) (B : fs_B p l e s m args meth c s00 E.1 y_LN_digits b_LN_digits 7 (some .long)) (hout : ∀ pc, ∀ x ∈ c.exceptionTable.toList, covers x pc = false) (hRf : 2 ≤ R.frames) (hRl : 27 ≤ R.locals) (K : Int64 → fs_Hp → Prop) : ∀ (n : Nat) (z0 : Nat) (z3 : Int32) (z4 : Int64) (z6 : Int32) (h1 : fs_Hp) (H : Heap) (locs : List Loc) (ls : Array Slot), w_LN_digits_L6 E K Post n z0 z3 z4 z6 h1 → fs_P E.1.1 fs_cl (fs_A s00) h1 H → va_S (fs_A s00) s00.heap H locs → lv_has ls 7 [(0, .ref z0), (3, .int z3), (4, .long z4), (6, .int z6)] → (∀ (y4 : Int64) (h' : fs_Hp) (H : Heap) (locs : List Loc) (ls : Array Slot), K y4 h' → fs_P E.1.1 fs_cl (fs_A s00) h' H → va_S (fs_A s00) s00.heap H locs → lv_has ls 7 [(0, .ref z0), (3, .int z3), (4, .long y4)] → W p l e R s m args below meth c H locs 0 0 (fx_MQ below (fs_Qc s00 E.1 Post) args s 0 0 (fs_A s00)) (F0 m 42 ls [])) → W p l e R s m args below meth c H locs 0 0 (fx_MQ below (fs_Qc s00 E.1 Post) args s 0 0 (fs_A s00)) (F0 m 6 ls []) := by
  obtain ⟨hx, hb, hr, hml, hown, hts, hlocks, hname, hK, hw, htr⟩ := id B
  have hown : s.vm.findClass "FormulaSheet$Line" = some m.cls := hown
  intro n
  induction n with
  | zero => intro z0 z3 z4 z6 h1 H locs ls hq; exact False.elim hq
  | succ n ih =>
    intro z0 z3 z4 z6 h1 H locs ls hq hP hS hl kk
    rw [w_LN_digits_L6] at hq
    refine lv_iload hx hb d_LN_digits_6 (lv_at hl 3 rfl) ?_
    refine lv_iload_n hx hb d_LN_digits_8 rfl (lv_at hl 1 rfl) ?_
    refine lv_icmp_ge (tgt := 42) hx hb d_LN_digits_9 (by decide) (fun c_101 => ?_) (fun c_101 => ?_)
    · have hq := fs_wifp c_101 hq
      exact kk z4 _ _ _ _ hq hP hS (show lv_has ls 7 [(0, .ref z0), (3, .int z3), (4, .long z4)] from lv_sub hl [0, 1, 2] rfl)
    · have hq := fs_wifn c_101 hq
      refine lv_aload_n hx hb d_LN_digits_12 rfl (lv_at hl 0 rfl) ?_
      obtain ⟨hi_, hq⟩ := hq
      obtain ⟨fs_, he_⟩ := fs_isc_some hi_
      refine fs_cV B hl.1 hP hS (kw_LN_nextIsDigit hE hq) (fs_tb_at 645 tw_645 rfl) he_ rfl (fs_tb_at 647 tw_647 rfl) (fs_tb_at 23 tw_23 rfl) (fs_tb_at 89 tw_89 rfl) (fs_tb_at 648 tw_648 rfl) (by decide) (show (parseMethodDescriptor y_LN_nextIsDigit.desc).map (fun d => d.parameters.length) = some 0 by decide +kernel) rfl d_LN_digits_13 (fs_rm (k := 0) (by omega) (by omega) (by omega) (by omega) rfl) (fun v_ h102 H locs hq hP hS => ?_) (fun C_ a_ h_ H locs hq hP hS hX => fs_out (hout _) hlocks hw hP hS hX (Nat.le_of_ble_eq_true rfl) (Nat.le_of_ble_eq_true rfl) hq)
      refine fs_cs (k := 0) (n := 0) rfl rfl ?_
      replace hq := fs_ki_some hq
      obtain ⟨x103, rfl, hq⟩ := hq
      refine W.eq (g2 := F0 m 16 ls (.int x103 :: [])) rfl ?_
      refine lv_if_eq (tgt := 42) hx hb d_LN_digits_16 (by decide) (fun c_104 => ?_) (fun c_104 => ?_)
      · have hq := fs_wifp c_104 hq
        exact kk z4 _ _ _ _ hq hP hS (show lv_has ls 7 [(0, .ref z0), (3, .int z3), (4, .long z4)] from lv_sub hl [0, 1, 2] rfl)
      · have hq := fs_wifn c_104 hq
        refine lv_lload hx hb d_LN_digits_19 (lv_at hl 2 rfl) ?_
        refine lv_ldc2 (v := 10) hx hb hown (hts _ (fs_tb_at 657 tw_657 rfl)) d_LN_digits_21 ?_
        refine lv_lmul hx hb d_LN_digits_24 ?_
        refine lv_aload_n hx hb d_LN_digits_25 rfl (lv_at hl 0 rfl) ?_
        obtain ⟨hi_, hq⟩ := hq
        obtain ⟨fs_, he_⟩ := fs_isc_some hi_
        refine fs_cV B hl.1 hP hS (kw_LN_takeNext hE hq) (fs_tb_at 658 tw_658 rfl) he_ rfl (fs_tb_at 660 tw_660 rfl) (fs_tb_at 26 tw_26 rfl) (fs_tb_at 89 tw_89 rfl) (fs_tb_at 661 tw_661 rfl) (by decide) (show (parseMethodDescriptor y_LN_takeNext.desc).map (fun d => d.parameters.length) = some 0 by decide +kernel) rfl d_LN_digits_26 (fs_rm (k := 2) (by omega) (by omega) (by omega) (by omega) rfl) (fun v_ h105 H locs hq hP hS => ?_) (fun C_ a_ h_ H locs hq hP hS hX => fs_out (hout _) hlocks hw hP hS hX (Nat.le_of_ble_eq_true rfl) (Nat.le_of_ble_eq_true rfl) hq)
        refine fs_cs (k := 0) (n := 0) rfl rfl ?_
        replace hq := fs_ki_some hq
        obtain ⟨x106, rfl, hq⟩ := hq
        refine W.eq (g2 := F0 m 29 ls (.int x106 :: .long (z4 * 10) :: [])) rfl ?_
        refine lv_bipush (v := 48) hx hb d_LN_digits_29 (by decide) ?_
        refine lv_isub hx hb d_LN_digits_31 ?_
        refine lv_i2l hx hb d_LN_digits_32 rfl ?_
        refine lv_ladd hx hb d_LN_digits_33 ?_
        refine lv_lstore (lv' := [(4, .long ((z4 * 10) + (Int32.toInt64 (x106 - 48)))), (0, .ref z0), (3, .int z3), (6, .int z6)]) hx hb d_LN_digits_34 hl (by decide) rfl (fun ls hl => ?_)
        refine lv_iinc (v := z6 + 1) (lv' := [(6, .int (z6 + 1)), (4, .long ((z4 * 10) + (Int32.toInt64 (x106 - 48)))), (0, .ref z0), (3, .int z3)]) hx hb d_LN_digits_36 hl (k := 3) rfl rfl (by decide) rfl (fun ls hl => ?_)
        refine lv_goto (tgt := 6) hx hb d_LN_digits_39 (by decide) ?_
        exact ih z0 z3 ((z4 * 10) + (Int32.toInt64 (x106 - 48))) (z6 + 1) _ _ _ _ hq hP hS (show lv_has ls 7 [(0, .ref z0), (3, .int z3), (4, .long ((z4 * 10) + (Int32.toInt64 (x106 - 48)))), (6, .int (z6 + 1))] from lv_sub hl [2, 3, 1, 0] rfl) kk
set_option maxHeartbeats 4000000 in
set_option maxRecDepth 100000 in
theorem kw_LN_digits {l : Launch} {s00 : State} {E : fs_E} (hE : fs_SE l s00 E) {h : fs_Hp} {a0 : Nat} {x1 : Int64} {x2 : Int32} {Post : fs_Ps} (hq : w_LN_digits E h a0 x1 x2 Post) : fs_Ct l s00 E.1 y_LN_digits (.code y_LN_digits b_LN_digits 7 (some .long)) { frames := 2, cells := 0, slots := 0, locals := 27 } [.ref a0, .long x1, .int x2] h Post := by
  refine fs_Ct.ofR hE.1 (by decide) ?_
  intro p e R s m below meth c hRf hRl hRc hRs B hout hP
  skip
  obtain ⟨hx, hb, hr, hml, hown, hts, hlocks, hname, hK, hw, htr⟩ := id B
  have hown : s.vm.findClass "FormulaSheet$Line" = some m.cls := hown
  have hS := hw.S
  have hl := lv_entry ([.ref a0, .long x1, .int x2]) (n := 7) (Nat.le_of_ble_eq_true rfl)
  rw [lg_entry_eq]
  generalize (lg_sl ([.ref a0, .long x1, .int x2]) ++ List.replicate (7 - (lg_sl ([.ref a0, .long x1, .int x2])).length) Slot.unset).toArray = ls at hl ⊢
  have hl : lv_has ls 7 [(0, .ref a0), (1, .long x1), (3, .int x2)] := hl
  unfold w_LN_digits at hq
  refine lv_lload_n hx hb d_LN_digits_0 rfl (lv_at hl 1 rfl) ?_
  refine lv_lstore (lv' := [(4, .long x1), (0, .ref a0), (1, .long x1), (3, .int x2)]) hx hb d_LN_digits_1 hl (by decide) rfl (fun ls hl => ?_)
  refine lv_iconst (v := 0) hx hb d_LN_digits_3 (by decide) ?_
  refine lv_istore (lv' := [(6, .int 0), (4, .long x1), (0, .ref a0), (1, .long x1), (3, .int x2)]) hx hb d_LN_digits_4 hl (by decide) rfl (fun ls hl => ?_)
  obtain ⟨n109, hq⟩ := hq
  refine lw_w_LN_digits_6 hE B hout (by omega) (by omega) _ n109 a0 x2 x1 0 _ _ _ _ hq hP hS (show lv_has ls 7 [(0, .ref a0), (3, .int x2), (4, .long x1), (6, .int 0)] from lv_sub hl [2, 4, 1, 0] rfl) (fun y107 h108 H locs ls hq hP hS hl => ?_)
  refine lv_lload hx hb d_LN_digits_42 (lv_at hl 2 rfl) ?_
  exact fs_lret hx hb hr hlocks hw hP hS (Nat.le_refl _) (Nat.le_refl _) hq d_LN_digits_44
def w_LN_numeral (mc ms : Nat) (E : fs_E) (h : fs_Hp) (a0 : Nat) (Post : fs_Ps) : Prop := fs_isc h a0 1 ∧ (w_LN_digits E h a0 0 9 (fs_kl (fun x102 h101 => fs_isc h101 a0 1 ∧ (w_LN_take E h101 a0 46 (fs_ki (fun x104 h103 => (if x104 = 0 then 1 ≤ mc ∧ 3 ≤ ms ∧ ∀ a117 : Nat, h103 a117 = none → (fun h118 : fs_Hp => ∃ c119 s120 : Nat, c119 ≤ (mc - 1) ∧ s120 ≤ (ms - 3) ∧ (w_NU_init c119 s120 E h118 a117 x102 0 (fs_kv (fun h121 => Post (.inl (some (.ref a117))) h121) (fun C_ h_ => Post (.inr C_) h_)))) (fs_up h103 a117 (.inr (4, [.long 0, .int 0, .null]))) else fs_gi h103 a0 1 2 (fun x106 => fs_isc h103 a0 1 ∧ (w_LN_digits E h103 a0 x102 4 (fs_kl (fun x108 h107 => fs_gi h107 a0 1 2 (fun x109 => (if x109 = x106 then Post (.inl (some (.null))) h107 else 1 ≤ mc ∧ 3 ≤ ms ∧ ∀ a111 : Nat, h107 a111 = none → (fun h112 : fs_Hp => fs_gi h112 a0 1 2 (fun x113 => ∃ c114 s115 : Nat, c114 ≤ (mc - 1) ∧ s115 ≤ (ms - 3) ∧ (w_NU_init c114 s115 E h112 a111 x108 (x113 - x106) (fs_kv (fun h116 => Post (.inl (some (.ref a111))) h116) (fun C_ h_ => Post (.inr C_) h_))))) (fs_up h107 a111 (.inr (4, [.long 0, .int 0, .null])))))) (fun C_ h_ => Post (.inr C_) h_)))))) (fun C_ h_ => Post (.inr C_) h_)))) (fun C_ h_ => Post (.inr C_) h_)))
set_option maxHeartbeats 4000000 in
set_option maxRecDepth 100000 in
theorem kw_LN_numeral {l : Launch} {s00 : State} {E : fs_E} (hE : fs_SE l s00 E) {mc ms : Nat} {h : fs_Hp} {a0 : Nat} {Post : fs_Ps} (hq : w_LN_numeral mc ms E h a0 Post) : fs_Ct l s00 E.1 y_LN_numeral (.code y_LN_numeral b_LN_numeral 4 (some ((.object "FormulaSheet$Part")))) { frames := 3, cells := mc, slots := ms, locals := 49 } [.ref a0] h Post := by
  refine fs_Ct.ofR hE.1 (by decide) ?_
  intro p e R s m below meth c hRf hRl hRc hRs B hout hP
  skip
  obtain ⟨hx, hb, hr, hml, hown, hts, hlocks, hname, hK, hw, htr⟩ := id B
  have hown : s.vm.findClass "FormulaSheet$Line" = some m.cls := hown
  have hS := hw.S
  have hl := lv_entry ([.ref a0]) (n := 4) (Nat.le_of_ble_eq_true rfl)
  rw [lg_entry_eq]
  generalize (lg_sl ([.ref a0]) ++ List.replicate (4 - (lg_sl ([.ref a0])).length) Slot.unset).toArray = ls at hl ⊢
  have hl : lv_has ls 4 [(0, .ref a0)] := hl
  unfold w_LN_numeral at hq
  refine lv_aload_n hx hb d_LN_numeral_0 rfl (lv_at hl 0 rfl) ?_
  refine lv_lconst (v := 0) hx hb d_LN_numeral_1 (by decide) ?_
  refine lv_bipush (v := 9) hx hb d_LN_numeral_2 (by decide) ?_
  obtain ⟨hi_, hq⟩ := hq
  obtain ⟨fs_, he_⟩ := fs_isc_some hi_
  refine fs_cV B hl.1 hP hS (kw_LN_digits hE hq) (fs_tb_at 653 tw_653 rfl) he_ rfl (fs_tb_at 655 tw_655 rfl) (fs_tb_at 25 tw_25 rfl) (fs_tb_at 89 tw_89 rfl) (fs_tb_at 656 tw_656 rfl) (by decide) (show (parseMethodDescriptor y_LN_digits.desc).map (fun d => d.parameters.length) = some 2 by decide +kernel) rfl d_LN_numeral_4 (fs_rm (k := 0) (by omega) (by omega) (by omega) (by omega) rfl) (fun v_ h101 H locs hq hP hS => ?_) (fun C_ a_ h_ H locs hq hP hS hX => fs_out (hout _) hlocks hw hP hS hX (show 0 ≤ mc by omega) (show 0 ≤ ms by omega) hq)
  refine fs_cs (k := 0) (n := 0) rfl rfl ?_
  replace hq := fs_kl_some hq
  obtain ⟨x102, rfl, hq⟩ := hq
  refine W.eq (g2 := F0 m 7 ls (.long x102 :: [])) rfl ?_
  refine lv_lstore_n (lv' := [(1, .long x102), (0, .ref a0)]) hx hb d_LN_numeral_7 rfl hl (by decide) rfl (fun ls hl => ?_)
  refine lv_aload_n hx hb d_LN_numeral_8 rfl (lv_at hl 1 rfl) ?_
  refine lv_bipush (v := 46) hx hb d_LN_numeral_9 (by decide) ?_
  obtain ⟨hi_, hq⟩ := hq
  obtain ⟨fs_, he_⟩ := fs_isc_some hi_
  refine fs_cV B hl.1 hP hS (kw_LN_take hE hq) (fs_tb_at 621 tw_621 rfl) he_ rfl (fs_tb_at 623 tw_623 rfl) (fs_tb_at 17 tw_17 rfl) (fs_tb_at 89 tw_89 rfl) (fs_tb_at 624 tw_624 rfl) (by decide) (show (parseMethodDescriptor y_LN_take.desc).map (fun d => d.parameters.length) = some 1 by decide +kernel) rfl d_LN_numeral_11 (fs_rm (k := 0) (by omega) (by omega) (by omega) (by omega) rfl) (fun v_ h103 H locs hq hP hS => ?_) (fun C_ a_ h_ H locs hq hP hS hX => fs_out (hout _) hlocks hw hP hS hX (show 0 ≤ mc by omega) (show 0 ≤ ms by omega) hq)
  refine fs_cs (k := 0) (n := 0) rfl rfl ?_
  replace hq := fs_ki_some hq
  obtain ⟨x104, rfl, hq⟩ := hq
  refine W.eq (g2 := F0 m 14 ls (.int x104 :: [])) rfl ?_
  refine lv_if_ne (tgt := 27) hx hb d_LN_numeral_14 (by decide) (fun c_105 => ?_) (fun c_105 => ?_)
  · have hq := fs_wifn c_105 hq
    refine lv_aload_n hx hb d_LN_numeral_27 rfl (lv_at hl 1 rfl) ?_
    obtain ⟨fs_, x106, he_, hv_, hq⟩ := fs_gi_some hq
    refine fs_get hx hb hts hown hK c_LN hP he_ 2 (by decide) (hts _ (fs_tb_at 142 tw_142 rfl)) (fun _ h9 => h9) hv_ d_LN_numeral_28 ?_
    refine lv_istore_n (lv' := [(3, .int x106), (1, .long x102), (0, .ref a0)]) hx hb d_LN_numeral_31 rfl hl (by decide) rfl (fun ls hl => ?_)
    refine lv_aload_n hx hb d_LN_numeral_32 rfl (lv_at hl 2 rfl) ?_
    refine lv_lload_n hx hb d_LN_numeral_33 rfl (lv_at hl 1 rfl) ?_
    refine lv_iconst (v := 4) hx hb d_LN_numeral_34 (by decide) ?_
    obtain ⟨hi_, hq⟩ := hq
    obtain ⟨fs_, he_⟩ := fs_isc_some hi_
    refine fs_cV B hl.1 hP hS (kw_LN_digits hE hq) (fs_tb_at 653 tw_653 rfl) he_ rfl (fs_tb_at 655 tw_655 rfl) (fs_tb_at 25 tw_25 rfl) (fs_tb_at 89 tw_89 rfl) (fs_tb_at 656 tw_656 rfl) (by decide) (show (parseMethodDescriptor y_LN_digits.desc).map (fun d => d.parameters.length) = some 2 by decide +kernel) rfl d_LN_numeral_35 (fs_rm (k := 0) (by omega) (by omega) (by omega) (by omega) rfl) (fun v_ h107 H locs hq hP hS => ?_) (fun C_ a_ h_ H locs hq hP hS hX => fs_out (hout _) hlocks hw hP hS hX (show 0 ≤ mc by omega) (show 0 ≤ ms by omega) hq)
    refine fs_cs (k := 0) (n := 0) rfl rfl ?_
    replace hq := fs_kl_some hq
    obtain ⟨x108, rfl, hq⟩ := hq
    refine W.eq (g2 := F0 m 38 ls (.long x108 :: [])) rfl ?_
    refine lv_lstore_n (lv' := [(1, .long x108), (3, .int x106), (0, .ref a0)]) hx hb d_LN_numeral_38 rfl hl (by decide) rfl (fun ls hl => ?_)
    refine lv_aload_n hx hb d_LN_numeral_39 rfl (lv_at hl 2 rfl) ?_
    obtain ⟨fs_, x109, he_, hv_, hq⟩ := fs_gi_some hq
    refine fs_get hx hb hts hown hK c_LN hP he_ 2 (by decide) (hts _ (fs_tb_at 142 tw_142 rfl)) (fun _ h9 => h9) hv_ d_LN_numeral_40 ?_
    refine lv_iload_n hx hb d_LN_numeral_43 rfl (lv_at hl 1 rfl) ?_
    refine lv_icmp_ne (tgt := 51) hx hb d_LN_numeral_44 (by decide) (fun c_110 => ?_) (fun c_110 => ?_)
    · have hq := fs_wifn c_110 hq
      obtain ⟨hc_, hs_, hq⟩ := hq
      refine fs_new (fs := [.long 0, .int 0, .null]) hx hb hts hown hK c_NU hP hS (fun _ h9 => h9) (hts _ (fs_tb_at 662 tw_662 rfl)) (hts _ (fs_tb_at 388 tw_388 rfl)) (hts _ (fs_tb_at 104 tw_104 rfl)) (by decide) (by omega) (by omega) d_LN_numeral_51 (fun a111 H hn_ hP hS => ?_)
      have hq := hq a111 hn_
      generalize eh_ : fs_up h107 a111 (.inr (4, [.long 0, .int 0, .null])) = h112 at hP hq
      refine lv_dup hx hb d_LN_numeral_54 rfl ?_
      refine lv_lload_n hx hb d_LN_numeral_55 rfl (lv_at hl 0 rfl) ?_
      refine lv_aload_n hx hb d_LN_numeral_56 rfl (lv_at hl 2 rfl) ?_
      obtain ⟨fs_, x113, he_, hv_, hq⟩ := fs_gi_some hq
      refine fs_get hx hb hts hown hK c_LN hP he_ 2 (by decide) (hts _ (fs_tb_at 142 tw_142 rfl)) (fun _ h9 => h9) hv_ d_LN_numeral_57 ?_
      refine lv_iload_n hx hb d_LN_numeral_60 rfl (lv_at hl 1 rfl) ?_
      refine lv_isub hx hb d_LN_numeral_61 ?_
      obtain ⟨c114, s115, hc_, hs_, hq⟩ := hq
      refine fs_cI B hl.1 hP hS (kw_NU_init hE hq) (fs_tb_at 663 tw_663 rfl) (fs_tb_at 664 tw_664 rfl) rfl (fs_tb_at 104 tw_104 rfl) (fs_tb_at 665 tw_665 rfl) (by decide) (show (parseMethodDescriptor y_NU_init.desc).map (fun d => d.parameters.length) = some 2 by decide +kernel) rfl d_LN_numeral_62 (fs_rm (k := 1) (by omega) (by omega) (by omega) (by omega) rfl) (fun v_ h116 H locs hq hP hS => ?_) (fun C_ a_ h_ H locs hq hP hS hX => fs_out (hout _) hlocks hw hP hS hX (show ((0 + 1) + c114) ≤ mc by omega) (show ((0 + 3) + s115) ≤ ms by omega) hq)
      refine fs_cs (k := ((0 + 1) + c114)) (n := ((0 + 3) + s115)) rfl rfl ?_
      replace hq := fs_kv_some hq
      obtain ⟨rfl, hq⟩ := hq
      refine W.eq (g2 := F0 m 65 ls (.ref a111 :: [])) rfl ?_
      exact fs_aret hx hb hr (Or.inl ⟨_, rfl⟩) (Or.inr ⟨_, rfl⟩) hlocks hw hP hS (by omega) (by omega) hq d_LN_numeral_65
    · have hq := fs_wifp c_110 hq
      refine lv_null hx hb d_LN_numeral_47 ?_
      refine lv_goto (tgt := 65) hx hb d_LN_numeral_48 (by decide) ?_
      exact fs_aret hx hb hr (Or.inl ⟨_, rfl⟩) (Or.inl rfl) hlocks hw hP hS (by omega) (by omega) hq d_LN_numeral_65
  · have hq := fs_wifp c_105 hq
    obtain ⟨hc_, hs_, hq⟩ := hq
    refine fs_new (fs := [.long 0, .int 0, .null]) hx hb hts hown hK c_NU hP hS (fun _ h9 => h9) (hts _ (fs_tb_at 662 tw_662 rfl)) (hts _ (fs_tb_at 388 tw_388 rfl)) (hts _ (fs_tb_at 104 tw_104 rfl)) (by decide) (by omega) (by omega) d_LN_numeral_17 (fun a117 H hn_ hP hS => ?_)
    have hq := hq a117 hn_
    generalize eh_ : fs_up h103 a117 (.inr (4, [.long 0, .int 0, .null])) = h118 at hP hq
    refine lv_dup hx hb d_LN_numeral_20 rfl ?_
    refine lv_lload_n hx hb d_LN_numeral_21 rfl (lv_at hl 0 rfl) ?_
    refine lv_iconst (v := 0) hx hb d_LN_numeral_22 (by decide) ?_
    obtain ⟨c119, s120, hc_, hs_, hq⟩ := hq
    refine fs_cI B hl.1 hP hS (kw_NU_init hE hq) (fs_tb_at 663 tw_663 rfl) (fs_tb_at 664 tw_664 rfl) rfl (fs_tb_at 104 tw_104 rfl) (fs_tb_at 665 tw_665 rfl) (by decide) (show (parseMethodDescriptor y_NU_init.desc).map (fun d => d.parameters.length) = some 2 by decide +kernel) rfl d_LN_numeral_23 (fs_rm (k := 1) (by omega) (by omega) (by omega) (by omega) rfl) (fun v_ h121 H locs hq hP hS => ?_) (fun C_ a_ h_ H locs hq hP hS hX => fs_out (hout _) hlocks hw hP hS hX (show ((0 + 1) + c119) ≤ mc by omega) (show ((0 + 3) + s120) ≤ ms by omega) hq)
    refine fs_cs (k := ((0 + 1) + c119)) (n := ((0 + 3) + s120)) rfl rfl ?_
    replace hq := fs_kv_some hq
    obtain ⟨rfl, hq⟩ := hq
    refine W.eq (g2 := F0 m 26 ls (.ref a117 :: [])) rfl ?_
    exact fs_aret hx hb hr (Or.inl ⟨_, rfl⟩) (Or.inr ⟨_, rfl⟩) hlocks hw hP hS (by omega) (by omega) hq d_LN_numeral_26
def w_LN_reference_J76 (E : fs_E) (Post : fs_Ps) (z1 : Int32) (z2 : Int32) (z3 : Int32) (z4 : Int32) (bc bs : Nat) (h1 : fs_Hp) : Prop := 1 ≤ bc ∧ 6 ≤ bs ∧ ∀ a101 : Nat, h1 a101 = none → (fun h102 : fs_Hp => ∃ c103 s104 : Nat, c103 ≤ (bc - 1) ∧ s104 ≤ (bs - 6) ∧ (w_RE_init c103 s104 E h102 a101 z1 z2 z3 z4 (fs_kv (fun h105 => Post (.inl (some (.ref a101))) h105) (fun C_ h_ => Post (.inr C_) h_)))) (fs_up h1 a101 (.inr (5, [.int 0, .int 0, .int 0, .int 0, .int 0, .null])))
def w_LN_reference (mc ms : Nat) (E : fs_E) (h : fs_Hp) (a0 : Nat) (Post : fs_Ps) : Prop := fs_isc h a0 1 ∧ (w_LN_take E h a0 36 (fs_ki (fun x107 h106 => fs_isc h106 a0 1 ∧ (w_LN_nextIsColumn E h106 a0 (fs_ki (fun x109 h108 => (if x109 = 0 then Post (.inl (some (.null))) h108 else fs_isc h108 a0 1 ∧ (w_LN_takeNext E h108 a0 (fs_ki (fun x112 h111 => fs_isc h111 a0 1 ∧ (w_LN_take E h111 a0 36 (fs_ki (fun x114 h113 => fs_isc h113 a0 1 ∧ (w_LN_nextIsDigit E h113 a0 (fs_ki (fun x116 h115 => (if x116 = 0 then Post (.inl (some (.null))) h115 else fs_isc h115 a0 1 ∧ (w_LN_next E h115 a0 (fs_ki (fun x119 h118 => (if x119 = 48 then Post (.inl (some (.null))) h118 else fs_isc h118 a0 1 ∧ (w_LN_takeNext E h118 a0 (fs_ki (fun x122 h121 => (if (x122 - 49) = 0 then fs_isc h121 a0 1 ∧ (w_LN_take E h121 a0 48 (fs_ki (fun x125 h124 => (if x125 = 0 then w_LN_reference_J76 E Post x107 (x112 - 97) x114 (x122 - 49) mc ms h124 else w_LN_reference_J76 E Post x107 (x112 - 97) x114 9 mc ms h124)) (fun C_ h_ => Post (.inr C_) h_))) else w_LN_reference_J76 E Post x107 (x112 - 97) x114 (x122 - 49) mc ms h121)) (fun C_ h_ => Post (.inr C_) h_))))) (fun C_ h_ => Post (.inr C_) h_))))) (fun C_ h_ => Post (.inr C_) h_)))) (fun C_ h_ => Post (.inr C_) h_)))) (fun C_ h_ => Post (.inr C_) h_))))) (fun C_ h_ => Post (.inr C_) h_)))) (fun C_ h_ => Post (.inr C_) h_)))
set_option maxHeartbeats 4000000 in
set_option maxRecDepth 100000 in
theorem kw_LN_reference {l : Launch} {s00 : State} {E : fs_E} (hE : fs_SE l s00 E) {mc ms : Nat} {h : fs_Hp} {a0 : Nat} {Post : fs_Ps} (hq : w_LN_reference mc ms E h a0 Post) : fs_Ct l s00 E.1 y_LN_reference (.code y_LN_reference b_LN_reference 5 (some ((.object "FormulaSheet$Reference")))) { frames := 3, cells := mc, slots := ms, locals := 50 } [.ref a0] h Post := by
  refine fs_Ct.ofR hE.1 (by decide) ?_
  intro p e R s m below meth c hRf hRl hRc hRs B hout hP
  skip
  obtain ⟨hx, hb, hr, hml, hown, hts, hlocks, hname, hK, hw, htr⟩ := id B
  have hown : s.vm.findClass "FormulaSheet$Line" = some m.cls := hown
  have hS := hw.S
  have hJ76 : ∀ (z1 : Int32) (z2 : Int32) (z3 : Int32) (z4 : Int32) (bc bs uc us : Nat) (h1 : fs_Hp) (H : Heap) (locs : List Loc) (ls : Array Slot), w_LN_reference_J76 E Post z1 z2 z3 z4 bc bs h1 → fs_P E.1.1 fs_cl (fs_A s00) h1 H → va_S (fs_A s00) s00.heap H locs → uc + bc ≤ mc → us + bs ≤ ms → lv_has ls 5 [(1, .int z1), (2, .int z2), (3, .int z3), (4, .int z4)] → W p l e R s m ([.ref a0] : List Value).toArray below meth c H locs uc us (fx_MQ below (fs_Qc s00 E.1 Post) ([.ref a0] : List Value).toArray s mc ms (fs_A s00)) (F0 m 76 ls ([])) := by
    intro z1 z2 z3 z4 bc bs uc us h1 H locs ls hq hP hS hu1 hu2 hl
    unfold w_LN_reference_J76 at hq
    obtain ⟨hc_, hs_, hq⟩ := hq
    refine fs_new (fs := [.int 0, .int 0, .int 0, .int 0, .int 0, .null]) hx hb hts hown hK c_RE hP hS (fun _ h9 => h9) (hts _ (fs_tb_at 695 tw_695 rfl)) (hts _ (fs_tb_at 335 tw_335 rfl)) (hts _ (fs_tb_at 105 tw_105 rfl)) (by decide) (by omega) (by omega) d_LN_reference_76 (fun a101 H hn_ hP hS => ?_)
    have hq := hq a101 hn_
    generalize eh_ : fs_up h1 a101 (.inr (5, [.int 0, .int 0, .int 0, .int 0, .int 0, .null])) = h102 at hP hq
    refine lv_dup hx hb d_LN_reference_79 rfl ?_
    refine lv_iload_n hx hb d_LN_reference_80 rfl (lv_at hl 0 rfl) ?_
    refine lv_iload_n hx hb d_LN_reference_81 rfl (lv_at hl 1 rfl) ?_
    refine lv_iload_n hx hb d_LN_reference_82 rfl (lv_at hl 2 rfl) ?_
    refine lv_iload hx hb d_LN_reference_83 (lv_at hl 3 rfl) ?_
    obtain ⟨c103, s104, hc_, hs_, hq⟩ := hq
    refine fs_cI B hl.1 hP hS (kw_RE_init hE hq) (fs_tb_at 696 tw_696 rfl) (fs_tb_at 697 tw_697 rfl) rfl (fs_tb_at 105 tw_105 rfl) (fs_tb_at 698 tw_698 rfl) (by decide) (show (parseMethodDescriptor y_RE_init.desc).map (fun d => d.parameters.length) = some 4 by decide +kernel) rfl d_LN_reference_85 (fs_rm (k := 1) (by omega) (by omega) (by omega) (by omega) rfl) (fun v_ h105 H locs hq hP hS => ?_) (fun C_ a_ h_ H locs hq hP hS hX => fs_out (hout _) hlocks hw hP hS hX (show ((uc + 1) + c103) ≤ mc by omega) (show ((us + 6) + s104) ≤ ms by omega) hq)
    refine fs_cs (k := ((uc + 1) + c103)) (n := ((us + 6) + s104)) rfl rfl ?_
    replace hq := fs_kv_some hq
    obtain ⟨rfl, hq⟩ := hq
    refine W.eq (g2 := F0 m 88 ls (.ref a101 :: [])) rfl ?_
    exact fs_aret hx hb hr (Or.inl ⟨_, rfl⟩) (Or.inr ⟨_, rfl⟩) hlocks hw hP hS (by omega) (by omega) hq d_LN_reference_88
  have hl := lv_entry ([.ref a0]) (n := 5) (Nat.le_of_ble_eq_true rfl)
  rw [lg_entry_eq]
  generalize (lg_sl ([.ref a0]) ++ List.replicate (5 - (lg_sl ([.ref a0])).length) Slot.unset).toArray = ls at hl ⊢
  have hl : lv_has ls 5 [(0, .ref a0)] := hl
  unfold w_LN_reference at hq
  refine lv_aload_n hx hb d_LN_reference_0 rfl (lv_at hl 0 rfl) ?_
  refine lv_bipush (v := 36) hx hb d_LN_reference_1 (by decide) ?_
  obtain ⟨hi_, hq⟩ := hq
  obtain ⟨fs_, he_⟩ := fs_isc_some hi_
  refine fs_cV B hl.1 hP hS (kw_LN_take hE hq) (fs_tb_at 621 tw_621 rfl) he_ rfl (fs_tb_at 623 tw_623 rfl) (fs_tb_at 17 tw_17 rfl) (fs_tb_at 89 tw_89 rfl) (fs_tb_at 624 tw_624 rfl) (by decide) (show (parseMethodDescriptor y_LN_take.desc).map (fun d => d.parameters.length) = some 1 by decide +kernel) rfl d_LN_reference_3 (fs_rm (k := 0) (by omega) (by omega) (by omega) (by omega) rfl) (fun v_ h106 H locs hq hP hS => ?_) (fun C_ a_ h_ H locs hq hP hS hX => fs_out (hout _) hlocks hw hP hS hX (show 0 ≤ mc by omega) (show 0 ≤ ms by omega) hq)
  refine fs_cs (k := 0) (n := 0) rfl rfl ?_
  replace hq := fs_ki_some hq
  obtain ⟨x107, rfl, hq⟩ := hq
  refine W.eq (g2 := F0 m 6 ls (.int x107 :: [])) rfl ?_
  refine lv_istore_n (lv' := [(1, .int x107), (0, .ref a0)]) hx hb d_LN_reference_6 rfl hl (by decide) rfl (fun ls hl => ?_)
  refine lv_aload_n hx hb d_LN_reference_7 rfl (lv_at hl 1 rfl) ?_
  obtain ⟨hi_, hq⟩ := hq
  obtain ⟨fs_, he_⟩ := fs_isc_some hi_
  refine fs_cV B hl.1 hP hS (kw_LN_nextIsColumn hE hq) (fs_tb_at 687 tw_687 rfl) he_ rfl (fs_tb_at 689 tw_689 rfl) (fs_tb_at 27 tw_27 rfl) (fs_tb_at 89 tw_89 rfl) (fs_tb_at 690 tw_690 rfl) (by decide) (show (parseMethodDescriptor y_LN_nextIsColumn.desc).map (fun d => d.parameters.length) = some 0 by decide +kernel) rfl d_LN_reference_8 (fs_rm (k := 0) (by omega) (by omega) (by omega) (by omega) rfl) (fun v_ h108 H locs hq hP hS => ?_) (fun C_ a_ h_ H locs hq hP hS hX => fs_out (hout _) hlocks hw hP hS hX (show 0 ≤ mc by omega) (show 0 ≤ ms by omega) hq)
  refine fs_cs (k := 0) (n := 0) rfl rfl ?_
  replace hq := fs_ki_some hq
  obtain ⟨x109, rfl, hq⟩ := hq
  refine W.eq (g2 := F0 m 11 ls (.int x109 :: [])) rfl ?_
  refine lv_if_ne (tgt := 16) hx hb d_LN_reference_11 (by decide) (fun c_110 => ?_) (fun c_110 => ?_)
  · have hq := fs_wifn c_110 hq
    refine lv_aload_n hx hb d_LN_reference_16 rfl (lv_at hl 1 rfl) ?_
    obtain ⟨hi_, hq⟩ := hq
    obtain ⟨fs_, he_⟩ := fs_isc_some hi_
    refine fs_cV B hl.1 hP hS (kw_LN_takeNext hE hq) (fs_tb_at 658 tw_658 rfl) he_ rfl (fs_tb_at 660 tw_660 rfl) (fs_tb_at 26 tw_26 rfl) (fs_tb_at 89 tw_89 rfl) (fs_tb_at 661 tw_661 rfl) (by decide) (show (parseMethodDescriptor y_LN_takeNext.desc).map (fun d => d.parameters.length) = some 0 by decide +kernel) rfl d_LN_reference_17 (fs_rm (k := 0) (by omega) (by omega) (by omega) (by omega) rfl) (fun v_ h111 H locs hq hP hS => ?_) (fun C_ a_ h_ H locs hq hP hS hX => fs_out (hout _) hlocks hw hP hS hX (show 0 ≤ mc by omega) (show 0 ≤ ms by omega) hq)
    refine fs_cs (k := 0) (n := 0) rfl rfl ?_
    replace hq := fs_ki_some hq
    obtain ⟨x112, rfl, hq⟩ := hq
    refine W.eq (g2 := F0 m 20 ls (.int x112 :: [])) rfl ?_
    refine lv_bipush (v := 97) hx hb d_LN_reference_20 (by decide) ?_
    refine lv_isub hx hb d_LN_reference_22 ?_
    refine lv_istore_n (lv' := [(2, .int (x112 - 97)), (1, .int x107), (0, .ref a0)]) hx hb d_LN_reference_23 rfl hl (by decide) rfl (fun ls hl => ?_)
    refine lv_aload_n hx hb d_LN_reference_24 rfl (lv_at hl 2 rfl) ?_
    refine lv_bipush (v := 36) hx hb d_LN_reference_25 (by decide) ?_
    obtain ⟨hi_, hq⟩ := hq
    obtain ⟨fs_, he_⟩ := fs_isc_some hi_
    refine fs_cV B hl.1 hP hS (kw_LN_take hE hq) (fs_tb_at 621 tw_621 rfl) he_ rfl (fs_tb_at 623 tw_623 rfl) (fs_tb_at 17 tw_17 rfl) (fs_tb_at 89 tw_89 rfl) (fs_tb_at 624 tw_624 rfl) (by decide) (show (parseMethodDescriptor y_LN_take.desc).map (fun d => d.parameters.length) = some 1 by decide +kernel) rfl d_LN_reference_27 (fs_rm (k := 0) (by omega) (by omega) (by omega) (by omega) rfl) (fun v_ h113 H locs hq hP hS => ?_) (fun C_ a_ h_ H locs hq hP hS hX => fs_out (hout _) hlocks hw hP hS hX (show 0 ≤ mc by omega) (show 0 ≤ ms by omega) hq)
    refine fs_cs (k := 0) (n := 0) rfl rfl ?_
    replace hq := fs_ki_some hq
    obtain ⟨x114, rfl, hq⟩ := hq
    refine W.eq (g2 := F0 m 30 ls (.int x114 :: [])) rfl ?_
    refine lv_istore_n (lv' := [(3, .int x114), (2, .int (x112 - 97)), (1, .int x107), (0, .ref a0)]) hx hb d_LN_reference_30 rfl hl (by decide) rfl (fun ls hl => ?_)
    refine lv_aload_n hx hb d_LN_reference_31 rfl (lv_at hl 3 rfl) ?_
    obtain ⟨hi_, hq⟩ := hq
    obtain ⟨fs_, he_⟩ := fs_isc_some hi_
    refine fs_cV B hl.1 hP hS (kw_LN_nextIsDigit hE hq) (fs_tb_at 645 tw_645 rfl) he_ rfl (fs_tb_at 647 tw_647 rfl) (fs_tb_at 23 tw_23 rfl) (fs_tb_at 89 tw_89 rfl) (fs_tb_at 648 tw_648 rfl) (by decide) (show (parseMethodDescriptor y_LN_nextIsDigit.desc).map (fun d => d.parameters.length) = some 0 by decide +kernel) rfl d_LN_reference_32 (fs_rm (k := 0) (by omega) (by omega) (by omega) (by omega) rfl) (fun v_ h115 H locs hq hP hS => ?_) (fun C_ a_ h_ H locs hq hP hS hX => fs_out (hout _) hlocks hw hP hS hX (show 0 ≤ mc by omega) (show 0 ≤ ms by omega) hq)
    refine fs_cs (k := 0) (n := 0) rfl rfl ?_
    replace hq := fs_ki_some hq
    obtain ⟨x116, rfl, hq⟩ := hq
    refine W.eq (g2 := F0 m 35 ls (.int x116 :: [])) rfl ?_
    refine lv_if_eq (tgt := 47) hx hb d_LN_reference_35 (by decide) (fun c_117 => ?_) (fun c_117 => ?_)
    · have hq := fs_wifp c_117 hq
      refine lv_null hx hb d_LN_reference_47 ?_
      exact fs_aret hx hb hr (Or.inl ⟨_, rfl⟩) (Or.inl rfl) hlocks hw hP hS (by omega) (by omega) hq d_LN_reference_48
    · have hq := fs_wifn c_117 hq
      refine lv_aload_n hx hb d_LN_reference_38 rfl (lv_at hl 3 rfl) ?_
      obtain ⟨hi_, hq⟩ := hq
      obtain ⟨fs_, he_⟩ := fs_isc_some hi_
      refine fs_cV B hl.1 hP hS (kw_LN_next hE hq) (fs_tb_at 625 tw_625 rfl) he_ rfl (fs_tb_at 627 tw_627 rfl) (fs_tb_at 18 tw_18 rfl) (fs_tb_at 89 tw_89 rfl) (fs_tb_at 628 tw_628 rfl) (by decide) (show (parseMethodDescriptor y_LN_next.desc).map (fun d => d.parameters.length) = some 0 by decide +kernel) rfl d_LN_reference_39 (fs_rm (k := 0) (by omega) (by omega) (by omega) (by omega) rfl) (fun v_ h118 H locs hq hP hS => ?_) (fun C_ a_ h_ H locs hq hP hS hX => fs_out (hout _) hlocks hw hP hS hX (show 0 ≤ mc by omega) (show 0 ≤ ms by omega) hq)
      refine fs_cs (k := 0) (n := 0) rfl rfl ?_
      replace hq := fs_ki_some hq
      obtain ⟨x119, rfl, hq⟩ := hq
      refine W.eq (g2 := F0 m 42 ls (.int x119 :: [])) rfl ?_
      refine lv_bipush (v := 48) hx hb d_LN_reference_42 (by decide) ?_
      refine lv_icmp_ne (tgt := 49) hx hb d_LN_reference_44 (by decide) (fun c_120 => ?_) (fun c_120 => ?_)
      · have hq := fs_wifn c_120 hq
        refine lv_aload_n hx hb d_LN_reference_49 rfl (lv_at hl 3 rfl) ?_
        obtain ⟨hi_, hq⟩ := hq
        obtain ⟨fs_, he_⟩ := fs_isc_some hi_
        refine fs_cV B hl.1 hP hS (kw_LN_takeNext hE hq) (fs_tb_at 658 tw_658 rfl) he_ rfl (fs_tb_at 660 tw_660 rfl) (fs_tb_at 26 tw_26 rfl) (fs_tb_at 89 tw_89 rfl) (fs_tb_at 661 tw_661 rfl) (by decide) (show (parseMethodDescriptor y_LN_takeNext.desc).map (fun d => d.parameters.length) = some 0 by decide +kernel) rfl d_LN_reference_50 (fs_rm (k := 0) (by omega) (by omega) (by omega) (by omega) rfl) (fun v_ h121 H locs hq hP hS => ?_) (fun C_ a_ h_ H locs hq hP hS hX => fs_out (hout _) hlocks hw hP hS hX (show 0 ≤ mc by omega) (show 0 ≤ ms by omega) hq)
        refine fs_cs (k := 0) (n := 0) rfl rfl ?_
        replace hq := fs_ki_some hq
        obtain ⟨x122, rfl, hq⟩ := hq
        refine W.eq (g2 := F0 m 53 ls (.int x122 :: [])) rfl ?_
        refine lv_bipush (v := 49) hx hb d_LN_reference_53 (by decide) ?_
        refine lv_isub hx hb d_LN_reference_55 ?_
        refine lv_istore (lv' := [(4, .int (x122 - 49)), (3, .int x114), (2, .int (x112 - 97)), (1, .int x107), (0, .ref a0)]) hx hb d_LN_reference_56 hl (by decide) rfl (fun ls hl => ?_)
        refine lv_iload hx hb d_LN_reference_58 (lv_at hl 0 rfl) ?_
        refine lv_if_ne (tgt := 76) hx hb d_LN_reference_60 (by decide) (fun c_123 => ?_) (fun c_123 => ?_)
        · have hq := fs_wifn c_123 hq
          exact hJ76 x107 (x112 - 97) x114 (x122 - 49) mc ms 0 0 _ _ _ _ hq hP hS (by omega) (by omega) (show lv_has ls 5 [(1, .int x107), (2, .int (x112 - 97)), (3, .int x114), (4, .int (x122 - 49))] from lv_sub hl [3, 2, 1, 0] rfl)
        · have hq := fs_wifp c_123 hq
          refine lv_aload_n hx hb d_LN_reference_63 rfl (lv_at hl 4 rfl) ?_
          refine lv_bipush (v := 48) hx hb d_LN_reference_64 (by decide) ?_
          obtain ⟨hi_, hq⟩ := hq
          obtain ⟨fs_, he_⟩ := fs_isc_some hi_
          refine fs_cV B hl.1 hP hS (kw_LN_take hE hq) (fs_tb_at 621 tw_621 rfl) he_ rfl (fs_tb_at 623 tw_623 rfl) (fs_tb_at 17 tw_17 rfl) (fs_tb_at 89 tw_89 rfl) (fs_tb_at 624 tw_624 rfl) (by decide) (show (parseMethodDescriptor y_LN_take.desc).map (fun d => d.parameters.length) = some 1 by decide +kernel) rfl d_LN_reference_66 (fs_rm (k := 0) (by omega) (by omega) (by omega) (by omega) rfl) (fun v_ h124 H locs hq hP hS => ?_) (fun C_ a_ h_ H locs hq hP hS hX => fs_out (hout _) hlocks hw hP hS hX (show 0 ≤ mc by omega) (show 0 ≤ ms by omega) hq)
          refine fs_cs (k := 0) (n := 0) rfl rfl ?_
          replace hq := fs_ki_some hq
          obtain ⟨x125, rfl, hq⟩ := hq
          refine W.eq (g2 := F0 m 69 ls (.int x125 :: [])) rfl ?_
          refine lv_if_eq (tgt := 76) hx hb d_LN_reference_69 (by decide) (fun c_126 => ?_) (fun c_126 => ?_)
          · have hq := fs_wifp c_126 hq
            exact hJ76 x107 (x112 - 97) x114 (x122 - 49) mc ms 0 0 _ _ _ _ hq hP hS (by omega) (by omega) (show lv_has ls 5 [(1, .int x107), (2, .int (x112 - 97)), (3, .int x114), (4, .int (x122 - 49))] from lv_sub hl [3, 2, 1, 0] rfl)
          · have hq := fs_wifn c_126 hq
            refine lv_bipush (v := 9) hx hb d_LN_reference_72 (by decide) ?_
            refine lv_istore (lv' := [(4, .int 9), (3, .int x114), (2, .int (x112 - 97)), (1, .int x107), (0, .ref a0)]) hx hb d_LN_reference_74 hl (by decide) rfl (fun ls hl => ?_)
            exact hJ76 x107 (x112 - 97) x114 9 mc ms 0 0 _ _ _ _ hq hP hS (by omega) (by omega) (show lv_has ls 5 [(1, .int x107), (2, .int (x112 - 97)), (3, .int x114), (4, .int 9)] from lv_sub hl [3, 2, 1, 0] rfl)
      · have hq := fs_wifp c_120 hq
        refine lv_null hx hb d_LN_reference_47 ?_
        exact fs_aret hx hb hr (Or.inl ⟨_, rfl⟩) (Or.inl rfl) hlocks hw hP hS (by omega) (by omega) hq d_LN_reference_48
  · have hq := fs_wifp c_110 hq
    refine lv_null hx hb d_LN_reference_14 ?_
    exact fs_aret hx hb hr (Or.inl ⟨_, rfl⟩) (Or.inl rfl) hlocks hw hP hS (by omega) (by omega) hq d_LN_reference_15
def w_LN_overRange (mc ms : Nat) (E : fs_E) (h : fs_Hp) (a0 : Nat) (x1 : Nat) (Post : fs_Ps) : Prop := ∃ c101 s102 : Nat, c101 ≤ mc ∧ s102 ≤ ms ∧ (fs_isc h a0 1 ∧ (w_LN_reference c101 s102 E h a0 (fs_ko (fun h103 => Post (.inl (some (.null))) h103) (fun a104 h103 => fs_isc h103 a0 1 ∧ (w_LN_take E h103 a0 58 (fs_ki (fun x106 h105 => (if x106 = 0 then Post (.inl (some (.null))) h105 else ∃ c108 s109 : Nat, c108 ≤ (mc - c101) ∧ s109 ≤ (ms - s102) ∧ (fs_isc h105 a0 1 ∧ (w_LN_reference c108 s109 E h105 a0 (fs_ko (fun h110 => Post (.inl (some (.null))) h110) (fun a111 h110 => 1 ≤ ((mc - c101) - c108) ∧ 4 ≤ ((ms - s102) - s109) ∧ ∀ a112 : Nat, h110 a112 = none → (fun h113 : fs_Hp => ∃ c114 s115 : Nat, c114 ≤ (((mc - c101) - c108) - 1) ∧ s115 ≤ (((ms - s102) - s109) - 4) ∧ (w_OV_init c114 s115 E h113 a112 x1 a104 a111 (fs_kv (fun h116 => Post (.inl (some (.ref a112))) h116) (fun C_ h_ => Post (.inr C_) h_)))) (fs_up h110 a112 (.inr (9, [.null, .null, .null, .null])))) (fun C_ h_ => Post (.inr C_) h_)))))) (fun C_ h_ => Post (.inr C_) h_)))) (fun C_ h_ => Post (.inr C_) h_))))
set_option maxHeartbeats 4000000 in
set_option maxRecDepth 100000 in
theorem kw_LN_overRange {l : Launch} {s00 : State} {E : fs_E} (hE : fs_SE l s00 E) {mc ms : Nat} {h : fs_Hp} {a0 : Nat} {x1 : Nat} {Post : fs_Ps} (hq : w_LN_overRange mc ms E h a0 x1 Post) : fs_Ct l s00 E.1 y_LN_overRange (.code y_LN_overRange b_LN_overRange 4 (some ((.object "FormulaSheet$Part")))) { frames := 4, cells := mc, slots := ms, locals := 66 } [.ref a0, .ref x1] h Post := by
  refine fs_Ct.ofR hE.1 (by decide) ?_
  intro p e R s m below meth c hRf hRl hRc hRs B hout hP
  skip
  obtain ⟨hx, hb, hr, hml, hown, hts, hlocks, hname, hK, hw, htr⟩ := id B
  have hown : s.vm.findClass "FormulaSheet$Line" = some m.cls := hown
  have hS := hw.S
  have hl := lv_entry ([.ref a0, .ref x1]) (n := 4) (Nat.le_of_ble_eq_true rfl)
  rw [lg_entry_eq]
  generalize (lg_sl ([.ref a0, .ref x1]) ++ List.replicate (4 - (lg_sl ([.ref a0, .ref x1])).length) Slot.unset).toArray = ls at hl ⊢
  have hl : lv_has ls 4 [(0, .ref a0), (1, .ref x1)] := hl
  unfold w_LN_overRange at hq
  refine lv_aload_n hx hb d_LN_overRange_0 rfl (lv_at hl 0 rfl) ?_
  obtain ⟨c101, s102, hc_, hs_, hq⟩ := hq
  obtain ⟨hi_, hq⟩ := hq
  obtain ⟨fs_, he_⟩ := fs_isc_some hi_
  refine fs_cV B hl.1 hP hS (kw_LN_reference hE hq) (fs_tb_at 691 tw_691 rfl) he_ rfl (fs_tb_at 693 tw_693 rfl) (fs_tb_at 28 tw_28 rfl) (fs_tb_at 89 tw_89 rfl) (fs_tb_at 694 tw_694 rfl) (by decide) (show (parseMethodDescriptor y_LN_reference.desc).map (fun d => d.parameters.length) = some 0 by decide +kernel) rfl d_LN_overRange_1 (fs_rm (k := 0) (by omega) (by omega) (by omega) (by omega) rfl) (fun v_ h103 H locs hq hP hS => ?_) (fun C_ a_ h_ H locs hq hP hS hX => fs_out (hout _) hlocks hw hP hS hX (show (0 + c101) ≤ mc by omega) (show (0 + s102) ≤ ms by omega) hq)
  refine fs_cs (k := (0 + c101)) (n := (0 + s102)) rfl rfl ?_
  replace hq := fs_ko_some hq
  rcases hq with ⟨rfl, hq⟩ | ⟨a104, rfl, hq⟩
  · refine W.eq (g2 := F0 m 4 ls (.null :: [])) rfl ?_
    refine lv_astore_nN (lv' := [(2, .null), (0, .ref a0), (1, .ref x1)]) hx hb d_LN_overRange_4 rfl hl (by decide) rfl (fun ls hl => ?_)
    refine lv_aload_nN hx hb d_LN_overRange_5 rfl (lv_at hl 0 rfl) ?_
    refine lv_ifnullN (tgt := 18) hx hb d_LN_overRange_6 (by decide) ?_
    refine lv_null hx hb d_LN_overRange_18 ?_
    exact fs_aret hx hb hr (Or.inl ⟨_, rfl⟩) (Or.inl rfl) hlocks hw hP hS (by omega) (by omega) hq d_LN_overRange_19
  · refine W.eq (g2 := F0 m 4 ls (.ref a104 :: [])) rfl ?_
    refine lv_astore_n (lv' := [(2, .ref a104), (0, .ref a0), (1, .ref x1)]) hx hb d_LN_overRange_4 rfl hl (by decide) rfl (fun ls hl => ?_)
    refine lv_aload_n hx hb d_LN_overRange_5 rfl (lv_at hl 0 rfl) ?_
    refine lv_ifnull hx hb d_LN_overRange_6 ?_
    refine lv_aload_n hx hb d_LN_overRange_9 rfl (lv_at hl 1 rfl) ?_
    refine lv_bipush (v := 58) hx hb d_LN_overRange_10 (by decide) ?_
    obtain ⟨hi_, hq⟩ := hq
    obtain ⟨fs_, he_⟩ := fs_isc_some hi_
    refine fs_cV B hl.1 hP hS (kw_LN_take hE hq) (fs_tb_at 621 tw_621 rfl) he_ rfl (fs_tb_at 623 tw_623 rfl) (fs_tb_at 17 tw_17 rfl) (fs_tb_at 89 tw_89 rfl) (fs_tb_at 624 tw_624 rfl) (by decide) (show (parseMethodDescriptor y_LN_take.desc).map (fun d => d.parameters.length) = some 1 by decide +kernel) rfl d_LN_overRange_12 (fs_rm (k := 0) (by omega) (by omega) (by omega) (by omega) rfl) (fun v_ h105 H locs hq hP hS => ?_) (fun C_ a_ h_ H locs hq hP hS hX => fs_out (hout _) hlocks hw hP hS hX (show (0 + c101) ≤ mc by omega) (show (0 + s102) ≤ ms by omega) hq)
    refine fs_cs (k := (0 + c101)) (n := (0 + s102)) rfl rfl ?_
    replace hq := fs_ki_some hq
    obtain ⟨x106, rfl, hq⟩ := hq
    refine W.eq (g2 := F0 m 15 ls (.int x106 :: [])) rfl ?_
    refine lv_if_ne (tgt := 20) hx hb d_LN_overRange_15 (by decide) (fun c_107 => ?_) (fun c_107 => ?_)
    · have hq := fs_wifn c_107 hq
      refine lv_aload_n hx hb d_LN_overRange_20 rfl (lv_at hl 1 rfl) ?_
      obtain ⟨c108, s109, hc_, hs_, hq⟩ := hq
      obtain ⟨hi_, hq⟩ := hq
      obtain ⟨fs_, he_⟩ := fs_isc_some hi_
      refine fs_cV B hl.1 hP hS (kw_LN_reference hE hq) (fs_tb_at 691 tw_691 rfl) he_ rfl (fs_tb_at 693 tw_693 rfl) (fs_tb_at 28 tw_28 rfl) (fs_tb_at 89 tw_89 rfl) (fs_tb_at 694 tw_694 rfl) (by decide) (show (parseMethodDescriptor y_LN_reference.desc).map (fun d => d.parameters.length) = some 0 by decide +kernel) rfl d_LN_overRange_21 (fs_rm (k := 0) (by omega) (by omega) (by omega) (by omega) rfl) (fun v_ h110 H locs hq hP hS => ?_) (fun C_ a_ h_ H locs hq hP hS hX => fs_out (hout _) hlocks hw hP hS hX (show ((0 + c101) + c108) ≤ mc by omega) (show ((0 + s102) + s109) ≤ ms by omega) hq)
      refine fs_cs (k := ((0 + c101) + c108)) (n := ((0 + s102) + s109)) rfl rfl ?_
      replace hq := fs_ko_some hq
      rcases hq with ⟨rfl, hq⟩ | ⟨a111, rfl, hq⟩
      · refine W.eq (g2 := F0 m 24 ls (.null :: [])) rfl ?_
        refine lv_astore_nN (lv' := [(3, .null), (2, .ref a104), (0, .ref a0), (1, .ref x1)]) hx hb d_LN_overRange_24 rfl hl (by decide) rfl (fun ls hl => ?_)
        refine lv_aload_nN hx hb d_LN_overRange_25 rfl (lv_at hl 0 rfl) ?_
        refine lv_ifnonnullN hx hb d_LN_overRange_26 ?_
        refine lv_null hx hb d_LN_overRange_29 ?_
        refine lv_goto (tgt := 43) hx hb d_LN_overRange_30 (by decide) ?_
        exact fs_aret hx hb hr (Or.inl ⟨_, rfl⟩) (Or.inl rfl) hlocks hw hP hS (by omega) (by omega) hq d_LN_overRange_43
      · refine W.eq (g2 := F0 m 24 ls (.ref a111 :: [])) rfl ?_
        refine lv_astore_n (lv' := [(3, .ref a111), (2, .ref a104), (0, .ref a0), (1, .ref x1)]) hx hb d_LN_overRange_24 rfl hl (by decide) rfl (fun ls hl => ?_)
        refine lv_aload_n hx hb d_LN_overRange_25 rfl (lv_at hl 0 rfl) ?_
        refine lv_ifnonnull (tgt := 33) hx hb d_LN_overRange_26 (by decide) ?_
        obtain ⟨hc_, hs_, hq⟩ := hq
        refine fs_new (fs := [.null, .null, .null, .null]) hx hb hts hown hK c_OV hP hS (fun _ h9 => h9) (hts _ (fs_tb_at 791 tw_791 rfl)) (hts _ (fs_tb_at 300 tw_300 rfl)) (hts _ (fs_tb_at 109 tw_109 rfl)) (by decide) (by omega) (by omega) d_LN_overRange_33 (fun a112 H hn_ hP hS => ?_)
        have hq := hq a112 hn_
        generalize eh_ : fs_up h110 a112 (.inr (9, [.null, .null, .null, .null])) = h113 at hP hq
        refine lv_dup hx hb d_LN_overRange_36 rfl ?_
        refine lv_aload_n hx hb d_LN_overRange_37 rfl (lv_at hl 3 rfl) ?_
        refine lv_aload_n hx hb d_LN_overRange_38 rfl (lv_at hl 1 rfl) ?_
        refine lv_aload_n hx hb d_LN_overRange_39 rfl (lv_at hl 0 rfl) ?_
        obtain ⟨c114, s115, hc_, hs_, hq⟩ := hq
        refine fs_cI B hl.1 hP hS (kw_OV_init hE hq) (fs_tb_at 792 tw_792 rfl) (fs_tb_at 793 tw_793 rfl) rfl (fs_tb_at 109 tw_109 rfl) (fs_tb_at 794 tw_794 rfl) (by decide) (show (parseMethodDescriptor y_OV_init.desc).map (fun d => d.parameters.length) = some 3 by decide +kernel) rfl d_LN_overRange_40 (fs_rm (k := 1) (by omega) (by omega) (by omega) (by omega) rfl) (fun v_ h116 H locs hq hP hS => ?_) (fun C_ a_ h_ H locs hq hP hS hX => fs_out (hout _) hlocks hw hP hS hX (show ((((0 + c101) + c108) + 1) + c114) ≤ mc by omega) (show ((((0 + s102) + s109) + 4) + s115) ≤ ms by omega) hq)
        refine fs_cs (k := ((((0 + c101) + c108) + 1) + c114)) (n := ((((0 + s102) + s109) + 4) + s115)) rfl rfl ?_
        replace hq := fs_kv_some hq
        obtain ⟨rfl, hq⟩ := hq
        refine W.eq (g2 := F0 m 43 ls (.ref a112 :: [])) rfl ?_
        exact fs_aret hx hb hr (Or.inl ⟨_, rfl⟩) (Or.inr ⟨_, rfl⟩) hlocks hw hP hS (by omega) (by omega) hq d_LN_overRange_43
    · have hq := fs_wifp c_107 hq
      refine lv_null hx hb d_LN_overRange_18 ?_
      exact fs_aret hx hb hr (Or.inl ⟨_, rfl⟩) (Or.inl rfl) hlocks hw hP hS (by omega) (by omega) hq d_LN_overRange_19
