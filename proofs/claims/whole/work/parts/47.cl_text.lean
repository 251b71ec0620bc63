/-! The library's texts, as conditions. -/
abbrev b_ST_coder : ByteArray := prog_28_method_152_code
def y_ST_coder : MethodName := ⟨"java/lang/String", "coder", "()B"⟩
theorem d_ST_coder_0 : decode b_ST_coder 0 = .ok (.getstatic 38, 3) := by decide +kernel
theorem d_ST_coder_3 : decode b_ST_coder 3 = .ok (.ifCond .eq 10, 3) := by decide +kernel
theorem d_ST_coder_6 : decode b_ST_coder 6 = .ok (.aload_n 0, 1) := by decide +kernel
theorem d_ST_coder_7 : decode b_ST_coder 7 = .ok (.getfield 15, 3) := by decide +kernel
theorem d_ST_coder_10 : decode b_ST_coder 10 = .ok (.goto 4, 3) := by decide +kernel
theorem d_ST_coder_13 : decode b_ST_coder 13 = .ok (.iconst 1, 1) := by decide +kernel
theorem d_ST_coder_14 : decode b_ST_coder 14 = .ok (.ireturn, 1) := by decide +kernel
abbrev b_ST_isLatin1 : ByteArray := prog_28_method_154_code
def y_ST_isLatin1 : MethodName := ⟨"java/lang/String", "isLatin1", "()Z"⟩
theorem d_ST_isLatin1_0 : decode b_ST_isLatin1 0 = .ok (.getstatic 38, 3) := by decide +kernel
theorem d_ST_isLatin1_3 : decode b_ST_isLatin1 3 = .ok (.ifCond .eq 14, 3) := by decide +kernel
theorem d_ST_isLatin1_6 : decode b_ST_isLatin1 6 = .ok (.aload_n 0, 1) := by decide +kernel
theorem d_ST_isLatin1_7 : decode b_ST_isLatin1 7 = .ok (.getfield 15, 3) := by decide +kernel
theorem d_ST_isLatin1_10 : decode b_ST_isLatin1 10 = .ok (.ifCond .ne 7, 3) := by decide +kernel
theorem d_ST_isLatin1_13 : decode b_ST_isLatin1 13 = .ok (.iconst 1, 1) := by decide +kernel
theorem d_ST_isLatin1_14 : decode b_ST_isLatin1 14 = .ok (.goto 4, 3) := by decide +kernel
theorem d_ST_isLatin1_17 : decode b_ST_isLatin1 17 = .ok (.iconst 0, 1) := by decide +kernel
theorem d_ST_isLatin1_18 : decode b_ST_isLatin1 18 = .ok (.ireturn, 1) := by decide +kernel
abbrev b_ST_length : ByteArray := prog_28_method_54_code
def y_ST_length : MethodName := ⟨"java/lang/String", "length", "()I"⟩
theorem d_ST_length_0 : decode b_ST_length 0 = .ok (.aload_n 0, 1) := by decide +kernel
theorem d_ST_length_1 : decode b_ST_length 1 = .ok (.getfield 9, 3) := by decide +kernel
theorem d_ST_length_4 : decode b_ST_length 4 = .ok (.arraylength, 1) := by decide +kernel
theorem d_ST_length_5 : decode b_ST_length 5 = .ok (.aload_n 0, 1) := by decide +kernel
theorem d_ST_length_6 : decode b_ST_length 6 = .ok (.invokevirtual 335, 3) := by decide +kernel
theorem d_ST_length_9 : decode b_ST_length 9 = .ok (.ishr, 1) := by decide +kernel
theorem d_ST_length_10 : decode b_ST_length 10 = .ok (.ireturn, 1) := by decide +kernel
abbrev b_PC_checkIndex : ByteArray := prog_39_method_11_code
def y_PC_checkIndex : MethodName := ⟨"jdk/internal/util/Preconditions", "checkIndex", "(IILjava/util/function/BiFunction;)I"⟩
theorem d_PC_checkIndex_0 : decode b_PC_checkIndex 0 = .ok (.iload_n 0, 1) := by decide +kernel
theorem d_PC_checkIndex_1 : decode b_PC_checkIndex 1 = .ok (.ifCond .lt 8, 3) := by decide +kernel
theorem d_PC_checkIndex_4 : decode b_PC_checkIndex 4 = .ok (.iload_n 0, 1) := by decide +kernel
theorem d_PC_checkIndex_5 : decode b_PC_checkIndex 5 = .ok (.iload_n 1, 1) := by decide +kernel
theorem d_PC_checkIndex_6 : decode b_PC_checkIndex 6 = .ok (.if_icmp .lt 10, 3) := by decide +kernel
theorem d_PC_checkIndex_9 : decode b_PC_checkIndex 9 = .ok (.aload_n 2, 1) := by decide +kernel
theorem d_PC_checkIndex_10 : decode b_PC_checkIndex 10 = .ok (.iload_n 0, 1) := by decide +kernel
theorem d_PC_checkIndex_11 : decode b_PC_checkIndex 11 = .ok (.iload_n 1, 1) := by decide +kernel
theorem d_PC_checkIndex_12 : decode b_PC_checkIndex 12 = .ok (.invokestatic 95, 3) := by decide +kernel
theorem d_PC_checkIndex_15 : decode b_PC_checkIndex 15 = .ok (.athrow, 1) := by decide +kernel
theorem d_PC_checkIndex_16 : decode b_PC_checkIndex 16 = .ok (.iload_n 0, 1) := by decide +kernel
theorem d_PC_checkIndex_17 : decode b_PC_checkIndex 17 = .ok (.ireturn, 1) := by decide +kernel
abbrev b_ST_checkIndex : ByteArray := prog_28_method_155_code
def y_ST_checkIndex : MethodName := ⟨"java/lang/String", "checkIndex", "(II)V"⟩
theorem d_ST_checkIndex_0 : decode b_ST_checkIndex 0 = .ok (.iload_n 0, 1) := by decide +kernel
theorem d_ST_checkIndex_1 : decode b_ST_checkIndex 1 = .ok (.iload_n 1, 1) := by decide +kernel
theorem d_ST_checkIndex_2 : decode b_ST_checkIndex 2 = .ok (.getstatic 1053, 3) := by decide +kernel
theorem d_ST_checkIndex_5 : decode b_ST_checkIndex 5 = .ok (.invokestatic 1059, 3) := by decide +kernel
theorem d_ST_checkIndex_8 : decode b_ST_checkIndex 8 = .ok (.pop, 1) := by decide +kernel
theorem d_ST_checkIndex_9 : decode b_ST_checkIndex 9 = .ok (.return_, 1) := by decide +kernel
abbrev b_SL_charAt : ByteArray := prog_31_method_2_code
def y_SL_charAt : MethodName := ⟨"java/lang/StringLatin1", "charAt", "([BI)C"⟩
theorem d_SL_charAt_0 : decode b_SL_charAt 0 = .ok (.iload_n 1, 1) := by decide +kernel
theorem d_SL_charAt_1 : decode b_SL_charAt 1 = .ok (.aload_n 0, 1) := by decide +kernel
theorem d_SL_charAt_2 : decode b_SL_charAt 2 = .ok (.arraylength, 1) := by decide +kernel
theorem d_SL_charAt_3 : decode b_SL_charAt 3 = .ok (.invokestatic 9, 3) := by decide +kernel
theorem d_SL_charAt_6 : decode b_SL_charAt 6 = .ok (.aload_n 0, 1) := by decide +kernel
theorem d_SL_charAt_7 : decode b_SL_charAt 7 = .ok (.iload_n 1, 1) := by decide +kernel
theorem d_SL_charAt_8 : decode b_SL_charAt 8 = .ok (.baload, 1) := by decide +kernel
theorem d_SL_charAt_9 : decode b_SL_charAt 9 = .ok (.sipush 255, 3) := by decide +kernel
theorem d_SL_charAt_12 : decode b_SL_charAt 12 = .ok (.iand, 1) := by decide +kernel
theorem d_SL_charAt_13 : decode b_SL_charAt 13 = .ok (.i2c, 1) := by decide +kernel
theorem d_SL_charAt_14 : decode b_SL_charAt 14 = .ok (.ireturn, 1) := by decide +kernel
abbrev b_ST_charAt : ByteArray := prog_28_method_56_code
def y_ST_charAt : MethodName := ⟨"java/lang/String", "charAt", "(I)C"⟩
theorem d_ST_charAt_0 : decode b_ST_charAt 0 = .ok (.aload_n 0, 1) := by decide +kernel
theorem d_ST_charAt_1 : decode b_ST_charAt 1 = .ok (.invokevirtual 492, 3) := by decide +kernel
theorem d_ST_charAt_4 : decode b_ST_charAt 4 = .ok (.ifCond .eq 12, 3) := by decide +kernel
theorem d_ST_charAt_7 : decode b_ST_charAt 7 = .ok (.aload_n 0, 1) := by decide +kernel
theorem d_ST_charAt_8 : decode b_ST_charAt 8 = .ok (.getfield 9, 3) := by decide +kernel
theorem d_ST_charAt_11 : decode b_ST_charAt 11 = .ok (.iload_n 1, 1) := by decide +kernel
theorem d_ST_charAt_12 : decode b_ST_charAt 12 = .ok (.invokestatic 495, 3) := by decide +kernel
theorem d_ST_charAt_15 : decode b_ST_charAt 15 = .ok (.ireturn, 1) := by decide +kernel
theorem d_ST_charAt_16 : decode b_ST_charAt 16 = .ok (.aload_n 0, 1) := by decide +kernel
theorem d_ST_charAt_17 : decode b_ST_charAt 17 = .ok (.getfield 9, 3) := by decide +kernel
theorem d_ST_charAt_20 : decode b_ST_charAt 20 = .ok (.iload_n 1, 1) := by decide +kernel
theorem d_ST_charAt_21 : decode b_ST_charAt 21 = .ok (.invokestatic 498, 3) := by decide +kernel
theorem d_ST_charAt_24 : decode b_ST_charAt 24 = .ok (.ireturn, 1) := by decide +kernel
abbrev b_ST_getBytes : ByteArray := prog_28_method_147_code
def y_ST_getBytes : MethodName := ⟨"java/lang/String", "getBytes", "([BIB)V"⟩
theorem d_ST_getBytes_0 : decode b_ST_getBytes 0 = .ok (.aload_n 0, 1) := by decide +kernel
theorem d_ST_getBytes_1 : decode b_ST_getBytes 1 = .ok (.invokevirtual 335, 3) := by decide +kernel
theorem d_ST_getBytes_4 : decode b_ST_getBytes 4 = .ok (.iload_n 3, 1) := by decide +kernel
theorem d_ST_getBytes_5 : decode b_ST_getBytes 5 = .ok (.if_icmp .ne 23, 3) := by decide +kernel
theorem d_ST_getBytes_8 : decode b_ST_getBytes 8 = .ok (.aload_n 0, 1) := by decide +kernel
theorem d_ST_getBytes_9 : decode b_ST_getBytes 9 = .ok (.getfield 9, 3) := by decide +kernel
theorem d_ST_getBytes_12 : decode b_ST_getBytes 12 = .ok (.iconst 0, 1) := by decide +kernel
theorem d_ST_getBytes_13 : decode b_ST_getBytes 13 = .ok (.aload_n 1, 1) := by decide +kernel
theorem d_ST_getBytes_14 : decode b_ST_getBytes 14 = .ok (.iload_n 2, 1) := by decide +kernel
theorem d_ST_getBytes_15 : decode b_ST_getBytes 15 = .ok (.iload_n 3, 1) := by decide +kernel
theorem d_ST_getBytes_16 : decode b_ST_getBytes 16 = .ok (.ishl, 1) := by decide +kernel
theorem d_ST_getBytes_17 : decode b_ST_getBytes 17 = .ok (.aload_n 0, 1) := by decide +kernel
theorem d_ST_getBytes_18 : decode b_ST_getBytes 18 = .ok (.getfield 9, 3) := by decide +kernel
theorem d_ST_getBytes_21 : decode b_ST_getBytes 21 = .ok (.arraylength, 1) := by decide +kernel
theorem d_ST_getBytes_22 : decode b_ST_getBytes 22 = .ok (.invokestatic 212, 3) := by decide +kernel
theorem d_ST_getBytes_25 : decode b_ST_getBytes 25 = .ok (.goto 18, 3) := by decide +kernel
theorem d_ST_getBytes_28 : decode b_ST_getBytes 28 = .ok (.aload_n 0, 1) := by decide +kernel
theorem d_ST_getBytes_29 : decode b_ST_getBytes 29 = .ok (.getfield 9, 3) := by decide +kernel
theorem d_ST_getBytes_32 : decode b_ST_getBytes 32 = .ok (.iconst 0, 1) := by decide +kernel
theorem d_ST_getBytes_33 : decode b_ST_getBytes 33 = .ok (.aload_n 1, 1) := by decide +kernel
theorem d_ST_getBytes_34 : decode b_ST_getBytes 34 = .ok (.iload_n 2, 1) := by decide +kernel
theorem d_ST_getBytes_35 : decode b_ST_getBytes 35 = .ok (.aload_n 0, 1) := by decide +kernel
theorem d_ST_getBytes_36 : decode b_ST_getBytes 36 = .ok (.getfield 9, 3) := by decide +kernel
theorem d_ST_getBytes_39 : decode b_ST_getBytes 39 = .ok (.arraylength, 1) := by decide +kernel
theorem d_ST_getBytes_40 : decode b_ST_getBytes 40 = .ok (.invokestatic 106, 3) := by decide +kernel
theorem d_ST_getBytes_43 : decode b_ST_getBytes 43 = .ok (.return_, 1) := by decide +kernel
abbrev b_AS_newLength : ByteArray := prog_38_method_27_code
def y_AS_newLength : MethodName := ⟨"jdk/internal/util/ArraysSupport", "newLength", "(III)I"⟩
theorem d_AS_newLength_0 : decode b_AS_newLength 0 = .ok (.iload_n 0, 1) := by decide +kernel
theorem d_AS_newLength_1 : decode b_AS_newLength 1 = .ok (.iload_n 1, 1) := by decide +kernel
theorem d_AS_newLength_2 : decode b_AS_newLength 2 = .ok (.iload_n 2, 1) := by decide +kernel
theorem d_AS_newLength_3 : decode b_AS_newLength 3 = .ok (.invokestatic 194, 3) := by decide +kernel
theorem d_AS_newLength_6 : decode b_AS_newLength 6 = .ok (.iadd, 1) := by decide +kernel
theorem d_AS_newLength_7 : decode b_AS_newLength 7 = .ok (.istore_n 3, 1) := by decide +kernel
theorem d_AS_newLength_8 : decode b_AS_newLength 8 = .ok (.iconst 0, 1) := by decide +kernel
theorem d_AS_newLength_9 : decode b_AS_newLength 9 = .ok (.iload_n 3, 1) := by decide +kernel
theorem d_AS_newLength_10 : decode b_AS_newLength 10 = .ok (.if_icmp .ge 11, 3) := by decide +kernel
theorem d_AS_newLength_13 : decode b_AS_newLength 13 = .ok (.iload_n 3, 1) := by decide +kernel
theorem d_AS_newLength_14 : decode b_AS_newLength 14 = .ok (.ldc 200, 2) := by decide +kernel
theorem d_AS_newLength_16 : decode b_AS_newLength 16 = .ok (.if_icmp .gt 5, 3) := by decide +kernel
theorem d_AS_newLength_19 : decode b_AS_newLength 19 = .ok (.iload_n 3, 1) := by decide +kernel
theorem d_AS_newLength_20 : decode b_AS_newLength 20 = .ok (.ireturn, 1) := by decide +kernel
theorem d_AS_newLength_21 : decode b_AS_newLength 21 = .ok (.iload_n 0, 1) := by decide +kernel
theorem d_AS_newLength_22 : decode b_AS_newLength 22 = .ok (.iload_n 1, 1) := by decide +kernel
theorem d_AS_newLength_23 : decode b_AS_newLength 23 = .ok (.invokestatic 201, 3) := by decide +kernel
theorem d_AS_newLength_26 : decode b_AS_newLength 26 = .ok (.ireturn, 1) := by decide +kernel
abbrev b_AR_copyOf : ByteArray := prog_36_method_121_code
def y_AR_copyOf : MethodName := ⟨"java/util/Arrays", "copyOf", "([BI)[B"⟩
theorem d_AR_copyOf_0 : decode b_AR_copyOf 0 = .ok (.iload_n 1, 1) := by decide +kernel
theorem d_AR_copyOf_1 : decode b_AR_copyOf 1 = .ok (.aload_n 0, 1) := by decide +kernel
theorem d_AR_copyOf_2 : decode b_AR_copyOf 2 = .ok (.arraylength, 1) := by decide +kernel
theorem d_AR_copyOf_3 : decode b_AR_copyOf 3 = .ok (.if_icmp .ne 11, 3) := by decide +kernel
theorem d_AR_copyOf_6 : decode b_AR_copyOf 6 = .ok (.aload_n 0, 1) := by decide +kernel
theorem d_AR_copyOf_7 : decode b_AR_copyOf 7 = .ok (.invokevirtual 310, 3) := by decide +kernel
theorem d_AR_copyOf_10 : decode b_AR_copyOf 10 = .ok (.checkcast 311, 3) := by decide +kernel
theorem d_AR_copyOf_13 : decode b_AR_copyOf 13 = .ok (.areturn, 1) := by decide +kernel
theorem d_AR_copyOf_14 : decode b_AR_copyOf 14 = .ok (.iload_n 1, 1) := by decide +kernel
theorem d_AR_copyOf_15 : decode b_AR_copyOf 15 = .ok (.newarray .byte, 2) := by decide +kernel
theorem d_AR_copyOf_17 : decode b_AR_copyOf 17 = .ok (.astore_n 2, 1) := by decide +kernel
theorem d_AR_copyOf_18 : decode b_AR_copyOf 18 = .ok (.aload_n 0, 1) := by decide +kernel
theorem d_AR_copyOf_19 : decode b_AR_copyOf 19 = .ok (.iconst 0, 1) := by decide +kernel
theorem d_AR_copyOf_20 : decode b_AR_copyOf 20 = .ok (.aload_n 2, 1) := by decide +kernel
theorem d_AR_copyOf_21 : decode b_AR_copyOf 21 = .ok (.iconst 0, 1) := by decide +kernel
theorem d_AR_copyOf_22 : decode b_AR_copyOf 22 = .ok (.aload_n 0, 1) := by decide +kernel
theorem d_AR_copyOf_23 : decode b_AR_copyOf 23 = .ok (.arraylength, 1) := by decide +kernel
theorem d_AR_copyOf_24 : decode b_AR_copyOf 24 = .ok (.iload_n 1, 1) := by decide +kernel
theorem d_AR_copyOf_25 : decode b_AR_copyOf 25 = .ok (.invokestatic 304, 3) := by decide +kernel
theorem d_AR_copyOf_28 : decode b_AR_copyOf 28 = .ok (.invokestatic 150, 3) := by decide +kernel
theorem d_AR_copyOf_31 : decode b_AR_copyOf 31 = .ok (.aload_n 2, 1) := by decide +kernel
theorem d_AR_copyOf_32 : decode b_AR_copyOf 32 = .ok (.areturn, 1) := by decide +kernel
abbrev b_AB_isLatin1 : ByteArray := prog_15_method_68_code
def y_AB_isLatin1 : MethodName := ⟨"java/lang/AbstractStringBuilder", "isLatin1", "()Z"⟩
theorem d_AB_isLatin1_0 : decode b_AB_isLatin1 0 = .ok (.getstatic 18, 3) := by decide +kernel
theorem d_AB_isLatin1_3 : decode b_AB_isLatin1 3 = .ok (.ifCond .eq 14, 3) := by decide +kernel
theorem d_AB_isLatin1_6 : decode b_AB_isLatin1 6 = .ok (.aload_n 0, 1) := by decide +kernel
theorem d_AB_isLatin1_7 : decode b_AB_isLatin1 7 = .ok (.getfield 22, 3) := by decide +kernel
theorem d_AB_isLatin1_10 : decode b_AB_isLatin1 10 = .ok (.ifCond .ne 7, 3) := by decide +kernel
theorem d_AB_isLatin1_13 : decode b_AB_isLatin1 13 = .ok (.iconst 1, 1) := by decide +kernel
theorem d_AB_isLatin1_14 : decode b_AB_isLatin1 14 = .ok (.goto 4, 3) := by decide +kernel
theorem d_AB_isLatin1_17 : decode b_AB_isLatin1 17 = .ok (.iconst 0, 1) := by decide +kernel
theorem d_AB_isLatin1_18 : decode b_AB_isLatin1 18 = .ok (.ireturn, 1) := by decide +kernel
abbrev b_AB_newCapacity : ByteArray := prog_15_method_10_code
def y_AB_newCapacity : MethodName := ⟨"java/lang/AbstractStringBuilder", "newCapacity", "(I)I"⟩
theorem d_AB_newCapacity_0 : decode b_AB_newCapacity 0 = .ok (.aload_n 0, 1) := by decide +kernel
theorem d_AB_newCapacity_1 : decode b_AB_newCapacity 1 = .ok (.getfield 15, 3) := by decide +kernel
theorem d_AB_newCapacity_4 : decode b_AB_newCapacity 4 = .ok (.arraylength, 1) := by decide +kernel
theorem d_AB_newCapacity_5 : decode b_AB_newCapacity 5 = .ok (.istore_n 2, 1) := by decide +kernel
theorem d_AB_newCapacity_6 : decode b_AB_newCapacity 6 = .ok (.iload_n 1, 1) := by decide +kernel
theorem d_AB_newCapacity_7 : decode b_AB_newCapacity 7 = .ok (.aload_n 0, 1) := by decide +kernel
theorem d_AB_newCapacity_8 : decode b_AB_newCapacity 8 = .ok (.getfield 22, 3) := by decide +kernel
theorem d_AB_newCapacity_11 : decode b_AB_newCapacity 11 = .ok (.ishl, 1) := by decide +kernel
theorem d_AB_newCapacity_12 : decode b_AB_newCapacity 12 = .ok (.istore_n 3, 1) := by decide +kernel
theorem d_AB_newCapacity_13 : decode b_AB_newCapacity 13 = .ok (.iload_n 3, 1) := by decide +kernel
theorem d_AB_newCapacity_14 : decode b_AB_newCapacity 14 = .ok (.iload_n 2, 1) := by decide +kernel
theorem d_AB_newCapacity_15 : decode b_AB_newCapacity 15 = .ok (.isub, 1) := by decide +kernel
theorem d_AB_newCapacity_16 : decode b_AB_newCapacity 16 = .ok (.istore 4, 2) := by decide +kernel
theorem d_AB_newCapacity_18 : decode b_AB_newCapacity 18 = .ok (.iload_n 2, 1) := by decide +kernel
theorem d_AB_newCapacity_19 : decode b_AB_newCapacity 19 = .ok (.iload 4, 2) := by decide +kernel
theorem d_AB_newCapacity_21 : decode b_AB_newCapacity 21 = .ok (.iload_n 2, 1) := by decide +kernel
theorem d_AB_newCapacity_22 : decode b_AB_newCapacity 22 = .ok (.iconst 2, 1) := by decide +kernel
theorem d_AB_newCapacity_23 : decode b_AB_newCapacity 23 = .ok (.aload_n 0, 1) := by decide +kernel
theorem d_AB_newCapacity_24 : decode b_AB_newCapacity 24 = .ok (.getfield 22, 3) := by decide +kernel
theorem d_AB_newCapacity_27 : decode b_AB_newCapacity 27 = .ok (.ishl, 1) := by decide +kernel
theorem d_AB_newCapacity_28 : decode b_AB_newCapacity 28 = .ok (.iadd, 1) := by decide +kernel
theorem d_AB_newCapacity_29 : decode b_AB_newCapacity 29 = .ok (.invokestatic 114, 3) := by decide +kernel
theorem d_AB_newCapacity_32 : decode b_AB_newCapacity 32 = .ok (.istore 5, 2) := by decide +kernel
theorem d_AB_newCapacity_34 : decode b_AB_newCapacity 34 = .ok (.iload 5, 2) := by decide +kernel
theorem d_AB_newCapacity_36 : decode b_AB_newCapacity 36 = .ok (.ldc 39, 2) := by decide +kernel
theorem d_AB_newCapacity_38 : decode b_AB_newCapacity 38 = .ok (.if_icmp .ne 13, 3) := by decide +kernel
theorem d_AB_newCapacity_41 : decode b_AB_newCapacity 41 = .ok (.new 120, 3) := by decide +kernel
theorem d_AB_newCapacity_44 : decode b_AB_newCapacity 44 = .ok (.dup, 1) := by decide +kernel
theorem d_AB_newCapacity_45 : decode b_AB_newCapacity 45 = .ok (.ldc 122, 2) := by decide +kernel
theorem d_AB_newCapacity_47 : decode b_AB_newCapacity 47 = .ok (.invokespecial 124, 3) := by decide +kernel
theorem d_AB_newCapacity_50 : decode b_AB_newCapacity 50 = .ok (.athrow, 1) := by decide +kernel
theorem d_AB_newCapacity_51 : decode b_AB_newCapacity 51 = .ok (.iload 5, 2) := by decide +kernel
theorem d_AB_newCapacity_53 : decode b_AB_newCapacity 53 = .ok (.aload_n 0, 1) := by decide +kernel
theorem d_AB_newCapacity_54 : decode b_AB_newCapacity 54 = .ok (.getfield 22, 3) := by decide +kernel
theorem d_AB_newCapacity_57 : decode b_AB_newCapacity 57 = .ok (.ishr, 1) := by decide +kernel
theorem d_AB_newCapacity_58 : decode b_AB_newCapacity 58 = .ok (.ireturn, 1) := by decide +kernel
abbrev b_AB_ensureCapacityInternal : ByteArray := prog_15_method_9_code
def y_AB_ensureCapacityInternal : MethodName := ⟨"java/lang/AbstractStringBuilder", "ensureCapacityInternal", "(I)V"⟩
theorem d_AB_ensureCapacityInternal_0 : decode b_AB_ensureCapacityInternal 0 = .ok (.aload_n 0, 1) := by decide +kernel
theorem d_AB_ensureCapacityInternal_1 : decode b_AB_ensureCapacityInternal 1 = .ok (.getfield 15, 3) := by decide +kernel
theorem d_AB_ensureCapacityInternal_4 : decode b_AB_ensureCapacityInternal 4 = .ok (.arraylength, 1) := by decide +kernel
theorem d_AB_ensureCapacityInternal_5 : decode b_AB_ensureCapacityInternal 5 = .ok (.aload_n 0, 1) := by decide +kernel
theorem d_AB_ensureCapacityInternal_6 : decode b_AB_ensureCapacityInternal 6 = .ok (.getfield 22, 3) := by decide +kernel
theorem d_AB_ensureCapacityInternal_9 : decode b_AB_ensureCapacityInternal 9 = .ok (.ishr, 1) := by decide +kernel
theorem d_AB_ensureCapacityInternal_10 : decode b_AB_ensureCapacityInternal 10 = .ok (.istore_n 2, 1) := by decide +kernel
theorem d_AB_ensureCapacityInternal_11 : decode b_AB_ensureCapacityInternal 11 = .ok (.iload_n 1, 1) := by decide +kernel
theorem d_AB_ensureCapacityInternal_12 : decode b_AB_ensureCapacityInternal 12 = .ok (.iload_n 2, 1) := by decide +kernel
theorem d_AB_ensureCapacityInternal_13 : decode b_AB_ensureCapacityInternal 13 = .ok (.isub, 1) := by decide +kernel
theorem d_AB_ensureCapacityInternal_14 : decode b_AB_ensureCapacityInternal 14 = .ok (.ifCond .le 24, 3) := by decide +kernel
theorem d_AB_ensureCapacityInternal_17 : decode b_AB_ensureCapacityInternal 17 = .ok (.aload_n 0, 1) := by decide +kernel
theorem d_AB_ensureCapacityInternal_18 : decode b_AB_ensureCapacityInternal 18 = .ok (.aload_n 0, 1) := by decide +kernel
theorem d_AB_ensureCapacityInternal_19 : decode b_AB_ensureCapacityInternal 19 = .ok (.getfield 15, 3) := by decide +kernel
theorem d_AB_ensureCapacityInternal_22 : decode b_AB_ensureCapacityInternal 22 = .ok (.aload_n 0, 1) := by decide +kernel
theorem d_AB_ensureCapacityInternal_23 : decode b_AB_ensureCapacityInternal 23 = .ok (.iload_n 1, 1) := by decide +kernel
theorem d_AB_ensureCapacityInternal_24 : decode b_AB_ensureCapacityInternal 24 = .ok (.invokevirtual 104, 3) := by decide +kernel
theorem d_AB_ensureCapacityInternal_27 : decode b_AB_ensureCapacityInternal 27 = .ok (.aload_n 0, 1) := by decide +kernel
theorem d_AB_ensureCapacityInternal_28 : decode b_AB_ensureCapacityInternal 28 = .ok (.getfield 22, 3) := by decide +kernel
theorem d_AB_ensureCapacityInternal_31 : decode b_AB_ensureCapacityInternal 31 = .ok (.ishl, 1) := by decide +kernel
theorem d_AB_ensureCapacityInternal_32 : decode b_AB_ensureCapacityInternal 32 = .ok (.invokestatic 108, 3) := by decide +kernel
theorem d_AB_ensureCapacityInternal_35 : decode b_AB_ensureCapacityInternal 35 = .ok (.putfield 15, 3) := by decide +kernel
theorem d_AB_ensureCapacityInternal_38 : decode b_AB_ensureCapacityInternal 38 = .ok (.return_, 1) := by decide +kernel
abbrev b_SL_canEncode : ByteArray := prog_31_method_3_code
def y_SL_canEncode : MethodName := ⟨"java/lang/StringLatin1", "canEncode", "(C)Z"⟩
theorem d_SL_canEncode_0 : decode b_SL_canEncode 0 = .ok (.iload_n 0, 1) := by decide +kernel
theorem d_SL_canEncode_1 : decode b_SL_canEncode 1 = .ok (.sipush 255, 3) := by decide +kernel
theorem d_SL_canEncode_4 : decode b_SL_canEncode 4 = .ok (.if_icmp .gt 7, 3) := by decide +kernel
theorem d_SL_canEncode_7 : decode b_SL_canEncode 7 = .ok (.iconst 1, 1) := by decide +kernel
theorem d_SL_canEncode_8 : decode b_SL_canEncode 8 = .ok (.goto 4, 3) := by decide +kernel
theorem d_SL_canEncode_11 : decode b_SL_canEncode 11 = .ok (.iconst 0, 1) := by decide +kernel
theorem d_SL_canEncode_12 : decode b_SL_canEncode 12 = .ok (.ireturn, 1) := by decide +kernel
abbrev b_AB_init : ByteArray := prog_15_method_2_code
def y_AB_init : MethodName := ⟨"java/lang/AbstractStringBuilder", "<init>", "(I)V"⟩
theorem d_AB_init_0 : decode b_AB_init 0 = .ok (.aload_n 0, 1) := by decide +kernel
theorem d_AB_init_1 : decode b_AB_init 1 = .ok (.invokespecial 3, 3) := by decide +kernel
theorem d_AB_init_4 : decode b_AB_init 4 = .ok (.getstatic 18, 3) := by decide +kernel
theorem d_AB_init_7 : decode b_AB_init 7 = .ok (.ifCond .eq 18, 3) := by decide +kernel
theorem d_AB_init_10 : decode b_AB_init 10 = .ok (.aload_n 0, 1) := by decide +kernel
theorem d_AB_init_11 : decode b_AB_init 11 = .ok (.iload_n 1, 1) := by decide +kernel
theorem d_AB_init_12 : decode b_AB_init 12 = .ok (.newarray .byte, 2) := by decide +kernel
theorem d_AB_init_14 : decode b_AB_init 14 = .ok (.putfield 15, 3) := by decide +kernel
theorem d_AB_init_17 : decode b_AB_init 17 = .ok (.aload_n 0, 1) := by decide +kernel
theorem d_AB_init_18 : decode b_AB_init 18 = .ok (.iconst 0, 1) := by decide +kernel
theorem d_AB_init_19 : decode b_AB_init 19 = .ok (.putfield 22, 3) := by decide +kernel
theorem d_AB_init_22 : decode b_AB_init 22 = .ok (.goto 16, 3) := by decide +kernel
theorem d_AB_init_25 : decode b_AB_init 25 = .ok (.aload_n 0, 1) := by decide +kernel
theorem d_AB_init_26 : decode b_AB_init 26 = .ok (.iload_n 1, 1) := by decide +kernel
theorem d_AB_init_27 : decode b_AB_init 27 = .ok (.invokestatic 26, 3) := by decide +kernel
theorem d_AB_init_30 : decode b_AB_init 30 = .ok (.putfield 15, 3) := by decide +kernel
theorem d_AB_init_33 : decode b_AB_init 33 = .ok (.aload_n 0, 1) := by decide +kernel
theorem d_AB_init_34 : decode b_AB_init 34 = .ok (.iconst 1, 1) := by decide +kernel
theorem d_AB_init_35 : decode b_AB_init 35 = .ok (.putfield 22, 3) := by decide +kernel
theorem d_AB_init_38 : decode b_AB_init 38 = .ok (.return_, 1) := by decide +kernel
abbrev b_SB_init : ByteArray := prog_29_method_1_code
def y_SB_init : MethodName := ⟨"java/lang/StringBuilder", "<init>", "()V"⟩
theorem d_SB_init_0 : decode b_SB_init 0 = .ok (.aload_n 0, 1) := by decide +kernel
theorem d_SB_init_1 : decode b_SB_init 1 = .ok (.bipush 16, 2) := by decide +kernel
theorem d_SB_init_3 : decode b_SB_init 3 = .ok (.invokespecial 1, 3) := by decide +kernel
theorem d_SB_init_6 : decode b_SB_init 6 = .ok (.return_, 1) := by decide +kernel
abbrev b_AB_setLength : ByteArray := prog_15_method_13_code
def y_AB_setLength : MethodName := ⟨"java/lang/AbstractStringBuilder", "setLength", "(I)V"⟩
theorem d_AB_setLength_0 : decode b_AB_setLength 0 = .ok (.iload_n 1, 1) := by decide +kernel
theorem d_AB_setLength_1 : decode b_AB_setLength 1 = .ok (.ifCond .ge 12, 3) := by decide +kernel
theorem d_AB_setLength_4 : decode b_AB_setLength 4 = .ok (.new 129, 3) := by decide +kernel
theorem d_AB_setLength_7 : decode b_AB_setLength 7 = .ok (.dup, 1) := by decide +kernel
theorem d_AB_setLength_8 : decode b_AB_setLength 8 = .ok (.iload_n 1, 1) := by decide +kernel
theorem d_AB_setLength_9 : decode b_AB_setLength 9 = .ok (.invokespecial 131, 3) := by decide +kernel
theorem d_AB_setLength_12 : decode b_AB_setLength 12 = .ok (.athrow, 1) := by decide +kernel
theorem d_AB_setLength_13 : decode b_AB_setLength 13 = .ok (.aload_n 0, 1) := by decide +kernel
theorem d_AB_setLength_14 : decode b_AB_setLength 14 = .ok (.iload_n 1, 1) := by decide +kernel
theorem d_AB_setLength_15 : decode b_AB_setLength 15 = .ok (.invokevirtual 100, 3) := by decide +kernel
theorem d_AB_setLength_18 : decode b_AB_setLength 18 = .ok (.aload_n 0, 1) := by decide +kernel
theorem d_AB_setLength_19 : decode b_AB_setLength 19 = .ok (.getfield 79, 3) := by decide +kernel
theorem d_AB_setLength_22 : decode b_AB_setLength 22 = .ok (.iload_n 1, 1) := by decide +kernel
theorem d_AB_setLength_23 : decode b_AB_setLength 23 = .ok (.if_icmp .ge 40, 3) := by decide +kernel
theorem d_AB_setLength_26 : decode b_AB_setLength 26 = .ok (.aload_n 0, 1) := by decide +kernel
theorem d_AB_setLength_27 : decode b_AB_setLength 27 = .ok (.invokevirtual 83, 3) := by decide +kernel
theorem d_AB_setLength_30 : decode b_AB_setLength 30 = .ok (.ifCond .eq 18, 3) := by decide +kernel
theorem d_AB_setLength_33 : decode b_AB_setLength 33 = .ok (.aload_n 0, 1) := by decide +kernel
theorem d_AB_setLength_34 : decode b_AB_setLength 34 = .ok (.getfield 15, 3) := by decide +kernel
theorem d_AB_setLength_37 : decode b_AB_setLength 37 = .ok (.aload_n 0, 1) := by decide +kernel
theorem d_AB_setLength_38 : decode b_AB_setLength 38 = .ok (.getfield 79, 3) := by decide +kernel
theorem d_AB_setLength_41 : decode b_AB_setLength 41 = .ok (.iload_n 1, 1) := by decide +kernel
theorem d_AB_setLength_42 : decode b_AB_setLength 42 = .ok (.invokestatic 133, 3) := by decide +kernel
theorem d_AB_setLength_45 : decode b_AB_setLength 45 = .ok (.goto 31, 3) := by decide +kernel
theorem d_AB_setLength_48 : decode b_AB_setLength 48 = .ok (.aload_n 0, 1) := by decide +kernel
theorem d_AB_setLength_49 : decode b_AB_setLength 49 = .ok (.getfield 15, 3) := by decide +kernel
theorem d_AB_setLength_52 : decode b_AB_setLength 52 = .ok (.aload_n 0, 1) := by decide +kernel
theorem d_AB_setLength_53 : decode b_AB_setLength 53 = .ok (.getfield 79, 3) := by decide +kernel
theorem d_AB_setLength_56 : decode b_AB_setLength 56 = .ok (.iload_n 1, 1) := by decide +kernel
theorem d_AB_setLength_57 : decode b_AB_setLength 57 = .ok (.invokestatic 137, 3) := by decide +kernel
theorem d_AB_setLength_60 : decode b_AB_setLength 60 = .ok (.goto 16, 3) := by decide +kernel
theorem d_AB_setLength_63 : decode b_AB_setLength 63 = .ok (.aload_n 0, 1) := by decide +kernel
theorem d_AB_setLength_64 : decode b_AB_setLength 64 = .ok (.getfield 79, 3) := by decide +kernel
theorem d_AB_setLength_67 : decode b_AB_setLength 67 = .ok (.iload_n 1, 1) := by decide +kernel
theorem d_AB_setLength_68 : decode b_AB_setLength 68 = .ok (.if_icmp .le 8, 3) := by decide +kernel
theorem d_AB_setLength_71 : decode b_AB_setLength 71 = .ok (.aload_n 0, 1) := by decide +kernel
theorem d_AB_setLength_72 : decode b_AB_setLength 72 = .ok (.iconst 1, 1) := by decide +kernel
theorem d_AB_setLength_73 : decode b_AB_setLength 73 = .ok (.putfield 73, 3) := by decide +kernel
theorem d_AB_setLength_76 : decode b_AB_setLength 76 = .ok (.aload_n 0, 1) := by decide +kernel
theorem d_AB_setLength_77 : decode b_AB_setLength 77 = .ok (.iload_n 1, 1) := by decide +kernel
theorem d_AB_setLength_78 : decode b_AB_setLength 78 = .ok (.putfield 79, 3) := by decide +kernel
theorem d_AB_setLength_81 : decode b_AB_setLength 81 = .ok (.return_, 1) := by decide +kernel
abbrev b_SB_setLength : ByteArray := prog_29_method_89_code
def y_SB_setLength : MethodName := ⟨"java/lang/StringBuilder", "setLength", "(I)V"⟩
theorem d_SB_setLength_0 : decode b_SB_setLength 0 = .ok (.aload_n 0, 1) := by decide +kernel
theorem d_SB_setLength_1 : decode b_SB_setLength 1 = .ok (.iload_n 1, 1) := by decide +kernel
theorem d_SB_setLength_2 : decode b_SB_setLength 2 = .ok (.invokespecial 333, 3) := by decide +kernel
theorem d_SB_setLength_5 : decode b_SB_setLength 5 = .ok (.return_, 1) := by decide +kernel
abbrev b_AB_length : ByteArray := prog_15_method_6_code
def y_AB_length : MethodName := ⟨"java/lang/AbstractStringBuilder", "length", "()I"⟩
theorem d_AB_length_0 : decode b_AB_length 0 = .ok (.aload_n 0, 1) := by decide +kernel
theorem d_AB_length_1 : decode b_AB_length 1 = .ok (.getfield 79, 3) := by decide +kernel
theorem d_AB_length_4 : decode b_AB_length 4 = .ok (.ireturn, 1) := by decide +kernel
abbrev b_SB_length : ByteArray := prog_29_method_93_code
def y_SB_length : MethodName := ⟨"java/lang/StringBuilder", "length", "()I"⟩
theorem d_SB_length_0 : decode b_SB_length 0 = .ok (.aload_n 0, 1) := by decide +kernel
theorem d_SB_length_1 : decode b_SB_length 1 = .ok (.invokespecial 343, 3) := by decide +kernel
theorem d_SB_length_4 : decode b_SB_length 4 = .ok (.ireturn, 1) := by decide +kernel
abbrev b_AB_charAt : ByteArray := prog_15_method_14_code
def y_AB_charAt : MethodName := ⟨"java/lang/AbstractStringBuilder", "charAt", "(I)C"⟩
theorem d_AB_charAt_0 : decode b_AB_charAt 0 = .ok (.aload_n 0, 1) := by decide +kernel
theorem d_AB_charAt_1 : decode b_AB_charAt 1 = .ok (.getfield 22, 3) := by decide +kernel
theorem d_AB_charAt_4 : decode b_AB_charAt 4 = .ok (.istore_n 2, 1) := by decide +kernel
theorem d_AB_charAt_5 : decode b_AB_charAt 5 = .ok (.aload_n 0, 1) := by decide +kernel
theorem d_AB_charAt_6 : decode b_AB_charAt 6 = .ok (.getfield 15, 3) := by decide +kernel
theorem d_AB_charAt_9 : decode b_AB_charAt 9 = .ok (.astore_n 3, 1) := by decide +kernel
theorem d_AB_charAt_10 : decode b_AB_charAt 10 = .ok (.aload_n 0, 1) := by decide +kernel
theorem d_AB_charAt_11 : decode b_AB_charAt 11 = .ok (.getfield 79, 3) := by decide +kernel
theorem d_AB_charAt_14 : decode b_AB_charAt 14 = .ok (.aload_n 3, 1) := by decide +kernel
theorem d_AB_charAt_15 : decode b_AB_charAt 15 = .ok (.arraylength, 1) := by decide +kernel
theorem d_AB_charAt_16 : decode b_AB_charAt 16 = .ok (.iload_n 2, 1) := by decide +kernel
theorem d_AB_charAt_17 : decode b_AB_charAt 17 = .ok (.ishr, 1) := by decide +kernel
theorem d_AB_charAt_18 : decode b_AB_charAt 18 = .ok (.invokestatic 138, 3) := by decide +kernel
theorem d_AB_charAt_21 : decode b_AB_charAt 21 = .ok (.istore 4, 2) := by decide +kernel
theorem d_AB_charAt_23 : decode b_AB_charAt 23 = .ok (.iload_n 1, 1) := by decide +kernel
theorem d_AB_charAt_24 : decode b_AB_charAt 24 = .ok (.iload 4, 2) := by decide +kernel
theorem d_AB_charAt_26 : decode b_AB_charAt 26 = .ok (.invokestatic 144, 3) := by decide +kernel
theorem d_AB_charAt_29 : decode b_AB_charAt 29 = .ok (.iload_n 2, 1) := by decide +kernel
theorem d_AB_charAt_30 : decode b_AB_charAt 30 = .ok (.ifCond .ne 12, 3) := by decide +kernel
theorem d_AB_charAt_33 : decode b_AB_charAt 33 = .ok (.aload_n 3, 1) := by decide +kernel
theorem d_AB_charAt_34 : decode b_AB_charAt 34 = .ok (.iload_n 1, 1) := by decide +kernel
theorem d_AB_charAt_35 : decode b_AB_charAt 35 = .ok (.baload, 1) := by decide +kernel
theorem d_AB_charAt_36 : decode b_AB_charAt 36 = .ok (.sipush 255, 3) := by decide +kernel
theorem d_AB_charAt_39 : decode b_AB_charAt 39 = .ok (.iand, 1) := by decide +kernel
theorem d_AB_charAt_40 : decode b_AB_charAt 40 = .ok (.i2c, 1) := by decide +kernel
theorem d_AB_charAt_41 : decode b_AB_charAt 41 = .ok (.ireturn, 1) := by decide +kernel
theorem d_AB_charAt_42 : decode b_AB_charAt 42 = .ok (.aload_n 3, 1) := by decide +kernel
theorem d_AB_charAt_43 : decode b_AB_charAt 43 = .ok (.iload_n 1, 1) := by decide +kernel
theorem d_AB_charAt_44 : decode b_AB_charAt 44 = .ok (.invokestatic 148, 3) := by decide +kernel
theorem d_AB_charAt_47 : decode b_AB_charAt 47 = .ok (.ireturn, 1) := by decide +kernel
abbrev b_SB_charAt : ByteArray := prog_29_method_88_code
def y_SB_charAt : MethodName := ⟨"java/lang/StringBuilder", "charAt", "(I)C"⟩
theorem d_SB_charAt_0 : decode b_SB_charAt 0 = .ok (.aload_n 0, 1) := by decide +kernel
theorem d_SB_charAt_1 : decode b_SB_charAt 1 = .ok (.iload_n 1, 1) := by decide +kernel
theorem d_SB_charAt_2 : decode b_SB_charAt 2 = .ok (.invokespecial 329, 3) := by decide +kernel
theorem d_SB_charAt_5 : decode b_SB_charAt 5 = .ok (.ireturn, 1) := by decide +kernel
abbrev b_AB_append_b10 : ByteArray := prog_15_method_31_code
def y_AB_append_b10 : MethodName := ⟨"java/lang/AbstractStringBuilder", "append", "(C)Ljava/lang/AbstractStringBuilder;"⟩
theorem d_AB_append_b10_0 : decode b_AB_append_b10 0 = .ok (.aload_n 0, 1) := by decide +kernel
theorem d_AB_append_b10_1 : decode b_AB_append_b10 1 = .ok (.aload_n 0, 1) := by decide +kernel
theorem d_AB_append_b10_2 : decode b_AB_append_b10 2 = .ok (.getfield 79, 3) := by decide +kernel
theorem d_AB_append_b10_5 : decode b_AB_append_b10 5 = .ok (.iconst 1, 1) := by decide +kernel
theorem d_AB_append_b10_6 : decode b_AB_append_b10 6 = .ok (.iadd, 1) := by decide +kernel
theorem d_AB_append_b10_7 : decode b_AB_append_b10 7 = .ok (.invokevirtual 100, 3) := by decide +kernel
theorem d_AB_append_b10_10 : decode b_AB_append_b10 10 = .ok (.aload_n 0, 1) := by decide +kernel
theorem d_AB_append_b10_11 : decode b_AB_append_b10 11 = .ok (.invokevirtual 83, 3) := by decide +kernel
theorem d_AB_append_b10_14 : decode b_AB_append_b10 14 = .ok (.ifCond .eq 31, 3) := by decide +kernel
theorem d_AB_append_b10_17 : decode b_AB_append_b10 17 = .ok (.iload_n 1, 1) := by decide +kernel
theorem d_AB_append_b10_18 : decode b_AB_append_b10 18 = .ok (.invokestatic 191, 3) := by decide +kernel
theorem d_AB_append_b10_21 : decode b_AB_append_b10 21 = .ok (.ifCond .eq 24, 3) := by decide +kernel
theorem d_AB_append_b10_24 : decode b_AB_append_b10 24 = .ok (.aload_n 0, 1) := by decide +kernel
theorem d_AB_append_b10_25 : decode b_AB_append_b10 25 = .ok (.getfield 15, 3) := by decide +kernel
theorem d_AB_append_b10_28 : decode b_AB_append_b10 28 = .ok (.aload_n 0, 1) := by decide +kernel
theorem d_AB_append_b10_29 : decode b_AB_append_b10 29 = .ok (.dup, 1) := by decide +kernel
theorem d_AB_append_b10_30 : decode b_AB_append_b10 30 = .ok (.getfield 79, 3) := by decide +kernel
theorem d_AB_append_b10_33 : decode b_AB_append_b10 33 = .ok (.dup_x1, 1) := by decide +kernel
theorem d_AB_append_b10_34 : decode b_AB_append_b10 34 = .ok (.iconst 1, 1) := by decide +kernel
theorem d_AB_append_b10_35 : decode b_AB_append_b10 35 = .ok (.iadd, 1) := by decide +kernel
theorem d_AB_append_b10_36 : decode b_AB_append_b10 36 = .ok (.putfield 79, 3) := by decide +kernel
theorem d_AB_append_b10_39 : decode b_AB_append_b10 39 = .ok (.iload_n 1, 1) := by decide +kernel
theorem d_AB_append_b10_40 : decode b_AB_append_b10 40 = .ok (.i2b, 1) := by decide +kernel
theorem d_AB_append_b10_41 : decode b_AB_append_b10 41 = .ok (.bastore, 1) := by decide +kernel
theorem d_AB_append_b10_42 : decode b_AB_append_b10 42 = .ok (.goto 33, 3) := by decide +kernel
theorem d_AB_append_b10_45 : decode b_AB_append_b10 45 = .ok (.aload_n 0, 1) := by decide +kernel
theorem d_AB_append_b10_46 : decode b_AB_append_b10 46 = .ok (.invokevirtual 83, 3) := by decide +kernel
theorem d_AB_append_b10_49 : decode b_AB_append_b10 49 = .ok (.ifCond .eq 7, 3) := by decide +kernel
theorem d_AB_append_b10_52 : decode b_AB_append_b10 52 = .ok (.aload_n 0, 1) := by decide +kernel
theorem d_AB_append_b10_53 : decode b_AB_append_b10 53 = .ok (.invokevirtual 195, 3) := by decide +kernel
theorem d_AB_append_b10_56 : decode b_AB_append_b10 56 = .ok (.aload_n 0, 1) := by decide +kernel
theorem d_AB_append_b10_57 : decode b_AB_append_b10 57 = .ok (.getfield 15, 3) := by decide +kernel
theorem d_AB_append_b10_60 : decode b_AB_append_b10 60 = .ok (.aload_n 0, 1) := by decide +kernel
theorem d_AB_append_b10_61 : decode b_AB_append_b10 61 = .ok (.dup, 1) := by decide +kernel
theorem d_AB_append_b10_62 : decode b_AB_append_b10 62 = .ok (.getfield 79, 3) := by decide +kernel
theorem d_AB_append_b10_65 : decode b_AB_append_b10 65 = .ok (.dup_x1, 1) := by decide +kernel
theorem d_AB_append_b10_66 : decode b_AB_append_b10 66 = .ok (.iconst 1, 1) := by decide +kernel
theorem d_AB_append_b10_67 : decode b_AB_append_b10 67 = .ok (.iadd, 1) := by decide +kernel
theorem d_AB_append_b10_68 : decode b_AB_append_b10 68 = .ok (.putfield 79, 3) := by decide +kernel
theorem d_AB_append_b10_71 : decode b_AB_append_b10 71 = .ok (.iload_n 1, 1) := by decide +kernel
theorem d_AB_append_b10_72 : decode b_AB_append_b10 72 = .ok (.invokestatic 197, 3) := by decide +kernel
theorem d_AB_append_b10_75 : decode b_AB_append_b10 75 = .ok (.aload_n 0, 1) := by decide +kernel
theorem d_AB_append_b10_76 : decode b_AB_append_b10 76 = .ok (.areturn, 1) := by decide +kernel
abbrev b_SB_append_882 : ByteArray := prog_29_method_14_code
def y_SB_append_882 : MethodName := ⟨"java/lang/StringBuilder", "append", "(C)Ljava/lang/StringBuilder;"⟩
theorem d_SB_append_882_0 : decode b_SB_append_882 0 = .ok (.aload_n 0, 1) := by decide +kernel
theorem d_SB_append_882_1 : decode b_SB_append_882 1 = .ok (.iload_n 1, 1) := by decide +kernel
theorem d_SB_append_882_2 : decode b_SB_append_882 2 = .ok (.invokespecial 50, 3) := by decide +kernel
theorem d_SB_append_882_5 : decode b_SB_append_882 5 = .ok (.pop, 1) := by decide +kernel
theorem d_SB_append_882_6 : decode b_SB_append_882 6 = .ok (.aload_n 0, 1) := by decide +kernel
theorem d_SB_append_882_7 : decode b_SB_append_882 7 = .ok (.areturn, 1) := by decide +kernel
abbrev b_AB_inflateIfNeededFor : ByteArray := prog_15_method_71_code
def y_AB_inflateIfNeededFor : MethodName := ⟨"java/lang/AbstractStringBuilder", "inflateIfNeededFor", "(Ljava/lang/String;)V"⟩
theorem d_AB_inflateIfNeededFor_0 : decode b_AB_inflateIfNeededFor 0 = .ok (.getstatic 18, 3) := by decide +kernel
theorem d_AB_inflateIfNeededFor_3 : decode b_AB_inflateIfNeededFor 3 = .ok (.ifCond .eq 18, 3) := by decide +kernel
theorem d_AB_inflateIfNeededFor_6 : decode b_AB_inflateIfNeededFor 6 = .ok (.aload_n 0, 1) := by decide +kernel
theorem d_AB_inflateIfNeededFor_7 : decode b_AB_inflateIfNeededFor 7 = .ok (.getfield 22, 3) := by decide +kernel
theorem d_AB_inflateIfNeededFor_10 : decode b_AB_inflateIfNeededFor 10 = .ok (.aload_n 1, 1) := by decide +kernel
theorem d_AB_inflateIfNeededFor_11 : decode b_AB_inflateIfNeededFor 11 = .ok (.invokevirtual 40, 3) := by decide +kernel
theorem d_AB_inflateIfNeededFor_14 : decode b_AB_inflateIfNeededFor 14 = .ok (.if_icmp .eq 7, 3) := by decide +kernel
theorem d_AB_inflateIfNeededFor_17 : decode b_AB_inflateIfNeededFor 17 = .ok (.aload_n 0, 1) := by decide +kernel
theorem d_AB_inflateIfNeededFor_18 : decode b_AB_inflateIfNeededFor 18 = .ok (.invokevirtual 195, 3) := by decide +kernel
theorem d_AB_inflateIfNeededFor_21 : decode b_AB_inflateIfNeededFor 21 = .ok (.return_, 1) := by decide +kernel
abbrev b_AB_putStringAt : ByteArray := prog_15_method_73_code
def y_AB_putStringAt : MethodName := ⟨"java/lang/AbstractStringBuilder", "putStringAt", "(ILjava/lang/String;)V"⟩
theorem d_AB_putStringAt_0 : decode b_AB_putStringAt 0 = .ok (.aload_n 0, 1) := by decide +kernel
theorem d_AB_putStringAt_1 : decode b_AB_putStringAt 1 = .ok (.aload_n 2, 1) := by decide +kernel
theorem d_AB_putStringAt_2 : decode b_AB_putStringAt 2 = .ok (.invokevirtual 397, 3) := by decide +kernel
theorem d_AB_putStringAt_5 : decode b_AB_putStringAt 5 = .ok (.aload_n 2, 1) := by decide +kernel
theorem d_AB_putStringAt_6 : decode b_AB_putStringAt 6 = .ok (.aload_n 0, 1) := by decide +kernel
theorem d_AB_putStringAt_7 : decode b_AB_putStringAt 7 = .ok (.getfield 15, 3) := by decide +kernel
theorem d_AB_putStringAt_10 : decode b_AB_putStringAt 10 = .ok (.iload_n 1, 1) := by decide +kernel
theorem d_AB_putStringAt_11 : decode b_AB_putStringAt 11 = .ok (.aload_n 0, 1) := by decide +kernel
theorem d_AB_putStringAt_12 : decode b_AB_putStringAt 12 = .ok (.getfield 22, 3) := by decide +kernel
theorem d_AB_putStringAt_15 : decode b_AB_putStringAt 15 = .ok (.invokevirtual 399, 3) := by decide +kernel
theorem d_AB_putStringAt_18 : decode b_AB_putStringAt 18 = .ok (.return_, 1) := by decide +kernel
abbrev b_AB_append_a22 : ByteArray := prog_15_method_22_code
def y_AB_append_a22 : MethodName := ⟨"java/lang/AbstractStringBuilder", "append", "(Ljava/lang/String;)Ljava/lang/AbstractStringBuilder;"⟩
theorem d_AB_append_a22_0 : decode b_AB_append_a22 0 = .ok (.aload_n 1, 1) := by decide +kernel
theorem d_AB_append_a22_1 : decode b_AB_append_a22 1 = .ok (.ifnonnull 8, 3) := by decide +kernel
theorem d_AB_append_a22_4 : decode b_AB_append_a22 4 = .ok (.aload_n 0, 1) := by decide +kernel
theorem d_AB_append_a22_5 : decode b_AB_append_a22 5 = .ok (.invokevirtual 204, 3) := by decide +kernel
theorem d_AB_append_a22_8 : decode b_AB_append_a22 8 = .ok (.areturn, 1) := by decide +kernel
theorem d_AB_append_a22_9 : decode b_AB_append_a22 9 = .ok (.aload_n 1, 1) := by decide +kernel
theorem d_AB_append_a22_10 : decode b_AB_append_a22 10 = .ok (.invokevirtual 32, 3) := by decide +kernel
theorem d_AB_append_a22_13 : decode b_AB_append_a22 13 = .ok (.istore_n 2, 1) := by decide +kernel
theorem d_AB_append_a22_14 : decode b_AB_append_a22 14 = .ok (.aload_n 0, 1) := by decide +kernel
theorem d_AB_append_a22_15 : decode b_AB_append_a22 15 = .ok (.aload_n 0, 1) := by decide +kernel
theorem d_AB_append_a22_16 : decode b_AB_append_a22 16 = .ok (.getfield 79, 3) := by decide +kernel
theorem d_AB_append_a22_19 : decode b_AB_append_a22 19 = .ok (.iload_n 2, 1) := by decide +kernel
theorem d_AB_append_a22_20 : decode b_AB_append_a22 20 = .ok (.iadd, 1) := by decide +kernel
theorem d_AB_append_a22_21 : decode b_AB_append_a22 21 = .ok (.invokevirtual 100, 3) := by decide +kernel
theorem d_AB_append_a22_24 : decode b_AB_append_a22 24 = .ok (.aload_n 0, 1) := by decide +kernel
theorem d_AB_append_a22_25 : decode b_AB_append_a22 25 = .ok (.aload_n 0, 1) := by decide +kernel
theorem d_AB_append_a22_26 : decode b_AB_append_a22 26 = .ok (.getfield 79, 3) := by decide +kernel
theorem d_AB_append_a22_29 : decode b_AB_append_a22 29 = .ok (.aload_n 1, 1) := by decide +kernel
theorem d_AB_append_a22_30 : decode b_AB_append_a22 30 = .ok (.invokevirtual 208, 3) := by decide +kernel
theorem d_AB_append_a22_33 : decode b_AB_append_a22 33 = .ok (.aload_n 0, 1) := by decide +kernel
theorem d_AB_append_a22_34 : decode b_AB_append_a22 34 = .ok (.dup, 1) := by decide +kernel
theorem d_AB_append_a22_35 : decode b_AB_append_a22 35 = .ok (.getfield 79, 3) := by decide +kernel
theorem d_AB_append_a22_38 : decode b_AB_append_a22 38 = .ok (.iload_n 2, 1) := by decide +kernel
theorem d_AB_append_a22_39 : decode b_AB_append_a22 39 = .ok (.iadd, 1) := by decide +kernel
theorem d_AB_append_a22_40 : decode b_AB_append_a22 40 = .ok (.putfield 79, 3) := by decide +kernel
theorem d_AB_append_a22_43 : decode b_AB_append_a22 43 = .ok (.aload_n 0, 1) := by decide +kernel
theorem d_AB_append_a22_44 : decode b_AB_append_a22 44 = .ok (.areturn, 1) := by decide +kernel
abbrev b_SB_append_59e : ByteArray := prog_29_method_7_code
def y_SB_append_59e : MethodName := ⟨"java/lang/StringBuilder", "append", "(Ljava/lang/String;)Ljava/lang/StringBuilder;"⟩
theorem d_SB_append_59e_0 : decode b_SB_append_59e 0 = .ok (.aload_n 0, 1) := by decide +kernel
theorem d_SB_append_59e_1 : decode b_SB_append_59e 1 = .ok (.aload_n 1, 1) := by decide +kernel
theorem d_SB_append_59e_2 : decode b_SB_append_59e 2 = .ok (.invokespecial 29, 3) := by decide +kernel
theorem d_SB_append_59e_5 : decode b_SB_append_59e 5 = .ok (.pop, 1) := by decide +kernel
theorem d_SB_append_59e_6 : decode b_SB_append_59e 6 = .ok (.aload_n 0, 1) := by decide +kernel
theorem d_SB_append_59e_7 : decode b_SB_append_59e 7 = .ok (.areturn, 1) := by decide +kernel
abbrev b_IN_stringSize : ByteArray := prog_24_method_13_code
def y_IN_stringSize : MethodName := ⟨"java/lang/Integer", "stringSize", "(I)I"⟩
theorem d_IN_stringSize_0 : decode b_IN_stringSize 0 = .ok (.iconst 1, 1) := by decide +kernel
theorem d_IN_stringSize_1 : decode b_IN_stringSize 1 = .ok (.istore_n 1, 1) := by decide +kernel
theorem d_IN_stringSize_2 : decode b_IN_stringSize 2 = .ok (.iload_n 0, 1) := by decide +kernel
theorem d_IN_stringSize_3 : decode b_IN_stringSize 3 = .ok (.ifCond .lt 8, 3) := by decide +kernel
theorem d_IN_stringSize_6 : decode b_IN_stringSize 6 = .ok (.iconst 0, 1) := by decide +kernel
theorem d_IN_stringSize_7 : decode b_IN_stringSize 7 = .ok (.istore_n 1, 1) := by decide +kernel
theorem d_IN_stringSize_8 : decode b_IN_stringSize 8 = .ok (.iload_n 0, 1) := by decide +kernel
theorem d_IN_stringSize_9 : decode b_IN_stringSize 9 = .ok (.ineg, 1) := by decide +kernel
theorem d_IN_stringSize_10 : decode b_IN_stringSize 10 = .ok (.istore_n 0, 1) := by decide +kernel
theorem d_IN_stringSize_11 : decode b_IN_stringSize 11 = .ok (.bipush (-10), 2) := by decide +kernel
theorem d_IN_stringSize_13 : decode b_IN_stringSize 13 = .ok (.istore_n 2, 1) := by decide +kernel
theorem d_IN_stringSize_14 : decode b_IN_stringSize 14 = .ok (.iconst 1, 1) := by decide +kernel
theorem d_IN_stringSize_15 : decode b_IN_stringSize 15 = .ok (.istore_n 3, 1) := by decide +kernel
theorem d_IN_stringSize_16 : decode b_IN_stringSize 16 = .ok (.iload_n 3, 1) := by decide +kernel
theorem d_IN_stringSize_17 : decode b_IN_stringSize 17 = .ok (.bipush 10, 2) := by decide +kernel
theorem d_IN_stringSize_19 : decode b_IN_stringSize 19 = .ok (.if_icmp .ge 23, 3) := by decide +kernel
theorem d_IN_stringSize_22 : decode b_IN_stringSize 22 = .ok (.iload_n 0, 1) := by decide +kernel
theorem d_IN_stringSize_23 : decode b_IN_stringSize 23 = .ok (.iload_n 2, 1) := by decide +kernel
theorem d_IN_stringSize_24 : decode b_IN_stringSize 24 = .ok (.if_icmp .le 7, 3) := by decide +kernel
theorem d_IN_stringSize_27 : decode b_IN_stringSize 27 = .ok (.iload_n 3, 1) := by decide +kernel
theorem d_IN_stringSize_28 : decode b_IN_stringSize 28 = .ok (.iload_n 1, 1) := by decide +kernel
theorem d_IN_stringSize_29 : decode b_IN_stringSize 29 = .ok (.iadd, 1) := by decide +kernel
theorem d_IN_stringSize_30 : decode b_IN_stringSize 30 = .ok (.ireturn, 1) := by decide +kernel
theorem d_IN_stringSize_31 : decode b_IN_stringSize 31 = .ok (.bipush 10, 2) := by decide +kernel
theorem d_IN_stringSize_33 : decode b_IN_stringSize 33 = .ok (.iload_n 2, 1) := by decide +kernel
theorem d_IN_stringSize_34 : decode b_IN_stringSize 34 = .ok (.imul, 1) := by decide +kernel
theorem d_IN_stringSize_35 : decode b_IN_stringSize 35 = .ok (.istore_n 2, 1) := by decide +kernel
theorem d_IN_stringSize_36 : decode b_IN_stringSize 36 = .ok (.iinc 3 1, 3) := by decide +kernel
theorem d_IN_stringSize_39 : decode b_IN_stringSize 39 = .ok (.goto (-23), 3) := by decide +kernel
theorem d_IN_stringSize_42 : decode b_IN_stringSize 42 = .ok (.bipush 10, 2) := by decide +kernel
theorem d_IN_stringSize_44 : decode b_IN_stringSize 44 = .ok (.iload_n 1, 1) := by decide +kernel
theorem d_IN_stringSize_45 : decode b_IN_stringSize 45 = .ok (.iadd, 1) := by decide +kernel
theorem d_IN_stringSize_46 : decode b_IN_stringSize 46 = .ok (.ireturn, 1) := by decide +kernel
abbrev b_IN_getChars : ByteArray := prog_24_method_12_code
def y_IN_getChars : MethodName := ⟨"java/lang/Integer", "getChars", "(II[B)I"⟩
theorem d_IN_getChars_0 : decode b_IN_getChars 0 = .ok (.iload_n 1, 1) := by decide +kernel
theorem d_IN_getChars_1 : decode b_IN_getChars 1 = .ok (.istore 5, 2) := by decide +kernel
theorem d_IN_getChars_3 : decode b_IN_getChars 3 = .ok (.iload_n 0, 1) := by decide +kernel
theorem d_IN_getChars_4 : decode b_IN_getChars 4 = .ok (.ifCond .ge 7, 3) := by decide +kernel
theorem d_IN_getChars_7 : decode b_IN_getChars 7 = .ok (.iconst 1, 1) := by decide +kernel
theorem d_IN_getChars_8 : decode b_IN_getChars 8 = .ok (.goto 4, 3) := by decide +kernel
theorem d_IN_getChars_11 : decode b_IN_getChars 11 = .ok (.iconst 0, 1) := by decide +kernel
theorem d_IN_getChars_12 : decode b_IN_getChars 12 = .ok (.istore 6, 2) := by decide +kernel
theorem d_IN_getChars_14 : decode b_IN_getChars 14 = .ok (.iload 6, 2) := by decide +kernel
theorem d_IN_getChars_16 : decode b_IN_getChars 16 = .ok (.ifCond .ne 6, 3) := by decide +kernel
theorem d_IN_getChars_19 : decode b_IN_getChars 19 = .ok (.iload_n 0, 1) := by decide +kernel
theorem d_IN_getChars_20 : decode b_IN_getChars 20 = .ok (.ineg, 1) := by decide +kernel
theorem d_IN_getChars_21 : decode b_IN_getChars 21 = .ok (.istore_n 0, 1) := by decide +kernel
theorem d_IN_getChars_22 : decode b_IN_getChars 22 = .ok (.iload_n 0, 1) := by decide +kernel
theorem d_IN_getChars_23 : decode b_IN_getChars 23 = .ok (.bipush (-100), 2) := by decide +kernel
theorem d_IN_getChars_25 : decode b_IN_getChars 25 = .ok (.if_icmp .gt 47, 3) := by decide +kernel
theorem d_IN_getChars_28 : decode b_IN_getChars 28 = .ok (.iload_n 0, 1) := by decide +kernel
theorem d_IN_getChars_29 : decode b_IN_getChars 29 = .ok (.bipush 100, 2) := by decide +kernel
theorem d_IN_getChars_31 : decode b_IN_getChars 31 = .ok (.idiv, 1) := by decide +kernel
theorem d_IN_getChars_32 : decode b_IN_getChars 32 = .ok (.istore_n 3, 1) := by decide +kernel
theorem d_IN_getChars_33 : decode b_IN_getChars 33 = .ok (.iload_n 3, 1) := by decide +kernel
theorem d_IN_getChars_34 : decode b_IN_getChars 34 = .ok (.bipush 100, 2) := by decide +kernel
theorem d_IN_getChars_36 : decode b_IN_getChars 36 = .ok (.imul, 1) := by decide +kernel
theorem d_IN_getChars_37 : decode b_IN_getChars 37 = .ok (.iload_n 0, 1) := by decide +kernel
theorem d_IN_getChars_38 : decode b_IN_getChars 38 = .ok (.isub, 1) := by decide +kernel
theorem d_IN_getChars_39 : decode b_IN_getChars 39 = .ok (.istore 4, 2) := by decide +kernel
theorem d_IN_getChars_41 : decode b_IN_getChars 41 = .ok (.iload_n 3, 1) := by decide +kernel
theorem d_IN_getChars_42 : decode b_IN_getChars 42 = .ok (.istore_n 0, 1) := by decide +kernel
theorem d_IN_getChars_43 : decode b_IN_getChars 43 = .ok (.aload_n 2, 1) := by decide +kernel
theorem d_IN_getChars_44 : decode b_IN_getChars 44 = .ok (.iinc 5 (-1), 3) := by decide +kernel
theorem d_IN_getChars_47 : decode b_IN_getChars 47 = .ok (.iload 5, 2) := by decide +kernel
theorem d_IN_getChars_49 : decode b_IN_getChars 49 = .ok (.getstatic 83, 3) := by decide +kernel
theorem d_IN_getChars_52 : decode b_IN_getChars 52 = .ok (.iload 4, 2) := by decide +kernel
theorem d_IN_getChars_54 : decode b_IN_getChars 54 = .ok (.baload, 1) := by decide +kernel
theorem d_IN_getChars_55 : decode b_IN_getChars 55 = .ok (.bastore, 1) := by decide +kernel
theorem d_IN_getChars_56 : decode b_IN_getChars 56 = .ok (.aload_n 2, 1) := by decide +kernel
theorem d_IN_getChars_57 : decode b_IN_getChars 57 = .ok (.iinc 5 (-1), 3) := by decide +kernel
theorem d_IN_getChars_60 : decode b_IN_getChars 60 = .ok (.iload 5, 2) := by decide +kernel
theorem d_IN_getChars_62 : decode b_IN_getChars 62 = .ok (.getstatic 87, 3) := by decide +kernel
theorem d_IN_getChars_65 : decode b_IN_getChars 65 = .ok (.iload 4, 2) := by decide +kernel
theorem d_IN_getChars_67 : decode b_IN_getChars 67 = .ok (.baload, 1) := by decide +kernel
theorem d_IN_getChars_68 : decode b_IN_getChars 68 = .ok (.bastore, 1) := by decide +kernel
theorem d_IN_getChars_69 : decode b_IN_getChars 69 = .ok (.goto (-47), 3) := by decide +kernel
theorem d_IN_getChars_72 : decode b_IN_getChars 72 = .ok (.aload_n 2, 1) := by decide +kernel
theorem d_IN_getChars_73 : decode b_IN_getChars 73 = .ok (.iinc 5 (-1), 3) := by decide +kernel
theorem d_IN_getChars_76 : decode b_IN_getChars 76 = .ok (.iload 5, 2) := by decide +kernel
theorem d_IN_getChars_78 : decode b_IN_getChars 78 = .ok (.getstatic 83, 3) := by decide +kernel
theorem d_IN_getChars_81 : decode b_IN_getChars 81 = .ok (.iload_n 0, 1) := by decide +kernel
theorem d_IN_getChars_82 : decode b_IN_getChars 82 = .ok (.ineg, 1) := by decide +kernel
theorem d_IN_getChars_83 : decode b_IN_getChars 83 = .ok (.baload, 1) := by decide +kernel
theorem d_IN_getChars_84 : decode b_IN_getChars 84 = .ok (.bastore, 1) := by decide +kernel
theorem d_IN_getChars_85 : decode b_IN_getChars 85 = .ok (.iload_n 0, 1) := by decide +kernel
theorem d_IN_getChars_86 : decode b_IN_getChars 86 = .ok (.bipush (-9), 2) := by decide +kernel
theorem d_IN_getChars_88 : decode b_IN_getChars 88 = .ok (.if_icmp .ge 16, 3) := by decide +kernel
theorem d_IN_getChars_91 : decode b_IN_getChars 91 = .ok (.aload_n 2, 1) := by decide +kernel
theorem d_IN_getChars_92 : decode b_IN_getChars 92 = .ok (.iinc 5 (-1), 3) := by decide +kernel
theorem d_IN_getChars_95 : decode b_IN_getChars 95 = .ok (.iload 5, 2) := by decide +kernel
theorem d_IN_getChars_97 : decode b_IN_getChars 97 = .ok (.getstatic 87, 3) := by decide +kernel
theorem d_IN_getChars_100 : decode b_IN_getChars 100 = .ok (.iload_n 0, 1) := by decide +kernel
theorem d_IN_getChars_101 : decode b_IN_getChars 101 = .ok (.ineg, 1) := by decide +kernel
theorem d_IN_getChars_102 : decode b_IN_getChars 102 = .ok (.baload, 1) := by decide +kernel
theorem d_IN_getChars_103 : decode b_IN_getChars 103 = .ok (.bastore, 1) := by decide +kernel
theorem d_IN_getChars_104 : decode b_IN_getChars 104 = .ok (.iload 6, 2) := by decide +kernel
theorem d_IN_getChars_106 : decode b_IN_getChars 106 = .ok (.ifCond .eq 12, 3) := by decide +kernel
theorem d_IN_getChars_109 : decode b_IN_getChars 109 = .ok (.aload_n 2, 1) := by decide +kernel
theorem d_IN_getChars_110 : decode b_IN_getChars 110 = .ok (.iinc 5 (-1), 3) := by decide +kernel
theorem d_IN_getChars_113 : decode b_IN_getChars 113 = .ok (.iload 5, 2) := by decide +kernel
theorem d_IN_getChars_115 : decode b_IN_getChars 115 = .ok (.bipush 45, 2) := by decide +kernel
theorem d_IN_getChars_117 : decode b_IN_getChars 117 = .ok (.bastore, 1) := by decide +kernel
theorem d_IN_getChars_118 : decode b_IN_getChars 118 = .ok (.iload 5, 2) := by decide +kernel
theorem d_IN_getChars_120 : decode b_IN_getChars 120 = .ok (.ireturn, 1) := by decide +kernel
abbrev b_AB_append_757 : ByteArray := prog_15_method_32_code
def y_AB_append_757 : MethodName := ⟨"java/lang/AbstractStringBuilder", "append", "(I)Ljava/lang/AbstractStringBuilder;"⟩
theorem d_AB_append_757_0 : decode b_AB_append_757 0 = .ok (.aload_n 0, 1) := by decide +kernel
theorem d_AB_append_757_1 : decode b_AB_append_757 1 = .ok (.getfield 79, 3) := by decide +kernel
theorem d_AB_append_757_4 : decode b_AB_append_757 4 = .ok (.istore_n 2, 1) := by decide +kernel
theorem d_AB_append_757_5 : decode b_AB_append_757 5 = .ok (.iload_n 2, 1) := by decide +kernel
theorem d_AB_append_757_6 : decode b_AB_append_757 6 = .ok (.iload_n 1, 1) := by decide +kernel
theorem d_AB_append_757_7 : decode b_AB_append_757 7 = .ok (.invokestatic 245, 3) := by decide +kernel
theorem d_AB_append_757_10 : decode b_AB_append_757 10 = .ok (.iadd, 1) := by decide +kernel
theorem d_AB_append_757_11 : decode b_AB_append_757 11 = .ok (.istore_n 3, 1) := by decide +kernel
theorem d_AB_append_757_12 : decode b_AB_append_757 12 = .ok (.aload_n 0, 1) := by decide +kernel
theorem d_AB_append_757_13 : decode b_AB_append_757 13 = .ok (.iload_n 3, 1) := by decide +kernel
theorem d_AB_append_757_14 : decode b_AB_append_757 14 = .ok (.invokevirtual 100, 3) := by decide +kernel
theorem d_AB_append_757_17 : decode b_AB_append_757 17 = .ok (.aload_n 0, 1) := by decide +kernel
theorem d_AB_append_757_18 : decode b_AB_append_757 18 = .ok (.invokevirtual 83, 3) := by decide +kernel
theorem d_AB_append_757_21 : decode b_AB_append_757 21 = .ok (.ifCond .eq 16, 3) := by decide +kernel
theorem d_AB_append_757_24 : decode b_AB_append_757 24 = .ok (.iload_n 1, 1) := by decide +kernel
theorem d_AB_append_757_25 : decode b_AB_append_757 25 = .ok (.iload_n 3, 1) := by decide +kernel
theorem d_AB_append_757_26 : decode b_AB_append_757 26 = .ok (.aload_n 0, 1) := by decide +kernel
theorem d_AB_append_757_27 : decode b_AB_append_757 27 = .ok (.getfield 15, 3) := by decide +kernel
theorem d_AB_append_757_30 : decode b_AB_append_757 30 = .ok (.invokestatic 248, 3) := by decide +kernel
theorem d_AB_append_757_33 : decode b_AB_append_757 33 = .ok (.pop, 1) := by decide +kernel
theorem d_AB_append_757_34 : decode b_AB_append_757 34 = .ok (.goto 14, 3) := by decide +kernel
theorem d_AB_append_757_37 : decode b_AB_append_757 37 = .ok (.iload_n 1, 1) := by decide +kernel
theorem d_AB_append_757_38 : decode b_AB_append_757 38 = .ok (.iload_n 2, 1) := by decide +kernel
theorem d_AB_append_757_39 : decode b_AB_append_757 39 = .ok (.iload_n 3, 1) := by decide +kernel
theorem d_AB_append_757_40 : decode b_AB_append_757 40 = .ok (.aload_n 0, 1) := by decide +kernel
theorem d_AB_append_757_41 : decode b_AB_append_757 41 = .ok (.getfield 15, 3) := by decide +kernel
theorem d_AB_append_757_44 : decode b_AB_append_757 44 = .ok (.invokestatic 251, 3) := by decide +kernel
theorem d_AB_append_757_47 : decode b_AB_append_757 47 = .ok (.pop, 1) := by decide +kernel
theorem d_AB_append_757_48 : decode b_AB_append_757 48 = .ok (.aload_n 0, 1) := by decide +kernel
theorem d_AB_append_757_49 : decode b_AB_append_757 49 = .ok (.iload_n 3, 1) := by decide +kernel
theorem d_AB_append_757_50 : decode b_AB_append_757 50 = .ok (.putfield 79, 3) := by decide +kernel
theorem d_AB_append_757_53 : decode b_AB_append_757 53 = .ok (.aload_n 0, 1) := by decide +kernel
theorem d_AB_append_757_54 : decode b_AB_append_757 54 = .ok (.areturn, 1) := by decide +kernel
abbrev b_SB_append_7d3 : ByteArray := prog_29_method_15_code
def y_SB_append_7d3 : MethodName := ⟨"java/lang/StringBuilder", "append", "(I)Ljava/lang/StringBuilder;"⟩
theorem d_SB_append_7d3_0 : decode b_SB_append_7d3 0 = .ok (.aload_n 0, 1) := by decide +kernel
theorem d_SB_append_7d3_1 : decode b_SB_append_7d3 1 = .ok (.iload_n 1, 1) := by decide +kernel
theorem d_SB_append_7d3_2 : decode b_SB_append_7d3 2 = .ok (.invokespecial 53, 3) := by decide +kernel
theorem d_SB_append_7d3_5 : decode b_SB_append_7d3 5 = .ok (.pop, 1) := by decide +kernel
theorem d_SB_append_7d3_6 : decode b_SB_append_7d3 6 = .ok (.aload_n 0, 1) := by decide +kernel
theorem d_SB_append_7d3_7 : decode b_SB_append_7d3 7 = .ok (.areturn, 1) := by decide +kernel
theorem tw_92 : lw_tbl[92]? = some (Jvm.Cond.initialized "java/lang/AbstractStringBuilder") := by decide +kernel
theorem tw_94 : lw_tbl[94]? = some (Jvm.Cond.initialized "java/lang/String") := by decide +kernel
theorem tw_106 : lw_tbl[106]? = some (Jvm.Cond.initialized "java/lang/StringLatin1") := by decide +kernel
theorem tw_107 : lw_tbl[107]? = some (Jvm.Cond.initialized "jdk/internal/util/Preconditions") := by decide +kernel
theorem tw_120 : lw_tbl[120]? = some (Jvm.Cond.initialized "jdk/internal/util/ArraysSupport") := by decide +kernel
theorem tw_121 : lw_tbl[121]? = some (Jvm.Cond.initialized "java/util/Arrays") := by decide +kernel
theorem tw_122 : lw_tbl[122]? = some (Jvm.Cond.initialized "java/lang/System") := by decide +kernel
theorem tw_123 : lw_tbl[123]? = some (Jvm.Cond.initialized "java/lang/Integer") := by decide +kernel
theorem tw_216 : lw_tbl[216]? = some (Jvm.Cond.methodLink "java/lang/StringBuilder" (1 : Nat) ({ cls := "java/lang/AbstractStringBuilder", name := "<init>", desc := "(I)V" } : Jvm.MethodName)) := by decide +kernel
theorem tw_217 : lw_tbl[217]? = some (Jvm.Cond.instanceMethod ({ cls := "java/lang/AbstractStringBuilder", name := "<init>", desc := "(I)V" } : Jvm.MethodName)) := by decide +kernel
theorem tw_218 : lw_tbl[218]? = some (Jvm.Cond.code ({ cls := "java/lang/AbstractStringBuilder", name := "<init>", desc := "(I)V" } : Jvm.MethodName) prog_15_method_2_code (2 : Nat) (Option.none : Option Jvm.ClassFile.FieldType)) := by decide +kernel
theorem tw_219 : lw_tbl[219]? = some (Jvm.Cond.methodLink "java/lang/AbstractStringBuilder" (3 : Nat) ({ cls := "java/lang/Object", name := "<init>", desc := "()V" } : Jvm.MethodName)) := by decide +kernel
theorem tw_220 : lw_tbl[220]? = some (Jvm.Cond.fieldLink "java/lang/AbstractStringBuilder" (18 : Nat) "java/lang/String" "COMPACT_STRINGS" "Z") := by decide +kernel
theorem tw_221 : lw_tbl[221]? = some (Jvm.Cond.laysStatic "java/lang/String" "COMPACT_STRINGS" "Z") := by decide +kernel
theorem tw_229 : lw_tbl[229]? = some (Jvm.Cond.fieldLink "java/lang/AbstractStringBuilder" (15 : Nat) "java/lang/AbstractStringBuilder" "value" "[B") := by decide +kernel
theorem tw_230 : lw_tbl[230]? = some (Jvm.Cond.fieldLink "java/lang/AbstractStringBuilder" (22 : Nat) "java/lang/AbstractStringBuilder" "coder" "B") := by decide +kernel
theorem tw_231 : lw_tbl[231]? = some (Jvm.Cond.fieldLink "java/lang/AbstractStringBuilder" (73 : Nat) "java/lang/AbstractStringBuilder" "maybeLatin1" "Z") := by decide +kernel
theorem tw_233 : lw_tbl[233]? = some (Jvm.Cond.fieldLink "java/lang/AbstractStringBuilder" (79 : Nat) "java/lang/AbstractStringBuilder" "count" "I") := by decide +kernel
theorem tw_242 : lw_tbl[242]? = some (Jvm.Cond.superclass "java/lang/StringBuilder" "java/lang/AbstractStringBuilder") := by decide +kernel
theorem tw_243 : lw_tbl[243]? = some (Jvm.Cond.arrayClass Jvm.ClassFile.FieldType.byte) := by decide +kernel
theorem tw_740 : lw_tbl[740]? = some (Jvm.Cond.instanceMethod ({ cls := "java/lang/String", name := "length", desc := "()I" } : Jvm.MethodName)) := by decide +kernel
theorem tw_741 : lw_tbl[741]? = some (Jvm.Cond.selects "java/lang/String" ({ cls := "java/lang/String", name := "length", desc := "()I" } : Jvm.MethodName) ({ cls := "java/lang/String", name := "length", desc := "()I" } : Jvm.MethodName)) := by decide +kernel
theorem tw_742 : lw_tbl[742]? = some (Jvm.Cond.code ({ cls := "java/lang/String", name := "length", desc := "()I" } : Jvm.MethodName) prog_28_method_54_code (1 : Nat) (Option.some Jvm.ClassFile.FieldType.int)) := by decide +kernel
theorem tw_743 : lw_tbl[743]? = some (Jvm.Cond.methodLink "java/lang/String" (335 : Nat) ({ cls := "java/lang/String", name := "coder", desc := "()B" } : Jvm.MethodName)) := by decide +kernel
theorem tw_744 : lw_tbl[744]? = some (Jvm.Cond.instanceMethod ({ cls := "java/lang/String", name := "coder", desc := "()B" } : Jvm.MethodName)) := by decide +kernel
theorem tw_745 : lw_tbl[745]? = some (Jvm.Cond.selects "java/lang/String" ({ cls := "java/lang/String", name := "coder", desc := "()B" } : Jvm.MethodName) ({ cls := "java/lang/String", name := "coder", desc := "()B" } : Jvm.MethodName)) := by decide +kernel
theorem tw_746 : lw_tbl[746]? = some (Jvm.Cond.code ({ cls := "java/lang/String", name := "coder", desc := "()B" } : Jvm.MethodName) prog_28_method_152_code (1 : Nat) (Option.some Jvm.ClassFile.FieldType.byte)) := by decide +kernel
theorem tw_747 : lw_tbl[747]? = some (Jvm.Cond.fieldLink "java/lang/String" (38 : Nat) "java/lang/String" "COMPACT_STRINGS" "Z") := by decide +kernel
theorem tw_752 : lw_tbl[752]? = some (Jvm.Cond.methodLink "java/lang/String" (492 : Nat) ({ cls := "java/lang/String", name := "isLatin1", desc := "()Z" } : Jvm.MethodName)) := by decide +kernel
theorem tw_753 : lw_tbl[753]? = some (Jvm.Cond.instanceMethod ({ cls := "java/lang/String", name := "isLatin1", desc := "()Z" } : Jvm.MethodName)) := by decide +kernel
theorem tw_754 : lw_tbl[754]? = some (Jvm.Cond.selects "java/lang/String" ({ cls := "java/lang/String", name := "isLatin1", desc := "()Z" } : Jvm.MethodName) ({ cls := "java/lang/String", name := "isLatin1", desc := "()Z" } : Jvm.MethodName)) := by decide +kernel
theorem tw_755 : lw_tbl[755]? = some (Jvm.Cond.code ({ cls := "java/lang/String", name := "isLatin1", desc := "()Z" } : Jvm.MethodName) prog_28_method_154_code (1 : Nat) (Option.some Jvm.ClassFile.FieldType.boolean)) := by decide +kernel
theorem tw_756 : lw_tbl[756]? = some (Jvm.Cond.methodLink "java/lang/String" (495 : Nat) ({ cls := "java/lang/StringLatin1", name := "charAt", desc := "([BI)C" } : Jvm.MethodName)) := by decide +kernel
theorem tw_757 : lw_tbl[757]? = some (Jvm.Cond.static ({ cls := "java/lang/StringLatin1", name := "charAt", desc := "([BI)C" } : Jvm.MethodName)) := by decide +kernel
theorem tw_758 : lw_tbl[758]? = some (Jvm.Cond.code ({ cls := "java/lang/StringLatin1", name := "charAt", desc := "([BI)C" } : Jvm.MethodName) prog_31_method_2_code (2 : Nat) (Option.some Jvm.ClassFile.FieldType.char)) := by decide +kernel
theorem tw_759 : lw_tbl[759]? = some (Jvm.Cond.methodLink "java/lang/StringLatin1" (9 : Nat) ({ cls := "java/lang/String", name := "checkIndex", desc := "(II)V" } : Jvm.MethodName)) := by decide +kernel
theorem tw_760 : lw_tbl[760]? = some (Jvm.Cond.static ({ cls := "java/lang/String", name := "checkIndex", desc := "(II)V" } : Jvm.MethodName)) := by decide +kernel
theorem tw_761 : lw_tbl[761]? = some (Jvm.Cond.code ({ cls := "java/lang/String", name := "checkIndex", desc := "(II)V" } : Jvm.MethodName) prog_28_method_155_code (2 : Nat) (Option.none : Option Jvm.ClassFile.FieldType)) := by decide +kernel
theorem tw_762 : lw_tbl[762]? = some (Jvm.Cond.fieldLink "java/lang/String" (1053 : Nat) "jdk/internal/util/Preconditions" "SIOOBE_FORMATTER" "Ljava/util/function/BiFunction;") := by decide +kernel
theorem tw_763 : lw_tbl[763]? = some (Jvm.Cond.laysStatic "jdk/internal/util/Preconditions" "SIOOBE_FORMATTER" "Ljava/util/function/BiFunction;") := by decide +kernel
theorem tw_764 : lw_tbl[764]? = some (Jvm.Cond.methodLink "java/lang/String" (1059 : Nat) ({ cls := "jdk/internal/util/Preconditions", name := "checkIndex", desc := "(IILjava/util/function/BiFunction;)I" } : Jvm.MethodName)) := by decide +kernel
theorem tw_765 : lw_tbl[765]? = some (Jvm.Cond.static ({ cls := "jdk/internal/util/Preconditions", name := "checkIndex", desc := "(IILjava/util/function/BiFunction;)I" } : Jvm.MethodName)) := by decide +kernel
theorem tw_766 : lw_tbl[766]? = some (Jvm.Cond.code ({ cls := "jdk/internal/util/Preconditions", name := "checkIndex", desc := "(IILjava/util/function/BiFunction;)I" } : Jvm.MethodName) prog_39_method_11_code (3 : Nat) (Option.some Jvm.ClassFile.FieldType.int)) := by decide +kernel
theorem tw_1095 : lw_tbl[1095]? = some (Jvm.Cond.methodLink "java/lang/StringBuilder" (333 : Nat) ({ cls := "java/lang/AbstractStringBuilder", name := "setLength", desc := "(I)V" } : Jvm.MethodName)) := by decide +kernel
theorem tw_1096 : lw_tbl[1096]? = some (Jvm.Cond.instanceMethod ({ cls := "java/lang/AbstractStringBuilder", name := "setLength", desc := "(I)V" } : Jvm.MethodName)) := by decide +kernel
theorem tw_1097 : lw_tbl[1097]? = some (Jvm.Cond.code ({ cls := "java/lang/AbstractStringBuilder", name := "setLength", desc := "(I)V" } : Jvm.MethodName) prog_15_method_13_code (2 : Nat) (Option.none : Option Jvm.ClassFile.FieldType)) := by decide +kernel
theorem tw_1110 : lw_tbl[1110]? = some (Jvm.Cond.methodLink "java/lang/StringBuilder" (29 : Nat) ({ cls := "java/lang/AbstractStringBuilder", name := "append", desc := "(Ljava/lang/String;)Ljava/lang/AbstractStringBuilder;" } : Jvm.MethodName)) := by decide +kernel
theorem tw_1111 : lw_tbl[1111]? = some (Jvm.Cond.instanceMethod ({ cls := "java/lang/AbstractStringBuilder", name := "append", desc := "(Ljava/lang/String;)Ljava/lang/AbstractStringBuilder;" } : Jvm.MethodName)) := by decide +kernel
theorem tw_1112 : lw_tbl[1112]? = some (Jvm.Cond.code ({ cls := "java/lang/AbstractStringBuilder", name := "append", desc := "(Ljava/lang/String;)Ljava/lang/AbstractStringBuilder;" } : Jvm.MethodName) prog_15_method_22_code (3 : Nat) (Option.some (Jvm.ClassFile.FieldType.object "java/lang/AbstractStringBuilder"))) := by decide +kernel
theorem tw_1117 : lw_tbl[1117]? = some (Jvm.Cond.methodLink "java/lang/AbstractStringBuilder" (100 : Nat) ({ cls := "java/lang/AbstractStringBuilder", name := "ensureCapacityInternal", desc := "(I)V" } : Jvm.MethodName)) := by decide +kernel
theorem tw_1118 : lw_tbl[1118]? = some (Jvm.Cond.privateMethod ({ cls := "java/lang/AbstractStringBuilder", name := "ensureCapacityInternal", desc := "(I)V" } : Jvm.MethodName)) := by decide +kernel
theorem tw_1119 : lw_tbl[1119]? = some (Jvm.Cond.instanceMethod ({ cls := "java/lang/AbstractStringBuilder", name := "ensureCapacityInternal", desc := "(I)V" } : Jvm.MethodName)) := by decide +kernel
theorem tw_1120 : lw_tbl[1120]? = some (Jvm.Cond.code ({ cls := "java/lang/AbstractStringBuilder", name := "ensureCapacityInternal", desc := "(I)V" } : Jvm.MethodName) prog_15_method_9_code (3 : Nat) (Option.none : Option Jvm.ClassFile.FieldType)) := by decide +kernel
theorem tw_1121 : lw_tbl[1121]? = some (Jvm.Cond.methodLink "java/lang/AbstractStringBuilder" (104 : Nat) ({ cls := "java/lang/AbstractStringBuilder", name := "newCapacity", desc := "(I)I" } : Jvm.MethodName)) := by decide +kernel
theorem tw_1122 : lw_tbl[1122]? = some (Jvm.Cond.privateMethod ({ cls := "java/lang/AbstractStringBuilder", name := "newCapacity", desc := "(I)I" } : Jvm.MethodName)) := by decide +kernel
theorem tw_1123 : lw_tbl[1123]? = some (Jvm.Cond.instanceMethod ({ cls := "java/lang/AbstractStringBuilder", name := "newCapacity", desc := "(I)I" } : Jvm.MethodName)) := by decide +kernel
theorem tw_1124 : lw_tbl[1124]? = some (Jvm.Cond.code ({ cls := "java/lang/AbstractStringBuilder", name := "newCapacity", desc := "(I)I" } : Jvm.MethodName) prog_15_method_10_code (6 : Nat) (Option.some Jvm.ClassFile.FieldType.int)) := by decide +kernel
theorem tw_1125 : lw_tbl[1125]? = some (Jvm.Cond.methodLink "java/lang/AbstractStringBuilder" (114 : Nat) ({ cls := "jdk/internal/util/ArraysSupport", name := "newLength", desc := "(III)I" } : Jvm.MethodName)) := by decide +kernel
theorem tw_1126 : lw_tbl[1126]? = some (Jvm.Cond.static ({ cls := "jdk/internal/util/ArraysSupport", name := "newLength", desc := "(III)I" } : Jvm.MethodName)) := by decide +kernel
theorem tw_1127 : lw_tbl[1127]? = some (Jvm.Cond.code ({ cls := "jdk/internal/util/ArraysSupport", name := "newLength", desc := "(III)I" } : Jvm.MethodName) prog_38_method_27_code (4 : Nat) (Option.some Jvm.ClassFile.FieldType.int)) := by decide +kernel
theorem tw_1128 : lw_tbl[1128]? = some (Jvm.Cond.methodLink "jdk/internal/util/ArraysSupport" (194 : Nat) ({ cls := "java/lang/Math", name := "max", desc := "(II)I" } : Jvm.MethodName)) := by decide +kernel
theorem tw_1129 : lw_tbl[1129]? = some (Jvm.Cond.constant "jdk/internal/util/ArraysSupport" (200 : Nat) (2147483639 : Int32)) := by decide +kernel
theorem tw_1133 : lw_tbl[1133]? = some (Jvm.Cond.constant "java/lang/AbstractStringBuilder" (39 : Nat) (2147483647 : Int32)) := by decide +kernel
theorem tw_1134 : lw_tbl[1134]? = some (Jvm.Cond.methodLink "java/lang/AbstractStringBuilder" (108 : Nat) ({ cls := "java/util/Arrays", name := "copyOf", desc := "([BI)[B" } : Jvm.MethodName)) := by decide +kernel
theorem tw_1135 : lw_tbl[1135]? = some (Jvm.Cond.static ({ cls := "java/util/Arrays", name := "copyOf", desc := "([BI)[B" } : Jvm.MethodName)) := by decide +kernel
theorem tw_1136 : lw_tbl[1136]? = some (Jvm.Cond.code ({ cls := "java/util/Arrays", name := "copyOf", desc := "([BI)[B" } : Jvm.MethodName) prog_36_method_121_code (3 : Nat) (Option.some (Jvm.ClassFile.FieldType.array Jvm.ClassFile.FieldType.byte))) := by decide +kernel
theorem tw_1144 : lw_tbl[1144]? = some (Jvm.Cond.methodLink "java/util/Arrays" (304 : Nat) ({ cls := "java/lang/Math", name := "min", desc := "(II)I" } : Jvm.MethodName)) := by decide +kernel
theorem tw_1145 : lw_tbl[1145]? = some (Jvm.Cond.methodLink "java/util/Arrays" (150 : Nat) ({ cls := "java/lang/System", name := "arraycopy", desc := "(Ljava/lang/Object;ILjava/lang/Object;II)V" } : Jvm.MethodName)) := by decide +kernel
theorem tw_1146 : lw_tbl[1146]? = some (Jvm.Cond.static ({ cls := "java/lang/System", name := "arraycopy", desc := "(Ljava/lang/Object;ILjava/lang/Object;II)V" } : Jvm.MethodName)) := by decide +kernel
theorem tw_1147 : lw_tbl[1147]? = some (Jvm.Cond.native ({ cls := "java/lang/System", name := "arraycopy", desc := "(Ljava/lang/Object;ILjava/lang/Object;II)V" } : Jvm.MethodName)) := by decide +kernel
theorem tw_1148 : lw_tbl[1148]? = some (Jvm.Cond.methodLink "java/lang/AbstractStringBuilder" (83 : Nat) ({ cls := "java/lang/AbstractStringBuilder", name := "isLatin1", desc := "()Z" } : Jvm.MethodName)) := by decide +kernel
theorem tw_1149 : lw_tbl[1149]? = some (Jvm.Cond.instanceMethod ({ cls := "java/lang/AbstractStringBuilder", name := "isLatin1", desc := "()Z" } : Jvm.MethodName)) := by decide +kernel
theorem tw_1151 : lw_tbl[1151]? = some (Jvm.Cond.selects "java/lang/StringBuilder" ({ cls := "java/lang/AbstractStringBuilder", name := "isLatin1", desc := "()Z" } : Jvm.MethodName) ({ cls := "java/lang/AbstractStringBuilder", name := "isLatin1", desc := "()Z" } : Jvm.MethodName)) := by decide +kernel
theorem tw_1152 : lw_tbl[1152]? = some (Jvm.Cond.code ({ cls := "java/lang/AbstractStringBuilder", name := "isLatin1", desc := "()Z" } : Jvm.MethodName) prog_15_method_68_code (1 : Nat) (Option.some Jvm.ClassFile.FieldType.boolean)) := by decide +kernel
theorem tw_1168 : lw_tbl[1168]? = some (Jvm.Cond.methodLink "java/lang/AbstractStringBuilder" (32 : Nat) ({ cls := "java/lang/String", name := "length", desc := "()I" } : Jvm.MethodName)) := by decide +kernel
theorem tw_1169 : lw_tbl[1169]? = some (Jvm.Cond.methodLink "java/lang/AbstractStringBuilder" (208 : Nat) ({ cls := "java/lang/AbstractStringBuilder", name := "putStringAt", desc := "(ILjava/lang/String;)V" } : Jvm.MethodName)) := by decide +kernel
theorem tw_1170 : lw_tbl[1170]? = some (Jvm.Cond.privateMethod ({ cls := "java/lang/AbstractStringBuilder", name := "putStringAt", desc := "(ILjava/lang/String;)V" } : Jvm.MethodName)) := by decide +kernel
theorem tw_1171 : lw_tbl[1171]? = some (Jvm.Cond.instanceMethod ({ cls := "java/lang/AbstractStringBuilder", name := "putStringAt", desc := "(ILjava/lang/String;)V" } : Jvm.MethodName)) := by decide +kernel
theorem tw_1172 : lw_tbl[1172]? = some (Jvm.Cond.code ({ cls := "java/lang/AbstractStringBuilder", name := "putStringAt", desc := "(ILjava/lang/String;)V" } : Jvm.MethodName) prog_15_method_73_code (3 : Nat) (Option.none : Option Jvm.ClassFile.FieldType)) := by decide +kernel
theorem tw_1173 : lw_tbl[1173]? = some (Jvm.Cond.methodLink "java/lang/AbstractStringBuilder" (397 : Nat) ({ cls := "java/lang/AbstractStringBuilder", name := "inflateIfNeededFor", desc := "(Ljava/lang/String;)V" } : Jvm.MethodName)) := by decide +kernel
theorem tw_1174 : lw_tbl[1174]? = some (Jvm.Cond.privateMethod ({ cls := "java/lang/AbstractStringBuilder", name := "inflateIfNeededFor", desc := "(Ljava/lang/String;)V" } : Jvm.MethodName)) := by decide +kernel
theorem tw_1175 : lw_tbl[1175]? = some (Jvm.Cond.instanceMethod ({ cls := "java/lang/AbstractStringBuilder", name := "inflateIfNeededFor", desc := "(Ljava/lang/String;)V" } : Jvm.MethodName)) := by decide +kernel
theorem tw_1176 : lw_tbl[1176]? = some (Jvm.Cond.code ({ cls := "java/lang/AbstractStringBuilder", name := "inflateIfNeededFor", desc := "(Ljava/lang/String;)V" } : Jvm.MethodName) prog_15_method_71_code (2 : Nat) (Option.none : Option Jvm.ClassFile.FieldType)) := by decide +kernel
theorem tw_1177 : lw_tbl[1177]? = some (Jvm.Cond.methodLink "java/lang/AbstractStringBuilder" (40 : Nat) ({ cls := "java/lang/String", name := "coder", desc := "()B" } : Jvm.MethodName)) := by decide +kernel
theorem tw_1197 : lw_tbl[1197]? = some (Jvm.Cond.methodLink "java/lang/AbstractStringBuilder" (399 : Nat) ({ cls := "java/lang/String", name := "getBytes", desc := "([BIB)V" } : Jvm.MethodName)) := by decide +kernel
theorem tw_1198 : lw_tbl[1198]? = some (Jvm.Cond.instanceMethod ({ cls := "java/lang/String", name := "getBytes", desc := "([BIB)V" } : Jvm.MethodName)) := by decide +kernel
theorem tw_1199 : lw_tbl[1199]? = some (Jvm.Cond.selects "java/lang/String" ({ cls := "java/lang/String", name := "getBytes", desc := "([BIB)V" } : Jvm.MethodName) ({ cls := "java/lang/String", name := "getBytes", desc := "([BIB)V" } : Jvm.MethodName)) := by decide +kernel
theorem tw_1200 : lw_tbl[1200]? = some (Jvm.Cond.code ({ cls := "java/lang/String", name := "getBytes", desc := "([BIB)V" } : Jvm.MethodName) prog_28_method_147_code (4 : Nat) (Option.none : Option Jvm.ClassFile.FieldType)) := by decide +kernel
theorem tw_1201 : lw_tbl[1201]? = some (Jvm.Cond.methodLink "java/lang/String" (212 : Nat) ({ cls := "java/lang/System", name := "arraycopy", desc := "(Ljava/lang/Object;ILjava/lang/Object;II)V" } : Jvm.MethodName)) := by decide +kernel
theorem tw_1207 : lw_tbl[1207]? = some (Jvm.Cond.methodLink "java/lang/StringBuilder" (53 : Nat) ({ cls := "java/lang/AbstractStringBuilder", name := "append", desc := "(I)Ljava/lang/AbstractStringBuilder;" } : Jvm.MethodName)) := by decide +kernel
theorem tw_1208 : lw_tbl[1208]? = some (Jvm.Cond.instanceMethod ({ cls := "java/lang/AbstractStringBuilder", name := "append", desc := "(I)Ljava/lang/AbstractStringBuilder;" } : Jvm.MethodName)) := by decide +kernel
theorem tw_1209 : lw_tbl[1209]? = some (Jvm.Cond.code ({ cls := "java/lang/AbstractStringBuilder", name := "append", desc := "(I)Ljava/lang/AbstractStringBuilder;" } : Jvm.MethodName) prog_15_method_32_code (4 : Nat) (Option.some (Jvm.ClassFile.FieldType.object "java/lang/AbstractStringBuilder"))) := by decide +kernel
theorem tw_1210 : lw_tbl[1210]? = some (Jvm.Cond.methodLink "java/lang/AbstractStringBuilder" (245 : Nat) ({ cls := "java/lang/Integer", name := "stringSize", desc := "(I)I" } : Jvm.MethodName)) := by decide +kernel
theorem tw_1211 : lw_tbl[1211]? = some (Jvm.Cond.static ({ cls := "java/lang/Integer", name := "stringSize", desc := "(I)I" } : Jvm.MethodName)) := by decide +kernel
theorem tw_1212 : lw_tbl[1212]? = some (Jvm.Cond.code ({ cls := "java/lang/Integer", name := "stringSize", desc := "(I)I" } : Jvm.MethodName) prog_24_method_13_code (4 : Nat) (Option.some Jvm.ClassFile.FieldType.int)) := by decide +kernel
theorem tw_1213 : lw_tbl[1213]? = some (Jvm.Cond.methodLink "java/lang/AbstractStringBuilder" (248 : Nat) ({ cls := "java/lang/Integer", name := "getChars", desc := "(II[B)I" } : Jvm.MethodName)) := by decide +kernel
theorem tw_1214 : lw_tbl[1214]? = some (Jvm.Cond.static ({ cls := "java/lang/Integer", name := "getChars", desc := "(II[B)I" } : Jvm.MethodName)) := by decide +kernel
theorem tw_1215 : lw_tbl[1215]? = some (Jvm.Cond.code ({ cls := "java/lang/Integer", name := "getChars", desc := "(II[B)I" } : Jvm.MethodName) prog_24_method_12_code (7 : Nat) (Option.some Jvm.ClassFile.FieldType.int)) := by decide +kernel
theorem tw_1216 : lw_tbl[1216]? = some (Jvm.Cond.fieldLink "java/lang/Integer" (83 : Nat) "java/lang/Integer" "DigitOnes" "[B") := by decide +kernel
theorem tw_1217 : lw_tbl[1217]? = some (Jvm.Cond.laysStatic "java/lang/Integer" "DigitOnes" "[B") := by decide +kernel
theorem tw_1218 : lw_tbl[1218]? = some (Jvm.Cond.fieldLink "java/lang/Integer" (87 : Nat) "java/lang/Integer" "DigitTens" "[B") := by decide +kernel
theorem tw_1219 : lw_tbl[1219]? = some (Jvm.Cond.laysStatic "java/lang/Integer" "DigitTens" "[B") := by decide +kernel
theorem tw_1247 : lw_tbl[1247]? = some (Jvm.Cond.instanceMethod ({ cls := "java/lang/AbstractStringBuilder", name := "length", desc := "()I" } : Jvm.MethodName)) := by decide +kernel
theorem tw_1248 : lw_tbl[1248]? = some (Jvm.Cond.sameMethod "java/lang/AbstractStringBuilder" "java/lang/AbstractStringBuilder" "length" "()I") := by decide +kernel
theorem tw_1252 : lw_tbl[1252]? = some (Jvm.Cond.methodLink "java/lang/StringBuilder" (343 : Nat) ({ cls := "java/lang/AbstractStringBuilder", name := "length", desc := "()I" } : Jvm.MethodName)) := by decide +kernel
theorem tw_1253 : lw_tbl[1253]? = some (Jvm.Cond.code ({ cls := "java/lang/AbstractStringBuilder", name := "length", desc := "()I" } : Jvm.MethodName) prog_15_method_6_code (1 : Nat) (Option.some Jvm.ClassFile.FieldType.int)) := by decide +kernel
theorem tw_1293 : lw_tbl[1293]? = some (Jvm.Cond.fieldLink "java/lang/String" (9 : Nat) "java/lang/String" "value" "[B") := by decide +kernel
theorem tw_1294 : lw_tbl[1294]? = some (Jvm.Cond.fieldLink "java/lang/String" (15 : Nat) "java/lang/String" "coder" "B") := by decide +kernel
theorem tw_1383 : lw_tbl[1383]? = some (Jvm.Cond.methodLink "java/lang/StringBuilder" (50 : Nat) ({ cls := "java/lang/AbstractStringBuilder", name := "append", desc := "(C)Ljava/lang/AbstractStringBuilder;" } : Jvm.MethodName)) := by decide +kernel
theorem tw_1384 : lw_tbl[1384]? = some (Jvm.Cond.instanceMethod ({ cls := "java/lang/AbstractStringBuilder", name := "append", desc := "(C)Ljava/lang/AbstractStringBuilder;" } : Jvm.MethodName)) := by decide +kernel
theorem tw_1385 : lw_tbl[1385]? = some (Jvm.Cond.code ({ cls := "java/lang/AbstractStringBuilder", name := "append", desc := "(C)Ljava/lang/AbstractStringBuilder;" } : Jvm.MethodName) prog_15_method_31_code (2 : Nat) (Option.some (Jvm.ClassFile.FieldType.object "java/lang/AbstractStringBuilder"))) := by decide +kernel
theorem tw_1386 : lw_tbl[1386]? = some (Jvm.Cond.methodLink "java/lang/AbstractStringBuilder" (191 : Nat) ({ cls := "java/lang/StringLatin1", name := "canEncode", desc := "(C)Z" } : Jvm.MethodName)) := by decide +kernel
theorem tw_1387 : lw_tbl[1387]? = some (Jvm.Cond.static ({ cls := "java/lang/StringLatin1", name := "canEncode", desc := "(C)Z" } : Jvm.MethodName)) := by decide +kernel
theorem tw_1388 : lw_tbl[1388]? = some (Jvm.Cond.code ({ cls := "java/lang/StringLatin1", name := "canEncode", desc := "(C)Z" } : Jvm.MethodName) prog_31_method_3_code (1 : Nat) (Option.some Jvm.ClassFile.FieldType.boolean)) := by decide +kernel
theorem tw_1436 : lw_tbl[1436]? = some (Jvm.Cond.methodLink "java/lang/StringBuilder" (329 : Nat) ({ cls := "java/lang/AbstractStringBuilder", name := "charAt", desc := "(I)C" } : Jvm.MethodName)) := by decide +kernel
theorem tw_1437 : lw_tbl[1437]? = some (Jvm.Cond.instanceMethod ({ cls := "java/lang/AbstractStringBuilder", name := "charAt", desc := "(I)C" } : Jvm.MethodName)) := by decide +kernel
theorem tw_1438 : lw_tbl[1438]? = some (Jvm.Cond.code ({ cls := "java/lang/AbstractStringBuilder", name := "charAt", desc := "(I)C" } : Jvm.MethodName) prog_15_method_14_code (5 : Nat) (Option.some Jvm.ClassFile.FieldType.char)) := by decide +kernel
theorem tw_1439 : lw_tbl[1439]? = some (Jvm.Cond.methodLink "java/lang/AbstractStringBuilder" (138 : Nat) ({ cls := "java/lang/Math", name := "min", desc := "(II)I" } : Jvm.MethodName)) := by decide +kernel
theorem tw_1440 : lw_tbl[1440]? = some (Jvm.Cond.methodLink "java/lang/AbstractStringBuilder" (144 : Nat) ({ cls := "java/lang/String", name := "checkIndex", desc := "(II)V" } : Jvm.MethodName)) := by decide +kernel
theorem tw_1862 : lw_tbl[1862]? = some (Jvm.Cond.sameMethod "java/lang/AbstractStringBuilder" "java/lang/AbstractStringBuilder" "setLength" "(I)V") := by decide +kernel
theorem tw_1863 : lw_tbl[1863]? = some (Jvm.Cond.sameMethod "java/lang/AbstractStringBuilder" "java/lang/AbstractStringBuilder" "append" "(Ljava/lang/String;)Ljava/lang/AbstractStringBuilder;") := by decide +kernel
theorem tw_1865 : lw_tbl[1865]? = some (Jvm.Cond.sameMethod "java/lang/AbstractStringBuilder" "java/lang/AbstractStringBuilder" "ensureCapacityInternal" "(I)V") := by decide +kernel
theorem tw_1866 : lw_tbl[1866]? = some (Jvm.Cond.sameMethod "java/lang/AbstractStringBuilder" "java/lang/AbstractStringBuilder" "newCapacity" "(I)I") := by decide +kernel
theorem tw_1867 : lw_tbl[1867]? = some (Jvm.Cond.sameMethod "java/lang/AbstractStringBuilder" "java/lang/AbstractStringBuilder" "putStringAt" "(ILjava/lang/String;)V") := by decide +kernel
theorem tw_1868 : lw_tbl[1868]? = some (Jvm.Cond.sameMethod "java/lang/AbstractStringBuilder" "java/lang/AbstractStringBuilder" "inflateIfNeededFor" "(Ljava/lang/String;)V") := by decide +kernel
theorem tw_1870 : lw_tbl[1870]? = some (Jvm.Cond.sameMethod "java/lang/AbstractStringBuilder" "java/lang/AbstractStringBuilder" "append" "(I)Ljava/lang/AbstractStringBuilder;") := by decide +kernel
theorem tw_1871 : lw_tbl[1871]? = some (Jvm.Cond.sameMethod "java/lang/AbstractStringBuilder" "java/lang/AbstractStringBuilder" "append" "(C)Ljava/lang/AbstractStringBuilder;") := by decide +kernel
theorem tw_1873 : lw_tbl[1873]? = some (Jvm.Cond.sameMethod "java/lang/AbstractStringBuilder" "java/lang/AbstractStringBuilder" "charAt" "(I)C") := by decide +kernel
theorem na_2 : (fs_ands narrow_1)[2]? = some (Jvm.Cond.eq (Jvm.Term.static "java/lang/String" "COMPACT_STRINGS" "Z") (Jvm.Term.int (1 : Int32))) := by decide +kernel
theorem na_57 : (fs_ands narrow_1)[57]? = some (Jvm.Cond.isRef (Jvm.Term.static "jdk/internal/util/Preconditions" "SIOOBE_FORMATTER" "Ljava/util/function/BiFunction;")) := by decide +kernel
section FSS
variable {p : Program} {l : Launch} {e : Env} {R : Room} {s : State} {m : MethodId} {args : Array Value} {below : List Frame} {meth : Method} {c : Code} {H : Heap} {locs : List Loc} {cells slots : Nat} {Q : State → Prop}
variable {cc : ByteArray} {pc : Nat} {ls : Array Slot} {rest : List Value} {h : fs_Hp} {s00 : State} {a : Nat} {G : fs_G} {Post' : fs_Ps} {y y0 : MethodName} {bytes : ByteArray} {nL maxL : Nat} {ret ret0 : Option FieldType} {argsL : List Value} {rm : Room} {st : List Value} {index : Nat}
theorem fx_toSU {T : State} (X : Stand p l e R s m args below meth c T locs cells slots) (hexec : p.tables.exec = Jvm.exec) {own : String}
    (hown : s.vm.findClass own = some m.cls) (hlink : (Cond.methodLink own index y).before args s = true) (hsame : (Cond.sameMethod y.cls y.cls y.name y.desc).before args s = true) (hsup : (Cond.superclass own y.cls).before args s = true)
    (hinst : (Cond.instanceMethod y).before args s = true) (hcode : (Cond.code y bytes maxL ret).before args s = true) (hno : y.name ≠ "<init>")
    {b : Addr} {cellB : Cell} {kB : Class} (hcell : T.heap[b]? = some cellB) (hobj : cellB.vm.isStatics = false) (hkB : s.vm.classes[cellB.cls]? = some kB)
    (hlen : (parseMethodDescriptor y.desc).map (fun d => d.parameters.length) = some argsL.length) (hstack : st = argsL.reverse ++ .ref b :: rest) (hdg : decode c.code pc = .ok (.invokespecial index, 3)) :
    fx_To p l e R s m args below meth c locs cells slots T (F0 m pc ls st) (F0 m pc ls rest) y (Value.ref b :: argsL).toArray := by
  obtain ⟨mk, methM, hnamed, hmethM, hstM, habM⟩ := Cond.instanceMethod_spec hinst
  obtain ⟨methM', cM, hmethM', -, -, -, -, -, -, hsigM⟩ := Cond.code_spec hnamed hcode
  cases hmethM.symm.trans hmethM'
  obtain ⟨ps, dk, kp, hps, hdk, hkp, hsuper, -, -, hnid⟩ := Cond.superclass_spec hown hsup
  have hn : s.methodNamed? ⟨y.cls, y.name, y.desc⟩ = some mk := hnamed
  have hpm : ps = mk.cls := Option.some.inj (hps.symm.trans (findClass_of_methodNamed hnamed))
  have hsub : s.vm.isSubclass ps mk.cls = true := by rw [hpm]; simp [Vm.isSubclass, Vm.isSubclassAux]
  have hl : argsL.length = methM.sig.parameters.length := by rw [hsigM] at hlen; exact (Option.some.inj hlen).symm
  obtain ⟨vm₁, X₁, hstep₁⟩ := X.invokespecialUp hexec hown hlink hsame hn hmethM hstM habM hno hdk hnid hps hsuper hsub (a := b) (cell := cellB) hcell
    (fun z h => by rw [h] at hobj; cases hobj) hkB (g := F0 m pc ls st) rfl (argsL := argsL) (rest := rest) hl hstack hdg
  exact ⟨vm₁, mk, X₁, X₁.named hnamed, fun target h => hstep₁ _ (by first | (intro acts; rw [doInvoke_state]; exact h) | (rw [doInvoke_state]; exact h) | exact h)⟩
theorem fs_cX {b ci : Nat} {fs : List Value} {C : String} {T : u_T} {N : Nat} (B : fs_B p l e s m args meth c s00 G y0 cc nL ret0) (hsz : ls.size = nL) (hP : fs_P G.1 fs_cl (fs_A s00) h H) (hS : va_S (fs_A s00) s00.heap H locs)
    (hM : fs_Ct l s00 G y (.code y bytes maxL ret) rm (.ref b :: argsL) h Post') (w1 : Cond.methodLink y0.cls index y ∈ fs_tb) (he : h b = some (.inr (ci, fs))) (hc : fs_cl[ci]? = some (C, T, N)) (w6 : Cond.sameMethod y.cls y.cls y.name y.desc ∈ fs_tb) (w7 : Cond.superclass y0.cls y.cls ∈ fs_tb) (w2 : Cond.instanceMethod y ∈ fs_tb) (w3 : Cond.initialized y.cls ∈ fs_tb) (w4 : Cond.code y bytes maxL ret ∈ fs_tb)
    (hno : y.name ≠ "<init>") (hlen : (parseMethodDescriptor y.desc).map (fun d => d.parameters.length) = some argsL.length) (hstack : st = argsL.reverse ++ .ref b :: rest) (hdg : decode cc pc = .ok (.invokespecial index, 3))
    (hroom : rm.frames + 1 ≤ R.frames ∧ (rest.map fun v => v.category).sum + (maxL + 11) + rm.locals ≤ R.locals ∧ cells + rm.cells ≤ R.cells ∧ slots + rm.slots ≤ R.slots)
    (kr : ∀ (v : Option Value) (h' : fs_Hp) (H1 : Heap) (locs1 : List Loc), Post' (.inl v) h' → fs_P G.1 fs_cl (fs_A s00) h' H1 → va_S (fs_A s00) s00.heap H1 locs1 → W p l e R s m args below meth c H1 locs1 (cells + rm.cells) (slots + rm.slots) Q (F0 m (pc + 3) ls (v.toList ++ rest)))
    (kt : ∀ (C : String) (a : Nat) (h' : fs_Hp) (H1 : Heap) (locs1 : List Loc), Post' (.inr C) h' → fs_P G.1 fs_cl (fs_A s00) h' H1 → va_S (fs_A s00) s00.heap H1 locs1 → fs_X (fs_A s00) C a s H1 → fx_T p l e R s m args below meth c H1 locs1 (cells + rm.cells) (slots + rm.slots) Q (F0 m pc ls rest) a) : W p l e R s m args below meth c H locs cells slots Q (F0 m pc ls st) := by
  obtain ⟨hx, hb, -, hml, hown, hts, -, -, hK, hw, -⟩ := B
  exact fs_call hb (hsz.trans hml.symm) hw hP hS hdg (fun T hT X => by
    obtain ⟨cell, q1, q2, q3⟩ := fs_recv hK hP he hc
    obtain ⟨kB, hkB⟩ := Vm.classAt_of_findClass q3
    exact fx_toSU (bytes := bytes) (maxL := maxL) (ret := ret) X hx hown (hts _ w1) (hts _ w6) (hts _ w7) (hts _ w2) (hts _ w4) hno (by rw [hT]; exact q1) q2 hkB hlen hstack (by rw [hb]; exact hdg)) hM (hts _ w4) (by first | rfl | decide) (fun U mk => fs_cy) (hts _ w3) hroom kr kt
theorem fs_prv {E : fs_E} (hE : fs_SE l s00 E) (hw : fs_W s00 s) (w : Cond.privateMethod y ∈ lw_tbl) : s.PrivateAt y := by
  obtain ⟨b, h0, -⟩ := hE.1.nar
  have h2 : (Cond.privateMethod y).before #[Value.ref b] (s00.setVm s.vm) = true := by
    rw [Cond.privateMethod_setVm hw.1.alike]
    exact h0 _ w
  have h3 := Cond.privateMethod_at h2
  exact fun mk meth hn hm => h3 mk meth hn hm
theorem fx_toVP {T : State} (X : Stand p l e R s m args below meth c T locs cells slots) (hexec : p.tables.exec = Jvm.exec) {own : String}
    (hown : s.vm.findClass own = some m.cls) (hlink : (Cond.methodLink own index y).before args s = true) (hinst : (Cond.instanceMethod y).before args s = true) (hsame : (Cond.sameMethod y.cls y.cls y.name y.desc).before args s = true) (hpriv : s.PrivateAt y)
    (hcode : (Cond.code y bytes maxL ret).before args s = true) (hy : y.cls ≠ "java/lang/invoke/MethodHandle" ∧ y.cls ≠ "java/lang/invoke/VarHandle")
    {b : Addr} {cellB : Cell} (hcell : T.heap[b]? = some cellB) (hobj : cellB.vm.isStatics = false)
    (hlen : (parseMethodDescriptor y.desc).map (fun d => d.parameters.length) = some argsL.length)
    (hstack : st = argsL.reverse ++ .ref b :: rest) (hdg : decode c.code pc = .ok (.invokevirtual index, 3)) :
    fx_To p l e R s m args below meth c locs cells slots T (F0 m pc ls st) (F0 m pc ls rest) y (Value.ref b :: argsL).toArray := by
  obtain ⟨mk, methM, hnamed, hmethM, hstM, habM⟩ := Cond.instanceMethod_spec hinst
  obtain ⟨methM', cM, hmethM', -, -, -, -, -, -, hsigM⟩ := Cond.code_spec hnamed hcode
  cases hmethM.symm.trans hmethM'
  obtain ⟨cn, ck, r1, hcn, hck, hni, hf, hn1⟩ := Cond.sameMethod_found hsame
  cases Option.some.inj (hcn.symm.trans (findClass_of_methodNamed hnamed))
  have hselP : selectMethod e.platform s.vm cellB.cls mk = .method mk := selectMethod_private hmethM (hpriv mk methM hnamed hmethM)
  have hl : argsL.length = methM.sig.parameters.length := by rw [hsigM] at hlen; exact (Option.some.inj hlen).symm
  obtain ⟨vm₁, X₁, hstep₁⟩ := X.invokevirtual hexec hown hlink hnamed hmethM hstM hck hni hy (a := b) (cell := cellB) hcell
    (fun z h => by rw [h] at hobj; cases hobj) hselP hmethM habM hck hni (g := F0 m pc ls st) rfl (argsL := argsL) (rest := rest) hl hstack hdg
  exact ⟨vm₁, mk, X₁, X₁.named hnamed, fun target h => hstep₁ _ fun acts => by rw [doInvoke_state]; exact h⟩
theorem fs_cVP {b ci : Nat} {fs : List Value} {C : String} {T : u_T} {N : Nat} (B : fs_B p l e s m args meth c s00 G y0 cc nL ret0) (hsz : ls.size = nL) (hP : fs_P G.1 fs_cl (fs_A s00) h H) (hS : va_S (fs_A s00) s00.heap H locs)
    (hM : fs_Ct l s00 G y (.code y bytes maxL ret) rm (.ref b :: argsL) h Post') (w1 : Cond.methodLink y0.cls index y ∈ fs_tb) (he : h b = some (.inr (ci, fs))) (hc : fs_cl[ci]? = some (C, T, N)) (w6 : Cond.sameMethod y.cls y.cls y.name y.desc ∈ fs_tb) (w8 : s.PrivateAt y) (w2 : Cond.instanceMethod y ∈ fs_tb) (w3 : Cond.initialized y.cls ∈ fs_tb) (w4 : Cond.code y bytes maxL ret ∈ fs_tb)
    (hy : y.cls ≠ "java/lang/invoke/MethodHandle" ∧ y.cls ≠ "java/lang/invoke/VarHandle") (hlen : (parseMethodDescriptor y.desc).map (fun d => d.parameters.length) = some argsL.length) (hstack : st = argsL.reverse ++ .ref b :: rest) (hdg : decode cc pc = .ok (.invokevirtual index, 3))
    (hroom : rm.frames + 1 ≤ R.frames ∧ (rest.map fun v => v.category).sum + (maxL + 11) + rm.locals ≤ R.locals ∧ cells + rm.cells ≤ R.cells ∧ slots + rm.slots ≤ R.slots)
    (kr : ∀ (v : Option Value) (h' : fs_Hp) (H1 : Heap) (locs1 : List Loc), Post' (.inl v) h' → fs_P G.1 fs_cl (fs_A s00) h' H1 → va_S (fs_A s00) s00.heap H1 locs1 → W p l e R s m args below meth c H1 locs1 (cells + rm.cells) (slots + rm.slots) Q (F0 m (pc + 3) ls (v.toList ++ rest)))
    (kt : ∀ (C : String) (a : Nat) (h' : fs_Hp) (H1 : Heap) (locs1 : List Loc), Post' (.inr C) h' → fs_P G.1 fs_cl (fs_A s00) h' H1 → va_S (fs_A s00) s00.heap H1 locs1 → fs_X (fs_A s00) C a s H1 → fx_T p l e R s m args below meth c H1 locs1 (cells + rm.cells) (slots + rm.slots) Q (F0 m pc ls rest) a) : W p l e R s m args below meth c H locs cells slots Q (F0 m pc ls st) := by
  obtain ⟨hx, hb, -, hml, hown, hts, -, -, hK, hw, -⟩ := B
  exact fs_call hb (hsz.trans hml.symm) hw hP hS hdg (fun T hT X => by
    obtain ⟨cell, q1, q2, q3⟩ := fs_recv hK hP he hc
    exact fx_toVP (bytes := bytes) (maxL := maxL) (ret := ret) X hx hown (hts _ w1) (hts _ w2) (hts _ w6) w8 (hts _ w4) hy (by rw [hT]; exact q1) q2 hlen hstack (by rw [hb]; exact hdg)) hM (hts _ w4) (by first | rfl | decide) (fun U mk => fs_cy) (hts _ w3) hroom kr kt
/-- bytes are copied from one array of the world to another -/
def fs_cpB (cA : ClassId) (h : fs_Hp) (b : Nat) (sp : Int32) (a : Nat) (dp n : Int32) (h2 : fs_Hp) : Prop := ∃ (n0 n1 : Nat) (f g : Nat → Int32), h b = some (.inl (cA, n0, .inl f)) ∧ h a = some (.inl (cA, n1, .inl g)) ∧ ¬ sp < 0 ∧ ¬ dp < 0 ∧ ¬ n < 0 ∧ sp.toNatClampNeg + n.toNatClampNeg ≤ n0 ∧ dp.toNatClampNeg + n.toNatClampNeg ≤ n1 ∧ (∀ i, i < n.toNatClampNeg → fits .byte (.int (f (sp.toNatClampNeg + i))) = true) ∧ h2 = fs_up h a (.inl (cA, n1, .inl (va_cpy f g sp.toNatClampNeg dp.toNatClampNeg n.toNatClampNeg)))
/-- the same, from a table of the start -/
def fs_cpX (cA : ClassId) (h : fs_Hp) (n0 : Nat) (f : Nat → Int32) (sp : Int32) (a : Nat) (dp n : Int32) (h2 : fs_Hp) : Prop := ∃ (n1 : Nat) (g : Nat → Int32), h a = some (.inl (cA, n1, .inl g)) ∧ ¬ sp < 0 ∧ ¬ dp < 0 ∧ ¬ n < 0 ∧ sp.toNatClampNeg + n.toNatClampNeg ≤ n0 ∧ dp.toNatClampNeg + n.toNatClampNeg ≤ n1 ∧ (∀ i, i < n.toNatClampNeg → fits .byte (.int (f (sp.toNatClampNeg + i))) = true) ∧ h2 = fs_up h a (.inl (cA, n1, .inl (va_cpy f g sp.toNatClampNeg dp.toNatClampNeg n.toNatClampNeg)))
theorem fs_cpb {own : String} {b : Nat} {sp dp n : Int32} {h2 : fs_Hp} (hexec : p.tables.exec = Jvm.exec) (hb : c.code = cc) (hml : c.maxLocals = ls.size) (hown : s.vm.findClass own = some m.cls) (hlink : (Cond.methodLink own index arraycopyName).before args s = true) (hnat : (Cond.native arraycopyName).before args s = true) (hstat : (Cond.static arraycopyName).before args s = true) (hini : (Cond.initialized "java/lang/System").before args s = true)
    (hK : va_K G.1 fs_cl (fs_tys G) s) (hP : fs_P G.1 fs_cl (fs_A s00) h H) (hS : va_S (fs_A s00) s00.heap H locs) (hc : fs_cpB (G.2 5) h b sp a dp n h2)
    (hframes : 1 ≤ R.frames) {k : Nat} (hk : (rest.map fun v => v.category).sum = k) (hlo : k + 18 ≤ R.locals) (hdg : decode cc pc = .ok (.invokestatic index, 3))
    (kk : ∀ (H1 : Heap) (locs1 : List Loc), fs_P G.1 fs_cl (fs_A s00) h2 H1 → va_S (fs_A s00) s00.heap H1 locs1 → W p l e R s m args below meth c H1 locs1 cells slots Q (F0 m (pc + 3) ls rest)) : W p l e R s m args below meth c H locs cells slots Q (F0 m pc ls (.int n :: .int dp :: .ref a :: .int sp :: .ref b :: rest)) := by
  have hlocals : (rest.map fun v => v.category).sum + (nativeFrameWords "java/lang/System" "arraycopy" 5 + 11) ≤ R.locals := by
    have h9 : nativeFrameWords "java/lang/System" "arraycopy" 5 = 7 := by decide
    rw [h9, hk]
    exact hlo
  obtain ⟨n0, n1, f, g, e0, e1, h1, h2', h3, h4, h5, h6, rfl⟩ := hc
  obtain ⟨ws, p1, p2, p3⟩ := hP
  obtain ⟨q0, k0⟩ := (p3 _ _).mp e0
  obtain ⟨q1, k1⟩ := (p3 _ _).mp e1
  exact va_copyi hexec hb hml hown hlink hnat hstat hini hK p1 p2 hS q0 q1 5 5 (ty := .byte) k0 k1 rfl rfl rfl h1 h2' h3 h4 h5 h6 hframes hlocals hdg fun H1 locs1 r1 r2 r3 => kk H1 locs1 ⟨_, r1, r2, fs_set p2 p3 k1⟩ r3
theorem fs_cpx {own : String} {b n0 : Nat} {f : Nat → Int32} {sp dp n : Int32} {h2 : fs_Hp} (hexec : p.tables.exec = Jvm.exec) (hb : c.code = cc) (hml : c.maxLocals = ls.size) (hown : s.vm.findClass own = some m.cls) (hlink : (Cond.methodLink own index arraycopyName).before args s = true) (hnat : (Cond.native arraycopyName).before args s = true) (hstat : (Cond.static arraycopyName).before args s = true) (hini : (Cond.initialized "java/lang/System").before args s = true)
    (hK : va_K G.1 fs_cl (fs_tys G) s) (hP : fs_P G.1 fs_cl (fs_A s00) h H) (hS : va_S (fs_A s00) s00.heap H locs) (hw : fs_W s00 s) (hX : va_T .byte b n0 (fun k => .int (f k)) (fs_A s00) s00 s00.heap) (hc : fs_cpX (G.2 5) h n0 f sp a dp n h2)
    (hframes : 1 ≤ R.frames) {k : Nat} (hk : (rest.map fun v => v.category).sum = k) (hlo : k + 18 ≤ R.locals) (hdg : decode cc pc = .ok (.invokestatic index, 3))
    (kk : ∀ (H1 : Heap) (locs1 : List Loc), fs_P G.1 fs_cl (fs_A s00) h2 H1 → va_S (fs_A s00) s00.heap H1 locs1 → W p l e R s m args below meth c H1 locs1 cells slots Q (F0 m (pc + 3) ls rest)) : W p l e R s m args below meth c H locs cells slots Q (F0 m pc ls (.int n :: .int dp :: .ref a :: .int sp :: .ref b :: rest)) := by
  have hlocals : (rest.map fun v => v.category).sum + (nativeFrameWords "java/lang/System" "arraycopy" 5 + 11) ≤ R.locals := by
    have h9 : nativeFrameWords "java/lang/System" "arraycopy" 5 = 7 := by decide
    rw [h9, hk]
    exact hlo
  obtain ⟨n1, g, e1, h1, h2', h3, h4, h5, h6, rfl⟩ := hc
  obtain ⟨ws, p1, p2, p3⟩ := hP
  obtain ⟨q1, k1⟩ := (p3 _ _).mp e1
  intro T hT X
  have hS2 : va_S (fs_A s00) s.heap H locs := by
    refine ⟨?_, fun q hq hA => ?_, hS.2.2⟩
    · rw [← hT]
      exact X.same.2.1
    · have hq0 : q < s00.heap.size := Nat.not_le.mp hA
      rw [hS.2.1 q hq0 hA, hw.2.2 q hq0]
  refine vk_copyt hexec hb hml hown hlink hnat hstat hini hK p1 p2 hS2 ((va_T.moved hw.1.alike hX).kept fun a ha _ => hw.2.2 a ha) q1 5 k1 rfl h1 h2' h3 h4 h5 h6 hframes hlocals hdg (fun H1 locs1 r1 r2 r3 => kk H1 locs1 ⟨_, r1, r2, fs_set p2 p3 k1⟩ ⟨Nat.le_trans hw.2.1 r3.1, fun q hq hA => ?_, r3.2.2⟩) T hT X
  rw [r3.2.1 q (Nat.lt_of_lt_of_le hq hw.2.1) hA, hw.2.2 q hq]
end FSS
def w_ST_coder (E : fs_E) (h : fs_Hp) (a0 : Nat) (Post : fs_Ps) : Prop := (a0 < 8 ∧ Post (.inl (some (.int 0))) h)
set_option maxHeartbeats 4000000 in
set_option maxRecDepth 100000 in
theorem kw_ST_coder {l : Launch} {s00 : State} {E : fs_E} (hE : fs_SE l s00 E) {h : fs_Hp} {a0 : Nat} {Post : fs_Ps} (hq : w_ST_coder E h a0 Post) : fs_Ct l s00 E.1 y_ST_coder (.code y_ST_coder b_ST_coder 1 (some .byte)) { frames := 0, cells := 0, slots := 0, locals := 0 } [.ref (E.2 (16 + a0))] h Post := by
  refine fs_Ct.ofS hE.1 (by decide +kernel) ?_
  intro p e R s m below meth c hRf hRl hRc hRs B hout hP
  skip
  obtain ⟨hx, hb, hr, hml, hown, hts, hlocks, hname, hK, hw, htr⟩ := id B
  have hown : s.vm.findClass "java/lang/String" = some m.cls := hown
  have hS := hw.S
  have hl := lv_entry ([.ref (E.2 (16 + a0))]) (n := 1) (Nat.le_of_ble_eq_true rfl)
  rw [lg_entry_eq]
  generalize (lg_sl ([.ref (E.2 (16 + a0))]) ++ List.replicate (1 - (lg_sl ([.ref (E.2 (16 + a0))])).length) Slot.unset).toArray = ls at hl ⊢
  have hl : lv_has ls 1 [(0, .ref (E.2 (16 + a0)))] := hl
  unfold w_ST_coder at hq
  refine fs_gets hx hb (fs_zi hE (i := 2) na_2 (List.mem_of_getElem? tw_221) (List.mem_of_getElem? tw_94)) hw hS hown (hts _ (fs_tb_at 747 tw_747 rfl)) d_ST_coder_0 ?_
  refine lv_if_eq (tgt := 13) hx hb d_ST_coder_3 (by decide) (fun c_101 => ?_) (fun c_101 => ?_)
  · exact absurd c_101 (by decide)
  · refine lv_aload_n hx hb d_ST_coder_6 rfl (lv_at hl 0 rfl) ?_
    obtain ⟨hj_, hq⟩ := hq
    refine fs_xget hx hb (fs_text hE a0 hj_).2.1 hw hS hown (hts _ (fs_tb_at 1294 tw_1294 rfl)) d_ST_coder_7 ?_
    refine lv_goto (tgt := 14) hx hb d_ST_coder_10 (by decide) ?_
    exact fs_iret hx hb hr hlocks hw hP hS (by decide) (Nat.le_refl _) (Nat.le_refl _) hq d_ST_coder_14
def w_ST_isLatin1 (E : fs_E) (h : fs_Hp) (a0 : Nat) (Post : fs_Ps) : Prop := (a0 < 8 ∧ Post (.inl (some (.int 1))) h)
set_option maxHeartbeats 4000000 in
set_option maxRecDepth 100000 in
theorem kw_ST_isLatin1 {l : Launch} {s00 : State} {E : fs_E} (hE : fs_SE l s00 E) {h : fs_Hp} {a0 : Nat} {Post : fs_Ps} (hq : w_ST_isLatin1 E h a0 Post) : fs_Ct l s00 E.1 y_ST_isLatin1 (.code y_ST_isLatin1 b_ST_isLatin1 1 (some .boolean)) { frames := 0, cells := 0, slots := 0, locals := 0 } [.ref (E.2 (16 + a0))] h Post := by
  refine fs_Ct.ofS hE.1 (by decide +kernel) ?_
  intro p e R s m below meth c hRf hRl hRc hRs B hout hP
  skip
  obtain ⟨hx, hb, hr, hml, hown, hts, hlocks, hname, hK, hw, htr⟩ := id B
  have hown : s.vm.findClass "java/lang/String" = some m.cls := hown
  have hS := hw.S
  have hl := lv_entry ([.ref (E.2 (16 + a0))]) (n := 1) (Nat.le_of_ble_eq_true rfl)
  rw [lg_entry_eq]
  generalize (lg_sl ([.ref (E.2 (16 + a0))]) ++ List.replicate (1 - (lg_sl ([.ref (E.2 (16 + a0))])).length) Slot.unset).toArray = ls at hl ⊢
  have hl : lv_has ls 1 [(0, .ref (E.2 (16 + a0)))] := hl
  unfold w_ST_isLatin1 at hq
  refine fs_gets hx hb (fs_zi hE (i := 2) na_2 (List.mem_of_getElem? tw_221) (List.mem_of_getElem? tw_94)) hw hS hown (hts _ (fs_tb_at 747 tw_747 rfl)) d_ST_isLatin1_0 ?_
  refine lv_if_eq (tgt := 17) hx hb d_ST_isLatin1_3 (by decide) (fun c_101 => ?_) (fun c_101 => ?_)
  · exact absurd c_101 (by decide)
  · refine lv_aload_n hx hb d_ST_isLatin1_6 rfl (lv_at hl 0 rfl) ?_
    obtain ⟨hj_, hq⟩ := hq
    refine fs_xget hx hb (fs_text hE a0 hj_).2.1 hw hS hown (hts _ (fs_tb_at 1294 tw_1294 rfl)) d_ST_isLatin1_7 ?_
    refine lv_if_ne (tgt := 17) hx hb d_ST_isLatin1_10 (by decide) (fun c_102 => ?_) (fun c_102 => ?_)
    · exact absurd c_102 (by decide)
    · refine lv_iconst (v := 1) hx hb d_ST_isLatin1_13 (by decide) ?_
      refine lv_goto (tgt := 18) hx hb d_ST_isLatin1_14 (by decide) ?_
      exact fs_iret hx hb hr hlocks hw hP hS (by decide) (Nat.le_refl _) (Nat.le_refl _) hq d_ST_isLatin1_18
def w_ST_length (E : fs_E) (h : fs_Hp) (a0 : Nat) (Post : fs_Ps) : Prop := (a0 < 8 ∧ (a0 < 8 ∧ (a0 < 8 ∧ w_ST_coder E h a0 (fs_ki (fun x102 h101 => Post (.inl (some (.int ((Int32.ofNat (fs_ob a0).length) >>> (x102 &&& 31))))) h101) (fun C_ h_ => Post (.inr C_) h_)))))
set_option maxHeartbeats 4000000 in
set_option maxRecDepth 100000 in
theorem kw_ST_length {l : Launch} {s00 : State} {E : fs_E} (hE : fs_SE l s00 E) {h : fs_Hp} {a0 : Nat} {Post : fs_Ps} (hq : w_ST_length E h a0 Post) : fs_Ct l s00 E.1 y_ST_length (.code y_ST_length b_ST_length 1 (some .int)) { frames := 1, cells := 0, slots := 0, locals := 13 } [.ref (E.2 (16 + a0))] h Post := by
  refine fs_Ct.ofS hE.1 (by decide +kernel) ?_
  intro p e R s m below meth c hRf hRl hRc hRs B hout hP
  skip
  obtain ⟨hx, hb, hr, hml, hown, hts, hlocks, hname, hK, hw, htr⟩ := id B
  have hown : s.vm.findClass "java/lang/String" = some m.cls := hown
  have hS := hw.S
  have hl := lv_entry ([.ref (E.2 (16 + a0))]) (n := 1) (Nat.le_of_ble_eq_true rfl)
  rw [lg_entry_eq]
  generalize (lg_sl ([.ref (E.2 (16 + a0))]) ++ List.replicate (1 - (lg_sl ([.ref (E.2 (16 + a0))])).length) Slot.unset).toArray = ls at hl ⊢
  have hl : lv_has ls 1 [(0, .ref (E.2 (16 + a0)))] := hl
  unfold w_ST_length at hq
  refine lv_aload_n hx hb d_ST_length_0 rfl (lv_at hl 0 rfl) ?_
  obtain ⟨hj_, hq⟩ := hq
  refine fs_xget hx hb (fs_text hE a0 hj_).2.2.1 hw hS hown (hts _ (fs_tb_at 1293 tw_1293 rfl)) d_ST_length_1 ?_
  obtain ⟨hj_, hq⟩ := hq
  refine fs_xln hx hb (fs_text hE a0 hj_).2.2.2 hw hS d_ST_length_4 ?_
  refine lv_aload_n hx hb d_ST_length_5 rfl (lv_at hl 0 rfl) ?_
  obtain ⟨hj_, hq⟩ := hq
  refine fs_cVS B hl.1 hP hS (kw_ST_coder hE hq) (fs_tb_at 743 tw_743 rfl) (fs_text hE a0 hj_).1 (fs_tb_at 744 tw_744 rfl) (fs_tb_at 745 tw_745 rfl) (fs_tb_at 94 tw_94 rfl) (fs_tb_at 746 tw_746 rfl) (by decide) (show (parseMethodDescriptor y_ST_coder.desc).map (fun d => d.parameters.length) = some 0 by decide +kernel) rfl d_ST_length_6 (fs_rm (k := 1) (by omega) (by omega) (by omega) (by omega) rfl) (fun v_ h101 H locs hq hP hS => ?_) (fun C_ a_ h_ H locs hq hP hS hX => fs_out (hout _) hlocks hw hP hS hX (Nat.le_of_ble_eq_true rfl) (Nat.le_of_ble_eq_true rfl) hq)
  refine fs_cs (k := 0) (n := 0) rfl rfl ?_
  replace hq := fs_ki_some hq
  obtain ⟨x102, rfl, hq⟩ := hq
  refine W.eq (g2 := F0 m 9 ls (.int x102 :: .int (Int32.ofNat (fs_ob a0).length) :: [])) rfl ?_
  refine lv_ishr hx hb d_ST_length_9 ?_
  exact fs_iret hx hb hr hlocks hw hP hS (vp_nar_int _) (Nat.le_refl _) (Nat.le_refl _) hq d_ST_length_10
def w_PC_checkIndex (E : fs_E) (h : fs_Hp) (x1 : Int32) (x2 : Int32) (x3 : Option Nat) (Post : fs_Ps) : Prop := (if x1 < 0 then False else (if x1 < x2 then Post (.inl (some (.int x1))) h else False))
set_option maxHeartbeats 4000000 in
set_option maxRecDepth 100000 in
theorem kw_PC_checkIndex {l : Launch} {s00 : State} {E : fs_E} (hE : fs_SE l s00 E) {h : fs_Hp} {x1 : Int32} {x2 : Int32} {x3 : Option Nat} {Post : fs_Ps} (hq : w_PC_checkIndex E h x1 x2 x3 Post) : fs_Ct l s00 E.1 y_PC_checkIndex (.code y_PC_checkIndex b_PC_checkIndex 3 (some .int)) { frames := 0, cells := 0, slots := 0, locals := 0 } [.int x1, .int x2, va_rf x3] h Post := by
  refine fs_Ct.ofS hE.1 (by decide +kernel) ?_
  intro p e R s m below meth c hRf hRl hRc hRs B hout hP
  skip
  obtain ⟨hx, hb, hr, hml, hown, hts, hlocks, hname, hK, hw, htr⟩ := id B
  have hown : s.vm.findClass "jdk/internal/util/Preconditions" = some m.cls := hown
  have hS := hw.S
  have hl := lv_entry ([.int x1, .int x2, va_rf x3]) (n := 3) (by cases x3 <;> exact Nat.le_of_ble_eq_true rfl)
  rw [lg_entry_eq]
  generalize (lg_sl ([.int x1, .int x2, va_rf x3]) ++ List.replicate (3 - (lg_sl ([.int x1, .int x2, va_rf x3])).length) Slot.unset).toArray = ls at hl ⊢
  have hl : lv_has ls 3 [(0, .int x1), (1, .int x2), (2, va_rf x3)] := by cases x3 <;> exact hl
  unfold w_PC_checkIndex at hq
  refine lv_iload_n hx hb d_PC_checkIndex_0 rfl (lv_at hl 0 rfl) ?_
  refine lv_if_lt (tgt := 9) hx hb d_PC_checkIndex_1 (by decide) (fun c_101 => ?_) (fun c_101 => ?_)
  · have hq := fs_wifp c_101 hq
    exact False.elim hq
  · have hq := fs_wifn c_101 hq
    refine lv_iload_n hx hb d_PC_checkIndex_4 rfl (lv_at hl 0 rfl) ?_
    refine lv_iload_n hx hb d_PC_checkIndex_5 rfl (lv_at hl 1 rfl) ?_
    refine lv_icmp_lt (tgt := 16) hx hb d_PC_checkIndex_6 (by decide) (fun c_102 => ?_) (fun c_102 => ?_)
    · have hq := fs_wifp c_102 hq
      refine lv_iload_n hx hb d_PC_checkIndex_16 rfl (lv_at hl 0 rfl) ?_
      exact fs_iret hx hb hr hlocks hw hP hS (vp_nar_int _) (Nat.le_refl _) (Nat.le_refl _) hq d_PC_checkIndex_17
    · have hq := fs_wifn c_102 hq
      exact False.elim hq
def w_ST_checkIndex (E : fs_E) (h : fs_Hp) (x1 : Int32) (x2 : Int32) (Post : fs_Ps) : Prop := (∀ o101 : Option Nat, w_PC_checkIndex E h x1 x2 o101 (fs_ki (fun x103 h102 => Post (.inl none) h102) (fun C_ h_ => Post (.inr C_) h_)))
set_option maxHeartbeats 4000000 in
set_option maxRecDepth 100000 in
theorem kw_ST_checkIndex {l : Launch} {s00 : State} {E : fs_E} (hE : fs_SE l s00 E) {h : fs_Hp} {x1 : Int32} {x2 : Int32} {Post : fs_Ps} (hq : w_ST_checkIndex E h x1 x2 Post) : fs_Ct l s00 E.1 y_ST_checkIndex (.code y_ST_checkIndex b_ST_checkIndex 2 none) { frames := 1, cells := 0, slots := 0, locals := 14 } [.int x1, .int x2] h Post := by
  refine fs_Ct.ofS hE.1 (by decide +kernel) ?_
  intro p e R s m below meth c hRf hRl hRc hRs B hout hP
  skip
  obtain ⟨hx, hb, hr, hml, hown, hts, hlocks, hname, hK, hw, htr⟩ := id B
  have hown : s.vm.findClass "java/lang/String" = some m.cls := hown
  have hS := hw.S
  have hl := lv_entry ([.int x1, .int x2]) (n := 2) (Nat.le_of_ble_eq_true rfl)
  rw [lg_entry_eq]
  generalize (lg_sl ([.int x1, .int x2]) ++ List.replicate (2 - (lg_sl ([.int x1, .int x2])).length) Slot.unset).toArray = ls at hl ⊢
  have hl : lv_has ls 2 [(0, .int x1), (1, .int x2)] := hl
  unfold w_ST_checkIndex at hq
  refine lv_iload_n hx hb d_ST_checkIndex_0 rfl (lv_at hl 0 rfl) ?_
  refine lv_iload_n hx hb d_ST_checkIndex_1 rfl (lv_at hl 1 rfl) ?_
  obtain ⟨o101, hz_⟩ := fs_zq hE (i := 57) na_57 (List.mem_of_getElem? tw_763) (List.mem_of_getElem? tw_107)
  have hq := hq o101
  refine fs_gets hx hb hz_ hw hS hown (hts _ (fs_tb_at 762 tw_762 rfl)) d_ST_checkIndex_2 ?_
  refine fs_cS B hl.1 hP hS (kw_PC_checkIndex hE hq) (fs_tb_at 764 tw_764 rfl) (fs_tb_at 765 tw_765 rfl) (fs_tb_at 107 tw_107 rfl) (fs_tb_at 766 tw_766 rfl) (by decide) (show (parseMethodDescriptor y_PC_checkIndex.desc).map (fun d => d.parameters.length) = some 3 by decide +kernel) rfl d_ST_checkIndex_5 (fs_rm (k := 0) (by omega) (by omega) (by omega) (by omega) rfl) (fun v_ h102 H locs hq hP hS => ?_) (fun C_ a_ h_ H locs hq hP hS hX => fs_out (hout _) hlocks hw hP hS hX (Nat.le_of_ble_eq_true rfl) (Nat.le_of_ble_eq_true rfl) hq)
  refine fs_cs (k := 0) (n := 0) rfl rfl ?_
  replace hq := fs_ki_some hq
  obtain ⟨x103, rfl, hq⟩ := hq
  refine W.eq (g2 := F0 m 8 ls (.int x103 :: [])) rfl ?_
  refine lv_pop hx hb d_ST_checkIndex_8 rfl ?_
  exact fs_vret hx hb hr hlocks hw hP hS (Nat.le_refl _) (Nat.le_refl _) hq d_ST_checkIndex_9
def w_SL_charAt (E : fs_E) (h : fs_Hp) (x1 : Nat) (x2 : Int32) (Post : fs_Ps) : Prop := (x1 < 8 ∧ w_ST_checkIndex E h x2 (Int32.ofNat (fs_ob x1).length) (fs_kv (fun h101 => (x1 < 8 ∧ vp_in x2 (fs_ob x1).length ∧ (narrow .char (.int ((Int32.toUInt32 (((fs_ob x1).getD (Int32.toNatClampNeg x2) 0) &&& (255 : Int32)) % 65536).toInt32)) = (.int ((Int32.toUInt32 (((fs_ob x1).getD (Int32.toNatClampNeg x2) 0) &&& (255 : Int32)) % 65536).toInt32))) ∧ (Post (.inl (some (.int ((Int32.toUInt32 (((fs_ob x1).getD (Int32.toNatClampNeg x2) 0) &&& (255 : Int32)) % 65536).toInt32)))) h101))) (fun C_ h_ => Post (.inr C_) h_)))
set_option maxHeartbeats 4000000 in
set_option maxRecDepth 100000 in
theorem kw_SL_charAt {l : Launch} {s00 : State} {E : fs_E} (hE : fs_SE l s00 E) {h : fs_Hp} {x1 : Nat} {x2 : Int32} {Post : fs_Ps} (hq : w_SL_charAt E h x1 x2 Post) : fs_Ct l s00 E.1 y_SL_charAt (.code y_SL_charAt b_SL_charAt 2 (some .char)) { frames := 2, cells := 0, slots := 0, locals := 27 } [.ref (E.2 (24 + x1)), .int x2] h Post := by
  refine fs_Ct.ofS hE.1 (by decide +kernel) ?_
  intro p e R s m below meth c hRf hRl hRc hRs B hout hP
  skip
  obtain ⟨hx, hb, hr, hml, hown, hts, hlocks, hname, hK, hw, htr⟩ := id B
  have hown : s.vm.findClass "java/lang/StringLatin1" = some m.cls := hown
  have hS := hw.S
  have hl := lv_entry ([.ref (E.2 (24 + x1)), .int x2]) (n := 2) (Nat.le_of_ble_eq_true rfl)
  rw [lg_entry_eq]
  generalize (lg_sl ([.ref (E.2 (24 + x1)), .int x2]) ++ List.replicate (2 - (lg_sl ([.ref (E.2 (24 + x1)), .int x2])).length) Slot.unset).toArray = ls at hl ⊢
  have hl : lv_has ls 2 [(0, .ref (E.2 (24 + x1))), (1, .int x2)] := hl
  unfold w_SL_charAt at hq
  refine lv_iload_n hx hb d_SL_charAt_0 rfl (lv_at hl 1 rfl) ?_
  refine lv_aload_n hx hb d_SL_charAt_1 rfl (lv_at hl 0 rfl) ?_
  obtain ⟨hj_, hq⟩ := hq
  refine fs_xln hx hb (fs_text hE x1 hj_).2.2.2 hw hS d_SL_charAt_2 ?_
  refine fs_cS B hl.1 hP hS (kw_ST_checkIndex hE hq) (fs_tb_at 759 tw_759 rfl) (fs_tb_at 760 tw_760 rfl) (fs_tb_at 94 tw_94 rfl) (fs_tb_at 761 tw_761 rfl) (by decide) (show (parseMethodDescriptor y_ST_checkIndex.desc).map (fun d => d.parameters.length) = some 2 by decide +kernel) rfl d_SL_charAt_3 (fs_rm (k := 0) (by omega) (by omega) (by omega) (by omega) rfl) (fun v_ h101 H locs hq hP hS => ?_) (fun C_ a_ h_ H locs hq hP hS hX => fs_out (hout _) hlocks hw hP hS hX (Nat.le_of_ble_eq_true rfl) (Nat.le_of_ble_eq_true rfl) hq)
  refine fs_cs (k := 0) (n := 0) rfl rfl ?_
  replace hq := fs_kv_some hq
  obtain ⟨rfl, hq⟩ := hq
  refine W.eq (g2 := F0 m 6 ls ([])) rfl ?_
  refine lv_aload_n hx hb d_SL_charAt_6 rfl (lv_at hl 0 rfl) ?_
  refine lv_iload_n hx hb d_SL_charAt_7 rfl (lv_at hl 1 rfl) ?_
  obtain ⟨hj_, hi_, hq⟩ := hq
  refine fs_xba (f := fun k => (fs_ob x1).getD k 0) hx hb (fs_text hE x1 hj_).2.2.2 hw hS hi_ d_SL_charAt_8 ?_
  refine lv_sipush (v := 255) hx hb d_SL_charAt_9 (by decide) ?_
  refine lv_iand hx hb d_SL_charAt_12 ?_
  refine lv_i2c hx hb d_SL_charAt_13 rfl ?_
  obtain ⟨hn_, hq⟩ := hq
  exact fs_iret hx hb hr hlocks hw hP hS hn_ (Nat.le_refl _) (Nat.le_refl _) hq d_SL_charAt_14
def w_ST_charAt (E : fs_E) (h : fs_Hp) (a0 : Nat) (x1 : Int32) (Post : fs_Ps) : Prop := (a0 < 8 ∧ w_ST_isLatin1 E h a0 (fs_ki (fun x102 h101 => (if x102 = 0 then (a0 < 8 ∧ False) else (a0 < 8 ∧ w_SL_charAt E h101 a0 x1 (fs_ki (fun x105 h104 => (narrow .char (.int x105) = (.int x105)) ∧ (Post (.inl (some (.int x105))) h104)) (fun C_ h_ => Post (.inr C_) h_))))) (fun C_ h_ => Post (.inr C_) h_)))
set_option maxHeartbeats 4000000 in
set_option maxRecDepth 100000 in
theorem kw_ST_charAt {l : Launch} {s00 : State} {E : fs_E} (hE : fs_SE l s00 E) {h : fs_Hp} {a0 : Nat} {x1 : Int32} {Post : fs_Ps} (hq : w_ST_charAt E h a0 x1 Post) : fs_Ct l s00 E.1 y_ST_charAt (.code y_ST_charAt b_ST_charAt 2 (some .char)) { frames := 3, cells := 0, slots := 0, locals := 40 } [.ref (E.2 (16 + a0)), .int x1] h Post := by
  refine fs_Ct.ofS hE.1 (by decide +kernel) ?_
  intro p e R s m below meth c hRf hRl hRc hRs B hout hP
  skip
  obtain ⟨hx, hb, hr, hml, hown, hts, hlocks, hname, hK, hw, htr⟩ := id B
  have hown : s.vm.findClass "java/lang/String" = some m.cls := hown
  have hS := hw.S
  have hl := lv_entry ([.ref (E.2 (16 + a0)), .int x1]) (n := 2) (Nat.le_of_ble_eq_true rfl)
  rw [lg_entry_eq]
  generalize (lg_sl ([.ref (E.2 (16 + a0)), .int x1]) ++ List.replicate (2 - (lg_sl ([.ref (E.2 (16 + a0)), .int x1])).length) Slot.unset).toArray = ls at hl ⊢
  have hl : lv_has ls 2 [(0, .ref (E.2 (16 + a0))), (1, .int x1)] := hl
  unfold w_ST_charAt at hq
  refine lv_aload_n hx hb d_ST_charAt_0 rfl (lv_at hl 0 rfl) ?_
  obtain ⟨hj_, hq⟩ := hq
  refine fs_cVS B hl.1 hP hS (kw_ST_isLatin1 hE hq) (fs_tb_at 752 tw_752 rfl) (fs_text hE a0 hj_).1 (fs_tb_at 753 tw_753 rfl) (fs_tb_at 754 tw_754 rfl) (fs_tb_at 94 tw_94 rfl) (fs_tb_at 755 tw_755 rfl) (by decide) (show (parseMethodDescriptor y_ST_isLatin1.desc).map (fun d => d.parameters.length) = some 0 by decide +kernel) rfl d_ST_charAt_1 (fs_rm (k := 0) (by omega) (by omega) (by omega) (by omega) rfl) (fun v_ h101 H locs hq hP hS => ?_) (fun C_ a_ h_ H locs hq hP hS hX => fs_out (hout _) hlocks hw hP hS hX (Nat.le_of_ble_eq_true rfl) (Nat.le_of_ble_eq_true rfl) hq)
  refine fs_cs (k := 0) (n := 0) rfl rfl ?_
  replace hq := fs_ki_some hq
  obtain ⟨x102, rfl, hq⟩ := hq
  refine W.eq (g2 := F0 m 4 ls (.int x102 :: [])) rfl ?_
  refine lv_if_eq (tgt := 16) hx hb d_ST_charAt_4 (by decide) (fun c_103 => ?_) (fun c_103 => ?_)
  · have hq := fs_wifp c_103 hq
    refine lv_aload_n hx hb d_ST_charAt_16 rfl (lv_at hl 0 rfl) ?_
    obtain ⟨hj_, hq⟩ := hq
    refine fs_xget hx hb (fs_text hE a0 hj_).2.2.1 hw hS hown (hts _ (fs_tb_at 1293 tw_1293 rfl)) d_ST_charAt_17 ?_
    refine lv_iload_n hx hb d_ST_charAt_20 rfl (lv_at hl 1 rfl) ?_
    exact False.elim hq
  · have hq := fs_wifn c_103 hq
    refine lv_aload_n hx hb d_ST_charAt_7 rfl (lv_at hl 0 rfl) ?_
    obtain ⟨hj_, hq⟩ := hq
    refine fs_xget hx hb (fs_text hE a0 hj_).2.2.1 hw hS hown (hts _ (fs_tb_at 1293 tw_1293 rfl)) d_ST_charAt_8 ?_
    refine lv_iload_n hx hb d_ST_charAt_11 rfl (lv_at hl 1 rfl) ?_
    refine fs_cS B hl.1 hP hS (kw_SL_charAt hE hq) (fs_tb_at 756 tw_756 rfl) (fs_tb_at 757 tw_757 rfl) (fs_tb_at 106 tw_106 rfl) (fs_tb_at 758 tw_758 rfl) (by decide) (show (parseMethodDescriptor y_SL_charAt.desc).map (fun d => d.parameters.length) = some 2 by decide +kernel) rfl d_ST_charAt_12 (fs_rm (k := 0) (by omega) (by omega) (by omega) (by omega) rfl) (fun v_ h104 H locs hq hP hS => ?_) (fun C_ a_ h_ H locs hq hP hS hX => fs_out (hout _) hlocks hw hP hS hX (Nat.le_of_ble_eq_true rfl) (Nat.le_of_ble_eq_true rfl) hq)
    refine fs_cs (k := 0) (n := 0) rfl rfl ?_
    replace hq := fs_ki_some hq
    obtain ⟨x105, rfl, hq⟩ := hq
    refine W.eq (g2 := F0 m 15 ls (.int x105 :: [])) rfl ?_
    obtain ⟨hn_, hq⟩ := hq
    exact fs_iret hx hb hr hlocks hw hP hS hn_ (Nat.le_refl _) (Nat.le_refl _) hq d_ST_charAt_15
def w_ST_getBytes (E : fs_E) (h : fs_Hp) (a0 : Nat) (x1 : Nat) (x2 : Int32) (x3 : Int32) (Post : fs_Ps) : Prop := (a0 < 8 ∧ w_ST_coder E h a0 (fs_ki (fun x102 h101 => (if x102 = x3 then (a0 < 8 ∧ (a0 < 8 ∧ (a0 < 8 ∧ (a0 < 8 ∧ ∃ h104 : fs_Hp, fs_cpX (E.1.2 5) h101 (fs_ob a0).length (fun k => (fs_ob a0).getD k 0) 0 x1 (x2 <<< (x3 &&& 31)) (Int32.ofNat (fs_ob a0).length) h104 ∧ Post (.inl none) h104)))) else (a0 < 8 ∧ (a0 < 8 ∧ (a0 < 8 ∧ False))))) (fun C_ h_ => Post (.inr C_) h_)))
set_option maxHeartbeats 4000000 in
set_option maxRecDepth 100000 in
theorem kw_ST_getBytes {l : Launch} {s00 : State} {E : fs_E} (hE : fs_SE l s00 E) {h : fs_Hp} {a0 : Nat} {x1 : Nat} {x2 : Int32} {x3 : Int32} {Post : fs_Ps} (hq : w_ST_getBytes E h a0 x1 x2 x3 Post) : fs_Ct l s00 E.1 y_ST_getBytes (.code y_ST_getBytes b_ST_getBytes 4 none) { frames := 1, cells := 0, slots := 0, locals := 18 } [.ref (E.2 (16 + a0)), .ref x1, .int x2, .int x3] h Post := by
  refine fs_Ct.ofS hE.1 (by decide +kernel) ?_
  intro p e R s m below meth c hRf hRl hRc hRs B hout hP
  skip
  obtain ⟨hx, hb, hr, hml, hown, hts, hlocks, hname, hK, hw, htr⟩ := id B
  have hown : s.vm.findClass "java/lang/String" = some m.cls := hown
  have hS := hw.S
  have hl := lv_entry ([.ref (E.2 (16 + a0)), .ref x1, .int x2, .int x3]) (n := 4) (Nat.le_of_ble_eq_true rfl)
  rw [lg_entry_eq]
  generalize (lg_sl ([.ref (E.2 (16 + a0)), .ref x1, .int x2, .int x3]) ++ List.replicate (4 - (lg_sl ([.ref (E.2 (16 + a0)), .ref x1, .int x2, .int x3])).length) Slot.unset).toArray = ls at hl ⊢
  have hl : lv_has ls 4 [(0, .ref (E.2 (16 + a0))), (1, .ref x1), (2, .int x2), (3, .int x3)] := hl
  unfold w_ST_getBytes at hq
  refine lv_aload_n hx hb d_ST_getBytes_0 rfl (lv_at hl 0 rfl) ?_
  obtain ⟨hj_, hq⟩ := hq
  refine fs_cVS B hl.1 hP hS (kw_ST_coder hE hq) (fs_tb_at 743 tw_743 rfl) (fs_text hE a0 hj_).1 (fs_tb_at 744 tw_744 rfl) (fs_tb_at 745 tw_745 rfl) (fs_tb_at 94 tw_94 rfl) (fs_tb_at 746 tw_746 rfl) (by decide) (show (parseMethodDescriptor y_ST_coder.desc).map (fun d => d.parameters.length) = some 0 by decide +kernel) rfl d_ST_getBytes_1 (fs_rm (k := 0) (by omega) (by omega) (by omega) (by omega) rfl) (fun v_ h101 H locs hq hP hS => ?_) (fun C_ a_ h_ H locs hq hP hS hX => fs_out (hout _) hlocks hw hP hS hX (Nat.le_of_ble_eq_true rfl) (Nat.le_of_ble_eq_true rfl) hq)
  refine fs_cs (k := 0) (n := 0) rfl rfl ?_
  replace hq := fs_ki_some hq
  obtain ⟨x102, rfl, hq⟩ := hq
  refine W.eq (g2 := F0 m 4 ls (.int x102 :: [])) rfl ?_
  refine lv_iload_n hx hb d_ST_getBytes_4 rfl (lv_at hl 3 rfl) ?_
  refine lv_icmp_ne (tgt := 28) hx hb d_ST_getBytes_5 (by decide) (fun c_103 => ?_) (fun c_103 => ?_)
  · have hq := fs_wifn c_103 hq
    refine lv_aload_n hx hb d_ST_getBytes_28 rfl (lv_at hl 0 rfl) ?_
    obtain ⟨hj_, hq⟩ := hq
    refine fs_xget hx hb (fs_text hE a0 hj_).2.2.1 hw hS hown (hts _ (fs_tb_at 1293 tw_1293 rfl)) d_ST_getBytes_29 ?_
    refine lv_iconst (v := 0) hx hb d_ST_getBytes_32 (by decide) ?_
    refine lv_aload_n hx hb d_ST_getBytes_33 rfl (lv_at hl 1 rfl) ?_
    refine lv_iload_n hx hb d_ST_getBytes_34 rfl (lv_at hl 2 rfl) ?_
    refine lv_aload_n hx hb d_ST_getBytes_35 rfl (lv_at hl 0 rfl) ?_
    obtain ⟨hj_, hq⟩ := hq
    refine fs_xget hx hb (fs_text hE a0 hj_).2.2.1 hw hS hown (hts _ (fs_tb_at 1293 tw_1293 rfl)) d_ST_getBytes_36 ?_
    obtain ⟨hj_, hq⟩ := hq
    refine fs_xln hx hb (fs_text hE a0 hj_).2.2.2 hw hS d_ST_getBytes_39 ?_
    exact False.elim hq
  · have hq := fs_wifp c_103 hq
    refine lv_aload_n hx hb d_ST_getBytes_8 rfl (lv_at hl 0 rfl) ?_
    obtain ⟨hj_, hq⟩ := hq
    refine fs_xget hx hb (fs_text hE a0 hj_).2.2.1 hw hS hown (hts _ (fs_tb_at 1293 tw_1293 rfl)) d_ST_getBytes_9 ?_
    refine lv_iconst (v := 0) hx hb d_ST_getBytes_12 (by decide) ?_
    refine lv_aload_n hx hb d_ST_getBytes_13 rfl (lv_at hl 1 rfl) ?_
    refine lv_iload_n hx hb d_ST_getBytes_14 rfl (lv_at hl 2 rfl) ?_
    refine lv_iload_n hx hb d_ST_getBytes_15 rfl (lv_at hl 3 rfl) ?_
    refine lv_ishl hx hb d_ST_getBytes_16 ?_
    refine lv_aload_n hx hb d_ST_getBytes_17 rfl (lv_at hl 0 rfl) ?_
    obtain ⟨hj_, hq⟩ := hq
    refine fs_xget hx hb (fs_text hE a0 hj_).2.2.1 hw hS hown (hts _ (fs_tb_at 1293 tw_1293 rfl)) d_ST_getBytes_18 ?_
    obtain ⟨hj_, hq⟩ := hq
    refine fs_xln hx hb (fs_text hE a0 hj_).2.2.2 hw hS d_ST_getBytes_21 ?_
    obtain ⟨hj_, h104, hc_, hq⟩ := hq
    refine fs_cpx hx hb (by rw [hml]; exact hl.1.symm) hown (hts _ (fs_tb_at 1201 tw_1201 rfl)) (hts _ (fs_tb_at 1147 tw_1147 rfl)) (hts _ (fs_tb_at 1146 tw_1146 rfl)) (hts _ (fs_tb_at 122 tw_122 rfl)) hK hP hS hw (fs_text hE a0 hj_).2.2.2 hc_ (by omega) (k := 0) rfl (by omega) d_ST_getBytes_22 (fun H locs hP hS => ?_)
    refine lv_goto (tgt := 43) hx hb d_ST_getBytes_25 (by decide) ?_
    exact fs_vret hx hb hr hlocks hw hP hS (Nat.le_refl _) (Nat.le_refl _) hq d_ST_getBytes_43
def w_AS_newLength_J21 (E : fs_E) (Post : fs_Ps) (z0 : Int32) (z1 : Int32) (h1 : fs_Hp) : Prop := False
def w_AS_newLength (E : fs_E) (h : fs_Hp) (x1 : Int32) (x2 : Int32) (x3 : Int32) (Post : fs_Ps) : Prop := (if (x1 + (if x2 < x3 then x3 else x2)) ≤ 0 then w_AS_newLength_J21 E Post x1 x2 h else (if 2147483639 < (x1 + (if x2 < x3 then x3 else x2)) then w_AS_newLength_J21 E Post x1 x2 h else Post (.inl (some (.int (x1 + (if x2 < x3 then x3 else x2))))) h))
set_option maxHeartbeats 4000000 in
set_option maxRecDepth 100000 in
theorem kw_AS_newLength {l : Launch} {s00 : State} {E : fs_E} (hE : fs_SE l s00 E) {h : fs_Hp} {x1 : Int32} {x2 : Int32} {x3 : Int32} {Post : fs_Ps} (hq : w_AS_newLength E h x1 x2 x3 Post) : fs_Ct l s00 E.1 y_AS_newLength (.code y_AS_newLength b_AS_newLength 4 (some .int)) { frames := 1, cells := 0, slots := 0, locals := 14 } [.int x1, .int x2, .int x3] h Post := by
  refine fs_Ct.ofS hE.1 (by decide +kernel) ?_
  intro p e R s m below meth c hRf hRl hRc hRs B hout hP
  skip
  obtain ⟨hx, hb, hr, hml, hown, hts, hlocks, hname, hK, hw, htr⟩ := id B
  have hown : s.vm.findClass "jdk/internal/util/ArraysSupport" = some m.cls := hown
  have hS := hw.S
  have hJ21 : ∀ (z0 : Int32) (z1 : Int32) (h1 : fs_Hp) (H : Heap) (locs : List Loc) (ls : Array Slot), w_AS_newLength_J21 E Post z0 z1 h1 → fs_P E.1.1 fs_cl (fs_A s00) h1 H → va_S (fs_A s00) s00.heap H locs → lv_has ls 4 [(0, .int z0), (1, .int z1)] → W p l e R s m ([.int x1, .int x2, .int x3] : List Value).toArray below meth c H locs 0 0 (fx_MQ below (fs_Qc s00 E.1 Post) ([.int x1, .int x2, .int x3] : List Value).toArray s 0 0 (fs_A s00)) (F0 m 21 ls ([])) := by
    intro z0 z1 h1 H locs ls hq hP hS hl
    unfold w_AS_newLength_J21 at hq
    refine lv_iload_n hx hb d_AS_newLength_21 rfl (lv_at hl 0 rfl) ?_
    refine lv_iload_n hx hb d_AS_newLength_22 rfl (lv_at hl 1 rfl) ?_
    exact False.elim hq
  have hl := lv_entry ([.int x1, .int x2, .int x3]) (n := 4) (Nat.le_of_ble_eq_true rfl)
  rw [lg_entry_eq]
  generalize (lg_sl ([.int x1, .int x2, .int x3]) ++ List.replicate (4 - (lg_sl ([.int x1, .int x2, .int x3])).length) Slot.unset).toArray = ls at hl ⊢
  have hl : lv_has ls 4 [(0, .int x1), (1, .int x2), (2, .int x3)] := hl
  unfold w_AS_newLength at hq
  refine lv_iload_n hx hb d_AS_newLength_0 rfl (lv_at hl 0 rfl) ?_
  refine lv_iload_n hx hb d_AS_newLength_1 rfl (lv_at hl 1 rfl) ?_
  refine lv_iload_n hx hb d_AS_newLength_2 rfl (lv_at hl 2 rfl) ?_
  refine va_mmax hx hb (by rw [hml]; exact hl.1.symm) hown (hts _ (fs_tb_at 1128 tw_1128 rfl)) (hts _ (fs_tb_at 314 tw_314 rfl)) (hts _ (fs_tb_at 108 tw_108 rfl)) (hts _ (fs_tb_at 315 tw_315 rfl)) (by omega) (fs_lc (k := 1) rfl (by omega)) (Nat.zero_le _) (Nat.zero_le _) d_AS_newLength_3 ?_
  refine lv_iadd hx hb d_AS_newLength_6 ?_
  refine lv_istore_n (lv' := [(3, .int (x1 + (if x2 < x3 then x3 else x2))), (0, .int x1), (1, .int x2), (2, .int x3)]) hx hb d_AS_newLength_7 rfl hl (by decide) rfl (fun ls hl => ?_)
  refine lv_iconst (v := 0) hx hb d_AS_newLength_8 (by decide) ?_
  refine lv_iload_n hx hb d_AS_newLength_9 rfl (lv_at hl 0 rfl) ?_
  refine lv_icmp_ge (tgt := 21) hx hb d_AS_newLength_10 (by decide) (fun c_101 => ?_) (fun c_101 => ?_)
  · have hq := fs_wifp c_101 hq
    exact hJ21 x1 x2 _ _ _ _ hq hP hS (show lv_has ls 4 [(0, .int x1), (1, .int x2)] from lv_sub hl [1, 2] rfl)
  · have hq := fs_wifn c_101 hq
    refine lv_iload_n hx hb d_AS_newLength_13 rfl (lv_at hl 0 rfl) ?_
    refine lv_ldc (v := 2147483639) hx hb hown (hts _ (fs_tb_at 1129 tw_1129 rfl)) d_AS_newLength_14 ?_
    refine lv_icmp_gt (tgt := 21) hx hb d_AS_newLength_16 (by decide) (fun c_102 => ?_) (fun c_102 => ?_)
    · have hq := fs_wifp c_102 hq
      exact hJ21 x1 x2 _ _ _ _ hq hP hS (show lv_has ls 4 [(0, .int x1), (1, .int x2)] from lv_sub hl [1, 2] rfl)
    · have hq := fs_wifn c_102 hq
      refine lv_iload_n hx hb d_AS_newLength_19 rfl (lv_at hl 0 rfl) ?_
      exact fs_iret hx hb hr hlocks hw hP hS (vp_nar_int _) (Nat.le_refl _) (Nat.le_refl _) hq d_AS_newLength_20
def w_AR_copyOf (mc ms : Nat) (E : fs_E) (h : fs_Hp) (x1 : Nat) (x2 : Int32) (Post : fs_Ps) : Prop := fs_an h x1 (E.1.2 5) (fun n101 => (if x2 = (Int32.ofNat n101) then False else ¬ (x2 : Int32) < 0 ∧ (Int32.toNatClampNeg x2) * 1 ≤ 536870912 ∧ 1 ≤ mc ∧ (Int32.toNatClampNeg x2) ≤ ms ∧ ∀ a103 : Nat, h a103 = none → (fun h104 : fs_Hp => fs_an h104 x1 (E.1.2 5) (fun n105 => (∃ h106 : fs_Hp, fs_cpB (E.1.2 5) h104 x1 0 a103 0 (if x2 < (Int32.ofNat n105) then x2 else (Int32.ofNat n105)) h106 ∧ Post (.inl (some (.ref a103))) h106))) (fs_up h a103 (.inl (E.1.2 5, (Int32.toNatClampNeg x2), .inl (fun _ : Nat => (0 : Int32)))))))
set_option maxHeartbeats 4000000 in
set_option maxRecDepth 100000 in
theorem kw_AR_copyOf {l : Launch} {s00 : State} {E : fs_E} (hE : fs_SE l s00 E) {mc ms : Nat} {h : fs_Hp} {x1 : Nat} {x2 : Int32} {Post : fs_Ps} (hq : w_AR_copyOf mc ms E h x1 x2 Post) : fs_Ct l s00 E.1 y_AR_copyOf (.code y_AR_copyOf b_AR_copyOf 3 (some ((.array .byte)))) { frames := 1, cells := mc, slots := ms, locals := 18 } [.ref x1, .int x2] h Post := by
  refine fs_Ct.ofS hE.1 (by decide +kernel) ?_
  intro p e R s m below meth c hRf hRl hRc hRs B hout hP
  skip
  obtain ⟨hx, hb, hr, hml, hown, hts, hlocks, hname, hK, hw, htr⟩ := id B
  have hown : s.vm.findClass "java/util/Arrays" = some m.cls := hown
  have hS := hw.S
  have hl := lv_entry ([.ref x1, .int x2]) (n := 3) (Nat.le_of_ble_eq_true rfl)
  rw [lg_entry_eq]
  generalize (lg_sl ([.ref x1, .int x2]) ++ List.replicate (3 - (lg_sl ([.ref x1, .int x2])).length) Slot.unset).toArray = ls at hl ⊢
  have hl : lv_has ls 3 [(0, .ref x1), (1, .int x2)] := hl
  unfold w_AR_copyOf at hq
  refine lv_iload_n hx hb d_AR_copyOf_0 rfl (lv_at hl 1 rfl) ?_
  refine lv_aload_n hx hb d_AR_copyOf_1 rfl (lv_at hl 0 rfl) ?_
  obtain ⟨x_, n101, en_, e_, hq⟩ := fs_an_some hq
  refine fs_alen hx hb hK hP 5 e_ rfl rfl d_AR_copyOf_2 ?_
  rw [← en_]
  refine lv_icmp_ne (tgt := 14) hx hb d_AR_copyOf_3 (by decide) (fun c_102 => ?_) (fun c_102 => ?_)
  · have hq := fs_wifn c_102 hq
    refine lv_iload_n hx hb d_AR_copyOf_14 rfl (lv_at hl 1 rfl) ?_
    obtain ⟨hn_, hb_, hc_, hs_, hq⟩ := hq
    refine fs_newa (atype := .byte) (a0 := ((Int32.toNatClampNeg x2), .inl (fun _ : Nat => (0 : Int32)))) hx hb (hts _ (fs_tb_at 243 tw_243 rfl)) rfl (by intro C9 h9; cases h9) hK 5 rfl hP hS (fun _ h9 => h9) (fun _ => rfl) hn_ rfl hb_ (by omega) (by omega) d_AR_copyOf_15 (fun a103 H hn_ hP hS => ?_)
    have hq := hq a103 hn_
    generalize eh_ : fs_up h a103 (.inl (E.1.2 5, (Int32.toNatClampNeg x2), .inl (fun _ : Nat => (0 : Int32)))) = h104 at hP hq
    refine lv_astore_n (lv' := [(2, .ref a103), (0, .ref x1), (1, .int x2)]) hx hb d_AR_copyOf_17 rfl hl (by decide) rfl (fun ls hl => ?_)
    refine lv_aload_n hx hb d_AR_copyOf_18 rfl (lv_at hl 1 rfl) ?_
    refine lv_iconst (v := 0) hx hb d_AR_copyOf_19 (by decide) ?_
    refine lv_aload_n hx hb d_AR_copyOf_20 rfl (lv_at hl 0 rfl) ?_
    refine lv_iconst (v := 0) hx hb d_AR_copyOf_21 (by decide) ?_
    refine lv_aload_n hx hb d_AR_copyOf_22 rfl (lv_at hl 1 rfl) ?_
    obtain ⟨x_, n105, en_, e_, hq⟩ := fs_an_some hq
    refine fs_alen hx hb hK hP 5 e_ rfl rfl d_AR_copyOf_23 ?_
    rw [← en_]
    refine lv_iload_n hx hb d_AR_copyOf_24 rfl (lv_at hl 2 rfl) ?_
    refine va_mmin hx hb (by rw [hml]; exact hl.1.symm) hown (hts _ (fs_tb_at 1144 tw_1144 rfl)) (hts _ (fs_tb_at 307 tw_307 rfl)) (hts _ (fs_tb_at 108 tw_108 rfl)) (hts _ (fs_tb_at 308 tw_308 rfl)) (by omega) (fs_lc (k := 4) rfl (by omega)) (Nat.le_trans (by omega) hRc) (Nat.le_trans (by omega) hRs) d_AR_copyOf_25 ?_
    obtain ⟨h106, hc_, hq⟩ := hq
    refine fs_cpb hx hb (by rw [hml]; exact hl.1.symm) hown (hts _ (fs_tb_at 1145 tw_1145 rfl)) (hts _ (fs_tb_at 1147 tw_1147 rfl)) (hts _ (fs_tb_at 1146 tw_1146 rfl)) (hts _ (fs_tb_at 122 tw_122 rfl)) hK hP hS hc_ (by omega) (k := 0) rfl (by omega) d_AR_copyOf_28 (fun H locs hP hS => ?_)
    refine lv_aload_n hx hb d_AR_copyOf_31 rfl (lv_at hl 0 rfl) ?_
    exact fs_aret hx hb hr (Or.inr ⟨_, rfl⟩) (Or.inr ⟨_, rfl⟩) hlocks hw hP hS (by omega) (by omega) hq d_AR_copyOf_32
  · have hq := fs_wifp c_102 hq
    refine lv_aload_n hx hb d_AR_copyOf_6 rfl (lv_at hl 0 rfl) ?_
    exact False.elim hq
def w_AB_isLatin1 (E : fs_E) (h : fs_Hp) (a0 : Nat) (Post : fs_Ps) : Prop := fs_gi h a0 11 1 (fun x102 => (if x102 = 0 then Post (.inl (some (.int 1))) h else Post (.inl (some (.int 0))) h))
set_option maxHeartbeats 4000000 in
set_option maxRecDepth 100000 in
theorem kw_AB_isLatin1 {l : Launch} {s00 : State} {E : fs_E} (hE : fs_SE l s00 E) {h : fs_Hp} {a0 : Nat} {Post : fs_Ps} (hq : w_AB_isLatin1 E h a0 Post) : fs_Ct l s00 E.1 y_AB_isLatin1 (.code y_AB_isLatin1 b_AB_isLatin1 1 (some .boolean)) { frames := 0, cells := 0, slots := 0, locals := 0 } [.ref a0] h Post := by
  refine fs_Ct.ofS hE.1 (by decide +kernel) ?_
  intro p e R s m below meth c hRf hRl hRc hRs B hout hP
  skip
  obtain ⟨hx, hb, hr, hml, hown, hts, hlocks, hname, hK, hw, htr⟩ := id B
  have hown : s.vm.findClass "java/lang/AbstractStringBuilder" = some m.cls := hown
  have hS := hw.S
  have hl := lv_entry ([.ref a0]) (n := 1) (Nat.le_of_ble_eq_true rfl)
  rw [lg_entry_eq]
  generalize (lg_sl ([.ref a0]) ++ List.replicate (1 - (lg_sl ([.ref a0])).length) Slot.unset).toArray = ls at hl ⊢
  have hl : lv_has ls 1 [(0, .ref a0)] := hl
  unfold w_AB_isLatin1 at hq
  refine fs_gets hx hb (fs_zi hE (i := 2) na_2 (List.mem_of_getElem? tw_221) (List.mem_of_getElem? tw_94)) hw hS hown (hts _ (fs_tb_at 220 tw_220 rfl)) d_AB_isLatin1_0 ?_
  refine lv_if_eq (tgt := 17) hx hb d_AB_isLatin1_3 (by decide) (fun c_101 => ?_) (fun c_101 => ?_)
  · exact absurd c_101 (by decide)
  · refine lv_aload_n hx hb d_AB_isLatin1_6 rfl (lv_at hl 0 rfl) ?_
    obtain ⟨fs_, x102, he_, hv_, hq⟩ := fs_gi_some hq
    refine fs_get hx hb hts hown hK c_SB hP he_ 1 (by decide) (hts _ (fs_tb_at 230 tw_230 rfl)) (fun _ h9 => h9) hv_ d_AB_isLatin1_7 ?_
    refine lv_if_ne (tgt := 17) hx hb d_AB_isLatin1_10 (by decide) (fun c_103 => ?_) (fun c_103 => ?_)
    · have hq := fs_wifn c_103 hq
      refine lv_iconst (v := 0) hx hb d_AB_isLatin1_17 (by decide) ?_
      exact fs_iret hx hb hr hlocks hw hP hS (by decide) (Nat.le_refl _) (Nat.le_refl _) hq d_AB_isLatin1_18
    · have hq := fs_wifp c_103 hq
      refine lv_iconst (v := 1) hx hb d_AB_isLatin1_13 (by decide) ?_
      refine lv_goto (tgt := 18) hx hb d_AB_isLatin1_14 (by decide) ?_
      exact fs_iret hx hb hr hlocks hw hP hS (by decide) (Nat.le_refl _) (Nat.le_refl _) hq d_AB_isLatin1_18
def w_AB_newCapacity (E : fs_E) (h : fs_Hp) (a0 : Nat) (x1 : Int32) (Post : fs_Ps) : Prop := fs_gr h a0 11 0 (fun a101 => fs_an h a101 (E.1.2 5) (fun n102 => fs_gi h a0 11 1 (fun x103 => fs_gi h a0 11 1 (fun x104 => w_AS_newLength E h (Int32.ofNat n102) ((x1 <<< (x103 &&& 31)) - (Int32.ofNat n102)) ((Int32.ofNat n102) + (2 <<< (x104 &&& 31))) (fs_ki (fun x106 h105 => (if x106 = 2147483647 then False else fs_gi h105 a0 11 1 (fun x108 => Post (.inl (some (.int (x106 >>> (x108 &&& 31))))) h105))) (fun C_ h_ => Post (.inr C_) h_))))))
set_option maxHeartbeats 4000000 in
set_option maxRecDepth 100000 in
theorem kw_AB_newCapacity {l : Launch} {s00 : State} {E : fs_E} (hE : fs_SE l s00 E) {h : fs_Hp} {a0 : Nat} {x1 : Int32} {Post : fs_Ps} (hq : w_AB_newCapacity E h a0 x1 Post) : fs_Ct l s00 E.1 y_AB_newCapacity (.code y_AB_newCapacity b_AB_newCapacity 6 (some .int)) { frames := 2, cells := 0, slots := 0, locals := 29 } [.ref a0, .int x1] h Post := by
  refine fs_Ct.ofS hE.1 (by decide +kernel) ?_
  intro p e R s m below meth c hRf hRl hRc hRs B hout hP
  skip
  obtain ⟨hx, hb, hr, hml, hown, hts, hlocks, hname, hK, hw, htr⟩ := id B
  have hown : s.vm.findClass "java/lang/AbstractStringBuilder" = some m.cls := hown
  have hS := hw.S
  have hl := lv_entry ([.ref a0, .int x1]) (n := 6) (Nat.le_of_ble_eq_true rfl)
  rw [lg_entry_eq]
  generalize (lg_sl ([.ref a0, .int x1]) ++ List.replicate (6 - (lg_sl ([.ref a0, .int x1])).length) Slot.unset).toArray = ls at hl ⊢
  have hl : lv_has ls 6 [(0, .ref a0), (1, .int x1)] := hl
  unfold w_AB_newCapacity at hq
  refine lv_aload_n hx hb d_AB_newCapacity_0 rfl (lv_at hl 0 rfl) ?_
  obtain ⟨fs_, a101, he_, hv_, hq⟩ := fs_gr_some hq
  refine fs_get hx hb hts hown hK c_SB hP he_ 0 (by decide) (hts _ (fs_tb_at 229 tw_229 rfl)) (fun _ h9 => h9) hv_ d_AB_newCapacity_1 ?_
  obtain ⟨x_, n102, en_, e_, hq⟩ := fs_an_some hq
  refine fs_alen hx hb hK hP 5 e_ rfl rfl d_AB_newCapacity_4 ?_
  rw [← en_]
  refine lv_istore_n (lv' := [(2, .int (Int32.ofNat n102)), (0, .ref a0), (1, .int x1)]) hx hb d_AB_newCapacity_5 rfl hl (by decide) rfl (fun ls hl => ?_)
  refine lv_iload_n hx hb d_AB_newCapacity_6 rfl (lv_at hl 2 rfl) ?_
  refine lv_aload_n hx hb d_AB_newCapacity_7 rfl (lv_at hl 1 rfl) ?_
  obtain ⟨fs_, x103, he_, hv_, hq⟩ := fs_gi_some hq
  refine fs_get hx hb hts hown hK c_SB hP he_ 1 (by decide) (hts _ (fs_tb_at 230 tw_230 rfl)) (fun _ h9 => h9) hv_ d_AB_newCapacity_8 ?_
  refine lv_ishl hx hb d_AB_newCapacity_11 ?_
  refine lv_istore_n (lv' := [(3, .int (x1 <<< (x103 &&& 31))), (2, .int (Int32.ofNat n102)), (0, .ref a0), (1, .int x1)]) hx hb d_AB_newCapacity_12 rfl hl (by decide) rfl (fun ls hl => ?_)
  refine lv_iload_n hx hb d_AB_newCapacity_13 rfl (lv_at hl 0 rfl) ?_
  refine lv_iload_n hx hb d_AB_newCapacity_14 rfl (lv_at hl 1 rfl) ?_
  refine lv_isub hx hb d_AB_newCapacity_15 ?_
  refine lv_istore (lv' := [(4, .int ((x1 <<< (x103 &&& 31)) - (Int32.ofNat n102))), (3, .int (x1 <<< (x103 &&& 31))), (2, .int (Int32.ofNat n102)), (0, .ref a0), (1, .int x1)]) hx hb d_AB_newCapacity_16 hl (by decide) rfl (fun ls hl => ?_)
  refine lv_iload_n hx hb d_AB_newCapacity_18 rfl (lv_at hl 2 rfl) ?_
  refine lv_iload hx hb d_AB_newCapacity_19 (lv_at hl 0 rfl) ?_
  refine lv_iload_n hx hb d_AB_newCapacity_21 rfl (lv_at hl 2 rfl) ?_
  refine lv_iconst (v := 2) hx hb d_AB_newCapacity_22 (by decide) ?_
  refine lv_aload_n hx hb d_AB_newCapacity_23 rfl (lv_at hl 3 rfl) ?_
  obtain ⟨fs_, x104, he_, hv_, hq⟩ := fs_gi_some hq
  refine fs_get hx hb hts hown hK c_SB hP he_ 1 (by decide) (hts _ (fs_tb_at 230 tw_230 rfl)) (fun _ h9 => h9) hv_ d_AB_newCapacity_24 ?_
  refine lv_ishl hx hb d_AB_newCapacity_27 ?_
  refine lv_iadd hx hb d_AB_newCapacity_28 ?_
  refine fs_cS B hl.1 hP hS (kw_AS_newLength hE hq) (fs_tb_at 1125 tw_1125 rfl) (fs_tb_at 1126 tw_1126 rfl) (fs_tb_at 120 tw_120 rfl) (fs_tb_at 1127 tw_1127 rfl) (by decide) (show (parseMethodDescriptor y_AS_newLength.desc).map (fun d => d.parameters.length) = some 3 by decide +kernel) rfl d_AB_newCapacity_29 (fs_rm (k := 0) (by omega) (by omega) (by omega) (by omega) rfl) (fun v_ h105 H locs hq hP hS => ?_) (fun C_ a_ h_ H locs hq hP hS hX => fs_out (hout _) hlocks hw hP hS hX (Nat.le_of_ble_eq_true rfl) (Nat.le_of_ble_eq_true rfl) hq)
  refine fs_cs (k := 0) (n := 0) rfl rfl ?_
  replace hq := fs_ki_some hq
  obtain ⟨x106, rfl, hq⟩ := hq
  refine W.eq (g2 := F0 m 32 ls (.int x106 :: [])) rfl ?_
  refine lv_istore (lv' := [(5, .int x106), (4, .int ((x1 <<< (x103 &&& 31)) - (Int32.ofNat n102))), (3, .int (x1 <<< (x103 &&& 31))), (2, .int (Int32.ofNat n102)), (0, .ref a0), (1, .int x1)]) hx hb d_AB_newCapacity_32 hl (by decide) rfl (fun ls hl => ?_)
  refine lv_iload hx hb d_AB_newCapacity_34 (lv_at hl 0 rfl) ?_
  refine lv_ldc (v := 2147483647) hx hb hown (hts _ (fs_tb_at 1133 tw_1133 rfl)) d_AB_newCapacity_36 ?_
  refine lv_icmp_ne (tgt := 51) hx hb d_AB_newCapacity_38 (by decide) (fun c_107 => ?_) (fun c_107 => ?_)
  · have hq := fs_wifn c_107 hq
    refine lv_iload hx hb d_AB_newCapacity_51 (lv_at hl 0 rfl) ?_
    refine lv_aload_n hx hb d_AB_newCapacity_53 rfl (lv_at hl 4 rfl) ?_
    obtain ⟨fs_, x108, he_, hv_, hq⟩ := fs_gi_some hq
    refine fs_get hx hb hts hown hK c_SB hP he_ 1 (by decide) (hts _ (fs_tb_at 230 tw_230 rfl)) (fun _ h9 => h9) hv_ d_AB_newCapacity_54 ?_
    refine lv_ishr hx hb d_AB_newCapacity_57 ?_
    exact fs_iret hx hb hr hlocks hw hP hS (vp_nar_int _) (Nat.le_refl _) (Nat.le_refl _) hq d_AB_newCapacity_58
  · have hq := fs_wifp c_107 hq
    exact False.elim hq
def w_AB_ensureCapacityInternal (mc ms : Nat) (E : fs_E) (h : fs_Hp) (a0 : Nat) (x1 : Int32) (Post : fs_Ps) : Prop := fs_gr h a0 11 0 (fun a101 => fs_an h a101 (E.1.2 5) (fun n102 => fs_gi h a0 11 1 (fun x103 => (if (x1 - ((Int32.ofNat n102) >>> (x103 &&& 31))) ≤ 0 then Post (.inl none) h else fs_gr h a0 11 0 (fun a105 => fs_isc h a0 11 ∧ (w_AB_newCapacity E h a0 x1 (fs_ki (fun x107 h106 => fs_gi h106 a0 11 1 (fun x108 => ∃ c109 s110 : Nat, c109 ≤ mc ∧ s110 ≤ ms ∧ (w_AR_copyOf c109 s110 E h106 a105 (x107 <<< (x108 &&& 31)) (fs_kr (fun a112 h111 => fs_pw h111 a0 11 0 (.ref a112) (fun h113 => Post (.inl none) h113)) (fun C_ h_ => Post (.inr C_) h_))))) (fun C_ h_ => Post (.inr C_) h_))))))))
set_option maxHeartbeats 4000000 in
set_option maxRecDepth 100000 in
theorem kw_AB_ensureCapacityInternal {l : Launch} {s00 : State} {E : fs_E} (hE : fs_SE l s00 E) {mc ms : Nat} {h : fs_Hp} {a0 : Nat} {x1 : Int32} {Post : fs_Ps} (hq : w_AB_ensureCapacityInternal mc ms E h a0 x1 Post) : fs_Ct l s00 E.1 y_AB_ensureCapacityInternal (.code y_AB_ensureCapacityInternal b_AB_ensureCapacityInternal 3 none) { frames := 3, cells := mc, slots := ms, locals := 48 } [.ref a0, .int x1] h Post := by
  refine fs_Ct.ofS hE.1 (by decide +kernel) ?_
  intro p e R s m below meth c hRf hRl hRc hRs B hout hP
  skip
  obtain ⟨hx, hb, hr, hml, hown, hts, hlocks, hname, hK, hw, htr⟩ := id B
  have hown : s.vm.findClass "java/lang/AbstractStringBuilder" = some m.cls := hown
  have hS := hw.S
  have hl := lv_entry ([.ref a0, .int x1]) (n := 3) (Nat.le_of_ble_eq_true rfl)
  rw [lg_entry_eq]
  generalize (lg_sl ([.ref a0, .int x1]) ++ List.replicate (3 - (lg_sl ([.ref a0, .int x1])).length) Slot.unset).toArray = ls at hl ⊢
  have hl : lv_has ls 3 [(0, .ref a0), (1, .int x1)] := hl
  unfold w_AB_ensureCapacityInternal at hq
  refine lv_aload_n hx hb d_AB_ensureCapacityInternal_0 rfl (lv_at hl 0 rfl) ?_
  obtain ⟨fs_, a101, he_, hv_, hq⟩ := fs_gr_some hq
  refine fs_get hx hb hts hown hK c_SB hP he_ 0 (by decide) (hts _ (fs_tb_at 229 tw_229 rfl)) (fun _ h9 => h9) hv_ d_AB_ensureCapacityInternal_1 ?_
  obtain ⟨x_, n102, en_, e_, hq⟩ := fs_an_some hq
  refine fs_alen hx hb hK hP 5 e_ rfl rfl d_AB_ensureCapacityInternal_4 ?_
  rw [← en_]
  refine lv_aload_n hx hb d_AB_ensureCapacityInternal_5 rfl (lv_at hl 0 rfl) ?_
  obtain ⟨fs_, x103, he_, hv_, hq⟩ := fs_gi_some hq
  refine fs_get hx hb hts hown hK c_SB hP he_ 1 (by decide) (hts _ (fs_tb_at 230 tw_230 rfl)) (fun _ h9 => h9) hv_ d_AB_ensureCapacityInternal_6 ?_
  refine lv_ishr hx hb d_AB_ensureCapacityInternal_9 ?_
  refine lv_istore_n (lv' := [(2, .int ((Int32.ofNat n102) >>> (x103 &&& 31))), (0, .ref a0), (1, .int x1)]) hx hb d_AB_ensureCapacityInternal_10 rfl hl (by decide) rfl (fun ls hl => ?_)
  refine lv_iload_n hx hb d_AB_ensureCapacityInternal_11 rfl (lv_at hl 2 rfl) ?_
  refine lv_iload_n hx hb d_AB_ensureCapacityInternal_12 rfl (lv_at hl 0 rfl) ?_
  refine lv_isub hx hb d_AB_ensureCapacityInternal_13 ?_
  refine lv_if_le (tgt := 38) hx hb d_AB_ensureCapacityInternal_14 (by decide) (fun c_104 => ?_) (fun c_104 => ?_)
  · have hq := fs_wifp c_104 hq
    exact fs_vret hx hb hr hlocks hw hP hS (by omega) (by omega) hq d_AB_ensureCapacityInternal_38
  · have hq := fs_wifn c_104 hq
    refine lv_aload_n hx hb d_AB_ensureCapacityInternal_17 rfl (lv_at hl 1 rfl) ?_
    refine lv_aload_n hx hb d_AB_ensureCapacityInternal_18 rfl (lv_at hl 1 rfl) ?_
    obtain ⟨fs_, a105, he_, hv_, hq⟩ := fs_gr_some hq
    refine fs_get hx hb hts hown hK c_SB hP he_ 0 (by decide) (hts _ (fs_tb_at 229 tw_229 rfl)) (fun _ h9 => h9) hv_ d_AB_ensureCapacityInternal_19 ?_
    refine lv_aload_n hx hb d_AB_ensureCapacityInternal_22 rfl (lv_at hl 1 rfl) ?_
    refine lv_iload_n hx hb d_AB_ensureCapacityInternal_23 rfl (lv_at hl 2 rfl) ?_
    obtain ⟨hi_, hq⟩ := hq
    obtain ⟨fs_, he_⟩ := fs_isc_some hi_
    refine fs_cVP B hl.1 hP hS (kw_AB_newCapacity hE hq) (fs_tb_at 1121 tw_1121 rfl) he_ rfl (fs_tb_at 1866 tw_1866 rfl) (fs_prv hE hw (List.mem_of_getElem? tw_1122)) (fs_tb_at 1123 tw_1123 rfl) (fs_tb_at 92 tw_92 rfl) (fs_tb_at 1124 tw_1124 rfl) (by decide) (show (parseMethodDescriptor y_AB_newCapacity.desc).map (fun d => d.parameters.length) = some 1 by decide +kernel) rfl d_AB_ensureCapacityInternal_24 (fs_rm (k := 2) (by omega) (by omega) (by omega) (by omega) rfl) (fun v_ h106 H locs hq hP hS => ?_) (fun C_ a_ h_ H locs hq hP hS hX => fs_out (hout _) hlocks hw hP hS hX (show 0 ≤ mc by omega) (show 0 ≤ ms by omega) hq)
    refine fs_cs (k := 0) (n := 0) rfl rfl ?_
    replace hq := fs_ki_some hq
    obtain ⟨x107, rfl, hq⟩ := hq
    refine W.eq (g2 := F0 m 27 ls (.int x107 :: .ref a105 :: .ref a0 :: [])) rfl ?_
    refine lv_aload_n hx hb d_AB_ensureCapacityInternal_27 rfl (lv_at hl 1 rfl) ?_
    obtain ⟨fs_, x108, he_, hv_, hq⟩ := fs_gi_some hq
    refine fs_get hx hb hts hown hK c_SB hP he_ 1 (by decide) (hts _ (fs_tb_at 230 tw_230 rfl)) (fun _ h9 => h9) hv_ d_AB_ensureCapacityInternal_28 ?_
    refine lv_ishl hx hb d_AB_ensureCapacityInternal_31 ?_
    obtain ⟨c109, s110, hc_, hs_, hq⟩ := hq
    refine fs_cS B hl.1 hP hS (kw_AR_copyOf hE hq) (fs_tb_at 1134 tw_1134 rfl) (fs_tb_at 1135 tw_1135 rfl) (fs_tb_at 121 tw_121 rfl) (fs_tb_at 1136 tw_1136 rfl) (by decide) (show (parseMethodDescriptor y_AR_copyOf.desc).map (fun d => d.parameters.length) = some 2 by decide +kernel) rfl d_AB_ensureCapacityInternal_32 (fs_rm (k := 1) (by omega) (by omega) (by omega) (by omega) rfl) (fun v_ h111 H locs hq hP hS => ?_) (fun C_ a_ h_ H locs hq hP hS hX => fs_out (hout _) hlocks hw hP hS hX (show (0 + c109) ≤ mc by omega) (show (0 + s110) ≤ ms by omega) hq)
    refine fs_cs (k := (0 + c109)) (n := (0 + s110)) rfl rfl ?_
    replace hq := fs_kr_some hq
    obtain ⟨a112, rfl, hq⟩ := hq
    refine W.eq (g2 := F0 m 35 ls (.ref a112 :: .ref a0 :: [])) rfl ?_
    obtain ⟨fs_, h113, e_, hl_, eh_, hq⟩ := fs_pw_some hq
    refine fs_put hx hb hts hown hK c_SB hP hS e_ 0 (by decide) (hts _ (fs_tb_at 229 tw_229 rfl)) (fun _ h9 => h9) rfl rfl rfl hl_ d_AB_ensureCapacityInternal_35 (fun H locs hP hS => ?_)
    rw [← eh_] at hP
    exact fs_vret hx hb hr hlocks hw hP hS (by omega) (by omega) hq d_AB_ensureCapacityInternal_38
def w_SL_canEncode (E : fs_E) (h : fs_Hp) (x1 : Int32) (Post : fs_Ps) : Prop := (if 255 < x1 then Post (.inl (some (.int 0))) h else Post (.inl (some (.int 1))) h)
set_option maxHeartbeats 4000000 in
set_option maxRecDepth 100000 in
theorem kw_SL_canEncode {l : Launch} {s00 : State} {E : fs_E} (hE : fs_SE l s00 E) {h : fs_Hp} {x1 : Int32} {Post : fs_Ps} (hq : w_SL_canEncode E h x1 Post) : fs_Ct l s00 E.1 y_SL_canEncode (.code y_SL_canEncode b_SL_canEncode 1 (some .boolean)) { frames := 0, cells := 0, slots := 0, locals := 0 } [.int x1] h Post := by
  refine fs_Ct.ofS hE.1 (by decide +kernel) ?_
  intro p e R s m below meth c hRf hRl hRc hRs B hout hP
  skip
  obtain ⟨hx, hb, hr, hml, hown, hts, hlocks, hname, hK, hw, htr⟩ := id B
  have hown : s.vm.findClass "java/lang/StringLatin1" = some m.cls := hown
  have hS := hw.S
  have hl := lv_entry ([.int x1]) (n := 1) (Nat.le_of_ble_eq_true rfl)
  rw [lg_entry_eq]
  generalize (lg_sl ([.int x1]) ++ List.replicate (1 - (lg_sl ([.int x1])).length) Slot.unset).toArray = ls at hl ⊢
  have hl : lv_has ls 1 [(0, .int x1)] := hl
  unfold w_SL_canEncode at hq
  refine lv_iload_n hx hb d_SL_canEncode_0 rfl (lv_at hl 0 rfl) ?_
  refine lv_sipush (v := 255) hx hb d_SL_canEncode_1 (by decide) ?_
  refine lv_icmp_gt (tgt := 11) hx hb d_SL_canEncode_4 (by decide) (fun c_101 => ?_) (fun c_101 => ?_)
  · have hq := fs_wifp c_101 hq
    refine lv_iconst (v := 0) hx hb d_SL_canEncode_11 (by decide) ?_
    exact fs_iret hx hb hr hlocks hw hP hS (by decide) (Nat.le_refl _) (Nat.le_refl _) hq d_SL_canEncode_12
  · have hq := fs_wifn c_101 hq
    refine lv_iconst (v := 1) hx hb d_SL_canEncode_7 (by decide) ?_
    refine lv_goto (tgt := 12) hx hb d_SL_canEncode_8 (by decide) ?_
    exact fs_iret hx hb hr hlocks hw hP hS (by decide) (Nat.le_refl _) (Nat.le_refl _) hq d_SL_canEncode_12
def w_AB_init (mc ms : Nat) (E : fs_E) (h : fs_Hp) (a0 : Nat) (x1 : Int32) (Post : fs_Ps) : Prop := ¬ (x1 : Int32) < 0 ∧ (Int32.toNatClampNeg x1) * 1 ≤ 536870912 ∧ 1 ≤ mc ∧ (Int32.toNatClampNeg x1) ≤ ms ∧ ∀ a102 : Nat, h a102 = none → (fun h103 : fs_Hp => fs_pw h103 a0 11 0 (.ref a102) (fun h104 => fs_pw h104 a0 11 1 (.int 0) (fun h105 => Post (.inl none) h105))) (fs_up h a102 (.inl (E.1.2 5, (Int32.toNatClampNeg x1), .inl (fun _ : Nat => (0 : Int32)))))
set_option maxHeartbeats 4000000 in
set_option maxRecDepth 100000 in
theorem kw_AB_init {l : Launch} {s00 : State} {E : fs_E} (hE : fs_SE l s00 E) {mc ms : Nat} {h : fs_Hp} {a0 : Nat} {x1 : Int32} {Post : fs_Ps} (hq : w_AB_init mc ms E h a0 x1 Post) : fs_Ct l s00 E.1 y_AB_init (.code y_AB_init b_AB_init 2 none) { frames := 1, cells := mc, slots := ms, locals := 20 } [.ref a0, .int x1] h Post := by
  refine fs_Ct.ofS hE.1 (by decide +kernel) ?_
  intro p e R s m below meth c hRf hRl hRc hRs B hout hP
  skip
  obtain ⟨hx, hb, hr, hml, hown, hts, hlocks, hname, hK, hw, htr⟩ := id B
  have hown : s.vm.findClass "java/lang/AbstractStringBuilder" = some m.cls := hown
  have hS := hw.S
  have hl := lv_entry ([.ref a0, .int x1]) (n := 2) (Nat.le_of_ble_eq_true rfl)
  rw [lg_entry_eq]
  generalize (lg_sl ([.ref a0, .int x1]) ++ List.replicate (2 - (lg_sl ([.ref a0, .int x1])).length) Slot.unset).toArray = ls at hl ⊢
  have hl : lv_has ls 2 [(0, .ref a0), (1, .int x1)] := hl
  unfold w_AB_init at hq
  refine lv_aload_n hx hb d_AB_init_0 rfl (lv_at hl 0 rfl) ?_
  refine W.objInit hx hb hown (hts _ (fs_tb_at 219 tw_219 rfl)) (hts _ (fs_tb_at 131 tw_131 rfl)) (hts _ (fs_tb_at 132 tw_132 rfl)) rfl (by rw [hml]; exact hl.1) rfl d_AB_init_1 (Nat.le_trans (Nat.le_of_ble_eq_true rfl) hRf) (Nat.le_trans (Nat.le_of_ble_eq_true rfl) hRl) ?_
  refine W.eq (g2 := F0 m 4 ls ([])) rfl ?_
  refine fs_gets hx hb (fs_zi hE (i := 2) na_2 (List.mem_of_getElem? tw_221) (List.mem_of_getElem? tw_94)) hw hS hown (hts _ (fs_tb_at 220 tw_220 rfl)) d_AB_init_4 ?_
  refine lv_if_eq (tgt := 25) hx hb d_AB_init_7 (by decide) (fun c_101 => ?_) (fun c_101 => ?_)
  · exact absurd c_101 (by decide)
  · refine lv_aload_n hx hb d_AB_init_10 rfl (lv_at hl 0 rfl) ?_
    refine lv_iload_n hx hb d_AB_init_11 rfl (lv_at hl 1 rfl) ?_
    obtain ⟨hn_, hb_, hc_, hs_, hq⟩ := hq
    refine fs_newa (atype := .byte) (a0 := ((Int32.toNatClampNeg x1), .inl (fun _ : Nat => (0 : Int32)))) hx hb (hts _ (fs_tb_at 243 tw_243 rfl)) rfl (by intro C9 h9; cases h9) hK 5 rfl hP hS (fun _ h9 => h9) (fun _ => rfl) hn_ rfl hb_ (by omega) (by omega) d_AB_init_12 (fun a102 H hn_ hP hS => ?_)
    have hq := hq a102 hn_
    generalize eh_ : fs_up h a102 (.inl (E.1.2 5, (Int32.toNatClampNeg x1), .inl (fun _ : Nat => (0 : Int32)))) = h103 at hP hq
    obtain ⟨fs_, h104, e_, hl_, eh_, hq⟩ := fs_pw_some hq
    refine fs_put hx hb hts hown hK c_SB hP hS e_ 0 (by decide) (hts _ (fs_tb_at 229 tw_229 rfl)) (fun _ h9 => h9) rfl rfl rfl hl_ d_AB_init_14 (fun H locs hP hS => ?_)
    rw [← eh_] at hP
    refine lv_aload_n hx hb d_AB_init_17 rfl (lv_at hl 0 rfl) ?_
    refine lv_iconst (v := 0) hx hb d_AB_init_18 (by decide) ?_
    obtain ⟨fs_, h105, e_, hl_, eh_, hq⟩ := fs_pw_some hq
    refine fs_put hx hb hts hown hK c_SB hP hS e_ 1 (by decide) (hts _ (fs_tb_at 230 tw_230 rfl)) (fun _ h9 => h9) rfl (by decide) (by decide) hl_ d_AB_init_19 (fun H locs hP hS => ?_)
    rw [← eh_] at hP
    refine lv_goto (tgt := 38) hx hb d_AB_init_22 (by decide) ?_
    exact fs_vret hx hb hr hlocks hw hP hS (by omega) (by omega) hq d_AB_init_38
def w_SB_init (mc ms : Nat) (E : fs_E) (h : fs_Hp) (a0 : Nat) (Post : fs_Ps) : Prop := ∃ c101 s102 : Nat, c101 ≤ mc ∧ s102 ≤ ms ∧ (w_AB_init c101 s102 E h a0 16 (fs_kv (fun h103 => Post (.inl none) h103) (fun C_ h_ => Post (.inr C_) h_)))
set_option maxHeartbeats 4000000 in
set_option maxRecDepth 100000 in
theorem kw_SB_init {l : Launch} {s00 : State} {E : fs_E} (hE : fs_SE l s00 E) {mc ms : Nat} {h : fs_Hp} {a0 : Nat} {Post : fs_Ps} (hq : w_SB_init mc ms E h a0 Post) : fs_Ct l s00 E.1 y_SB_init (.code y_SB_init b_SB_init 1 none) { frames := 2, cells := mc, slots := ms, locals := 33 } [.ref a0] h Post := by
  refine fs_Ct.ofS hE.1 (by decide +kernel) ?_
  intro p e R s m below meth c hRf hRl hRc hRs B hout hP
  skip
  obtain ⟨hx, hb, hr, hml, hown, hts, hlocks, hname, hK, hw, htr⟩ := id B
  have hown : s.vm.findClass "java/lang/StringBuilder" = some m.cls := hown
  have hS := hw.S
  have hl := lv_entry ([.ref a0]) (n := 1) (Nat.le_of_ble_eq_true rfl)
  rw [lg_entry_eq]
  generalize (lg_sl ([.ref a0]) ++ List.replicate (1 - (lg_sl ([.ref a0])).length) Slot.unset).toArray = ls at hl ⊢
  have hl : lv_has ls 1 [(0, .ref a0)] := hl
  unfold w_SB_init at hq
  refine lv_aload_n hx hb d_SB_init_0 rfl (lv_at hl 0 rfl) ?_
  refine lv_bipush (v := 16) hx hb d_SB_init_1 (by decide) ?_
  obtain ⟨c101, s102, hc_, hs_, hq⟩ := hq
  refine fs_cI B hl.1 hP hS (kw_AB_init hE hq) (fs_tb_at 216 tw_216 rfl) (fs_tb_at 217 tw_217 rfl) rfl (fs_tb_at 92 tw_92 rfl) (fs_tb_at 218 tw_218 rfl) (by decide) (show (parseMethodDescriptor y_AB_init.desc).map (fun d => d.parameters.length) = some 1 by decide +kernel) rfl d_SB_init_3 (fs_rm (k := 0) (by omega) (by omega) (by omega) (by omega) rfl) (fun v_ h103 H locs hq hP hS => ?_) (fun C_ a_ h_ H locs hq hP hS hX => fs_out (hout _) hlocks hw hP hS hX (show (0 + c101) ≤ mc by omega) (show (0 + s102) ≤ ms by omega) hq)
  refine fs_cs (k := (0 + c101)) (n := (0 + s102)) rfl rfl ?_
  replace hq := fs_kv_some hq
  obtain ⟨rfl, hq⟩ := hq
  refine W.eq (g2 := F0 m 6 ls ([])) rfl ?_
  exact fs_vret hx hb hr hlocks hw hP hS (by omega) (by omega) hq d_SB_init_6
def w_AB_setLength (mc ms : Nat) (E : fs_E) (h : fs_Hp) (a0 : Nat) (x1 : Int32) (Post : fs_Ps) : Prop := (if 0 ≤ x1 then ∃ c102 s103 : Nat, c102 ≤ mc ∧ s103 ≤ ms ∧ (fs_isc h a0 11 ∧ (w_AB_ensureCapacityInternal c102 s103 E h a0 x1 (fs_kv (fun h104 => fs_gi h104 a0 11 3 (fun x105 => (if x1 ≤ x105 then fs_gi h104 a0 11 3 (fun x107 => (if x107 ≤ x1 then fs_pw h104 a0 11 3 (.int x1) (fun h109 => Post (.inl none) h109) else fs_pw h104 a0 11 2 (.int 1) (fun h110 => fs_pw h110 a0 11 3 (.int x1) (fun h111 => Post (.inl none) h111)))) else fs_isc h104 a0 11 ∧ (w_AB_isLatin1 E h104 a0 (fs_ki (fun x113 h112 => (if x113 = 0 then fs_gr h112 a0 11 0 (fun a115 => fs_gi h112 a0 11 3 (fun x116 => False)) else fs_gr h112 a0 11 0 (fun a117 => fs_gi h112 a0 11 3 (fun x118 => False)))) (fun C_ h_ => Post (.inr C_) h_)))))) (fun C_ h_ => Post (.inr C_) h_)))) else False)
set_option maxHeartbeats 4000000 in
set_option maxRecDepth 100000 in
theorem kw_AB_setLength {l : Launch} {s00 : State} {E : fs_E} (hE : fs_SE l s00 E) {mc ms : Nat} {h : fs_Hp} {a0 : Nat} {x1 : Int32} {Post : fs_Ps} (hq : w_AB_setLength mc ms E h a0 x1 Post) : fs_Ct l s00 E.1 y_AB_setLength (.code y_AB_setLength b_AB_setLength 2 none) { frames := 4, cells := mc, slots := ms, locals := 62 } [.ref a0, .int x1] h Post := by
  refine fs_Ct.ofS hE.1 (by decide +kernel) ?_
  intro p e R s m below meth c hRf hRl hRc hRs B hout hP
  skip
  obtain ⟨hx, hb, hr, hml, hown, hts, hlocks, hname, hK, hw, htr⟩ := id B
  have hown : s.vm.findClass "java/lang/AbstractStringBuilder" = some m.cls := hown
  have hS := hw.S
  have hl := lv_entry ([.ref a0, .int x1]) (n := 2) (Nat.le_of_ble_eq_true rfl)
  rw [lg_entry_eq]
  generalize (lg_sl ([.ref a0, .int x1]) ++ List.replicate (2 - (lg_sl ([.ref a0, .int x1])).length) Slot.unset).toArray = ls at hl ⊢
  have hl : lv_has ls 2 [(0, .ref a0), (1, .int x1)] := hl
  unfold w_AB_setLength at hq
  refine lv_iload_n hx hb d_AB_setLength_0 rfl (lv_at hl 1 rfl) ?_
  refine lv_if_ge (tgt := 13) hx hb d_AB_setLength_1 (by decide) (fun c_101 => ?_) (fun c_101 => ?_)
  · have hq := fs_wifp c_101 hq
    refine lv_aload_n hx hb d_AB_setLength_13 rfl (lv_at hl 0 rfl) ?_
    refine lv_iload_n hx hb d_AB_setLength_14 rfl (lv_at hl 1 rfl) ?_
    obtain ⟨c102, s103, hc_, hs_, hq⟩ := hq
    obtain ⟨hi_, hq⟩ := hq
    obtain ⟨fs_, he_⟩ := fs_isc_some hi_
    refine fs_cVP B hl.1 hP hS (kw_AB_ensureCapacityInternal hE hq) (fs_tb_at 1117 tw_1117 rfl) he_ rfl (fs_tb_at 1865 tw_1865 rfl) (fs_prv hE hw (List.mem_of_getElem? tw_1118)) (fs_tb_at 1119 tw_1119 rfl) (fs_tb_at 92 tw_92 rfl) (fs_tb_at 1120 tw_1120 rfl) (by decide) (show (parseMethodDescriptor y_AB_ensureCapacityInternal.desc).map (fun d => d.parameters.length) = some 1 by decide +kernel) rfl d_AB_setLength_15 (fs_rm (k := 0) (by omega) (by omega) (by omega) (by omega) rfl) (fun v_ h104 H locs hq hP hS => ?_) (fun C_ a_ h_ H locs hq hP hS hX => fs_out (hout _) hlocks hw hP hS hX (show (0 + c102) ≤ mc by omega) (show (0 + s103) ≤ ms by omega) hq)
    refine fs_cs (k := (0 + c102)) (n := (0 + s103)) rfl rfl ?_
    replace hq := fs_kv_some hq
    obtain ⟨rfl, hq⟩ := hq
    refine W.eq (g2 := F0 m 18 ls ([])) rfl ?_
    refine lv_aload_n hx hb d_AB_setLength_18 rfl (lv_at hl 0 rfl) ?_
    obtain ⟨fs_, x105, he_, hv_, hq⟩ := fs_gi_some hq
    refine fs_get hx hb hts hown hK c_SB hP he_ 3 (by decide) (hts _ (fs_tb_at 233 tw_233 rfl)) (fun _ h9 => h9) hv_ d_AB_setLength_19 ?_
    refine lv_iload_n hx hb d_AB_setLength_22 rfl (lv_at hl 1 rfl) ?_
    refine lv_icmp_ge (tgt := 63) hx hb d_AB_setLength_23 (by decide) (fun c_106 => ?_) (fun c_106 => ?_)
    · have hq := fs_wifp c_106 hq
      refine lv_aload_n hx hb d_AB_setLength_63 rfl (lv_at hl 0 rfl) ?_
      obtain ⟨fs_, x107, he_, hv_, hq⟩ := fs_gi_some hq
      refine fs_get hx hb hts hown hK c_SB hP he_ 3 (by decide) (hts _ (fs_tb_at 233 tw_233 rfl)) (fun _ h9 => h9) hv_ d_AB_setLength_64 ?_
      refine lv_iload_n hx hb d_AB_setLength_67 rfl (lv_at hl 1 rfl) ?_
      refine lv_icmp_le (tgt := 76) hx hb d_AB_setLength_68 (by decide) (fun c_108 => ?_) (fun c_108 => ?_)
      · have hq := fs_wifp c_108 hq
        refine lv_aload_n hx hb d_AB_setLength_76 rfl (lv_at hl 0 rfl) ?_
        refine lv_iload_n hx hb d_AB_setLength_77 rfl (lv_at hl 1 rfl) ?_
        obtain ⟨fs_, h109, e_, hl_, eh_, hq⟩ := fs_pw_some hq
        refine fs_put hx hb hts hown hK c_SB hP hS e_ 3 (by decide) (hts _ (fs_tb_at 233 tw_233 rfl)) (fun _ h9 => h9) rfl rfl rfl hl_ d_AB_setLength_78 (fun H locs hP hS => ?_)
        rw [← eh_] at hP
        exact fs_vret hx hb hr hlocks hw hP hS (by omega) (by omega) hq d_AB_setLength_81
      · have hq := fs_wifn c_108 hq
        refine lv_aload_n hx hb d_AB_setLength_71 rfl (lv_at hl 0 rfl) ?_
        refine lv_iconst (v := 1) hx hb d_AB_setLength_72 (by decide) ?_
        obtain ⟨fs_, h110, e_, hl_, eh_, hq⟩ := fs_pw_some hq
        refine fs_put hx hb hts hown hK c_SB hP hS e_ 2 (by decide) (hts _ (fs_tb_at 231 tw_231 rfl)) (fun _ h9 => h9) rfl (by decide) (by decide) hl_ d_AB_setLength_73 (fun H locs hP hS => ?_)
        rw [← eh_] at hP
        refine lv_aload_n hx hb d_AB_setLength_76 rfl (lv_at hl 0 rfl) ?_
        refine lv_iload_n hx hb d_AB_setLength_77 rfl (lv_at hl 1 rfl) ?_
        obtain ⟨fs_, h111, e_, hl_, eh_, hq⟩ := fs_pw_some hq
        refine fs_put hx hb hts hown hK c_SB hP hS e_ 3 (by decide) (hts _ (fs_tb_at 233 tw_233 rfl)) (fun _ h9 => h9) rfl rfl rfl hl_ d_AB_setLength_78 (fun H locs hP hS => ?_)
        rw [← eh_] at hP
        exact fs_vret hx hb hr hlocks hw hP hS (by omega) (by omega) hq d_AB_setLength_81
    · have hq := fs_wifn c_106 hq
      refine lv_aload_n hx hb d_AB_setLength_26 rfl (lv_at hl 0 rfl) ?_
      obtain ⟨hi_, hq⟩ := hq
      obtain ⟨fs_, he_⟩ := fs_isc_some hi_
      refine fs_cV B hl.1 hP hS (kw_AB_isLatin1 hE hq) (fs_tb_at 1148 tw_1148 rfl) he_ rfl (fs_tb_at 1149 tw_1149 rfl) (fs_tb_at 1151 tw_1151 rfl) (fs_tb_at 92 tw_92 rfl) (fs_tb_at 1152 tw_1152 rfl) (by decide) (show (parseMethodDescriptor y_AB_isLatin1.desc).map (fun d => d.parameters.length) = some 0 by decide +kernel) rfl d_AB_setLength_27 (fs_rm (k := 0) (by omega) (by omega) (by omega) (by omega) rfl) (fun v_ h112 H locs hq hP hS => ?_) (fun C_ a_ h_ H locs hq hP hS hX => fs_out (hout _) hlocks hw hP hS hX (show (0 + c102) ≤ mc by omega) (show (0 + s103) ≤ ms by omega) hq)
      refine fs_cs (k := (0 + c102)) (n := (0 + s103)) rfl rfl ?_
      replace hq := fs_ki_some hq
      obtain ⟨x113, rfl, hq⟩ := hq
      refine W.eq (g2 := F0 m 30 ls (.int x113 :: [])) rfl ?_
      refine lv_if_eq (tgt := 48) hx hb d_AB_setLength_30 (by decide) (fun c_114 => ?_) (fun c_114 => ?_)
      · have hq := fs_wifp c_114 hq
        refine lv_aload_n hx hb d_AB_setLength_48 rfl (lv_at hl 0 rfl) ?_
        obtain ⟨fs_, a115, he_, hv_, hq⟩ := fs_gr_some hq
        refine fs_get hx hb hts hown hK c_SB hP he_ 0 (by decide) (hts _ (fs_tb_at 229 tw_229 rfl)) (fun _ h9 => h9) hv_ d_AB_setLength_49 ?_
        refine lv_aload_n hx hb d_AB_setLength_52 rfl (lv_at hl 0 rfl) ?_
        obtain ⟨fs_, x116, he_, hv_, hq⟩ := fs_gi_some hq
        refine fs_get hx hb hts hown hK c_SB hP he_ 3 (by decide) (hts _ (fs_tb_at 233 tw_233 rfl)) (fun _ h9 => h9) hv_ d_AB_setLength_53 ?_
        refine lv_iload_n hx hb d_AB_setLength_56 rfl (lv_at hl 1 rfl) ?_
        exact False.elim hq
      · have hq := fs_wifn c_114 hq
        refine lv_aload_n hx hb d_AB_setLength_33 rfl (lv_at hl 0 rfl) ?_
        obtain ⟨fs_, a117, he_, hv_, hq⟩ := fs_gr_some hq
        refine fs_get hx hb hts hown hK c_SB hP he_ 0 (by decide) (hts _ (fs_tb_at 229 tw_229 rfl)) (fun _ h9 => h9) hv_ d_AB_setLength_34 ?_
        refine lv_aload_n hx hb d_AB_setLength_37 rfl (lv_at hl 0 rfl) ?_
        obtain ⟨fs_, x118, he_, hv_, hq⟩ := fs_gi_some hq
        refine fs_get hx hb hts hown hK c_SB hP he_ 3 (by decide) (hts _ (fs_tb_at 233 tw_233 rfl)) (fun _ h9 => h9) hv_ d_AB_setLength_38 ?_
        refine lv_iload_n hx hb d_AB_setLength_41 rfl (lv_at hl 1 rfl) ?_
        exact False.elim hq
  · have hq := fs_wifn c_101 hq
    exact False.elim hq
def w_SB_setLength (mc ms : Nat) (E : fs_E) (h : fs_Hp) (a0 : Nat) (x1 : Int32) (Post : fs_Ps) : Prop := ∃ c101 s102 : Nat, c101 ≤ mc ∧ s102 ≤ ms ∧ (fs_isc h a0 11 ∧ (w_AB_setLength c101 s102 E h a0 x1 (fs_kv (fun h103 => Post (.inl none) h103) (fun C_ h_ => Post (.inr C_) h_))))
set_option maxHeartbeats 4000000 in
set_option maxRecDepth 100000 in
theorem kw_SB_setLength {l : Launch} {s00 : State} {E : fs_E} (hE : fs_SE l s00 E) {mc ms : Nat} {h : fs_Hp} {a0 : Nat} {x1 : Int32} {Post : fs_Ps} (hq : w_SB_setLength mc ms E h a0 x1 Post) : fs_Ct l s00 E.1 y_SB_setLength (.code y_SB_setLength b_SB_setLength 2 none) { frames := 5, cells := mc, slots := ms, locals := 75 } [.ref a0, .int x1] h Post := by
  refine fs_Ct.ofS hE.1 (by decide +kernel) ?_
  intro p e R s m below meth c hRf hRl hRc hRs B hout hP
  skip
  obtain ⟨hx, hb, hr, hml, hown, hts, hlocks, hname, hK, hw, htr⟩ := id B
  have hown : s.vm.findClass "java/lang/StringBuilder" = some m.cls := hown
  have hS := hw.S
  have hl := lv_entry ([.ref a0, .int x1]) (n := 2) (Nat.le_of_ble_eq_true rfl)
  rw [lg_entry_eq]
  generalize (lg_sl ([.ref a0, .int x1]) ++ List.replicate (2 - (lg_sl ([.ref a0, .int x1])).length) Slot.unset).toArray = ls at hl ⊢
  have hl : lv_has ls 2 [(0, .ref a0), (1, .int x1)] := hl
  unfold w_SB_setLength at hq
  refine lv_aload_n hx hb d_SB_setLength_0 rfl (lv_at hl 0 rfl) ?_
  refine lv_iload_n hx hb d_SB_setLength_1 rfl (lv_at hl 1 rfl) ?_
  obtain ⟨c101, s102, hc_, hs_, hq⟩ := hq
  obtain ⟨hi_, hq⟩ := hq
  obtain ⟨fs_, he_⟩ := fs_isc_some hi_
  refine fs_cX B hl.1 hP hS (kw_AB_setLength hE hq) (fs_tb_at 1095 tw_1095 rfl) he_ rfl (fs_tb_at 1862 tw_1862 rfl) (fs_tb_at 242 tw_242 rfl) (fs_tb_at 1096 tw_1096 rfl) (fs_tb_at 92 tw_92 rfl) (fs_tb_at 1097 tw_1097 rfl) (by decide) (show (parseMethodDescriptor y_AB_setLength.desc).map (fun d => d.parameters.length) = some 1 by decide +kernel) rfl d_SB_setLength_2 (fs_rm (k := 0) (by omega) (by omega) (by omega) (by omega) rfl) (fun v_ h103 H locs hq hP hS => ?_) (fun C_ a_ h_ H locs hq hP hS hX => fs_out (hout _) hlocks hw hP hS hX (show (0 + c101) ≤ mc by omega) (show (0 + s102) ≤ ms by omega) hq)
  refine fs_cs (k := (0 + c101)) (n := (0 + s102)) rfl rfl ?_
  replace hq := fs_kv_some hq
  obtain ⟨rfl, hq⟩ := hq
  refine W.eq (g2 := F0 m 5 ls ([])) rfl ?_
  exact fs_vret hx hb hr hlocks hw hP hS (by omega) (by omega) hq d_SB_setLength_5
def w_AB_length (E : fs_E) (h : fs_Hp) (a0 : Nat) (Post : fs_Ps) : Prop := fs_gi h a0 11 3 (fun x101 => Post (.inl (some (.int x101))) h)
set_option maxHeartbeats 4000000 in
set_option maxRecDepth 100000 in
theorem kw_AB_length {l : Launch} {s00 : State} {E : fs_E} (hE : fs_SE l s00 E) {h : fs_Hp} {a0 : Nat} {Post : fs_Ps} (hq : w_AB_length E h a0 Post) : fs_Ct l s00 E.1 y_AB_length (.code y_AB_length b_AB_length 1 (some .int)) { frames := 0, cells := 0, slots := 0, locals := 0 } [.ref a0] h Post := by
  refine fs_Ct.ofS hE.1 (by decide +kernel) ?_
  intro p e R s m below meth c hRf hRl hRc hRs B hout hP
  skip
  obtain ⟨hx, hb, hr, hml, hown, hts, hlocks, hname, hK, hw, htr⟩ := id B
  have hown : s.vm.findClass "java/lang/AbstractStringBuilder" = some m.cls := hown
  have hS := hw.S
  have hl := lv_entry ([.ref a0]) (n := 1) (Nat.le_of_ble_eq_true rfl)
  rw [lg_entry_eq]
  generalize (lg_sl ([.ref a0]) ++ List.replicate (1 - (lg_sl ([.ref a0])).length) Slot.unset).toArray = ls at hl ⊢
  have hl : lv_has ls 1 [(0, .ref a0)] := hl
  unfold w_AB_length at hq
  refine lv_aload_n hx hb d_AB_length_0 rfl (lv_at hl 0 rfl) ?_
  obtain ⟨fs_, x101, he_, hv_, hq⟩ := fs_gi_some hq
  refine fs_get hx hb hts hown hK c_SB hP he_ 3 (by decide) (hts _ (fs_tb_at 233 tw_233 rfl)) (fun _ h9 => h9) hv_ d_AB_length_1 ?_
  exact fs_iret hx hb hr hlocks hw hP hS (vp_nar_int _) (Nat.le_refl _) (Nat.le_refl _) hq d_AB_length_4
def w_SB_length (E : fs_E) (h : fs_Hp) (a0 : Nat) (Post : fs_Ps) : Prop := fs_isc h a0 11 ∧ (w_AB_length E h a0 (fs_ki (fun x102 h101 => Post (.inl (some (.int x102))) h101) (fun C_ h_ => Post (.inr C_) h_)))
set_option maxHeartbeats 4000000 in
set_option maxRecDepth 100000 in
theorem kw_SB_length {l : Launch} {s00 : State} {E : fs_E} (hE : fs_SE l s00 E) {h : fs_Hp} {a0 : Nat} {Post : fs_Ps} (hq : w_SB_length E h a0 Post) : fs_Ct l s00 E.1 y_SB_length (.code y_SB_length b_SB_length 1 (some .int)) { frames := 1, cells := 0, slots := 0, locals := 12 } [.ref a0] h Post := by
  refine fs_Ct.ofS hE.1 (by decide +kernel) ?_
  intro p e R s m below meth c hRf hRl hRc hRs B hout hP
  skip
  obtain ⟨hx, hb, hr, hml, hown, hts, hlocks, hname, hK, hw, htr⟩ := id B
  have hown : s.vm.findClass "java/lang/StringBuilder" = some m.cls := hown
  have hS := hw.S
  have hl := lv_entry ([.ref a0]) (n := 1) (Nat.le_of_ble_eq_true rfl)
  rw [lg_entry_eq]
  generalize (lg_sl ([.ref a0]) ++ List.replicate (1 - (lg_sl ([.ref a0])).length) Slot.unset).toArray = ls at hl ⊢
  have hl : lv_has ls 1 [(0, .ref a0)] := hl
  unfold w_SB_length at hq
  refine lv_aload_n hx hb d_SB_length_0 rfl (lv_at hl 0 rfl) ?_
  obtain ⟨hi_, hq⟩ := hq
  obtain ⟨fs_, he_⟩ := fs_isc_some hi_
  refine fs_cX B hl.1 hP hS (kw_AB_length hE hq) (fs_tb_at 1252 tw_1252 rfl) he_ rfl (fs_tb_at 1248 tw_1248 rfl) (fs_tb_at 242 tw_242 rfl) (fs_tb_at 1247 tw_1247 rfl) (fs_tb_at 92 tw_92 rfl) (fs_tb_at 1253 tw_1253 rfl) (by decide) (show (parseMethodDescriptor y_AB_length.desc).map (fun d => d.parameters.length) = some 0 by decide +kernel) rfl d_SB_length_1 (fs_rm (k := 0) (by omega) (by omega) (by omega) (by omega) rfl) (fun v_ h101 H locs hq hP hS => ?_) (fun C_ a_ h_ H locs hq hP hS hX => fs_out (hout _) hlocks hw hP hS hX (Nat.le_of_ble_eq_true rfl) (Nat.le_of_ble_eq_true rfl) hq)
  refine fs_cs (k := 0) (n := 0) rfl rfl ?_
  replace hq := fs_ki_some hq
  obtain ⟨x102, rfl, hq⟩ := hq
  refine W.eq (g2 := F0 m 4 ls (.int x102 :: [])) rfl ?_
  exact fs_iret hx hb hr hlocks hw hP hS (vp_nar_int _) (Nat.le_refl _) (Nat.le_refl _) hq d_SB_length_4
def w_AB_charAt (E : fs_E) (h : fs_Hp) (a0 : Nat) (x1 : Int32) (Post : fs_Ps) : Prop := fs_gi h a0 11 1 (fun x101 => fs_gr h a0 11 0 (fun a102 => fs_gi h a0 11 3 (fun x103 => fs_an h a102 (E.1.2 5) (fun n104 => w_ST_checkIndex E h x1 (if ((Int32.ofNat n104) >>> (x101 &&& 31)) < x103 then ((Int32.ofNat n104) >>> (x101 &&& 31)) else x103) (fs_kv (fun h105 => (if x101 = 0 then fs_ai h105 a102 (E.1.2 5) x1 (fun x107 => (narrow .char (.int ((Int32.toUInt32 (x107 &&& (255 : Int32)) % 65536).toInt32)) = (.int ((Int32.toUInt32 (x107 &&& (255 : Int32)) % 65536).toInt32))) ∧ (Post (.inl (some (.int ((Int32.toUInt32 (x107 &&& (255 : Int32)) % 65536).toInt32)))) h105)) else False)) (fun C_ h_ => Post (.inr C_) h_))))))
set_option maxHeartbeats 4000000 in
set_option maxRecDepth 100000 in
theorem kw_AB_charAt {l : Launch} {s00 : State} {E : fs_E} (hE : fs_SE l s00 E) {h : fs_Hp} {a0 : Nat} {x1 : Int32} {Post : fs_Ps} (hq : w_AB_charAt E h a0 x1 Post) : fs_Ct l s00 E.1 y_AB_charAt (.code y_AB_charAt b_AB_charAt 5 (some .char)) { frames := 2, cells := 0, slots := 0, locals := 27 } [.ref a0, .int x1] h Post := by
  refine fs_Ct.ofS hE.1 (by decide +kernel) ?_
  intro p e R s m below meth c hRf hRl hRc hRs B hout hP
  skip
  obtain ⟨hx, hb, hr, hml, hown, hts, hlocks, hname, hK, hw, htr⟩ := id B
  have hown : s.vm.findClass "java/lang/AbstractStringBuilder" = some m.cls := hown
  have hS := hw.S
  have hl := lv_entry ([.ref a0, .int x1]) (n := 5) (Nat.le_of_ble_eq_true rfl)
  rw [lg_entry_eq]
  generalize (lg_sl ([.ref a0, .int x1]) ++ List.replicate (5 - (lg_sl ([.ref a0, .int x1])).length) Slot.unset).toArray = ls at hl ⊢
  have hl : lv_has ls 5 [(0, .ref a0), (1, .int x1)] := hl
  unfold w_AB_charAt at hq
  refine lv_aload_n hx hb d_AB_charAt_0 rfl (lv_at hl 0 rfl) ?_
  obtain ⟨fs_, x101, he_, hv_, hq⟩ := fs_gi_some hq
  refine fs_get hx hb hts hown hK c_SB hP he_ 1 (by decide) (hts _ (fs_tb_at 230 tw_230 rfl)) (fun _ h9 => h9) hv_ d_AB_charAt_1 ?_
  refine lv_istore_n (lv' := [(2, .int x101), (0, .ref a0), (1, .int x1)]) hx hb d_AB_charAt_4 rfl hl (by decide) rfl (fun ls hl => ?_)
  refine lv_aload_n hx hb d_AB_charAt_5 rfl (lv_at hl 1 rfl) ?_
  obtain ⟨fs_, a102, he_, hv_, hq⟩ := fs_gr_some hq
  refine fs_get hx hb hts hown hK c_SB hP he_ 0 (by decide) (hts _ (fs_tb_at 229 tw_229 rfl)) (fun _ h9 => h9) hv_ d_AB_charAt_6 ?_
  refine lv_astore_n (lv' := [(3, .ref a102), (2, .int x101), (0, .ref a0), (1, .int x1)]) hx hb d_AB_charAt_9 rfl hl (by decide) rfl (fun ls hl => ?_)
  refine lv_aload_n hx hb d_AB_charAt_10 rfl (lv_at hl 2 rfl) ?_
  obtain ⟨fs_, x103, he_, hv_, hq⟩ := fs_gi_some hq
  refine fs_get hx hb hts hown hK c_SB hP he_ 3 (by decide) (hts _ (fs_tb_at 233 tw_233 rfl)) (fun _ h9 => h9) hv_ d_AB_charAt_11 ?_
  refine lv_aload_n hx hb d_AB_charAt_14 rfl (lv_at hl 0 rfl) ?_
  obtain ⟨x_, n104, en_, e_, hq⟩ := fs_an_some hq
  refine fs_alen hx hb hK hP 5 e_ rfl rfl d_AB_charAt_15 ?_
  rw [← en_]
  refine lv_iload_n hx hb d_AB_charAt_16 rfl (lv_at hl 1 rfl) ?_
  refine lv_ishr hx hb d_AB_charAt_17 ?_
  refine va_mmin hx hb (by rw [hml]; exact hl.1.symm) hown (hts _ (fs_tb_at 1439 tw_1439 rfl)) (hts _ (fs_tb_at 307 tw_307 rfl)) (hts _ (fs_tb_at 108 tw_108 rfl)) (hts _ (fs_tb_at 308 tw_308 rfl)) (by omega) (fs_lc (k := 0) rfl (by omega)) (Nat.zero_le _) (Nat.zero_le _) d_AB_charAt_18 ?_
  refine lv_istore (lv' := [(4, .int (if ((Int32.ofNat n104) >>> (x101 &&& 31)) < x103 then ((Int32.ofNat n104) >>> (x101 &&& 31)) else x103)), (3, .ref a102), (2, .int x101), (0, .ref a0), (1, .int x1)]) hx hb d_AB_charAt_21 hl (by decide) rfl (fun ls hl => ?_)
  refine lv_iload_n hx hb d_AB_charAt_23 rfl (lv_at hl 4 rfl) ?_
  refine lv_iload hx hb d_AB_charAt_24 (lv_at hl 0 rfl) ?_
  refine fs_cS B hl.1 hP hS (kw_ST_checkIndex hE hq) (fs_tb_at 1440 tw_1440 rfl) (fs_tb_at 760 tw_760 rfl) (fs_tb_at 94 tw_94 rfl) (fs_tb_at 761 tw_761 rfl) (by decide) (show (parseMethodDescriptor y_ST_checkIndex.desc).map (fun d => d.parameters.length) = some 2 by decide +kernel) rfl d_AB_charAt_26 (fs_rm (k := 0) (by omega) (by omega) (by omega) (by omega) rfl) (fun v_ h105 H locs hq hP hS => ?_) (fun C_ a_ h_ H locs hq hP hS hX => fs_out (hout _) hlocks hw hP hS hX (Nat.le_of_ble_eq_true rfl) (Nat.le_of_ble_eq_true rfl) hq)
  refine fs_cs (k := 0) (n := 0) rfl rfl ?_
  replace hq := fs_kv_some hq
  obtain ⟨rfl, hq⟩ := hq
  refine W.eq (g2 := F0 m 29 ls ([])) rfl ?_
  refine lv_iload_n hx hb d_AB_charAt_29 rfl (lv_at hl 2 rfl) ?_
  refine lv_if_ne (tgt := 42) hx hb d_AB_charAt_30 (by decide) (fun c_106 => ?_) (fun c_106 => ?_)
  · have hq := fs_wifn c_106 hq
    refine lv_aload_n hx hb d_AB_charAt_42 rfl (lv_at hl 1 rfl) ?_
    refine lv_iload_n hx hb d_AB_charAt_43 rfl (lv_at hl 4 rfl) ?_
    exact False.elim hq
  · have hq := fs_wifp c_106 hq
    refine lv_aload_n hx hb d_AB_charAt_33 rfl (lv_at hl 1 rfl) ?_
    refine lv_iload_n hx hb d_AB_charAt_34 rfl (lv_at hl 4 rfl) ?_
    obtain ⟨n_, f_, x107, e_, hi_, ex_, hq⟩ := fs_ai_some hq
    refine fs_bald hx hb hK hP 5 e_ rfl hi_ d_AB_charAt_35 ?_
    rw [← ex_]
    refine lv_sipush (v := 255) hx hb d_AB_charAt_36 (by decide) ?_
    refine lv_iand hx hb d_AB_charAt_39 ?_
    refine lv_i2c hx hb d_AB_charAt_40 rfl ?_
    obtain ⟨hn_, hq⟩ := hq
    exact fs_iret hx hb hr hlocks hw hP hS hn_ (Nat.le_refl _) (Nat.le_refl _) hq d_AB_charAt_41
def w_SB_charAt (E : fs_E) (h : fs_Hp) (a0 : Nat) (x1 : Int32) (Post : fs_Ps) : Prop := fs_isc h a0 11 ∧ (w_AB_charAt E h a0 x1 (fs_ki (fun x102 h101 => (narrow .char (.int x102) = (.int x102)) ∧ (Post (.inl (some (.int x102))) h101)) (fun C_ h_ => Post (.inr C_) h_)))
set_option maxHeartbeats 4000000 in
set_option maxRecDepth 100000 in
theorem kw_SB_charAt {l : Launch} {s00 : State} {E : fs_E} (hE : fs_SE l s00 E) {h : fs_Hp} {a0 : Nat} {x1 : Int32} {Post : fs_Ps} (hq : w_SB_charAt E h a0 x1 Post) : fs_Ct l s00 E.1 y_SB_charAt (.code y_SB_charAt b_SB_charAt 2 (some .char)) { frames := 3, cells := 0, slots := 0, locals := 43 } [.ref a0, .int x1] h Post := by
  refine fs_Ct.ofS hE.1 (by decide +kernel) ?_
  intro p e R s m below meth c hRf hRl hRc hRs B hout hP
  skip
  obtain ⟨hx, hb, hr, hml, hown, hts, hlocks, hname, hK, hw, htr⟩ := id B
  have hown : s.vm.findClass "java/lang/StringBuilder" = some m.cls := hown
  have hS := hw.S
  have hl := lv_entry ([.ref a0, .int x1]) (n := 2) (Nat.le_of_ble_eq_true rfl)
  rw [lg_entry_eq]
  generalize (lg_sl ([.ref a0, .int x1]) ++ List.replicate (2 - (lg_sl ([.ref a0, .int x1])).length) Slot.unset).toArray = ls at hl ⊢
  have hl : lv_has ls 2 [(0, .ref a0), (1, .int x1)] := hl
  unfold w_SB_charAt at hq
  refine lv_aload_n hx hb d_SB_charAt_0 rfl (lv_at hl 0 rfl) ?_
  refine lv_iload_n hx hb d_SB_charAt_1 rfl (lv_at hl 1 rfl) ?_
  obtain ⟨hi_, hq⟩ := hq
  obtain ⟨fs_, he_⟩ := fs_isc_some hi_
  refine fs_cX B hl.1 hP hS (kw_AB_charAt hE hq) (fs_tb_at 1436 tw_1436 rfl) he_ rfl (fs_tb_at 1873 tw_1873 rfl) (fs_tb_at 242 tw_242 rfl) (fs_tb_at 1437 tw_1437 rfl) (fs_tb_at 92 tw_92 rfl) (fs_tb_at 1438 tw_1438 rfl) (by decide) (show (parseMethodDescriptor y_AB_charAt.desc).map (fun d => d.parameters.length) = some 1 by decide +kernel) rfl d_SB_charAt_2 (fs_rm (k := 0) (by omega) (by omega) (by omega) (by omega) rfl) (fun v_ h101 H locs hq hP hS => ?_) (fun C_ a_ h_ H locs hq hP hS hX => fs_out (hout _) hlocks hw hP hS hX (Nat.le_of_ble_eq_true rfl) (Nat.le_of_ble_eq_true rfl) hq)
  refine fs_cs (k := 0) (n := 0) rfl rfl ?_
  replace hq := fs_ki_some hq
  obtain ⟨x102, rfl, hq⟩ := hq
  refine W.eq (g2 := F0 m 5 ls (.int x102 :: [])) rfl ?_
  obtain ⟨hn_, hq⟩ := hq
  exact fs_iret hx hb hr hlocks hw hP hS hn_ (Nat.le_refl _) (Nat.le_refl _) hq d_SB_charAt_5
def w_AB_append_b10_J56 (E : fs_E) (Post : fs_Ps) (z0 : Nat) (z1 : Int32) (bc bs : Nat) (h1 : fs_Hp) : Prop := fs_gr h1 z0 11 0 (fun a101 => fs_gi h1 z0 11 3 (fun x102 => fs_pw h1 z0 11 3 (.int (x102 + 1)) (fun h103 => False)))
def w_AB_append_b10_J45 (E : fs_E) (Post : fs_Ps) (z0 : Nat) (z1 : Int32) (bc bs : Nat) (h1 : fs_Hp) : Prop := fs_isc h1 z0 11 ∧ (w_AB_isLatin1 E h1 z0 (fs_ki (fun x105 h104 => (if x105 = 0 then w_AB_append_b10_J56 E Post z0 z1 bc bs h104 else False)) (fun C_ h_ => Post (.inr C_) h_)))
def w_AB_append_b10 (mc ms : Nat) (E : fs_E) (h : fs_Hp) (a0 : Nat) (x1 : Int32) (Post : fs_Ps) : Prop := fs_gi h a0 11 3 (fun x107 => ∃ c108 s109 : Nat, c108 ≤ mc ∧ s109 ≤ ms ∧ (fs_isc h a0 11 ∧ (w_AB_ensureCapacityInternal c108 s109 E h a0 (x107 + 1) (fs_kv (fun h110 => fs_isc h110 a0 11 ∧ (w_AB_isLatin1 E h110 a0 (fs_ki (fun x112 h111 => (if x112 = 0 then w_AB_append_b10_J45 E Post a0 x1 (mc - c108) (ms - s109) h111 else w_SL_canEncode E h111 x1 (fs_ki (fun x115 h114 => (if x115 = 0 then w_AB_append_b10_J45 E Post a0 x1 (mc - c108) (ms - s109) h114 else fs_gr h114 a0 11 0 (fun a117 => fs_gi h114 a0 11 3 (fun x118 => fs_pw h114 a0 11 3 (.int (x118 + 1)) (fun h119 => fs_si h119 a117 (E.1.2 5) x118 (vp_nar .byte ((Int32.toInt8 x1).toInt32)) (fun h120 => Post (.inl (some (.ref a0))) h120)))))) (fun C_ h_ => Post (.inr C_) h_)))) (fun C_ h_ => Post (.inr C_) h_)))) (fun C_ h_ => Post (.inr C_) h_)))))
set_option maxHeartbeats 4000000 in
set_option maxRecDepth 100000 in
theorem kw_AB_append_b10 {l : Launch} {s00 : State} {E : fs_E} (hE : fs_SE l s00 E) {mc ms : Nat} {h : fs_Hp} {a0 : Nat} {x1 : Int32} {Post : fs_Ps} (hq : w_AB_append_b10 mc ms E h a0 x1 Post) : fs_Ct l s00 E.1 y_AB_append_b10 (.code y_AB_append_b10 b_AB_append_b10 2 (some ((.object "java/lang/AbstractStringBuilder")))) { frames := 4, cells := mc, slots := ms, locals := 62 } [.ref a0, .int x1] h Post := by
  refine fs_Ct.ofS hE.1 (by decide +kernel) ?_
  intro p e R s m below meth c hRf hRl hRc hRs B hout hP
  skip
  obtain ⟨hx, hb, hr, hml, hown, hts, hlocks, hname, hK, hw, htr⟩ := id B
  have hown : s.vm.findClass "java/lang/AbstractStringBuilder" = some m.cls := hown
  have hS := hw.S
  have hJ56 : ∀ (z0 : Nat) (z1 : Int32) (bc bs uc us : Nat) (h1 : fs_Hp) (H : Heap) (locs : List Loc) (ls : Array Slot), w_AB_append_b10_J56 E Post z0 z1 bc bs h1 → fs_P E.1.1 fs_cl (fs_A s00) h1 H → va_S (fs_A s00) s00.heap H locs → uc + bc ≤ mc → us + bs ≤ ms → lv_has ls 2 [(0, .ref z0), (1, .int z1)] → W p l e R s m ([.ref a0, .int x1] : List Value).toArray below meth c H locs uc us (fx_MQ below (fs_Qc s00 E.1 Post) ([.ref a0, .int x1] : List Value).toArray s mc ms (fs_A s00)) (F0 m 56 ls ([])) := by
    intro z0 z1 bc bs uc us h1 H locs ls hq hP hS hu1 hu2 hl
    unfold w_AB_append_b10_J56 at hq
    refine lv_aload_n hx hb d_AB_append_b10_56 rfl (lv_at hl 0 rfl) ?_
    obtain ⟨fs_, a101, he_, hv_, hq⟩ := fs_gr_some hq
    refine fs_get hx hb hts hown hK c_SB hP he_ 0 (by decide) (hts _ (fs_tb_at 229 tw_229 rfl)) (fun _ h9 => h9) hv_ d_AB_append_b10_57 ?_
    refine lv_aload_n hx hb d_AB_append_b10_60 rfl (lv_at hl 0 rfl) ?_
    refine lv_dup hx hb d_AB_append_b10_61 rfl ?_
    obtain ⟨fs_, x102, he_, hv_, hq⟩ := fs_gi_some hq
    refine fs_get hx hb hts hown hK c_SB hP he_ 3 (by decide) (hts _ (fs_tb_at 233 tw_233 rfl)) (fun _ h9 => h9) hv_ d_AB_append_b10_62 ?_
    refine lv_dup_x1 hx hb d_AB_append_b10_65 rfl rfl ?_
    refine lv_iconst (v := 1) hx hb d_AB_append_b10_66 (by decide) ?_
    refine lv_iadd hx hb d_AB_append_b10_67 ?_
    obtain ⟨fs_, h103, e_, hl_, eh_, hq⟩ := fs_pw_some hq
    refine fs_put hx hb hts hown hK c_SB hP hS e_ 3 (by decide) (hts _ (fs_tb_at 233 tw_233 rfl)) (fun _ h9 => h9) rfl rfl rfl hl_ d_AB_append_b10_68 (fun H locs hP hS => ?_)
    rw [← eh_] at hP
    refine lv_iload_n hx hb d_AB_append_b10_71 rfl (lv_at hl 1 rfl) ?_
    exact False.elim hq
  have hJ45 : ∀ (z0 : Nat) (z1 : Int32) (bc bs uc us : Nat) (h1 : fs_Hp) (H : Heap) (locs : List Loc) (ls : Array Slot), w_AB_append_b10_J45 E Post z0 z1 bc bs h1 → fs_P E.1.1 fs_cl (fs_A s00) h1 H → va_S (fs_A s00) s00.heap H locs → uc + bc ≤ mc → us + bs ≤ ms → lv_has ls 2 [(0, .ref z0), (1, .int z1)] → W p l e R s m ([.ref a0, .int x1] : List Value).toArray below meth c H locs uc us (fx_MQ below (fs_Qc s00 E.1 Post) ([.ref a0, .int x1] : List Value).toArray s mc ms (fs_A s00)) (F0 m 45 ls ([])) := by
    intro z0 z1 bc bs uc us h1 H locs ls hq hP hS hu1 hu2 hl
    unfold w_AB_append_b10_J45 at hq
    refine lv_aload_n hx hb d_AB_append_b10_45 rfl (lv_at hl 0 rfl) ?_
    obtain ⟨hi_, hq⟩ := hq
    obtain ⟨fs_, he_⟩ := fs_isc_some hi_
    refine fs_cV B hl.1 hP hS (kw_AB_isLatin1 hE hq) (fs_tb_at 1148 tw_1148 rfl) he_ rfl (fs_tb_at 1149 tw_1149 rfl) (fs_tb_at 1151 tw_1151 rfl) (fs_tb_at 92 tw_92 rfl) (fs_tb_at 1152 tw_1152 rfl) (by decide) (show (parseMethodDescriptor y_AB_isLatin1.desc).map (fun d => d.parameters.length) = some 0 by decide +kernel) rfl d_AB_append_b10_46 (fs_rm (k := 0) (by omega) (by omega) (by omega) (by omega) rfl) (fun v_ h104 H locs hq hP hS => ?_) (fun C_ a_ h_ H locs hq hP hS hX => fs_out (hout _) hlocks hw hP hS hX (show uc ≤ mc by omega) (show us ≤ ms by omega) hq)
    refine fs_cs (k := uc) (n := us) rfl rfl ?_
    replace hq := fs_ki_some hq
    obtain ⟨x105, rfl, hq⟩ := hq
    refine W.eq (g2 := F0 m 49 ls (.int x105 :: [])) rfl ?_
    refine lv_if_eq (tgt := 56) hx hb d_AB_append_b10_49 (by decide) (fun c_106 => ?_) (fun c_106 => ?_)
    · have hq := fs_wifp c_106 hq
      exact hJ56 z0 z1 bc bs uc us _ _ _ _ hq hP hS (by omega) (by omega) (show lv_has ls 2 [(0, .ref z0), (1, .int z1)] from lv_sub hl [0, 1] rfl)
    · have hq := fs_wifn c_106 hq
      refine lv_aload_n hx hb d_AB_append_b10_52 rfl (lv_at hl 0 rfl) ?_
      exact False.elim hq
  have hl := lv_entry ([.ref a0, .int x1]) (n := 2) (Nat.le_of_ble_eq_true rfl)
  rw [lg_entry_eq]
  generalize (lg_sl ([.ref a0, .int x1]) ++ List.replicate (2 - (lg_sl ([.ref a0, .int x1])).length) Slot.unset).toArray = ls at hl ⊢
  have hl : lv_has ls 2 [(0, .ref a0), (1, .int x1)] := hl
  unfold w_AB_append_b10 at hq
  refine lv_aload_n hx hb d_AB_append_b10_0 rfl (lv_at hl 0 rfl) ?_
  refine lv_aload_n hx hb d_AB_append_b10_1 rfl (lv_at hl 0 rfl) ?_
  obtain ⟨fs_, x107, he_, hv_, hq⟩ := fs_gi_some hq
  refine fs_get hx hb hts hown hK c_SB hP he_ 3 (by decide) (hts _ (fs_tb_at 233 tw_233 rfl)) (fun _ h9 => h9) hv_ d_AB_append_b10_2 ?_
  refine lv_iconst (v := 1) hx hb d_AB_append_b10_5 (by decide) ?_
  refine lv_iadd hx hb d_AB_append_b10_6 ?_
  obtain ⟨c108, s109, hc_, hs_, hq⟩ := hq
  obtain ⟨hi_, hq⟩ := hq
  obtain ⟨fs_, he_⟩ := fs_isc_some hi_
  refine fs_cVP B hl.1 hP hS (kw_AB_ensureCapacityInternal hE hq) (fs_tb_at 1117 tw_1117 rfl) he_ rfl (fs_tb_at 1865 tw_1865 rfl) (fs_prv hE hw (List.mem_of_getElem? tw_1118)) (fs_tb_at 1119 tw_1119 rfl) (fs_tb_at 92 tw_92 rfl) (fs_tb_at 1120 tw_1120 rfl) (by decide) (show (parseMethodDescriptor y_AB_ensureCapacityInternal.desc).map (fun d => d.parameters.length) = some 1 by decide +kernel) rfl d_AB_append_b10_7 (fs_rm (k := 0) (by omega) (by omega) (by omega) (by omega) rfl) (fun v_ h110 H locs hq hP hS => ?_) (fun C_ a_ h_ H locs hq hP hS hX => fs_out (hout _) hlocks hw hP hS hX (show (0 + c108) ≤ mc by omega) (show (0 + s109) ≤ ms by omega) hq)
  refine fs_cs (k := (0 + c108)) (n := (0 + s109)) rfl rfl ?_
  replace hq := fs_kv_some hq
  obtain ⟨rfl, hq⟩ := hq
  refine W.eq (g2 := F0 m 10 ls ([])) rfl ?_
  refine lv_aload_n hx hb d_AB_append_b10_10 rfl (lv_at hl 0 rfl) ?_
  obtain ⟨hi_, hq⟩ := hq
  obtain ⟨fs_, he_⟩ := fs_isc_some hi_
  refine fs_cV B hl.1 hP hS (kw_AB_isLatin1 hE hq) (fs_tb_at 1148 tw_1148 rfl) he_ rfl (fs_tb_at 1149 tw_1149 rfl) (fs_tb_at 1151 tw_1151 rfl) (fs_tb_at 92 tw_92 rfl) (fs_tb_at 1152 tw_1152 rfl) (by decide) (show (parseMethodDescriptor y_AB_isLatin1.desc).map (fun d => d.parameters.length) = some 0 by decide +kernel) rfl d_AB_append_b10_11 (fs_rm (k := 0) (by omega) (by omega) (by omega) (by omega) rfl) (fun v_ h111 H locs hq hP hS => ?_) (fun C_ a_ h_ H locs hq hP hS hX => fs_out (hout _) hlocks hw hP hS hX (show (0 + c108) ≤ mc by omega) (show (0 + s109) ≤ ms by omega) hq)
  refine fs_cs (k := (0 + c108)) (n := (0 + s109)) rfl rfl ?_
  replace hq := fs_ki_some hq
  obtain ⟨x112, rfl, hq⟩ := hq
  refine W.eq (g2 := F0 m 14 ls (.int x112 :: [])) rfl ?_
  refine lv_if_eq (tgt := 45) hx hb d_AB_append_b10_14 (by decide) (fun c_113 => ?_) (fun c_113 => ?_)
  · have hq := fs_wifp c_113 hq
    exact hJ45 a0 x1 (mc - c108) (ms - s109) (0 + c108) (0 + s109) _ _ _ _ hq hP hS (by omega) (by omega) (show lv_has ls 2 [(0, .ref a0), (1, .int x1)] from lv_sub hl [0, 1] rfl)
  · have hq := fs_wifn c_113 hq
    refine lv_iload_n hx hb d_AB_append_b10_17 rfl (lv_at hl 1 rfl) ?_
    refine fs_cS B hl.1 hP hS (kw_SL_canEncode hE hq) (fs_tb_at 1386 tw_1386 rfl) (fs_tb_at 1387 tw_1387 rfl) (fs_tb_at 106 tw_106 rfl) (fs_tb_at 1388 tw_1388 rfl) (by decide) (show (parseMethodDescriptor y_SL_canEncode.desc).map (fun d => d.parameters.length) = some 1 by decide +kernel) rfl d_AB_append_b10_18 (fs_rm (k := 0) (by omega) (by omega) (by omega) (by omega) rfl) (fun v_ h114 H locs hq hP hS => ?_) (fun C_ a_ h_ H locs hq hP hS hX => fs_out (hout _) hlocks hw hP hS hX (show (0 + c108) ≤ mc by omega) (show (0 + s109) ≤ ms by omega) hq)
    refine fs_cs (k := (0 + c108)) (n := (0 + s109)) rfl rfl ?_
    replace hq := fs_ki_some hq
    obtain ⟨x115, rfl, hq⟩ := hq
    refine W.eq (g2 := F0 m 21 ls (.int x115 :: [])) rfl ?_
    refine lv_if_eq (tgt := 45) hx hb d_AB_append_b10_21 (by decide) (fun c_116 => ?_) (fun c_116 => ?_)
    · have hq := fs_wifp c_116 hq
      exact hJ45 a0 x1 (mc - c108) (ms - s109) (0 + c108) (0 + s109) _ _ _ _ hq hP hS (by omega) (by omega) (show lv_has ls 2 [(0, .ref a0), (1, .int x1)] from lv_sub hl [0, 1] rfl)
    · have hq := fs_wifn c_116 hq
      refine lv_aload_n hx hb d_AB_append_b10_24 rfl (lv_at hl 0 rfl) ?_
      obtain ⟨fs_, a117, he_, hv_, hq⟩ := fs_gr_some hq
      refine fs_get hx hb hts hown hK c_SB hP he_ 0 (by decide) (hts _ (fs_tb_at 229 tw_229 rfl)) (fun _ h9 => h9) hv_ d_AB_append_b10_25 ?_
      refine lv_aload_n hx hb d_AB_append_b10_28 rfl (lv_at hl 0 rfl) ?_
      refine lv_dup hx hb d_AB_append_b10_29 rfl ?_
      obtain ⟨fs_, x118, he_, hv_, hq⟩ := fs_gi_some hq
      refine fs_get hx hb hts hown hK c_SB hP he_ 3 (by decide) (hts _ (fs_tb_at 233 tw_233 rfl)) (fun _ h9 => h9) hv_ d_AB_append_b10_30 ?_
      refine lv_dup_x1 hx hb d_AB_append_b10_33 rfl rfl ?_
      refine lv_iconst (v := 1) hx hb d_AB_append_b10_34 (by decide) ?_
      refine lv_iadd hx hb d_AB_append_b10_35 ?_
      obtain ⟨fs_, h119, e_, hl_, eh_, hq⟩ := fs_pw_some hq
      refine fs_put hx hb hts hown hK c_SB hP hS e_ 3 (by decide) (hts _ (fs_tb_at 233 tw_233 rfl)) (fun _ h9 => h9) rfl rfl rfl hl_ d_AB_append_b10_36 (fun H locs hP hS => ?_)
      rw [← eh_] at hP
      refine lv_iload_n hx hb d_AB_append_b10_39 rfl (lv_at hl 1 rfl) ?_
      refine lv_i2b hx hb d_AB_append_b10_40 rfl ?_
      obtain ⟨n_, f_, h120, e_, hi_, eh_, hq⟩ := fs_si_some hq
      refine fs_bast hx hb hK hP hS 5 e_ rfl hi_ d_AB_append_b10_41 (fun H locs hP hS => ?_)
      rw [← eh_] at hP
      refine lv_goto (tgt := 75) hx hb d_AB_append_b10_42 (by decide) ?_
      refine lv_aload_n hx hb d_AB_append_b10_75 rfl (lv_at hl 0 rfl) ?_
      exact fs_aret hx hb hr (Or.inl ⟨_, rfl⟩) (Or.inr ⟨_, rfl⟩) hlocks hw hP hS (by omega) (by omega) hq d_AB_append_b10_76
def w_SB_append_882 (mc ms : Nat) (E : fs_E) (h : fs_Hp) (a0 : Nat) (x1 : Int32) (Post : fs_Ps) : Prop := ∃ c101 s102 : Nat, c101 ≤ mc ∧ s102 ≤ ms ∧ (fs_isc h a0 11 ∧ (w_AB_append_b10 c101 s102 E h a0 x1 (fs_kr (fun a104 h103 => Post (.inl (some (.ref a0))) h103) (fun C_ h_ => Post (.inr C_) h_))))
set_option maxHeartbeats 4000000 in
set_option maxRecDepth 100000 in
theorem kw_SB_append_882 {l : Launch} {s00 : State} {E : fs_E} (hE : fs_SE l s00 E) {mc ms : Nat} {h : fs_Hp} {a0 : Nat} {x1 : Int32} {Post : fs_Ps} (hq : w_SB_append_882 mc ms E h a0 x1 Post) : fs_Ct l s00 E.1 y_SB_append_882 (.code y_SB_append_882 b_SB_append_882 2 (some ((.object "java/lang/StringBuilder")))) { frames := 5, cells := mc, slots := ms, locals := 75 } [.ref a0, .int x1] h Post := by
  refine fs_Ct.ofS hE.1 (by decide +kernel) ?_
  intro p e R s m below meth c hRf hRl hRc hRs B hout hP
  skip
  obtain ⟨hx, hb, hr, hml, hown, hts, hlocks, hname, hK, hw, htr⟩ := id B
  have hown : s.vm.findClass "java/lang/StringBuilder" = some m.cls := hown
  have hS := hw.S
  have hl := lv_entry ([.ref a0, .int x1]) (n := 2) (Nat.le_of_ble_eq_true rfl)
  rw [lg_entry_eq]
  generalize (lg_sl ([.ref a0, .int x1]) ++ List.replicate (2 - (lg_sl ([.ref a0, .int x1])).length) Slot.unset).toArray = ls at hl ⊢
  have hl : lv_has ls 2 [(0, .ref a0), (1, .int x1)] := hl
  unfold w_SB_append_882 at hq
  refine lv_aload_n hx hb d_SB_append_882_0 rfl (lv_at hl 0 rfl) ?_
  refine lv_iload_n hx hb d_SB_append_882_1 rfl (lv_at hl 1 rfl) ?_
  obtain ⟨c101, s102, hc_, hs_, hq⟩ := hq
  obtain ⟨hi_, hq⟩ := hq
  obtain ⟨fs_, he_⟩ := fs_isc_some hi_
  refine fs_cX B hl.1 hP hS (kw_AB_append_b10 hE hq) (fs_tb_at 1383 tw_1383 rfl) he_ rfl (fs_tb_at 1871 tw_1871 rfl) (fs_tb_at 242 tw_242 rfl) (fs_tb_at 1384 tw_1384 rfl) (fs_tb_at 92 tw_92 rfl) (fs_tb_at 1385 tw_1385 rfl) (by decide) (show (parseMethodDescriptor y_AB_append_b10.desc).map (fun d => d.parameters.length) = some 1 by decide +kernel) rfl d_SB_append_882_2 (fs_rm (k := 0) (by omega) (by omega) (by omega) (by omega) rfl) (fun v_ h103 H locs hq hP hS => ?_) (fun C_ a_ h_ H locs hq hP hS hX => fs_out (hout _) hlocks hw hP hS hX (show (0 + c101) ≤ mc by omega) (show (0 + s102) ≤ ms by omega) hq)
  refine fs_cs (k := (0 + c101)) (n := (0 + s102)) rfl rfl ?_
  replace hq := fs_kr_some hq
  obtain ⟨a104, rfl, hq⟩ := hq
  refine W.eq (g2 := F0 m 5 ls (.ref a104 :: [])) rfl ?_
  refine lv_pop hx hb d_SB_append_882_5 rfl ?_
  refine lv_aload_n hx hb d_SB_append_882_6 rfl (lv_at hl 0 rfl) ?_
  exact fs_aret hx hb hr (Or.inl ⟨_, rfl⟩) (Or.inr ⟨_, rfl⟩) hlocks hw hP hS (by omega) (by omega) hq d_SB_append_882_7
def w_AB_inflateIfNeededFor (E : fs_E) (h : fs_Hp) (a0 : Nat) (x1 : Nat) (Post : fs_Ps) : Prop := fs_gi h a0 11 1 (fun x102 => (x1 < 8 ∧ w_ST_coder E h x1 (fs_ki (fun x104 h103 => (if x102 = x104 then Post (.inl none) h103 else False)) (fun C_ h_ => Post (.inr C_) h_))))
set_option maxHeartbeats 4000000 in
set_option maxRecDepth 100000 in
theorem kw_AB_inflateIfNeededFor {l : Launch} {s00 : State} {E : fs_E} (hE : fs_SE l s00 E) {h : fs_Hp} {a0 : Nat} {x1 : Nat} {Post : fs_Ps} (hq : w_AB_inflateIfNeededFor E h a0 x1 Post) : fs_Ct l s00 E.1 y_AB_inflateIfNeededFor (.code y_AB_inflateIfNeededFor b_AB_inflateIfNeededFor 2 none) { frames := 1, cells := 0, slots := 0, locals := 13 } [.ref a0, .ref (E.2 (16 + x1))] h Post := by
  refine fs_Ct.ofS hE.1 (by decide +kernel) ?_
  intro p e R s m below meth c hRf hRl hRc hRs B hout hP
  skip
  obtain ⟨hx, hb, hr, hml, hown, hts, hlocks, hname, hK, hw, htr⟩ := id B
  have hown : s.vm.findClass "java/lang/AbstractStringBuilder" = some m.cls := hown
  have hS := hw.S
  have hl := lv_entry ([.ref a0, .ref (E.2 (16 + x1))]) (n := 2) (Nat.le_of_ble_eq_true rfl)
  rw [lg_entry_eq]
  generalize (lg_sl ([.ref a0, .ref (E.2 (16 + x1))]) ++ List.replicate (2 - (lg_sl ([.ref a0, .ref (E.2 (16 + x1))])).length) Slot.unset).toArray = ls at hl ⊢
  have hl : lv_has ls 2 [(0, .ref a0), (1, .ref (E.2 (16 + x1)))] := hl
  unfold w_AB_inflateIfNeededFor at hq
  refine fs_gets hx hb (fs_zi hE (i := 2) na_2 (List.mem_of_getElem? tw_221) (List.mem_of_getElem? tw_94)) hw hS hown (hts _ (fs_tb_at 220 tw_220 rfl)) d_AB_inflateIfNeededFor_0 ?_
  refine lv_if_eq (tgt := 21) hx hb d_AB_inflateIfNeededFor_3 (by decide) (fun c_101 => ?_) (fun c_101 => ?_)
  · exact absurd c_101 (by decide)
  · refine lv_aload_n hx hb d_AB_inflateIfNeededFor_6 rfl (lv_at hl 0 rfl) ?_
    obtain ⟨fs_, x102, he_, hv_, hq⟩ := fs_gi_some hq
    refine fs_get hx hb hts hown hK c_SB hP he_ 1 (by decide) (hts _ (fs_tb_at 230 tw_230 rfl)) (fun _ h9 => h9) hv_ d_AB_inflateIfNeededFor_7 ?_
    refine lv_aload_n hx hb d_AB_inflateIfNeededFor_10 rfl (lv_at hl 1 rfl) ?_
    obtain ⟨hj_, hq⟩ := hq
    refine fs_cVS B hl.1 hP hS (kw_ST_coder hE hq) (fs_tb_at 1177 tw_1177 rfl) (fs_text hE x1 hj_).1 (fs_tb_at 744 tw_744 rfl) (fs_tb_at 745 tw_745 rfl) (fs_tb_at 94 tw_94 rfl) (fs_tb_at 746 tw_746 rfl) (by decide) (show (parseMethodDescriptor y_ST_coder.desc).map (fun d => d.parameters.length) = some 0 by decide +kernel) rfl d_AB_inflateIfNeededFor_11 (fs_rm (k := 1) (by omega) (by omega) (by omega) (by omega) rfl) (fun v_ h103 H locs hq hP hS => ?_) (fun C_ a_ h_ H locs hq hP hS hX => fs_out (hout _) hlocks hw hP hS hX (Nat.le_of_ble_eq_true rfl) (Nat.le_of_ble_eq_true rfl) hq)
    refine fs_cs (k := 0) (n := 0) rfl rfl ?_
    replace hq := fs_ki_some hq
    obtain ⟨x104, rfl, hq⟩ := hq
    refine W.eq (g2 := F0 m 14 ls (.int x104 :: .int x102 :: [])) rfl ?_
    refine lv_icmp_eq (tgt := 21) hx hb d_AB_inflateIfNeededFor_14 (by decide) (fun c_105 => ?_) (fun c_105 => ?_)
    · have hq := fs_wifp c_105 hq
      exact fs_vret hx hb hr hlocks hw hP hS (Nat.le_refl _) (Nat.le_refl _) hq d_AB_inflateIfNeededFor_21
    · have hq := fs_wifn c_105 hq
      refine lv_aload_n hx hb d_AB_inflateIfNeededFor_17 rfl (lv_at hl 0 rfl) ?_
      exact False.elim hq
def w_AB_putStringAt (E : fs_E) (h : fs_Hp) (a0 : Nat) (x1 : Int32) (x2 : Nat) (Post : fs_Ps) : Prop := fs_isc h a0 11 ∧ (w_AB_inflateIfNeededFor E h a0 x2 (fs_kv (fun h101 => fs_gr h101 a0 11 0 (fun a102 => fs_gi h101 a0 11 1 (fun x103 => (x2 < 8 ∧ w_ST_getBytes E h101 x2 a102 x1 x103 (fs_kv (fun h104 => Post (.inl none) h104) (fun C_ h_ => Post (.inr C_) h_)))))) (fun C_ h_ => Post (.inr C_) h_)))
set_option maxHeartbeats 4000000 in
set_option maxRecDepth 100000 in
theorem kw_AB_putStringAt {l : Launch} {s00 : State} {E : fs_E} (hE : fs_SE l s00 E) {h : fs_Hp} {a0 : Nat} {x1 : Int32} {x2 : Nat} {Post : fs_Ps} (hq : w_AB_putStringAt E h a0 x1 x2 Post) : fs_Ct l s00 E.1 y_AB_putStringAt (.code y_AB_putStringAt b_AB_putStringAt 3 none) { frames := 2, cells := 0, slots := 0, locals := 33 } [.ref a0, .int x1, .ref (E.2 (16 + x2))] h Post := by
  refine fs_Ct.ofS hE.1 (by decide +kernel) ?_
  intro p e R s m below meth c hRf hRl hRc hRs B hout hP
  skip
  obtain ⟨hx, hb, hr, hml, hown, hts, hlocks, hname, hK, hw, htr⟩ := id B
  have hown : s.vm.findClass "java/lang/AbstractStringBuilder" = some m.cls := hown
  have hS := hw.S
  have hl := lv_entry ([.ref a0, .int x1, .ref (E.2 (16 + x2))]) (n := 3) (Nat.le_of_ble_eq_true rfl)
  rw [lg_entry_eq]
  generalize (lg_sl ([.ref a0, .int x1, .ref (E.2 (16 + x2))]) ++ List.replicate (3 - (lg_sl ([.ref a0, .int x1, .ref (E.2 (16 + x2))])).length) Slot.unset).toArray = ls at hl ⊢
  have hl : lv_has ls 3 [(0, .ref a0), (1, .int x1), (2, .ref (E.2 (16 + x2)))] := hl
  unfold w_AB_putStringAt at hq
  refine lv_aload_n hx hb d_AB_putStringAt_0 rfl (lv_at hl 0 rfl) ?_
  refine lv_aload_n hx hb d_AB_putStringAt_1 rfl (lv_at hl 2 rfl) ?_
  obtain ⟨hi_, hq⟩ := hq
  obtain ⟨fs_, he_⟩ := fs_isc_some hi_
  refine fs_cVP B hl.1 hP hS (kw_AB_inflateIfNeededFor hE hq) (fs_tb_at 1173 tw_1173 rfl) he_ rfl (fs_tb_at 1868 tw_1868 rfl) (fs_prv hE hw (List.mem_of_getElem? tw_1174)) (fs_tb_at 1175 tw_1175 rfl) (fs_tb_at 92 tw_92 rfl) (fs_tb_at 1176 tw_1176 rfl) (by decide) (show (parseMethodDescriptor y_AB_inflateIfNeededFor.desc).map (fun d => d.parameters.length) = some 1 by decide +kernel) rfl d_AB_putStringAt_2 (fs_rm (k := 0) (by omega) (by omega) (by omega) (by omega) rfl) (fun v_ h101 H locs hq hP hS => ?_) (fun C_ a_ h_ H locs hq hP hS hX => fs_out (hout _) hlocks hw hP hS hX (Nat.le_of_ble_eq_true rfl) (Nat.le_of_ble_eq_true rfl) hq)
  refine fs_cs (k := 0) (n := 0) rfl rfl ?_
  replace hq := fs_kv_some hq
  obtain ⟨rfl, hq⟩ := hq
  refine W.eq (g2 := F0 m 5 ls ([])) rfl ?_
  refine lv_aload_n hx hb d_AB_putStringAt_5 rfl (lv_at hl 2 rfl) ?_
  refine lv_aload_n hx hb d_AB_putStringAt_6 rfl (lv_at hl 0 rfl) ?_
  obtain ⟨fs_, a102, he_, hv_, hq⟩ := fs_gr_some hq
  refine fs_get hx hb hts hown hK c_SB hP he_ 0 (by decide) (hts _ (fs_tb_at 229 tw_229 rfl)) (fun _ h9 => h9) hv_ d_AB_putStringAt_7 ?_
  refine lv_iload_n hx hb d_AB_putStringAt_10 rfl (lv_at hl 1 rfl) ?_
  refine lv_aload_n hx hb d_AB_putStringAt_11 rfl (lv_at hl 0 rfl) ?_
  obtain ⟨fs_, x103, he_, hv_, hq⟩ := fs_gi_some hq
  refine fs_get hx hb hts hown hK c_SB hP he_ 1 (by decide) (hts _ (fs_tb_at 230 tw_230 rfl)) (fun _ h9 => h9) hv_ d_AB_putStringAt_12 ?_
  obtain ⟨hj_, hq⟩ := hq
  refine fs_cVS B hl.1 hP hS (kw_ST_getBytes hE hq) (fs_tb_at 1197 tw_1197 rfl) (fs_text hE x2 hj_).1 (fs_tb_at 1198 tw_1198 rfl) (fs_tb_at 1199 tw_1199 rfl) (fs_tb_at 94 tw_94 rfl) (fs_tb_at 1200 tw_1200 rfl) (by decide) (show (parseMethodDescriptor y_ST_getBytes.desc).map (fun d => d.parameters.length) = some 3 by decide +kernel) rfl d_AB_putStringAt_15 (fs_rm (k := 0) (by omega) (by omega) (by omega) (by omega) rfl) (fun v_ h104 H locs hq hP hS => ?_) (fun C_ a_ h_ H locs hq hP hS hX => fs_out (hout _) hlocks hw hP hS hX (Nat.le_of_ble_eq_true rfl) (Nat.le_of_ble_eq_true rfl) hq)
  refine fs_cs (k := 0) (n := 0) rfl rfl ?_
  replace hq := fs_kv_some hq
  obtain ⟨rfl, hq⟩ := hq
  refine W.eq (g2 := F0 m 18 ls ([])) rfl ?_
  exact fs_vret hx hb hr hlocks hw hP hS (Nat.le_refl _) (Nat.le_refl _) hq d_AB_putStringAt_18
def w_AB_append_a22 (mc ms : Nat) (E : fs_E) (h : fs_Hp) (a0 : Nat) (x1 : Nat) (Post : fs_Ps) : Prop := (x1 < 8 ∧ w_ST_length E h x1 (fs_ki (fun x102 h101 => fs_gi h101 a0 11 3 (fun x103 => ∃ c104 s105 : Nat, c104 ≤ mc ∧ s105 ≤ ms ∧ (fs_isc h101 a0 11 ∧ (w_AB_ensureCapacityInternal c104 s105 E h101 a0 (x103 + x102) (fs_kv (fun h106 => fs_gi h106 a0 11 3 (fun x107 => fs_isc h106 a0 11 ∧ (w_AB_putStringAt E h106 a0 x107 x1 (fs_kv (fun h108 => fs_gi h108 a0 11 3 (fun x109 => fs_pw h108 a0 11 3 (.int (x109 + x102)) (fun h110 => Post (.inl (some (.ref a0))) h110))) (fun C_ h_ => Post (.inr C_) h_))))) (fun C_ h_ => Post (.inr C_) h_)))))) (fun C_ h_ => Post (.inr C_) h_)))
set_option maxHeartbeats 4000000 in
set_option maxRecDepth 100000 in
theorem kw_AB_append_a22 {l : Launch} {s00 : State} {E : fs_E} (hE : fs_SE l s00 E) {mc ms : Nat} {h : fs_Hp} {a0 : Nat} {x1 : Nat} {Post : fs_Ps} (hq : w_AB_append_a22 mc ms E h a0 x1 Post) : fs_Ct l s00 E.1 y_AB_append_a22 (.code y_AB_append_a22 b_AB_append_a22 3 (some ((.object "java/lang/AbstractStringBuilder")))) { frames := 4, cells := mc, slots := ms, locals := 62 } [.ref a0, .ref (E.2 (16 + x1))] h Post := by
  refine fs_Ct.ofS hE.1 (by decide +kernel) ?_
  intro p e R s m below meth c hRf hRl hRc hRs B hout hP
  skip
  obtain ⟨hx, hb, hr, hml, hown, hts, hlocks, hname, hK, hw, htr⟩ := id B
  have hown : s.vm.findClass "java/lang/AbstractStringBuilder" = some m.cls := hown
  have hS := hw.S
  have hl := lv_entry ([.ref a0, .ref (E.2 (16 + x1))]) (n := 3) (Nat.le_of_ble_eq_true rfl)
  rw [lg_entry_eq]
  generalize (lg_sl ([.ref a0, .ref (E.2 (16 + x1))]) ++ List.replicate (3 - (lg_sl ([.ref a0, .ref (E.2 (16 + x1))])).length) Slot.unset).toArray = ls at hl ⊢
  have hl : lv_has ls 3 [(0, .ref a0), (1, .ref (E.2 (16 + x1)))] := hl
  unfold w_AB_append_a22 at hq
  refine lv_aload_n hx hb d_AB_append_a22_0 rfl (lv_at hl 1 rfl) ?_
  refine lv_ifnonnull (tgt := 9) hx hb d_AB_append_a22_1 (by decide) ?_
  refine lv_aload_n hx hb d_AB_append_a22_9 rfl (lv_at hl 1 rfl) ?_
  obtain ⟨hj_, hq⟩ := hq
  refine fs_cVS B hl.1 hP hS (kw_ST_length hE hq) (fs_tb_at 1168 tw_1168 rfl) (fs_text hE x1 hj_).1 (fs_tb_at 740 tw_740 rfl) (fs_tb_at 741 tw_741 rfl) (fs_tb_at 94 tw_94 rfl) (fs_tb_at 742 tw_742 rfl) (by decide) (show (parseMethodDescriptor y_ST_length.desc).map (fun d => d.parameters.length) = some 0 by decide +kernel) rfl d_AB_append_a22_10 (fs_rm (k := 0) (by omega) (by omega) (by omega) (by omega) rfl) (fun v_ h101 H locs hq hP hS => ?_) (fun C_ a_ h_ H locs hq hP hS hX => fs_out (hout _) hlocks hw hP hS hX (show 0 ≤ mc by omega) (show 0 ≤ ms by omega) hq)
  refine fs_cs (k := 0) (n := 0) rfl rfl ?_
  replace hq := fs_ki_some hq
  obtain ⟨x102, rfl, hq⟩ := hq
  refine W.eq (g2 := F0 m 13 ls (.int x102 :: [])) rfl ?_
  refine lv_istore_n (lv' := [(2, .int x102), (0, .ref a0), (1, .ref (E.2 (16 + x1)))]) hx hb d_AB_append_a22_13 rfl hl (by decide) rfl (fun ls hl => ?_)
  refine lv_aload_n hx hb d_AB_append_a22_14 rfl (lv_at hl 1 rfl) ?_
  refine lv_aload_n hx hb d_AB_append_a22_15 rfl (lv_at hl 1 rfl) ?_
  obtain ⟨fs_, x103, he_, hv_, hq⟩ := fs_gi_some hq
  refine fs_get hx hb hts hown hK c_SB hP he_ 3 (by decide) (hts _ (fs_tb_at 233 tw_233 rfl)) (fun _ h9 => h9) hv_ d_AB_append_a22_16 ?_
  refine lv_iload_n hx hb d_AB_append_a22_19 rfl (lv_at hl 0 rfl) ?_
  refine lv_iadd hx hb d_AB_append_a22_20 ?_
  obtain ⟨c104, s105, hc_, hs_, hq⟩ := hq
  obtain ⟨hi_, hq⟩ := hq
  obtain ⟨fs_, he_⟩ := fs_isc_some hi_
  refine fs_cVP B hl.1 hP hS (kw_AB_ensureCapacityInternal hE hq) (fs_tb_at 1117 tw_1117 rfl) he_ rfl (fs_tb_at 1865 tw_1865 rfl) (fs_prv hE hw (List.mem_of_getElem? tw_1118)) (fs_tb_at 1119 tw_1119 rfl) (fs_tb_at 92 tw_92 rfl) (fs_tb_at 1120 tw_1120 rfl) (by decide) (show (parseMethodDescriptor y_AB_ensureCapacityInternal.desc).map (fun d => d.parameters.length) = some 1 by decide +kernel) rfl d_AB_append_a22_21 (fs_rm (k := 0) (by omega) (by omega) (by omega) (by omega) rfl) (fun v_ h106 H locs hq hP hS => ?_) (fun C_ a_ h_ H locs hq hP hS hX => fs_out (hout _) hlocks hw hP hS hX (show (0 + c104) ≤ mc by omega) (show (0 + s105) ≤ ms by omega) hq)
  refine fs_cs (k := (0 + c104)) (n := (0 + s105)) rfl rfl ?_
  replace hq := fs_kv_some hq
  obtain ⟨rfl, hq⟩ := hq
  refine W.eq (g2 := F0 m 24 ls ([])) rfl ?_
  refine lv_aload_n hx hb d_AB_append_a22_24 rfl (lv_at hl 1 rfl) ?_
  refine lv_aload_n hx hb d_AB_append_a22_25 rfl (lv_at hl 1 rfl) ?_
  obtain ⟨fs_, x107, he_, hv_, hq⟩ := fs_gi_some hq
  refine fs_get hx hb hts hown hK c_SB hP he_ 3 (by decide) (hts _ (fs_tb_at 233 tw_233 rfl)) (fun _ h9 => h9) hv_ d_AB_append_a22_26 ?_
  refine lv_aload_n hx hb d_AB_append_a22_29 rfl (lv_at hl 2 rfl) ?_
  obtain ⟨hi_, hq⟩ := hq
  obtain ⟨fs_, he_⟩ := fs_isc_some hi_
  refine fs_cVP B hl.1 hP hS (kw_AB_putStringAt hE hq) (fs_tb_at 1169 tw_1169 rfl) he_ rfl (fs_tb_at 1867 tw_1867 rfl) (fs_prv hE hw (List.mem_of_getElem? tw_1170)) (fs_tb_at 1171 tw_1171 rfl) (fs_tb_at 92 tw_92 rfl) (fs_tb_at 1172 tw_1172 rfl) (by decide) (show (parseMethodDescriptor y_AB_putStringAt.desc).map (fun d => d.parameters.length) = some 2 by decide +kernel) rfl d_AB_append_a22_30 (fs_rm (k := 0) (by omega) (by omega) (by omega) (by omega) rfl) (fun v_ h108 H locs hq hP hS => ?_) (fun C_ a_ h_ H locs hq hP hS hX => fs_out (hout _) hlocks hw hP hS hX (show (0 + c104) ≤ mc by omega) (show (0 + s105) ≤ ms by omega) hq)
  refine fs_cs (k := (0 + c104)) (n := (0 + s105)) rfl rfl ?_
  replace hq := fs_kv_some hq
  obtain ⟨rfl, hq⟩ := hq
  refine W.eq (g2 := F0 m 33 ls ([])) rfl ?_
  refine lv_aload_n hx hb d_AB_append_a22_33 rfl (lv_at hl 1 rfl) ?_
  refine lv_dup hx hb d_AB_append_a22_34 rfl ?_
  obtain ⟨fs_, x109, he_, hv_, hq⟩ := fs_gi_some hq
  refine fs_get hx hb hts hown hK c_SB hP he_ 3 (by decide) (hts _ (fs_tb_at 233 tw_233 rfl)) (fun _ h9 => h9) hv_ d_AB_append_a22_35 ?_
  refine lv_iload_n hx hb d_AB_append_a22_38 rfl (lv_at hl 0 rfl) ?_
  refine lv_iadd hx hb d_AB_append_a22_39 ?_
  obtain ⟨fs_, h110, e_, hl_, eh_, hq⟩ := fs_pw_some hq
  refine fs_put hx hb hts hown hK c_SB hP hS e_ 3 (by decide) (hts _ (fs_tb_at 233 tw_233 rfl)) (fun _ h9 => h9) rfl rfl rfl hl_ d_AB_append_a22_40 (fun H locs hP hS => ?_)
  rw [← eh_] at hP
  refine lv_aload_n hx hb d_AB_append_a22_43 rfl (lv_at hl 1 rfl) ?_
  exact fs_aret hx hb hr (Or.inl ⟨_, rfl⟩) (Or.inr ⟨_, rfl⟩) hlocks hw hP hS (by omega) (by omega) hq d_AB_append_a22_44
def w_SB_append_59e (mc ms : Nat) (E : fs_E) (h : fs_Hp) (a0 : Nat) (x1 : Nat) (Post : fs_Ps) : Prop := ∃ c101 s102 : Nat, c101 ≤ mc ∧ s102 ≤ ms ∧ (fs_isc h a0 11 ∧ (w_AB_append_a22 c101 s102 E h a0 x1 (fs_kr (fun a104 h103 => Post (.inl (some (.ref a0))) h103) (fun C_ h_ => Post (.inr C_) h_))))
set_option maxHeartbeats 4000000 in
set_option maxRecDepth 100000 in
theorem kw_SB_append_59e {l : Launch} {s00 : State} {E : fs_E} (hE : fs_SE l s00 E) {mc ms : Nat} {h : fs_Hp} {a0 : Nat} {x1 : Nat} {Post : fs_Ps} (hq : w_SB_append_59e mc ms E h a0 x1 Post) : fs_Ct l s00 E.1 y_SB_append_59e (.code y_SB_append_59e b_SB_append_59e 2 (some ((.object "java/lang/StringBuilder")))) { frames := 5, cells := mc, slots := ms, locals := 76 } [.ref a0, .ref (E.2 (16 + x1))] h Post := by
  refine fs_Ct.ofS hE.1 (by decide +kernel) ?_
  intro p e R s m below meth c hRf hRl hRc hRs B hout hP
  skip
  obtain ⟨hx, hb, hr, hml, hown, hts, hlocks, hname, hK, hw, htr⟩ := id B
  have hown : s.vm.findClass "java/lang/StringBuilder" = some m.cls := hown
  have hS := hw.S
  have hl := lv_entry ([.ref a0, .ref (E.2 (16 + x1))]) (n := 2) (Nat.le_of_ble_eq_true rfl)
  rw [lg_entry_eq]
  generalize (lg_sl ([.ref a0, .ref (E.2 (16 + x1))]) ++ List.replicate (2 - (lg_sl ([.ref a0, .ref (E.2 (16 + x1))])).length) Slot.unset).toArray = ls at hl ⊢
  have hl : lv_has ls 2 [(0, .ref a0), (1, .ref (E.2 (16 + x1)))] := hl
  unfold w_SB_append_59e at hq
  refine lv_aload_n hx hb d_SB_append_59e_0 rfl (lv_at hl 0 rfl) ?_
  refine lv_aload_n hx hb d_SB_append_59e_1 rfl (lv_at hl 1 rfl) ?_
  obtain ⟨c101, s102, hc_, hs_, hq⟩ := hq
  obtain ⟨hi_, hq⟩ := hq
  obtain ⟨fs_, he_⟩ := fs_isc_some hi_
  refine fs_cX B hl.1 hP hS (kw_AB_append_a22 hE hq) (fs_tb_at 1110 tw_1110 rfl) he_ rfl (fs_tb_at 1863 tw_1863 rfl) (fs_tb_at 242 tw_242 rfl) (fs_tb_at 1111 tw_1111 rfl) (fs_tb_at 92 tw_92 rfl) (fs_tb_at 1112 tw_1112 rfl) (by decide) (show (parseMethodDescriptor y_AB_append_a22.desc).map (fun d => d.parameters.length) = some 1 by decide +kernel) rfl d_SB_append_59e_2 (fs_rm (k := 0) (by omega) (by omega) (by omega) (by omega) rfl) (fun v_ h103 H locs hq hP hS => ?_) (fun C_ a_ h_ H locs hq hP hS hX => fs_out (hout _) hlocks hw hP hS hX (show (0 + c101) ≤ mc by omega) (show (0 + s102) ≤ ms by omega) hq)
  refine fs_cs (k := (0 + c101)) (n := (0 + s102)) rfl rfl ?_
  replace hq := fs_kr_some hq
  obtain ⟨a104, rfl, hq⟩ := hq
  refine W.eq (g2 := F0 m 5 ls (.ref a104 :: [])) rfl ?_
  refine lv_pop hx hb d_SB_append_59e_5 rfl ?_
  refine lv_aload_n hx hb d_SB_append_59e_6 rfl (lv_at hl 0 rfl) ?_
  exact fs_aret hx hb hr (Or.inl ⟨_, rfl⟩) (Or.inr ⟨_, rfl⟩) hlocks hw hP hS (by omega) (by omega) hq d_SB_append_59e_7
def w_IN_stringSize_L16 (E : fs_E) (K : fs_Hp → Prop) (Post : fs_Ps) : Nat → Int32 → Int32 → Int32 → Int32 → fs_Hp → Prop
  | 0 => fun _ _ _ _ _ => False
  | n + 1 => fun z0 z1 z2 z3 h1 => (if 10 ≤ z3 then K h1 else (if z0 ≤ z2 then (w_IN_stringSize_L16 E K Post n) z0 z1 (10 * z2) (z3 + 1) h1 else Post (.inl (some (.int (z3 + z1)))) h1))
def w_IN_stringSize (E : fs_E) (h : fs_Hp) (x1 : Int32) (Post : fs_Ps) : Prop := (if x1 < 0 then (∃ n105 : Nat, w_IN_stringSize_L16 E (fun h104 => Post (.inl (some (.int (10 + 1)))) h104) Post n105 x1 1 (-10) 1 h) else (∃ n107 : Nat, w_IN_stringSize_L16 E (fun h106 => Post (.inl (some (.int (10 + 0)))) h106) Post n107 (-x1) 0 (-10) 1 h))
set_option maxHeartbeats 4000000 in
set_option maxRecDepth 100000 in
theorem lw_w_IN_stringSize_16 {p : Program} {l : Launch} {e : Env} {R : Room} {s : State} {m : MethodId} {args : Array Value} {below : List Frame} {meth : Method} {c : Code} {s00 : State} {E : fs_E} {Post : fs_Ps} (hE : fs_SE l s00 E) (B : fs_B p l e s m args meth c s00 E.1 y_IN_stringSize b_IN_stringSize 4 (some .int)) (hout : ∀ pc, ∀ x ∈ c.exceptionTable.toList, covers x pc = false) (hRf : 0 ≤ R.frames) (hRl : 0 ≤ R.locals) (K : fs_Hp → Prop) : ∀ (n : Nat) (z0 : Int32) (z1 : Int32) (z2 : Int32) (z3 : Int32) (h1 : fs_Hp) (H : Heap) (locs : List Loc) (ls : Array Slot), w_IN_stringSize_L16 E K Post n z0 z1 z2 z3 h1 → fs_P E.1.1 fs_cl (fs_A s00) h1 H → va_S (fs_A s00) s00.heap H locs → lv_has ls 4 [(0, .int z0), (1, .int z1), (2, .int z2), (3, .int z3)] → (∀  (h' : fs_Hp) (H : Heap) (locs : List Loc) (ls : Array Slot), K  h' → fs_P E.1.1 fs_cl (fs_A s00) h' H → va_S (fs_A s00) s00.heap H locs → lv_has ls 4 [(0, .int z0), (1, .int z1)] → W p l e R s m args below meth c H locs 0 0 (fx_MQ below (fs_Qc s00 E.1 Post) args s 0 0 (fs_A s00)) (F0 m 42 ls [])) → W p l e R s m args below meth c H locs 0 0 (fx_MQ below (fs_Qc s00 E.1 Post) args s 0 0 (fs_A s00)) (F0 m 16 ls []) := by
  obtain ⟨hx, hb, hr, hml, hown, hts, hlocks, hname, hK, hw, htr⟩ := id B
  have hown : s.vm.findClass "java/lang/Integer" = some m.cls := hown
  intro n
  induction n with
  | zero => intro z0 z1 z2 z3 h1 H locs ls hq; exact False.elim hq
  | succ n ih =>
    intro z0 z1 z2 z3 h1 H locs ls hq hP hS hl kk
    rw [w_IN_stringSize_L16] at hq
    refine lv_iload_n hx hb d_IN_stringSize_16 rfl (lv_at hl 3 rfl) ?_
    refine lv_bipush (v := 10) hx hb d_IN_stringSize_17 (by decide) ?_
    refine lv_icmp_ge (tgt := 42) hx hb d_IN_stringSize_19 (by decide) (fun c_102 => ?_) (fun c_102 => ?_)
    · have hq := fs_wifp c_102 hq
      exact kk  _ _ _ _ hq hP hS (show lv_has ls 4 [(0, .int z0), (1, .int z1)] from lv_sub hl [0, 1] rfl)
    · have hq := fs_wifn c_102 hq
      refine lv_iload_n hx hb d_IN_stringSize_22 rfl (lv_at hl 0 rfl) ?_
      refine lv_iload_n hx hb d_IN_stringSize_23 rfl (lv_at hl 2 rfl) ?_
      refine lv_icmp_le (tgt := 31) hx hb d_IN_stringSize_24 (by decide) (fun c_103 => ?_) (fun c_103 => ?_)
      · have hq := fs_wifp c_103 hq
        refine lv_bipush (v := 10) hx hb d_IN_stringSize_31 (by decide) ?_
        refine lv_iload_n hx hb d_IN_stringSize_33 rfl (lv_at hl 2 rfl) ?_
        refine lv_imul hx hb d_IN_stringSize_34 ?_
        refine lv_istore_n (lv' := [(2, .int (10 * z2)), (0, .int z0), (1, .int z1), (3, .int z3)]) hx hb d_IN_stringSize_35 rfl hl (by decide) rfl (fun ls hl => ?_)
        refine lv_iinc (v := z3 + 1) (lv' := [(3, .int (z3 + 1)), (2, .int (10 * z2)), (0, .int z0), (1, .int z1)]) hx hb d_IN_stringSize_36 hl (k := 3) rfl rfl (by decide) rfl (fun ls hl => ?_)
        refine lv_goto (tgt := 16) hx hb d_IN_stringSize_39 (by decide) ?_
        exact ih z0 z1 (10 * z2) (z3 + 1) _ _ _ _ hq hP hS (show lv_has ls 4 [(0, .int z0), (1, .int z1), (2, .int (10 * z2)), (3, .int (z3 + 1))] from lv_sub hl [2, 3, 1, 0] rfl) kk
      · have hq := fs_wifn c_103 hq
        refine lv_iload_n hx hb d_IN_stringSize_27 rfl (lv_at hl 3 rfl) ?_
        refine lv_iload_n hx hb d_IN_stringSize_28 rfl (lv_at hl 1 rfl) ?_
        refine lv_iadd hx hb d_IN_stringSize_29 ?_
        exact fs_iret hx hb hr hlocks hw hP hS (vp_nar_int _) (Nat.le_refl _) (Nat.le_refl _) hq d_IN_stringSize_30
set_option maxHeartbeats 4000000 in
set_option maxRecDepth 100000 in
theorem kw_IN_stringSize {l : Launch} {s00 : State} {E : fs_E} (hE : fs_SE l s00 E) {h : fs_Hp} {x1 : Int32} {Post : fs_Ps} (hq : w_IN_stringSize E h x1 Post) : fs_Ct l s00 E.1 y_IN_stringSize (.code y_IN_stringSize b_IN_stringSize 4 (some .int)) { frames := 0, cells := 0, slots := 0, locals := 0 } [.int x1] h Post := by
  refine fs_Ct.ofS hE.1 (by decide +kernel) ?_
  intro p e R s m below meth c hRf hRl hRc hRs B hout hP
  skip
  obtain ⟨hx, hb, hr, hml, hown, hts, hlocks, hname, hK, hw, htr⟩ := id B
  have hown : s.vm.findClass "java/lang/Integer" = some m.cls := hown
  have hS := hw.S
  have hl := lv_entry ([.int x1]) (n := 4) (Nat.le_of_ble_eq_true rfl)
  rw [lg_entry_eq]
  generalize (lg_sl ([.int x1]) ++ List.replicate (4 - (lg_sl ([.int x1])).length) Slot.unset).toArray = ls at hl ⊢
  have hl : lv_has ls 4 [(0, .int x1)] := hl
  unfold w_IN_stringSize at hq
  refine lv_iconst (v := 1) hx hb d_IN_stringSize_0 (by decide) ?_
  refine lv_istore_n (lv' := [(1, .int 1), (0, .int x1)]) hx hb d_IN_stringSize_1 rfl hl (by decide) rfl (fun ls hl => ?_)
  refine lv_iload_n hx hb d_IN_stringSize_2 rfl (lv_at hl 1 rfl) ?_
  refine lv_if_lt (tgt := 11) hx hb d_IN_stringSize_3 (by decide) (fun c_101 => ?_) (fun c_101 => ?_)
  · have hq := fs_wifp c_101 hq
    refine lv_bipush (v := (-10)) hx hb d_IN_stringSize_11 (by decide) ?_
    refine lv_istore_n (lv' := [(2, .int (-10)), (1, .int 1), (0, .int x1)]) hx hb d_IN_stringSize_13 rfl hl (by decide) rfl (fun ls hl => ?_)
    refine lv_iconst (v := 1) hx hb d_IN_stringSize_14 (by decide) ?_
    refine lv_istore_n (lv' := [(3, .int 1), (2, .int (-10)), (1, .int 1), (0, .int x1)]) hx hb d_IN_stringSize_15 rfl hl (by decide) rfl (fun ls hl => ?_)
    obtain ⟨n105, hq⟩ := hq
    refine lw_w_IN_stringSize_16 hE B hout (by omega) (by omega) _ n105 x1 1 (-10) 1 _ _ _ _ hq hP hS (show lv_has ls 4 [(0, .int x1), (1, .int 1), (2, .int (-10)), (3, .int 1)] from lv_sub hl [3, 2, 1, 0] rfl) (fun  h104 H locs ls hq hP hS hl => ?_)
    refine lv_bipush (v := 10) hx hb d_IN_stringSize_42 (by decide) ?_
    refine lv_iload_n hx hb d_IN_stringSize_44 rfl (lv_at hl 1 rfl) ?_
    refine lv_iadd hx hb d_IN_stringSize_45 ?_
    exact fs_iret hx hb hr hlocks hw hP hS (vp_nar_int _) (Nat.le_refl _) (Nat.le_refl _) hq d_IN_stringSize_46
  · have hq := fs_wifn c_101 hq
    refine lv_iconst (v := 0) hx hb d_IN_stringSize_6 (by decide) ?_
    refine lv_istore_n (lv' := [(1, .int 0), (0, .int x1)]) hx hb d_IN_stringSize_7 rfl hl (by decide) rfl (fun ls hl => ?_)
    refine lv_iload_n hx hb d_IN_stringSize_8 rfl (lv_at hl 1 rfl) ?_
    refine lv_ineg hx hb d_IN_stringSize_9 ?_
    refine lv_istore_n (lv' := [(0, .int (-x1)), (1, .int 0)]) hx hb d_IN_stringSize_10 rfl hl (by decide) rfl (fun ls hl => ?_)
    refine lv_bipush (v := (-10)) hx hb d_IN_stringSize_11 (by decide) ?_
    refine lv_istore_n (lv' := [(2, .int (-10)), (0, .int (-x1)), (1, .int 0)]) hx hb d_IN_stringSize_13 rfl hl (by decide) rfl (fun ls hl => ?_)
    refine lv_iconst (v := 1) hx hb d_IN_stringSize_14 (by decide) ?_
    refine lv_istore_n (lv' := [(3, .int 1), (2, .int (-10)), (0, .int (-x1)), (1, .int 0)]) hx hb d_IN_stringSize_15 rfl hl (by decide) rfl (fun ls hl => ?_)
    obtain ⟨n107, hq⟩ := hq
    refine lw_w_IN_stringSize_16 hE B hout (by omega) (by omega) _ n107 (-x1) 0 (-10) 1 _ _ _ _ hq hP hS (show lv_has ls 4 [(0, .int (-x1)), (1, .int 0), (2, .int (-10)), (3, .int 1)] from lv_sub hl [2, 3, 1, 0] rfl) (fun  h106 H locs ls hq hP hS hl => ?_)
    refine lv_bipush (v := 10) hx hb d_IN_stringSize_42 (by decide) ?_
    refine lv_iload_n hx hb d_IN_stringSize_44 rfl (lv_at hl 1 rfl) ?_
    refine lv_iadd hx hb d_IN_stringSize_45 ?_
    exact fs_iret hx hb hr hlocks hw hP hS (vp_nar_int _) (Nat.le_refl _) (Nat.le_refl _) hq d_IN_stringSize_46
def w_IN_getChars_J104 (E : fs_E) (Post : fs_Ps) (z2 : Nat) (z5 : Int32) (z6 : Int32) (h1 : fs_Hp) : Prop := (if z6 = 0 then Post (.inl (some (.int z5))) h1 else fs_si h1 z2 (E.1.2 5) (z5 - 1) (vp_nar .byte 45) (fun h102 => Post (.inl (some (.int (z5 - 1)))) h102))
def w_IN_getChars_L22 (E : fs_E) (K : Int32 → Int32 → fs_Hp → Prop) (Post : fs_Ps) : Nat → Int32 → Nat → Int32 → Int32 → fs_Hp → Prop
  | 0 => fun _ _ _ _ _ => False
  | n + 1 => fun z0 z2 z5 z6 h1 => (if (-100) < z0 then K z0 z5 h1 else ¬ (100 : Int32) = 0 ∧ ((vp_in (((z0 / 100) * 100) - z0) 100 ∧ fs_si h1 z2 (E.1.2 5) (z5 - 1) (vp_nar .byte (fs_dt 10 (Int32.toNatClampNeg (((z0 / 100) * 100) - z0)))) (fun h105 => (vp_in (((z0 / 100) * 100) - z0) 100 ∧ fs_si h105 z2 (E.1.2 5) ((z5 - 1) - 1) (vp_nar .byte (fs_dt 9 (Int32.toNatClampNeg (((z0 / 100) * 100) - z0)))) (fun h106 => (w_IN_getChars_L22 E K Post n) (z0 / 100) z2 ((z5 - 1) - 1) z6 h106))))))
def w_IN_getChars_J12 (E : fs_E) (Post : fs_Ps) (z0 : Int32) (z2 : Nat) (z5 : Int32) (w0 : Int32) (h1 : fs_Hp) : Prop := (if w0 = 0 then (∃ n117 : Nat, w_IN_getChars_L22 E (fun y114 y115 h116 => (vp_in (-y114) 100 ∧ fs_si h116 z2 (E.1.2 5) (y115 - 1) (vp_nar .byte (fs_dt 10 (Int32.toNatClampNeg (-y114)))) (fun h118 => (if (-9) ≤ y114 then w_IN_getChars_J104 E Post z2 (y115 - 1) w0 h118 else (vp_in (-y114) 100 ∧ fs_si h118 z2 (E.1.2 5) ((y115 - 1) - 1) (vp_nar .byte (fs_dt 9 (Int32.toNatClampNeg (-y114)))) (fun h120 => w_IN_getChars_J104 E Post z2 ((y115 - 1) - 1) w0 h120)))))) Post n117 (-z0) z2 z5 w0 h1) else (∃ n110 : Nat, w_IN_getChars_L22 E (fun y107 y108 h109 => (vp_in (-y107) 100 ∧ fs_si h109 z2 (E.1.2 5) (y108 - 1) (vp_nar .byte (fs_dt 10 (Int32.toNatClampNeg (-y107)))) (fun h111 => (if (-9) ≤ y107 then w_IN_getChars_J104 E Post z2 (y108 - 1) w0 h111 else (vp_in (-y107) 100 ∧ fs_si h111 z2 (E.1.2 5) ((y108 - 1) - 1) (vp_nar .byte (fs_dt 9 (Int32.toNatClampNeg (-y107)))) (fun h113 => w_IN_getChars_J104 E Post z2 ((y108 - 1) - 1) w0 h113)))))) Post n110 z0 z2 z5 w0 h1))
def w_IN_getChars (E : fs_E) (h : fs_Hp) (x1 : Int32) (x2 : Int32) (x3 : Nat) (Post : fs_Ps) : Prop := (if 0 ≤ x1 then w_IN_getChars_J12 E Post x1 x3 x2 0 h else w_IN_getChars_J12 E Post x1 x3 x2 1 h)
set_option maxHeartbeats 4000000 in
set_option maxRecDepth 100000 in
theorem lw_w_IN_getChars_22 {p : Program} {l : Launch} {e : Env} {R : Room} {s : State} {m : MethodId} {args : Array Value} {below : List Frame} {meth : Method} {c : Code} {s00 : State} {E : fs_E} {Post : fs_Ps} (hE : fs_SE l s00 E) (B : fs_B p l e s m args meth c s00 E.1 y_IN_getChars b_IN_getChars 7 (some .int)) (hout : ∀ pc, ∀ x ∈ c.exceptionTable.toList, covers x pc = false) (hRf : 0 ≤ R.frames) (hRl : 0 ≤ R.locals) (K : Int32 → Int32 → fs_Hp → Prop) : ∀ (n : Nat) (z0 : Int32) (z2 : Nat) (z5 : Int32) (z6 : Int32) (h1 : fs_Hp) (H : Heap) (locs : List Loc) (ls : Array Slot), w_IN_getChars_L22 E K Post n z0 z2 z5 z6 h1 → fs_P E.1.1 fs_cl (fs_A s00) h1 H → va_S (fs_A s00) s00.heap H locs → lv_has ls 7 [(0, .int z0), (2, .ref z2), (5, .int z5), (6, .int z6)] → (∀ (y0 : Int32) (y5 : Int32) (h' : fs_Hp) (H : Heap) (locs : List Loc) (ls : Array Slot), K y0 y5 h' → fs_P E.1.1 fs_cl (fs_A s00) h' H → va_S (fs_A s00) s00.heap H locs → lv_has ls 7 [(0, .int y0), (2, .ref z2), (5, .int y5), (6, .int z6)] → W p l e R s m args below meth c H locs 0 0 (fx_MQ below (fs_Qc s00 E.1 Post) args s 0 0 (fs_A s00)) (F0 m 72 ls [])) → W p l e R s m args below meth c H locs 0 0 (fx_MQ below (fs_Qc s00 E.1 Post) args s 0 0 (fs_A s00)) (F0 m 22 ls []) := by
  obtain ⟨hx, hb, hr, hml, hown, hts, hlocks, hname, hK, hw, htr⟩ := id B
  have hown : s.vm.findClass "java/lang/Integer" = some m.cls := hown
  intro n
  induction n with
  | zero => intro z0 z2 z5 z6 h1 H locs ls hq; exact False.elim hq
  | succ n ih =>
    intro z0 z2 z5 z6 h1 H locs ls hq hP hS hl kk
    rw [w_IN_getChars_L22] at hq
    refine lv_iload_n hx hb d_IN_getChars_22 rfl (lv_at hl 0 rfl) ?_
    refine lv_bipush (v := (-100)) hx hb d_IN_getChars_23 (by decide) ?_
    refine lv_icmp_gt (tgt := 72) hx hb d_IN_getChars_25 (by decide) (fun c_104 => ?_) (fun c_104 => ?_)
    · have hq := fs_wifp c_104 hq
      exact kk z0 z5 _ _ _ _ hq hP hS (show lv_has ls 7 [(0, .int z0), (2, .ref z2), (5, .int z5), (6, .int z6)] from lv_sub hl [0, 1, 2, 3] rfl)
    · have hq := fs_wifn c_104 hq
      refine lv_iload_n hx hb d_IN_getChars_28 rfl (lv_at hl 0 rfl) ?_
      refine lv_bipush (v := 100) hx hb d_IN_getChars_29 (by decide) ?_
      obtain ⟨hk_, hq⟩ := hq
      refine lv_idiv hx hb d_IN_getChars_31 hk_ ?_
      refine lv_istore_n (lv' := [(3, .int (z0 / 100)), (0, .int z0), (2, .ref z2), (5, .int z5), (6, .int z6)]) hx hb d_IN_getChars_32 rfl hl (by decide) rfl (fun ls hl => ?_)
      refine lv_iload_n hx hb d_IN_getChars_33 rfl (lv_at hl 0 rfl) ?_
      refine lv_bipush (v := 100) hx hb d_IN_getChars_34 (by decide) ?_
      refine lv_imul hx hb d_IN_getChars_36 ?_
      refine lv_iload_n hx hb d_IN_getChars_37 rfl (lv_at hl 1 rfl) ?_
      refine lv_isub hx hb d_IN_getChars_38 ?_
      refine lv_istore (lv' := [(4, .int (((z0 / 100) * 100) - z0)), (3, .int (z0 / 100)), (0, .int z0), (2, .ref z2), (5, .int z5), (6, .int z6)]) hx hb d_IN_getChars_39 hl (by decide) rfl (fun ls hl => ?_)
      refine lv_iload_n hx hb d_IN_getChars_41 rfl (lv_at hl 1 rfl) ?_
      refine lv_istore_n (lv' := [(0, .int (z0 / 100)), (4, .int (((z0 / 100) * 100) - z0)), (3, .int (z0 / 100)), (2, .ref z2), (5, .int z5), (6, .int z6)]) hx hb d_IN_getChars_42 rfl hl (by decide) rfl (fun ls hl => ?_)
      refine lv_aload_n hx hb d_IN_getChars_43 rfl (lv_at hl 3 rfl) ?_
      refine lv_iinc (v := z5 - 1) (lv' := [(5, .int (z5 - 1)), (0, .int (z0 / 100)), (4, .int (((z0 / 100) * 100) - z0)), (3, .int (z0 / 100)), (2, .ref z2), (6, .int z6)]) hx hb d_IN_getChars_44 hl (k := 4) rfl (fs_dec1 _) (by decide) rfl (fun ls hl => ?_)
      refine lv_iload hx hb d_IN_getChars_47 (lv_at hl 0 rfl) ?_
      refine fs_gets hx hb (fs_zr hE (i := 10) rfl (List.mem_of_getElem? tw_1217) (List.mem_of_getElem? tw_123)) hw hS hown (hts _ (fs_tb_at 1216 tw_1216 rfl)) d_IN_getChars_49 ?_
      refine lv_iload hx hb d_IN_getChars_52 (lv_at hl 2 rfl) ?_
      obtain ⟨hi_, hq⟩ := hq
      refine fs_xba hx hb (fs_dig10 hE) hw hS hi_ d_IN_getChars_54 ?_
      obtain ⟨n_, f_, h105, e_, hi_, eh_, hq⟩ := fs_si_some hq
      refine fs_bast hx hb hK hP hS 5 e_ rfl hi_ d_IN_getChars_55 (fun H locs hP hS => ?_)
      rw [← eh_] at hP
      refine lv_aload_n hx hb d_IN_getChars_56 rfl (lv_at hl 4 rfl) ?_
      refine lv_iinc (v := (z5 - 1) - 1) (lv' := [(5, .int ((z5 - 1) - 1)), (0, .int (z0 / 100)), (4, .int (((z0 / 100) * 100) - z0)), (3, .int (z0 / 100)), (2, .ref z2), (6, .int z6)]) hx hb d_IN_getChars_57 hl (k := 0) rfl (fs_dec1 _) (by decide) rfl (fun ls hl => ?_)
      refine lv_iload hx hb d_IN_getChars_60 (lv_at hl 0 rfl) ?_
      refine fs_gets hx hb (fs_zr hE (i := 9) rfl (List.mem_of_getElem? tw_1219) (List.mem_of_getElem? tw_123)) hw hS hown (hts _ (fs_tb_at 1218 tw_1218 rfl)) d_IN_getChars_62 ?_
      refine lv_iload hx hb d_IN_getChars_65 (lv_at hl 2 rfl) ?_
      obtain ⟨hi_, hq⟩ := hq
      refine fs_xba hx hb (fs_dig9 hE) hw hS hi_ d_IN_getChars_67 ?_
      obtain ⟨n_, f_, h106, e_, hi_, eh_, hq⟩ := fs_si_some hq
      refine fs_bast hx hb hK hP hS 5 e_ rfl hi_ d_IN_getChars_68 (fun H locs hP hS => ?_)
      rw [← eh_] at hP
      refine lv_goto (tgt := 22) hx hb d_IN_getChars_69 (by decide) ?_
      exact ih (z0 / 100) z2 ((z5 - 1) - 1) z6 _ _ _ _ hq hP hS (show lv_has ls 7 [(0, .int (z0 / 100)), (2, .ref z2), (5, .int ((z5 - 1) - 1)), (6, .int z6)] from lv_sub hl [1, 4, 0, 5] rfl) kk
set_option maxHeartbeats 4000000 in
set_option maxRecDepth 100000 in
theorem kw_IN_getChars {l : Launch} {s00 : State} {E : fs_E} (hE : fs_SE l s00 E) {h : fs_Hp} {x1 : Int32} {x2 : Int32} {x3 : Nat} {Post : fs_Ps} (hq : w_IN_getChars E h x1 x2 x3 Post) : fs_Ct l s00 E.1 y_IN_getChars (.code y_IN_getChars b_IN_getChars 7 (some .int)) { frames := 0, cells := 0, slots := 0, locals := 0 } [.int x1, .int x2, .ref x3] h Post := by
  refine fs_Ct.ofS hE.1 (by decide +kernel) ?_
  intro p e R s m below meth c hRf hRl hRc hRs B hout hP
  skip
  obtain ⟨hx, hb, hr, hml, hown, hts, hlocks, hname, hK, hw, htr⟩ := id B
  have hown : s.vm.findClass "java/lang/Integer" = some m.cls := hown
  have hS := hw.S
  have hJ104 : ∀ (z2 : Nat) (z5 : Int32) (z6 : Int32) (h1 : fs_Hp) (H : Heap) (locs : List Loc) (ls : Array Slot), w_IN_getChars_J104 E Post z2 z5 z6 h1 → fs_P E.1.1 fs_cl (fs_A s00) h1 H → va_S (fs_A s00) s00.heap H locs → lv_has ls 7 [(2, .ref z2), (5, .int z5), (6, .int z6)] → W p l e R s m ([.int x1, .int x2, .ref x3] : List Value).toArray below meth c H locs 0 0 (fx_MQ below (fs_Qc s00 E.1 Post) ([.int x1, .int x2, .ref x3] : List Value).toArray s 0 0 (fs_A s00)) (F0 m 104 ls ([])) := by
    intro z2 z5 z6 h1 H locs ls hq hP hS hl
    unfold w_IN_getChars_J104 at hq
    refine lv_iload hx hb d_IN_getChars_104 (lv_at hl 2 rfl) ?_
    refine lv_if_eq (tgt := 118) hx hb d_IN_getChars_106 (by decide) (fun c_101 => ?_) (fun c_101 => ?_)
    · have hq := fs_wifp c_101 hq
      refine lv_iload hx hb d_IN_getChars_118 (lv_at hl 1 rfl) ?_
      exact fs_iret hx hb hr hlocks hw hP hS (vp_nar_int _) (Nat.le_refl _) (Nat.le_refl _) hq d_IN_getChars_120
    · have hq := fs_wifn c_101 hq
      refine lv_aload_n hx hb d_IN_getChars_109 rfl (lv_at hl 0 rfl) ?_
      refine lv_iinc (v := z5 - 1) (lv' := [(5, .int (z5 - 1)), (2, .ref z2), (6, .int z6)]) hx hb d_IN_getChars_110 hl (k := 1) rfl (fs_dec1 _) (by decide) rfl (fun ls hl => ?_)
      refine lv_iload hx hb d_IN_getChars_113 (lv_at hl 0 rfl) ?_
      refine lv_bipush (v := 45) hx hb d_IN_getChars_115 (by decide) ?_
      obtain ⟨n_, f_, h102, e_, hi_, eh_, hq⟩ := fs_si_some hq
      refine fs_bast hx hb hK hP hS 5 e_ rfl hi_ d_IN_getChars_117 (fun H locs hP hS => ?_)
      rw [← eh_] at hP
      refine lv_iload hx hb d_IN_getChars_118 (lv_at hl 0 rfl) ?_
      exact fs_iret hx hb hr hlocks hw hP hS (vp_nar_int _) (Nat.le_refl _) (Nat.le_refl _) hq d_IN_getChars_120
  have hJ12 : ∀ (z0 : Int32) (z2 : Nat) (z5 : Int32) (w0 : Int32) (h1 : fs_Hp) (H : Heap) (locs : List Loc) (ls : Array Slot), w_IN_getChars_J12 E Post z0 z2 z5 w0 h1 → fs_P E.1.1 fs_cl (fs_A s00) h1 H → va_S (fs_A s00) s00.heap H locs → lv_has ls 7 [(0, .int z0), (2, .ref z2), (5, .int z5)] → W p l e R s m ([.int x1, .int x2, .ref x3] : List Value).toArray below meth c H locs 0 0 (fx_MQ below (fs_Qc s00 E.1 Post) ([.int x1, .int x2, .ref x3] : List Value).toArray s 0 0 (fs_A s00)) (F0 m 12 ls (.int w0 :: [])) := by
    intro z0 z2 z5 w0 h1 H locs ls hq hP hS hl
    unfold w_IN_getChars_J12 at hq
    refine lv_istore (lv' := [(6, .int w0), (0, .int z0), (2, .ref z2), (5, .int z5)]) hx hb d_IN_getChars_12 hl (by decide) rfl (fun ls hl => ?_)
    refine lv_iload hx hb d_IN_getChars_14 (lv_at hl 0 rfl) ?_
    refine lv_if_ne (tgt := 22) hx hb d_IN_getChars_16 (by decide) (fun c_103 => ?_) (fun c_103 => ?_)
    · have hq := fs_wifn c_103 hq
      obtain ⟨n110, hq⟩ := hq
      refine lw_w_IN_getChars_22 hE B hout (by omega) (by omega) _ n110 z0 z2 z5 w0 _ _ _ _ hq hP hS (show lv_has ls 7 [(0, .int z0), (2, .ref z2), (5, .int z5), (6, .int w0)] from lv_sub hl [1, 2, 3, 0] rfl) (fun y107 y108 h109 H locs ls hq hP hS hl => ?_)
      refine lv_aload_n hx hb d_IN_getChars_72 rfl (lv_at hl 1 rfl) ?_
      refine lv_iinc (v := y108 - 1) (lv' := [(5, .int (y108 - 1)), (0, .int y107), (2, .ref z2), (6, .int w0)]) hx hb d_IN_getChars_73 hl (k := 2) rfl (fs_dec1 _) (by decide) rfl (fun ls hl => ?_)
      refine lv_iload hx hb d_IN_getChars_76 (lv_at hl 0 rfl) ?_
      refine fs_gets hx hb (fs_zr hE (i := 10) rfl (List.mem_of_getElem? tw_1217) (List.mem_of_getElem? tw_123)) hw hS hown (hts _ (fs_tb_at 1216 tw_1216 rfl)) d_IN_getChars_78 ?_
      refine lv_iload_n hx hb d_IN_getChars_81 rfl (lv_at hl 1 rfl) ?_
      refine lv_ineg hx hb d_IN_getChars_82 ?_
      obtain ⟨hi_, hq⟩ := hq
      refine fs_xba hx hb (fs_dig10 hE) hw hS hi_ d_IN_getChars_83 ?_
      obtain ⟨n_, f_, h111, e_, hi_, eh_, hq⟩ := fs_si_some hq
      refine fs_bast hx hb hK hP hS 5 e_ rfl hi_ d_IN_getChars_84 (fun H locs hP hS => ?_)
      rw [← eh_] at hP
      refine lv_iload_n hx hb d_IN_getChars_85 rfl (lv_at hl 1 rfl) ?_
      refine lv_bipush (v := (-9)) hx hb d_IN_getChars_86 (by decide) ?_
      refine lv_icmp_ge (tgt := 104) hx hb d_IN_getChars_88 (by decide) (fun c_112 => ?_) (fun c_112 => ?_)
      · have hq := fs_wifp c_112 hq
        exact hJ104 z2 (y108 - 1) w0 _ _ _ _ hq hP hS (show lv_has ls 7 [(2, .ref z2), (5, .int (y108 - 1)), (6, .int w0)] from lv_sub hl [2, 0, 3] rfl)
      · have hq := fs_wifn c_112 hq
        refine lv_aload_n hx hb d_IN_getChars_91 rfl (lv_at hl 2 rfl) ?_
        refine lv_iinc (v := (y108 - 1) - 1) (lv' := [(5, .int ((y108 - 1) - 1)), (0, .int y107), (2, .ref z2), (6, .int w0)]) hx hb d_IN_getChars_92 hl (k := 0) rfl (fs_dec1 _) (by decide) rfl (fun ls hl => ?_)
        refine lv_iload hx hb d_IN_getChars_95 (lv_at hl 0 rfl) ?_
        refine fs_gets hx hb (fs_zr hE (i := 9) rfl (List.mem_of_getElem? tw_1219) (List.mem_of_getElem? tw_123)) hw hS hown (hts _ (fs_tb_at 1218 tw_1218 rfl)) d_IN_getChars_97 ?_
        refine lv_iload_n hx hb d_IN_getChars_100 rfl (lv_at hl 1 rfl) ?_
        refine lv_ineg hx hb d_IN_getChars_101 ?_
        obtain ⟨hi_, hq⟩ := hq
        refine fs_xba hx hb (fs_dig9 hE) hw hS hi_ d_IN_getChars_102 ?_
        obtain ⟨n_, f_, h113, e_, hi_, eh_, hq⟩ := fs_si_some hq
        refine fs_bast hx hb hK hP hS 5 e_ rfl hi_ d_IN_getChars_103 (fun H locs hP hS => ?_)
        rw [← eh_] at hP
        exact hJ104 z2 ((y108 - 1) - 1) w0 _ _ _ _ hq hP hS (show lv_has ls 7 [(2, .ref z2), (5, .int ((y108 - 1) - 1)), (6, .int w0)] from lv_sub hl [2, 0, 3] rfl)
    · have hq := fs_wifp c_103 hq
      refine lv_iload_n hx hb d_IN_getChars_19 rfl (lv_at hl 1 rfl) ?_
      refine lv_ineg hx hb d_IN_getChars_20 ?_
      refine lv_istore_n (lv' := [(0, .int (-z0)), (6, .int w0), (2, .ref z2), (5, .int z5)]) hx hb d_IN_getChars_21 rfl hl (by decide) rfl (fun ls hl => ?_)
      obtain ⟨n117, hq⟩ := hq
      refine lw_w_IN_getChars_22 hE B hout (by omega) (by omega) _ n117 (-z0) z2 z5 w0 _ _ _ _ hq hP hS (show lv_has ls 7 [(0, .int (-z0)), (2, .ref z2), (5, .int z5), (6, .int w0)] from lv_sub hl [0, 2, 3, 1] rfl) (fun y114 y115 h116 H locs ls hq hP hS hl => ?_)
      refine lv_aload_n hx hb d_IN_getChars_72 rfl (lv_at hl 1 rfl) ?_
      refine lv_iinc (v := y115 - 1) (lv' := [(5, .int (y115 - 1)), (0, .int y114), (2, .ref z2), (6, .int w0)]) hx hb d_IN_getChars_73 hl (k := 2) rfl (fs_dec1 _) (by decide) rfl (fun ls hl => ?_)
      refine lv_iload hx hb d_IN_getChars_76 (lv_at hl 0 rfl) ?_
      refine fs_gets hx hb (fs_zr hE (i := 10) rfl (List.mem_of_getElem? tw_1217) (List.mem_of_getElem? tw_123)) hw hS hown (hts _ (fs_tb_at 1216 tw_1216 rfl)) d_IN_getChars_78 ?_
      refine lv_iload_n hx hb d_IN_getChars_81 rfl (lv_at hl 1 rfl) ?_
      refine lv_ineg hx hb d_IN_getChars_82 ?_
      obtain ⟨hi_, hq⟩ := hq
      refine fs_xba hx hb (fs_dig10 hE) hw hS hi_ d_IN_getChars_83 ?_
      obtain ⟨n_, f_, h118, e_, hi_, eh_, hq⟩ := fs_si_some hq
      refine fs_bast hx hb hK hP hS 5 e_ rfl hi_ d_IN_getChars_84 (fun H locs hP hS => ?_)
      rw [← eh_] at hP
      refine lv_iload_n hx hb d_IN_getChars_85 rfl (lv_at hl 1 rfl) ?_
      refine lv_bipush (v := (-9)) hx hb d_IN_getChars_86 (by decide) ?_
      refine lv_icmp_ge (tgt := 104) hx hb d_IN_getChars_88 (by decide) (fun c_119 => ?_) (fun c_119 => ?_)
      · have hq := fs_wifp c_119 hq
        exact hJ104 z2 (y115 - 1) w0 _ _ _ _ hq hP hS (show lv_has ls 7 [(2, .ref z2), (5, .int (y115 - 1)), (6, .int w0)] from lv_sub hl [2, 0, 3] rfl)
      · have hq := fs_wifn c_119 hq
        refine lv_aload_n hx hb d_IN_getChars_91 rfl (lv_at hl 2 rfl) ?_
        refine lv_iinc (v := (y115 - 1) - 1) (lv' := [(5, .int ((y115 - 1) - 1)), (0, .int y114), (2, .ref z2), (6, .int w0)]) hx hb d_IN_getChars_92 hl (k := 0) rfl (fs_dec1 _) (by decide) rfl (fun ls hl => ?_)
        refine lv_iload hx hb d_IN_getChars_95 (lv_at hl 0 rfl) ?_
        refine fs_gets hx hb (fs_zr hE (i := 9) rfl (List.mem_of_getElem? tw_1219) (List.mem_of_getElem? tw_123)) hw hS hown (hts _ (fs_tb_at 1218 tw_1218 rfl)) d_IN_getChars_97 ?_
        refine lv_iload_n hx hb d_IN_getChars_100 rfl (lv_at hl 1 rfl) ?_
        refine lv_ineg hx hb d_IN_getChars_101 ?_
        obtain ⟨hi_, hq⟩ := hq
        refine fs_xba hx hb (fs_dig9 hE) hw hS hi_ d_IN_getChars_102 ?_
        obtain ⟨n_, f_, h120, e_, hi_, eh_, hq⟩ := fs_si_some hq
        refine fs_bast hx hb hK hP hS 5 e_ rfl hi_ d_IN_getChars_103 (fun H locs hP hS => ?_)
        rw [← eh_] at hP
        exact hJ104 z2 ((y115 - 1) - 1) w0 _ _ _ _ hq hP hS (show lv_has ls 7 [(2, .ref z2), (5, .int ((y115 - 1) - 1)), (6, .int w0)] from lv_sub hl [2, 0, 3] rfl)
  have hl := lv_entry ([.int x1, .int x2, .ref x3]) (n := 7) (Nat.le_of_ble_eq_true rfl)
  rw [lg_entry_eq]
  generalize (lg_sl ([.int x1, .int x2, .ref x3]) ++ List.replicate (7 - (lg_sl ([.int x1, .int x2, .ref x3])).length) Slot.unset).toArray = ls at hl ⊢
  have hl : lv_has ls 7 [(0, .int x1), (1, .int x2), (2, .ref x3)] := hl
  unfold w_IN_getChars at hq
  refine lv_iload_n hx hb d_IN_getChars_0 rfl (lv_at hl 1 rfl) ?_
  refine lv_istore (lv' := [(5, .int x2), (0, .int x1), (1, .int x2), (2, .ref x3)]) hx hb d_IN_getChars_1 hl (by decide) rfl (fun ls hl => ?_)
  refine lv_iload_n hx hb d_IN_getChars_3 rfl (lv_at hl 1 rfl) ?_
  refine lv_if_ge (tgt := 11) hx hb d_IN_getChars_4 (by decide) (fun c_121 => ?_) (fun c_121 => ?_)
  · have hq := fs_wifp c_121 hq
    refine lv_iconst (v := 0) hx hb d_IN_getChars_11 (by decide) ?_
    exact hJ12 x1 x3 x2 0 _ _ _ _ hq hP hS (show lv_has ls 7 [(0, .int x1), (2, .ref x3), (5, .int x2)] from lv_sub hl [1, 3, 0] rfl)
  · have hq := fs_wifn c_121 hq
    refine lv_iconst (v := 1) hx hb d_IN_getChars_7 (by decide) ?_
    refine lv_goto (tgt := 12) hx hb d_IN_getChars_8 (by decide) ?_
    exact hJ12 x1 x3 x2 1 _ _ _ _ hq hP hS (show lv_has ls 7 [(0, .int x1), (2, .ref x3), (5, .int x2)] from lv_sub hl [1, 3, 0] rfl)
def w_AB_append_757 (mc ms : Nat) (E : fs_E) (h : fs_Hp) (a0 : Nat) (x1 : Int32) (Post : fs_Ps) : Prop := fs_gi h a0 11 3 (fun x101 => w_IN_stringSize E h x1 (fs_ki (fun x103 h102 => ∃ c104 s105 : Nat, c104 ≤ mc ∧ s105 ≤ ms ∧ (fs_isc h102 a0 11 ∧ (w_AB_ensureCapacityInternal c104 s105 E h102 a0 (x101 + x103) (fs_kv (fun h106 => fs_isc h106 a0 11 ∧ (w_AB_isLatin1 E h106 a0 (fs_ki (fun x108 h107 => (if x108 = 0 then fs_gr h107 a0 11 0 (fun a110 => False) else fs_gr h107 a0 11 0 (fun a111 => w_IN_getChars E h107 x1 (x101 + x103) a111 (fs_ki (fun x113 h112 => fs_pw h112 a0 11 3 (.int (x101 + x103)) (fun h114 => Post (.inl (some (.ref a0))) h114)) (fun C_ h_ => Post (.inr C_) h_))))) (fun C_ h_ => Post (.inr C_) h_)))) (fun C_ h_ => Post (.inr C_) h_))))) (fun C_ h_ => Post (.inr C_) h_)))
set_option maxHeartbeats 4000000 in
set_option maxRecDepth 100000 in
theorem kw_AB_append_757 {l : Launch} {s00 : State} {E : fs_E} (hE : fs_SE l s00 E) {mc ms : Nat} {h : fs_Hp} {a0 : Nat} {x1 : Int32} {Post : fs_Ps} (hq : w_AB_append_757 mc ms E h a0 x1 Post) : fs_Ct l s00 E.1 y_AB_append_757 (.code y_AB_append_757 b_AB_append_757 4 (some ((.object "java/lang/AbstractStringBuilder")))) { frames := 4, cells := mc, slots := ms, locals := 62 } [.ref a0, .int x1] h Post := by
  refine fs_Ct.ofS hE.1 (by decide +kernel) ?_
  intro p e R s m below meth c hRf hRl hRc hRs B hout hP
  skip
  obtain ⟨hx, hb, hr, hml, hown, hts, hlocks, hname, hK, hw, htr⟩ := id B
  have hown : s.vm.findClass "java/lang/AbstractStringBuilder" = some m.cls := hown
  have hS := hw.S
  have hl := lv_entry ([.ref a0, .int x1]) (n := 4) (Nat.le_of_ble_eq_true rfl)
  rw [lg_entry_eq]
  generalize (lg_sl ([.ref a0, .int x1]) ++ List.replicate (4 - (lg_sl ([.ref a0, .int x1])).length) Slot.unset).toArray = ls at hl ⊢
  have hl : lv_has ls 4 [(0, .ref a0), (1, .int x1)] := hl
  unfold w_AB_append_757 at hq
  refine lv_aload_n hx hb d_AB_append_757_0 rfl (lv_at hl 0 rfl) ?_
  obtain ⟨fs_, x101, he_, hv_, hq⟩ := fs_gi_some hq
  refine fs_get hx hb hts hown hK c_SB hP he_ 3 (by decide) (hts _ (fs_tb_at 233 tw_233 rfl)) (fun _ h9 => h9) hv_ d_AB_append_757_1 ?_
  refine lv_istore_n (lv' := [(2, .int x101), (0, .ref a0), (1, .int x1)]) hx hb d_AB_append_757_4 rfl hl (by decide) rfl (fun ls hl => ?_)
  refine lv_iload_n hx hb d_AB_append_757_5 rfl (lv_at hl 0 rfl) ?_
  refine lv_iload_n hx hb d_AB_append_757_6 rfl (lv_at hl 2 rfl) ?_
  refine fs_cS B hl.1 hP hS (kw_IN_stringSize hE hq) (fs_tb_at 1210 tw_1210 rfl) (fs_tb_at 1211 tw_1211 rfl) (fs_tb_at 123 tw_123 rfl) (fs_tb_at 1212 tw_1212 rfl) (by decide) (show (parseMethodDescriptor y_IN_stringSize.desc).map (fun d => d.parameters.length) = some 1 by decide +kernel) rfl d_AB_append_757_7 (fs_rm (k := 1) (by omega) (by omega) (by omega) (by omega) rfl) (fun v_ h102 H locs hq hP hS => ?_) (fun C_ a_ h_ H locs hq hP hS hX => fs_out (hout _) hlocks hw hP hS hX (show 0 ≤ mc by omega) (show 0 ≤ ms by omega) hq)
  refine fs_cs (k := 0) (n := 0) rfl rfl ?_
  replace hq := fs_ki_some hq
  obtain ⟨x103, rfl, hq⟩ := hq
  refine W.eq (g2 := F0 m 10 ls (.int x103 :: .int x101 :: [])) rfl ?_
  refine lv_iadd hx hb d_AB_append_757_10 ?_
  refine lv_istore_n (lv' := [(3, .int (x101 + x103)), (2, .int x101), (0, .ref a0), (1, .int x1)]) hx hb d_AB_append_757_11 rfl hl (by decide) rfl (fun ls hl => ?_)
  refine lv_aload_n hx hb d_AB_append_757_12 rfl (lv_at hl 2 rfl) ?_
  refine lv_iload_n hx hb d_AB_append_757_13 rfl (lv_at hl 0 rfl) ?_
  obtain ⟨c104, s105, hc_, hs_, hq⟩ := hq
  obtain ⟨hi_, hq⟩ := hq
  obtain ⟨fs_, he_⟩ := fs_isc_some hi_
  refine fs_cVP B hl.1 hP hS (kw_AB_ensureCapacityInternal hE hq) (fs_tb_at 1117 tw_1117 rfl) he_ rfl (fs_tb_at 1865 tw_1865 rfl) (fs_prv hE hw (List.mem_of_getElem? tw_1118)) (fs_tb_at 1119 tw_1119 rfl) (fs_tb_at 92 tw_92 rfl) (fs_tb_at 1120 tw_1120 rfl) (by decide) (show (parseMethodDescriptor y_AB_ensureCapacityInternal.desc).map (fun d => d.parameters.length) = some 1 by decide +kernel) rfl d_AB_append_757_14 (fs_rm (k := 0) (by omega) (by omega) (by omega) (by omega) rfl) (fun v_ h106 H locs hq hP hS => ?_) (fun C_ a_ h_ H locs hq hP hS hX => fs_out (hout _) hlocks hw hP hS hX (show (0 + c104) ≤ mc by omega) (show (0 + s105) ≤ ms by omega) hq)
  refine fs_cs (k := (0 + c104)) (n := (0 + s105)) rfl rfl ?_
  replace hq := fs_kv_some hq
  obtain ⟨rfl, hq⟩ := hq
  refine W.eq (g2 := F0 m 17 ls ([])) rfl ?_
  refine lv_aload_n hx hb d_AB_append_757_17 rfl (lv_at hl 2 rfl) ?_
  obtain ⟨hi_, hq⟩ := hq
  obtain ⟨fs_, he_⟩ := fs_isc_some hi_
  refine fs_cV B hl.1 hP hS (kw_AB_isLatin1 hE hq) (fs_tb_at 1148 tw_1148 rfl) he_ rfl (fs_tb_at 1149 tw_1149 rfl) (fs_tb_at 1151 tw_1151 rfl) (fs_tb_at 92 tw_92 rfl) (fs_tb_at 1152 tw_1152 rfl) (by decide) (show (parseMethodDescriptor y_AB_isLatin1.desc).map (fun d => d.parameters.length) = some 0 by decide +kernel) rfl d_AB_append_757_18 (fs_rm (k := 0) (by omega) (by omega) (by omega) (by omega) rfl) (fun v_ h107 H locs hq hP hS => ?_) (fun C_ a_ h_ H locs hq hP hS hX => fs_out (hout _) hlocks hw hP hS hX (show (0 + c104) ≤ mc by omega) (show (0 + s105) ≤ ms by omega) hq)
  refine fs_cs (k := (0 + c104)) (n := (0 + s105)) rfl rfl ?_
  replace hq := fs_ki_some hq
  obtain ⟨x108, rfl, hq⟩ := hq
  refine W.eq (g2 := F0 m 21 ls (.int x108 :: [])) rfl ?_
  refine lv_if_eq (tgt := 37) hx hb d_AB_append_757_21 (by decide) (fun c_109 => ?_) (fun c_109 => ?_)
  · have hq := fs_wifp c_109 hq
    refine lv_iload_n hx hb d_AB_append_757_37 rfl (lv_at hl 3 rfl) ?_
    refine lv_iload_n hx hb d_AB_append_757_38 rfl (lv_at hl 1 rfl) ?_
    refine lv_iload_n hx hb d_AB_append_757_39 rfl (lv_at hl 0 rfl) ?_
    refine lv_aload_n hx hb d_AB_append_757_40 rfl (lv_at hl 2 rfl) ?_
    obtain ⟨fs_, a110, he_, hv_, hq⟩ := fs_gr_some hq
    refine fs_get hx hb hts hown hK c_SB hP he_ 0 (by decide) (hts _ (fs_tb_at 229 tw_229 rfl)) (fun _ h9 => h9) hv_ d_AB_append_757_41 ?_
    exact False.elim hq
  · have hq := fs_wifn c_109 hq
    refine lv_iload_n hx hb d_AB_append_757_24 rfl (lv_at hl 3 rfl) ?_
    refine lv_iload_n hx hb d_AB_append_757_25 rfl (lv_at hl 0 rfl) ?_
    refine lv_aload_n hx hb d_AB_append_757_26 rfl (lv_at hl 2 rfl) ?_
    obtain ⟨fs_, a111, he_, hv_, hq⟩ := fs_gr_some hq
    refine fs_get hx hb hts hown hK c_SB hP he_ 0 (by decide) (hts _ (fs_tb_at 229 tw_229 rfl)) (fun _ h9 => h9) hv_ d_AB_append_757_27 ?_
    refine fs_cS B hl.1 hP hS (kw_IN_getChars hE hq) (fs_tb_at 1213 tw_1213 rfl) (fs_tb_at 1214 tw_1214 rfl) (fs_tb_at 123 tw_123 rfl) (fs_tb_at 1215 tw_1215 rfl) (by decide) (show (parseMethodDescriptor y_IN_getChars.desc).map (fun d => d.parameters.length) = some 3 by decide +kernel) rfl d_AB_append_757_30 (fs_rm (k := 0) (by omega) (by omega) (by omega) (by omega) rfl) (fun v_ h112 H locs hq hP hS => ?_) (fun C_ a_ h_ H locs hq hP hS hX => fs_out (hout _) hlocks hw hP hS hX (show (0 + c104) ≤ mc by omega) (show (0 + s105) ≤ ms by omega) hq)
    refine fs_cs (k := (0 + c104)) (n := (0 + s105)) rfl rfl ?_
    replace hq := fs_ki_some hq
    obtain ⟨x113, rfl, hq⟩ := hq
    refine W.eq (g2 := F0 m 33 ls (.int x113 :: [])) rfl ?_
    refine lv_pop hx hb d_AB_append_757_33 rfl ?_
    refine lv_goto (tgt := 48) hx hb d_AB_append_757_34 (by decide) ?_
    refine lv_aload_n hx hb d_AB_append_757_48 rfl (lv_at hl 2 rfl) ?_
    refine lv_iload_n hx hb d_AB_append_757_49 rfl (lv_at hl 0 rfl) ?_
    obtain ⟨fs_, h114, e_, hl_, eh_, hq⟩ := fs_pw_some hq
    refine fs_put hx hb hts hown hK c_SB hP hS e_ 3 (by decide) (hts _ (fs_tb_at 233 tw_233 rfl)) (fun _ h9 => h9) rfl rfl rfl hl_ d_AB_append_757_50 (fun H locs hP hS => ?_)
    rw [← eh_] at hP
    refine lv_aload_n hx hb d_AB_append_757_53 rfl (lv_at hl 2 rfl) ?_
    exact fs_aret hx hb hr (Or.inl ⟨_, rfl⟩) (Or.inr ⟨_, rfl⟩) hlocks hw hP hS (by omega) (by omega) hq d_AB_append_757_54
def w_SB_append_7d3 (mc ms : Nat) (E : fs_E) (h : fs_Hp) (a0 : Nat) (x1 : Int32) (Post : fs_Ps) : Prop := ∃ c101 s102 : Nat, c101 ≤ mc ∧ s102 ≤ ms ∧ (fs_isc h a0 11 ∧ (w_AB_append_757 c101 s102 E h a0 x1 (fs_kr (fun a104 h103 => Post (.inl (some (.ref a0))) h103) (fun C_ h_ => Post (.inr C_) h_))))
set_option maxHeartbeats 4000000 in
set_option maxRecDepth 100000 in
theorem kw_SB_append_7d3 {l : Launch} {s00 : State} {E : fs_E} (hE : fs_SE l s00 E) {mc ms : Nat} {h : fs_Hp} {a0 : Nat} {x1 : Int32} {Post : fs_Ps} (hq : w_SB_append_7d3 mc ms E h a0 x1 Post) : fs_Ct l s00 E.1 y_SB_append_7d3 (.code y_SB_append_7d3 b_SB_append_7d3 2 (some ((.object "java/lang/StringBuilder")))) { frames := 5, cells := mc, slots := ms, locals := 77 } [.ref a0, .int x1] h Post := by
  refine fs_Ct.ofS hE.1 (by decide +kernel) ?_
  intro p e R s m below meth c hRf hRl hRc hRs B hout hP
  skip
  obtain ⟨hx, hb, hr, hml, hown, hts, hlocks, hname, hK, hw, htr⟩ := id B
  have hown : s.vm.findClass "java/lang/StringBuilder" = some m.cls := hown
  have hS := hw.S
  have hl := lv_entry ([.ref a0, .int x1]) (n := 2) (Nat.le_of_ble_eq_true rfl)
  rw [lg_entry_eq]
  generalize (lg_sl ([.ref a0, .int x1]) ++ List.replicate (2 - (lg_sl ([.ref a0, .int x1])).length) Slot.unset).toArray = ls at hl ⊢
  have hl : lv_has ls 2 [(0, .ref a0), (1, .int x1)] := hl
  unfold w_SB_append_7d3 at hq
  refine lv_aload_n hx hb d_SB_append_7d3_0 rfl (lv_at hl 0 rfl) ?_
  refine lv_iload_n hx hb d_SB_append_7d3_1 rfl (lv_at hl 1 rfl) ?_
  obtain ⟨c101, s102, hc_, hs_, hq⟩ := hq
  obtain ⟨hi_, hq⟩ := hq
  obtain ⟨fs_, he_⟩ := fs_isc_some hi_
  refine fs_cX B hl.1 hP hS (kw_AB_append_757 hE hq) (fs_tb_at 1207 tw_1207 rfl) he_ rfl (fs_tb_at 1870 tw_1870 rfl) (fs_tb_at 242 tw_242 rfl) (fs_tb_at 1208 tw_1208 rfl) (fs_tb_at 92 tw_92 rfl) (fs_tb_at 1209 tw_1209 rfl) (by decide) (show (parseMethodDescriptor y_AB_append_757.desc).map (fun d => d.parameters.length) = some 1 by decide +kernel) rfl d_SB_append_7d3_2 (fs_rm (k := 0) (by omega) (by omega) (by omega) (by omega) rfl) (fun v_ h103 H locs hq hP hS => ?_) (fun C_ a_ h_ H locs hq hP hS hX => fs_out (hout _) hlocks hw hP hS hX (show (0 + c101) ≤ mc by omega) (show (0 + s102) ≤ ms by omega) hq)
  refine fs_cs (k := (0 + c101)) (n := (0 + s102)) rfl rfl ?_
  replace hq := fs_kr_some hq
  obtain ⟨a104, rfl, hq⟩ := hq
  refine W.eq (g2 := F0 m 5 ls (.ref a104 :: [])) rfl ?_
  refine lv_pop hx hb d_SB_append_7d3_5 rfl ?_
  refine lv_aload_n hx hb d_SB_append_7d3_6 rfl (lv_at hl 0 rfl) ?_
  exact fs_aret hx hb hr (Or.inl ⟨_, rfl⟩) (Or.inr ⟨_, rfl⟩) hlocks hw hP hS (by omega) (by omega) hq d_SB_append_7d3_7
