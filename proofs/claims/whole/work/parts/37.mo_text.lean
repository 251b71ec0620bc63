/-! The reference: text and count, checked. -/
abbrev b_MO_writePart : ByteArray := prog_14_method_72_code
def y_MO_writePart : MethodName := ⟨"FormulaSheetModel", "writePart", "(I)V"⟩
theorem d_MO_writePart_0 : decode b_MO_writePart 0 = .ok (.aload_n 0, 1) := by decide +kernel
theorem d_MO_writePart_1 : decode b_MO_writePart 1 = .ok (.getfield 20, 3) := by decide +kernel
theorem d_MO_writePart_4 : decode b_MO_writePart 4 = .ok (.iload_n 1, 1) := by decide +kernel
theorem d_MO_writePart_5 : decode b_MO_writePart 5 = .ok (.iaload, 1) := by decide +kernel
theorem d_MO_writePart_6 : decode b_MO_writePart 6 = .ok (.istore_n 2, 1) := by decide +kernel
theorem d_MO_writePart_7 : decode b_MO_writePart 7 = .ok (.aload_n 0, 1) := by decide +kernel
theorem d_MO_writePart_8 : decode b_MO_writePart 8 = .ok (.iconst 5, 1) := by decide +kernel
theorem d_MO_writePart_9 : decode b_MO_writePart 9 = .ok (.invokevirtual 310, 3) := by decide +kernel
theorem d_MO_writePart_12 : decode b_MO_writePart 12 = .ok (.iload_n 2, 1) := by decide +kernel
theorem d_MO_writePart_13 : decode b_MO_writePart 13 = .ok (.ifCond .ne 11, 3) := by decide +kernel
theorem d_MO_writePart_16 : decode b_MO_writePart 16 = .ok (.aload_n 0, 1) := by decide +kernel
theorem d_MO_writePart_17 : decode b_MO_writePart 17 = .ok (.iload_n 1, 1) := by decide +kernel
theorem d_MO_writePart_18 : decode b_MO_writePart 18 = .ok (.invokevirtual 313, 3) := by decide +kernel
theorem d_MO_writePart_21 : decode b_MO_writePart 21 = .ok (.goto 62, 3) := by decide +kernel
theorem d_MO_writePart_24 : decode b_MO_writePart 24 = .ok (.iload_n 2, 1) := by decide +kernel
theorem d_MO_writePart_25 : decode b_MO_writePart 25 = .ok (.iconst 1, 1) := by decide +kernel
theorem d_MO_writePart_26 : decode b_MO_writePart 26 = .ok (.if_icmp .ne 16, 3) := by decide +kernel
theorem d_MO_writePart_29 : decode b_MO_writePart 29 = .ok (.aload_n 0, 1) := by decide +kernel
theorem d_MO_writePart_30 : decode b_MO_writePart 30 = .ok (.aload_n 0, 1) := by decide +kernel
theorem d_MO_writePart_31 : decode b_MO_writePart 31 = .ok (.getfield 23, 3) := by decide +kernel
theorem d_MO_writePart_34 : decode b_MO_writePart 34 = .ok (.iload_n 1, 1) := by decide +kernel
theorem d_MO_writePart_35 : decode b_MO_writePart 35 = .ok (.iaload, 1) := by decide +kernel
theorem d_MO_writePart_36 : decode b_MO_writePart 36 = .ok (.invokevirtual 316, 3) := by decide +kernel
theorem d_MO_writePart_39 : decode b_MO_writePart 39 = .ok (.goto 44, 3) := by decide +kernel
theorem d_MO_writePart_42 : decode b_MO_writePart 42 = .ok (.aload_n 0, 1) := by decide +kernel
theorem d_MO_writePart_43 : decode b_MO_writePart 43 = .ok (.aload_n 0, 1) := by decide +kernel
theorem d_MO_writePart_44 : decode b_MO_writePart 44 = .ok (.getfield 294, 3) := by decide +kernel
theorem d_MO_writePart_47 : decode b_MO_writePart 47 = .ok (.iload_n 2, 1) := by decide +kernel
theorem d_MO_writePart_48 : decode b_MO_writePart 48 = .ok (.invokevirtual 319, 3) := by decide +kernel
theorem d_MO_writePart_51 : decode b_MO_writePart 51 = .ok (.aload_n 0, 1) := by decide +kernel
theorem d_MO_writePart_52 : decode b_MO_writePart 52 = .ok (.aload_n 0, 1) := by decide +kernel
theorem d_MO_writePart_53 : decode b_MO_writePart 53 = .ok (.getfield 23, 3) := by decide +kernel
theorem d_MO_writePart_56 : decode b_MO_writePart 56 = .ok (.iload_n 1, 1) := by decide +kernel
theorem d_MO_writePart_57 : decode b_MO_writePart 57 = .ok (.iaload, 1) := by decide +kernel
theorem d_MO_writePart_58 : decode b_MO_writePart 58 = .ok (.invokevirtual 316, 3) := by decide +kernel
theorem d_MO_writePart_61 : decode b_MO_writePart 61 = .ok (.aload_n 0, 1) := by decide +kernel
theorem d_MO_writePart_62 : decode b_MO_writePart 62 = .ok (.bipush 58, 2) := by decide +kernel
theorem d_MO_writePart_64 : decode b_MO_writePart 64 = .ok (.invokevirtual 303, 3) := by decide +kernel
theorem d_MO_writePart_67 : decode b_MO_writePart 67 = .ok (.aload_n 0, 1) := by decide +kernel
theorem d_MO_writePart_68 : decode b_MO_writePart 68 = .ok (.aload_n 0, 1) := by decide +kernel
theorem d_MO_writePart_69 : decode b_MO_writePart 69 = .ok (.getfield 26, 3) := by decide +kernel
theorem d_MO_writePart_72 : decode b_MO_writePart 72 = .ok (.iload_n 1, 1) := by decide +kernel
theorem d_MO_writePart_73 : decode b_MO_writePart 73 = .ok (.iaload, 1) := by decide +kernel
theorem d_MO_writePart_74 : decode b_MO_writePart 74 = .ok (.invokevirtual 316, 3) := by decide +kernel
theorem d_MO_writePart_77 : decode b_MO_writePart 77 = .ok (.aload_n 0, 1) := by decide +kernel
theorem d_MO_writePart_78 : decode b_MO_writePart 78 = .ok (.bipush 41, 2) := by decide +kernel
theorem d_MO_writePart_80 : decode b_MO_writePart 80 = .ok (.invokevirtual 303, 3) := by decide +kernel
theorem d_MO_writePart_83 : decode b_MO_writePart 83 = .ok (.return_, 1) := by decide +kernel
abbrev b_MO_writePair : ByteArray := prog_14_method_73_code
def y_MO_writePair : MethodName := ⟨"FormulaSheetModel", "writePair", "(I)V"⟩
theorem d_MO_writePair_0 : decode b_MO_writePair 0 = .ok (.iload_n 1, 1) := by decide +kernel
theorem d_MO_writePair_1 : decode b_MO_writePair 1 = .ok (.invokestatic 163, 3) := by decide +kernel
theorem d_MO_writePair_4 : decode b_MO_writePair 4 = .ok (.iconst 1, 1) := by decide +kernel
theorem d_MO_writePair_5 : decode b_MO_writePair 5 = .ok (.isub, 1) := by decide +kernel
theorem d_MO_writePair_6 : decode b_MO_writePair 6 = .ok (.istore_n 2, 1) := by decide +kernel
theorem d_MO_writePair_7 : decode b_MO_writePair 7 = .ok (.aload_n 0, 1) := by decide +kernel
theorem d_MO_writePair_8 : decode b_MO_writePair 8 = .ok (.iload_n 1, 1) := by decide +kernel
theorem d_MO_writePair_9 : decode b_MO_writePair 9 = .ok (.bipush 38, 2) := by decide +kernel
theorem d_MO_writePair_11 : decode b_MO_writePair 11 = .ok (.if_icmp .eq 9, 3) := by decide +kernel
theorem d_MO_writePair_14 : decode b_MO_writePair 14 = .ok (.iload_n 1, 1) := by decide +kernel
theorem d_MO_writePair_15 : decode b_MO_writePair 15 = .ok (.bipush 124, 2) := by decide +kernel
theorem d_MO_writePair_17 : decode b_MO_writePair 17 = .ok (.if_icmp .ne 7, 3) := by decide +kernel
theorem d_MO_writePair_20 : decode b_MO_writePair 20 = .ok (.iconst 1, 1) := by decide +kernel
theorem d_MO_writePair_21 : decode b_MO_writePair 21 = .ok (.goto 15, 3) := by decide +kernel
theorem d_MO_writePair_24 : decode b_MO_writePair 24 = .ok (.iload_n 2, 1) := by decide +kernel
theorem d_MO_writePair_25 : decode b_MO_writePair 25 = .ok (.iconst 1, 1) := by decide +kernel
theorem d_MO_writePair_26 : decode b_MO_writePair 26 = .ok (.if_icmp .ne 7, 3) := by decide +kernel
theorem d_MO_writePair_29 : decode b_MO_writePair 29 = .ok (.iconst 2, 1) := by decide +kernel
theorem d_MO_writePair_30 : decode b_MO_writePair 30 = .ok (.goto 6, 3) := by decide +kernel
theorem d_MO_writePair_33 : decode b_MO_writePair 33 = .ok (.iload_n 2, 1) := by decide +kernel
theorem d_MO_writePair_34 : decode b_MO_writePair 34 = .ok (.iconst 1, 1) := by decide +kernel
theorem d_MO_writePair_35 : decode b_MO_writePair 35 = .ok (.iadd, 1) := by decide +kernel
theorem d_MO_writePair_36 : decode b_MO_writePair 36 = .ok (.invokevirtual 322, 3) := by decide +kernel
theorem d_MO_writePair_39 : decode b_MO_writePair 39 = .ok (.aload_n 0, 1) := by decide +kernel
theorem d_MO_writePair_40 : decode b_MO_writePair 40 = .ok (.getfield 90, 3) := by decide +kernel
theorem d_MO_writePair_43 : decode b_MO_writePair 43 = .ok (.aload_n 0, 1) := by decide +kernel
theorem d_MO_writePair_44 : decode b_MO_writePair 44 = .ok (.getfield 300, 3) := by decide +kernel
theorem d_MO_writePair_47 : decode b_MO_writePair 47 = .ok (.iconst 1, 1) := by decide +kernel
theorem d_MO_writePair_48 : decode b_MO_writePair 48 = .ok (.isub, 1) := by decide +kernel
theorem d_MO_writePair_49 : decode b_MO_writePair 49 = .ok (.iaload, 1) := by decide +kernel
theorem d_MO_writePair_50 : decode b_MO_writePair 50 = .ok (.istore_n 3, 1) := by decide +kernel
theorem d_MO_writePair_51 : decode b_MO_writePair 51 = .ok (.aload_n 0, 1) := by decide +kernel
theorem d_MO_writePair_52 : decode b_MO_writePair 52 = .ok (.iload_n 3, 1) := by decide +kernel
theorem d_MO_writePair_53 : decode b_MO_writePair 53 = .ok (.iload_n 1, 1) := by decide +kernel
theorem d_MO_writePair_54 : decode b_MO_writePair 54 = .ok (.invokevirtual 297, 3) := by decide +kernel
theorem d_MO_writePair_57 : decode b_MO_writePair 57 = .ok (.aload_n 0, 1) := by decide +kernel
theorem d_MO_writePair_58 : decode b_MO_writePair 58 = .ok (.dup, 1) := by decide +kernel
theorem d_MO_writePair_59 : decode b_MO_writePair 59 = .ok (.getfield 300, 3) := by decide +kernel
theorem d_MO_writePair_62 : decode b_MO_writePair 62 = .ok (.iconst 1, 1) := by decide +kernel
theorem d_MO_writePair_63 : decode b_MO_writePair 63 = .ok (.isub, 1) := by decide +kernel
theorem d_MO_writePair_64 : decode b_MO_writePair 64 = .ok (.putfield 300, 3) := by decide +kernel
theorem d_MO_writePair_67 : decode b_MO_writePair 67 = .ok (.iload_n 2, 1) := by decide +kernel
theorem d_MO_writePair_68 : decode b_MO_writePair 68 = .ok (.iconst 1, 1) := by decide +kernel
theorem d_MO_writePair_69 : decode b_MO_writePair 69 = .ok (.if_icmp .ne 7, 3) := by decide +kernel
theorem d_MO_writePair_72 : decode b_MO_writePair 72 = .ok (.iconst 2, 1) := by decide +kernel
theorem d_MO_writePair_73 : decode b_MO_writePair 73 = .ok (.goto 4, 3) := by decide +kernel
theorem d_MO_writePair_76 : decode b_MO_writePair 76 = .ok (.iload_n 2, 1) := by decide +kernel
theorem d_MO_writePair_77 : decode b_MO_writePair 77 = .ok (.istore 4, 2) := by decide +kernel
theorem d_MO_writePair_79 : decode b_MO_writePair 79 = .ok (.aload_n 0, 1) := by decide +kernel
theorem d_MO_writePair_80 : decode b_MO_writePair 80 = .ok (.getfield 93, 3) := by decide +kernel
theorem d_MO_writePair_83 : decode b_MO_writePair 83 = .ok (.aload_n 0, 1) := by decide +kernel
theorem d_MO_writePair_84 : decode b_MO_writePair 84 = .ok (.getfield 300, 3) := by decide +kernel
theorem d_MO_writePair_87 : decode b_MO_writePair 87 = .ok (.iconst 1, 1) := by decide +kernel
theorem d_MO_writePair_88 : decode b_MO_writePair 88 = .ok (.isub, 1) := by decide +kernel
theorem d_MO_writePair_89 : decode b_MO_writePair 89 = .ok (.iaload, 1) := by decide +kernel
theorem d_MO_writePair_90 : decode b_MO_writePair 90 = .ok (.iload 4, 2) := by decide +kernel
theorem d_MO_writePair_92 : decode b_MO_writePair 92 = .ok (.if_icmp .ge 27, 3) := by decide +kernel
theorem d_MO_writePair_95 : decode b_MO_writePair 95 = .ok (.aload_n 0, 1) := by decide +kernel
theorem d_MO_writePair_96 : decode b_MO_writePair 96 = .ok (.iload_n 3, 1) := by decide +kernel
theorem d_MO_writePair_97 : decode b_MO_writePair 97 = .ok (.bipush 41, 2) := by decide +kernel
theorem d_MO_writePair_99 : decode b_MO_writePair 99 = .ok (.invokevirtual 297, 3) := by decide +kernel
theorem d_MO_writePair_102 : decode b_MO_writePair 102 = .ok (.aload_n 0, 1) := by decide +kernel
theorem d_MO_writePair_103 : decode b_MO_writePair 103 = .ok (.aload_n 0, 1) := by decide +kernel
theorem d_MO_writePair_104 : decode b_MO_writePair 104 = .ok (.getfield 90, 3) := by decide +kernel
theorem d_MO_writePair_107 : decode b_MO_writePair 107 = .ok (.aload_n 0, 1) := by decide +kernel
theorem d_MO_writePair_108 : decode b_MO_writePair 108 = .ok (.getfield 300, 3) := by decide +kernel
theorem d_MO_writePair_111 : decode b_MO_writePair 111 = .ok (.iconst 1, 1) := by decide +kernel
theorem d_MO_writePair_112 : decode b_MO_writePair 112 = .ok (.isub, 1) := by decide +kernel
theorem d_MO_writePair_113 : decode b_MO_writePair 113 = .ok (.iaload, 1) := by decide +kernel
theorem d_MO_writePair_114 : decode b_MO_writePair 114 = .ok (.bipush 40, 2) := by decide +kernel
theorem d_MO_writePair_116 : decode b_MO_writePair 116 = .ok (.invokevirtual 297, 3) := by decide +kernel
theorem d_MO_writePair_119 : decode b_MO_writePair 119 = .ok (.aload_n 0, 1) := by decide +kernel
theorem d_MO_writePair_120 : decode b_MO_writePair 120 = .ok (.getfield 93, 3) := by decide +kernel
theorem d_MO_writePair_123 : decode b_MO_writePair 123 = .ok (.aload_n 0, 1) := by decide +kernel
theorem d_MO_writePair_124 : decode b_MO_writePair 124 = .ok (.getfield 300, 3) := by decide +kernel
theorem d_MO_writePair_127 : decode b_MO_writePair 127 = .ok (.iconst 1, 1) := by decide +kernel
theorem d_MO_writePair_128 : decode b_MO_writePair 128 = .ok (.isub, 1) := by decide +kernel
theorem d_MO_writePair_129 : decode b_MO_writePair 129 = .ok (.iload_n 2, 1) := by decide +kernel
theorem d_MO_writePair_130 : decode b_MO_writePair 130 = .ok (.iastore, 1) := by decide +kernel
theorem d_MO_writePair_131 : decode b_MO_writePair 131 = .ok (.return_, 1) := by decide +kernel
abbrev b_MO_writeFunction : ByteArray := prog_14_method_74_code
def y_MO_writeFunction : MethodName := ⟨"FormulaSheetModel", "writeFunction", "(I)V"⟩
theorem d_MO_writeFunction_0 : decode b_MO_writeFunction 0 = .ok (.iload_n 1, 1) := by decide +kernel
theorem d_MO_writeFunction_1 : decode b_MO_writeFunction 1 = .ok (.bipush 9, 2) := by decide +kernel
theorem d_MO_writeFunction_3 : decode b_MO_writeFunction 3 = .ok (.if_icmp .ne 47, 3) := by decide +kernel
theorem d_MO_writeFunction_6 : decode b_MO_writeFunction 6 = .ok (.aload_n 0, 1) := by decide +kernel
theorem d_MO_writeFunction_7 : decode b_MO_writeFunction 7 = .ok (.aload_n 0, 1) := by decide +kernel
theorem d_MO_writeFunction_8 : decode b_MO_writeFunction 8 = .ok (.getfield 90, 3) := by decide +kernel
theorem d_MO_writeFunction_11 : decode b_MO_writeFunction 11 = .ok (.aload_n 0, 1) := by decide +kernel
theorem d_MO_writeFunction_12 : decode b_MO_writeFunction 12 = .ok (.getfield 300, 3) := by decide +kernel
theorem d_MO_writeFunction_15 : decode b_MO_writeFunction 15 = .ok (.iconst 1, 1) := by decide +kernel
theorem d_MO_writeFunction_16 : decode b_MO_writeFunction 16 = .ok (.isub, 1) := by decide +kernel
theorem d_MO_writeFunction_17 : decode b_MO_writeFunction 17 = .ok (.iaload, 1) := by decide +kernel
theorem d_MO_writeFunction_18 : decode b_MO_writeFunction 18 = .ok (.bipush 44, 2) := by decide +kernel
theorem d_MO_writeFunction_20 : decode b_MO_writeFunction 20 = .ok (.invokevirtual 297, 3) := by decide +kernel
theorem d_MO_writeFunction_23 : decode b_MO_writeFunction 23 = .ok (.aload_n 0, 1) := by decide +kernel
theorem d_MO_writeFunction_24 : decode b_MO_writeFunction 24 = .ok (.aload_n 0, 1) := by decide +kernel
theorem d_MO_writeFunction_25 : decode b_MO_writeFunction 25 = .ok (.getfield 90, 3) := by decide +kernel
theorem d_MO_writeFunction_28 : decode b_MO_writeFunction 28 = .ok (.aload_n 0, 1) := by decide +kernel
theorem d_MO_writeFunction_29 : decode b_MO_writeFunction 29 = .ok (.getfield 300, 3) := by decide +kernel
theorem d_MO_writeFunction_32 : decode b_MO_writeFunction 32 = .ok (.iconst 2, 1) := by decide +kernel
theorem d_MO_writeFunction_33 : decode b_MO_writeFunction 33 = .ok (.isub, 1) := by decide +kernel
theorem d_MO_writeFunction_34 : decode b_MO_writeFunction 34 = .ok (.iaload, 1) := by decide +kernel
theorem d_MO_writeFunction_35 : decode b_MO_writeFunction 35 = .ok (.bipush 44, 2) := by decide +kernel
theorem d_MO_writeFunction_37 : decode b_MO_writeFunction 37 = .ok (.invokevirtual 297, 3) := by decide +kernel
theorem d_MO_writeFunction_40 : decode b_MO_writeFunction 40 = .ok (.aload_n 0, 1) := by decide +kernel
theorem d_MO_writeFunction_41 : decode b_MO_writeFunction 41 = .ok (.dup, 1) := by decide +kernel
theorem d_MO_writeFunction_42 : decode b_MO_writeFunction 42 = .ok (.getfield 300, 3) := by decide +kernel
theorem d_MO_writeFunction_45 : decode b_MO_writeFunction 45 = .ok (.iconst 2, 1) := by decide +kernel
theorem d_MO_writeFunction_46 : decode b_MO_writeFunction 46 = .ok (.isub, 1) := by decide +kernel
theorem d_MO_writeFunction_47 : decode b_MO_writeFunction 47 = .ok (.putfield 300, 3) := by decide +kernel
theorem d_MO_writeFunction_50 : decode b_MO_writeFunction 50 = .ok (.aload_n 0, 1) := by decide +kernel
theorem d_MO_writeFunction_51 : decode b_MO_writeFunction 51 = .ok (.aload_n 0, 1) := by decide +kernel
theorem d_MO_writeFunction_52 : decode b_MO_writeFunction 52 = .ok (.getfield 90, 3) := by decide +kernel
theorem d_MO_writeFunction_55 : decode b_MO_writeFunction 55 = .ok (.aload_n 0, 1) := by decide +kernel
theorem d_MO_writeFunction_56 : decode b_MO_writeFunction 56 = .ok (.getfield 300, 3) := by decide +kernel
theorem d_MO_writeFunction_59 : decode b_MO_writeFunction 59 = .ok (.iconst 1, 1) := by decide +kernel
theorem d_MO_writeFunction_60 : decode b_MO_writeFunction 60 = .ok (.isub, 1) := by decide +kernel
theorem d_MO_writeFunction_61 : decode b_MO_writeFunction 61 = .ok (.iaload, 1) := by decide +kernel
theorem d_MO_writeFunction_62 : decode b_MO_writeFunction 62 = .ok (.iload_n 1, 1) := by decide +kernel
theorem d_MO_writeFunction_63 : decode b_MO_writeFunction 63 = .ok (.invokevirtual 319, 3) := by decide +kernel
theorem d_MO_writeFunction_66 : decode b_MO_writeFunction 66 = .ok (.aload_n 0, 1) := by decide +kernel
theorem d_MO_writeFunction_67 : decode b_MO_writeFunction 67 = .ok (.bipush 41, 2) := by decide +kernel
theorem d_MO_writeFunction_69 : decode b_MO_writeFunction 69 = .ok (.invokevirtual 303, 3) := by decide +kernel
theorem d_MO_writeFunction_72 : decode b_MO_writeFunction 72 = .ok (.aload_n 0, 1) := by decide +kernel
theorem d_MO_writeFunction_73 : decode b_MO_writeFunction 73 = .ok (.getfield 93, 3) := by decide +kernel
theorem d_MO_writeFunction_76 : decode b_MO_writeFunction 76 = .ok (.aload_n 0, 1) := by decide +kernel
theorem d_MO_writeFunction_77 : decode b_MO_writeFunction 77 = .ok (.getfield 300, 3) := by decide +kernel
theorem d_MO_writeFunction_80 : decode b_MO_writeFunction 80 = .ok (.iconst 1, 1) := by decide +kernel
theorem d_MO_writeFunction_81 : decode b_MO_writeFunction 81 = .ok (.isub, 1) := by decide +kernel
theorem d_MO_writeFunction_82 : decode b_MO_writeFunction 82 = .ok (.iconst 5, 1) := by decide +kernel
theorem d_MO_writeFunction_83 : decode b_MO_writeFunction 83 = .ok (.iastore, 1) := by decide +kernel
theorem d_MO_writeFunction_84 : decode b_MO_writeFunction 84 = .ok (.return_, 1) := by decide +kernel
abbrev b_MO_writeItem : ByteArray := prog_14_method_75_code
def y_MO_writeItem : MethodName := ⟨"FormulaSheetModel", "writeItem", "(I)V"⟩
theorem d_MO_writeItem_0 : decode b_MO_writeItem 0 = .ok (.aload_n 0, 1) := by decide +kernel
theorem d_MO_writeItem_1 : decode b_MO_writeItem 1 = .ok (.getfield 20, 3) := by decide +kernel
theorem d_MO_writeItem_4 : decode b_MO_writeItem 4 = .ok (.iload_n 1, 1) := by decide +kernel
theorem d_MO_writeItem_5 : decode b_MO_writeItem 5 = .ok (.iaload, 1) := by decide +kernel
theorem d_MO_writeItem_6 : decode b_MO_writeItem 6 = .ok (.istore_n 2, 1) := by decide +kernel
theorem d_MO_writeItem_7 : decode b_MO_writeItem 7 = .ok (.iload_n 2, 1) := by decide +kernel
theorem d_MO_writeItem_8 : decode b_MO_writeItem 8 = .ok (.ifCond .eq 15, 3) := by decide +kernel
theorem d_MO_writeItem_11 : decode b_MO_writeItem 11 = .ok (.iload_n 2, 1) := by decide +kernel
theorem d_MO_writeItem_12 : decode b_MO_writeItem 12 = .ok (.iconst 1, 1) := by decide +kernel
theorem d_MO_writeItem_13 : decode b_MO_writeItem 13 = .ok (.if_icmp .eq 10, 3) := by decide +kernel
theorem d_MO_writeItem_16 : decode b_MO_writeItem 16 = .ok (.iload_n 2, 1) := by decide +kernel
theorem d_MO_writeItem_17 : decode b_MO_writeItem 17 = .ok (.invokestatic 218, 3) := by decide +kernel
theorem d_MO_writeItem_20 : decode b_MO_writeItem 20 = .ok (.ifCond .eq 11, 3) := by decide +kernel
theorem d_MO_writeItem_23 : decode b_MO_writeItem 23 = .ok (.aload_n 0, 1) := by decide +kernel
theorem d_MO_writeItem_24 : decode b_MO_writeItem 24 = .ok (.iload_n 1, 1) := by decide +kernel
theorem d_MO_writeItem_25 : decode b_MO_writeItem 25 = .ok (.invokevirtual 325, 3) := by decide +kernel
theorem d_MO_writeItem_28 : decode b_MO_writeItem 28 = .ok (.goto 114, 3) := by decide +kernel
theorem d_MO_writeItem_31 : decode b_MO_writeItem 31 = .ok (.iload_n 2, 1) := by decide +kernel
theorem d_MO_writeItem_32 : decode b_MO_writeItem 32 = .ok (.bipush 10, 2) := by decide +kernel
theorem d_MO_writeItem_34 : decode b_MO_writeItem 34 = .ok (.if_icmp .eq 9, 3) := by decide +kernel
theorem d_MO_writeItem_37 : decode b_MO_writeItem 37 = .ok (.iload_n 2, 1) := by decide +kernel
theorem d_MO_writeItem_38 : decode b_MO_writeItem 38 = .ok (.bipush 33, 2) := by decide +kernel
theorem d_MO_writeItem_40 : decode b_MO_writeItem 40 = .ok (.if_icmp .ne 71, 3) := by decide +kernel
theorem d_MO_writeItem_43 : decode b_MO_writeItem 43 = .ok (.aload_n 0, 1) := by decide +kernel
theorem d_MO_writeItem_44 : decode b_MO_writeItem 44 = .ok (.iload_n 2, 1) := by decide +kernel
theorem d_MO_writeItem_45 : decode b_MO_writeItem 45 = .ok (.bipush 10, 2) := by decide +kernel
theorem d_MO_writeItem_47 : decode b_MO_writeItem 47 = .ok (.if_icmp .ne 7, 3) := by decide +kernel
theorem d_MO_writeItem_50 : decode b_MO_writeItem 50 = .ok (.iconst 5, 1) := by decide +kernel
theorem d_MO_writeItem_51 : decode b_MO_writeItem 51 = .ok (.goto 4, 3) := by decide +kernel
theorem d_MO_writeItem_54 : decode b_MO_writeItem 54 = .ok (.iconst 2, 1) := by decide +kernel
theorem d_MO_writeItem_55 : decode b_MO_writeItem 55 = .ok (.invokevirtual 322, 3) := by decide +kernel
theorem d_MO_writeItem_58 : decode b_MO_writeItem 58 = .ok (.aload_n 0, 1) := by decide +kernel
theorem d_MO_writeItem_59 : decode b_MO_writeItem 59 = .ok (.aload_n 0, 1) := by decide +kernel
theorem d_MO_writeItem_60 : decode b_MO_writeItem 60 = .ok (.getfield 90, 3) := by decide +kernel
theorem d_MO_writeItem_63 : decode b_MO_writeItem 63 = .ok (.aload_n 0, 1) := by decide +kernel
theorem d_MO_writeItem_64 : decode b_MO_writeItem 64 = .ok (.getfield 300, 3) := by decide +kernel
theorem d_MO_writeItem_67 : decode b_MO_writeItem 67 = .ok (.iconst 1, 1) := by decide +kernel
theorem d_MO_writeItem_68 : decode b_MO_writeItem 68 = .ok (.isub, 1) := by decide +kernel
theorem d_MO_writeItem_69 : decode b_MO_writeItem 69 = .ok (.iaload, 1) := by decide +kernel
theorem d_MO_writeItem_70 : decode b_MO_writeItem 70 = .ok (.iload_n 2, 1) := by decide +kernel
theorem d_MO_writeItem_71 : decode b_MO_writeItem 71 = .ok (.bipush 10, 2) := by decide +kernel
theorem d_MO_writeItem_73 : decode b_MO_writeItem 73 = .ok (.if_icmp .ne 8, 3) := by decide +kernel
theorem d_MO_writeItem_76 : decode b_MO_writeItem 76 = .ok (.bipush 45, 2) := by decide +kernel
theorem d_MO_writeItem_78 : decode b_MO_writeItem 78 = .ok (.goto 5, 3) := by decide +kernel
theorem d_MO_writeItem_81 : decode b_MO_writeItem 81 = .ok (.bipush 33, 2) := by decide +kernel
theorem d_MO_writeItem_83 : decode b_MO_writeItem 83 = .ok (.invokevirtual 297, 3) := by decide +kernel
theorem d_MO_writeItem_86 : decode b_MO_writeItem 86 = .ok (.aload_n 0, 1) := by decide +kernel
theorem d_MO_writeItem_87 : decode b_MO_writeItem 87 = .ok (.getfield 93, 3) := by decide +kernel
theorem d_MO_writeItem_90 : decode b_MO_writeItem 90 = .ok (.aload_n 0, 1) := by decide +kernel
theorem d_MO_writeItem_91 : decode b_MO_writeItem 91 = .ok (.getfield 300, 3) := by decide +kernel
theorem d_MO_writeItem_94 : decode b_MO_writeItem 94 = .ok (.iconst 1, 1) := by decide +kernel
theorem d_MO_writeItem_95 : decode b_MO_writeItem 95 = .ok (.isub, 1) := by decide +kernel
theorem d_MO_writeItem_96 : decode b_MO_writeItem 96 = .ok (.iload_n 2, 1) := by decide +kernel
theorem d_MO_writeItem_97 : decode b_MO_writeItem 97 = .ok (.bipush 10, 2) := by decide +kernel
theorem d_MO_writeItem_99 : decode b_MO_writeItem 99 = .ok (.if_icmp .ne 7, 3) := by decide +kernel
theorem d_MO_writeItem_102 : decode b_MO_writeItem 102 = .ok (.iconst 4, 1) := by decide +kernel
theorem d_MO_writeItem_103 : decode b_MO_writeItem 103 = .ok (.goto 4, 3) := by decide +kernel
theorem d_MO_writeItem_106 : decode b_MO_writeItem 106 = .ok (.iconst 1, 1) := by decide +kernel
theorem d_MO_writeItem_107 : decode b_MO_writeItem 107 = .ok (.iastore, 1) := by decide +kernel
theorem d_MO_writeItem_108 : decode b_MO_writeItem 108 = .ok (.goto 34, 3) := by decide +kernel
theorem d_MO_writeItem_111 : decode b_MO_writeItem 111 = .ok (.iload_n 2, 1) := by decide +kernel
theorem d_MO_writeItem_112 : decode b_MO_writeItem 112 = .ok (.bipush 7, 2) := by decide +kernel
theorem d_MO_writeItem_114 : decode b_MO_writeItem 114 = .ok (.if_icmp .eq 15, 3) := by decide +kernel
theorem d_MO_writeItem_117 : decode b_MO_writeItem 117 = .ok (.iload_n 2, 1) := by decide +kernel
theorem d_MO_writeItem_118 : decode b_MO_writeItem 118 = .ok (.bipush 8, 2) := by decide +kernel
theorem d_MO_writeItem_120 : decode b_MO_writeItem 120 = .ok (.if_icmp .eq 9, 3) := by decide +kernel
theorem d_MO_writeItem_123 : decode b_MO_writeItem 123 = .ok (.iload_n 2, 1) := by decide +kernel
theorem d_MO_writeItem_124 : decode b_MO_writeItem 124 = .ok (.bipush 9, 2) := by decide +kernel
theorem d_MO_writeItem_126 : decode b_MO_writeItem 126 = .ok (.if_icmp .ne 11, 3) := by decide +kernel
theorem d_MO_writeItem_129 : decode b_MO_writeItem 129 = .ok (.aload_n 0, 1) := by decide +kernel
theorem d_MO_writeItem_130 : decode b_MO_writeItem 130 = .ok (.iload_n 2, 1) := by decide +kernel
theorem d_MO_writeItem_131 : decode b_MO_writeItem 131 = .ok (.invokevirtual 328, 3) := by decide +kernel
theorem d_MO_writeItem_134 : decode b_MO_writeItem 134 = .ok (.goto 8, 3) := by decide +kernel
theorem d_MO_writeItem_137 : decode b_MO_writeItem 137 = .ok (.aload_n 0, 1) := by decide +kernel
theorem d_MO_writeItem_138 : decode b_MO_writeItem 138 = .ok (.iload_n 2, 1) := by decide +kernel
theorem d_MO_writeItem_139 : decode b_MO_writeItem 139 = .ok (.invokevirtual 331, 3) := by decide +kernel
theorem d_MO_writeItem_142 : decode b_MO_writeItem 142 = .ok (.return_, 1) := by decide +kernel
abbrev b_MO_text : ByteArray := prog_14_method_76_code
def y_MO_text : MethodName := ⟨"FormulaSheetModel", "text", "(III)I"⟩
theorem d_MO_text_0 : decode b_MO_text 0 = .ok (.aload_n 0, 1) := by decide +kernel
theorem d_MO_text_1 : decode b_MO_text 1 = .ok (.iconst 0, 1) := by decide +kernel
theorem d_MO_text_2 : decode b_MO_text 2 = .ok (.putfield 96, 3) := by decide +kernel
theorem d_MO_text_5 : decode b_MO_text 5 = .ok (.iload_n 1, 1) := by decide +kernel
theorem d_MO_text_6 : decode b_MO_text 6 = .ok (.iload_n 2, 1) := by decide +kernel
theorem d_MO_text_7 : decode b_MO_text 7 = .ok (.invokestatic 182, 3) := by decide +kernel
theorem d_MO_text_10 : decode b_MO_text 10 = .ok (.ifCond .eq 9, 3) := by decide +kernel
theorem d_MO_text_13 : decode b_MO_text 13 = .ok (.aload_n 0, 1) := by decide +kernel
theorem d_MO_text_14 : decode b_MO_text 14 = .ok (.iconst 1, 1) := by decide +kernel
theorem d_MO_text_15 : decode b_MO_text 15 = .ok (.invokevirtual 99, 3) := by decide +kernel
theorem d_MO_text_18 : decode b_MO_text 18 = .ok (.ireturn, 1) := by decide +kernel
theorem d_MO_text_19 : decode b_MO_text 19 = .ok (.bipush 10, 2) := by decide +kernel
theorem d_MO_text_21 : decode b_MO_text 21 = .ok (.iload_n 1, 1) := by decide +kernel
theorem d_MO_text_22 : decode b_MO_text 22 = .ok (.imul, 1) := by decide +kernel
theorem d_MO_text_23 : decode b_MO_text 23 = .ok (.iload_n 2, 1) := by decide +kernel
theorem d_MO_text_24 : decode b_MO_text 24 = .ok (.iadd, 1) := by decide +kernel
theorem d_MO_text_25 : decode b_MO_text 25 = .ok (.istore 4, 2) := by decide +kernel
theorem d_MO_text_27 : decode b_MO_text 27 = .ok (.aload_n 0, 1) := by decide +kernel
theorem d_MO_text_28 : decode b_MO_text 28 = .ok (.getfield 7, 3) := by decide +kernel
theorem d_MO_text_31 : decode b_MO_text 31 = .ok (.iload 4, 2) := by decide +kernel
theorem d_MO_text_33 : decode b_MO_text 33 = .ok (.iaload, 1) := by decide +kernel
theorem d_MO_text_34 : decode b_MO_text 34 = .ok (.iconst 2, 1) := by decide +kernel
theorem d_MO_text_35 : decode b_MO_text 35 = .ok (.if_icmp .eq 9, 3) := by decide +kernel
theorem d_MO_text_38 : decode b_MO_text 38 = .ok (.aload_n 0, 1) := by decide +kernel
theorem d_MO_text_39 : decode b_MO_text 39 = .ok (.iconst 2, 1) := by decide +kernel
theorem d_MO_text_40 : decode b_MO_text 40 = .ok (.invokevirtual 99, 3) := by decide +kernel
theorem d_MO_text_43 : decode b_MO_text 43 = .ok (.ireturn, 1) := by decide +kernel
theorem d_MO_text_44 : decode b_MO_text 44 = .ok (.aload_n 0, 1) := by decide +kernel
theorem d_MO_text_45 : decode b_MO_text 45 = .ok (.iconst 0, 1) := by decide +kernel
theorem d_MO_text_46 : decode b_MO_text 46 = .ok (.putfield 294, 3) := by decide +kernel
theorem d_MO_text_49 : decode b_MO_text 49 = .ok (.aload_n 0, 1) := by decide +kernel
theorem d_MO_text_50 : decode b_MO_text 50 = .ok (.iconst 0, 1) := by decide +kernel
theorem d_MO_text_51 : decode b_MO_text 51 = .ok (.putfield 300, 3) := by decide +kernel
theorem d_MO_text_54 : decode b_MO_text 54 = .ok (.bipush 40, 2) := by decide +kernel
theorem d_MO_text_56 : decode b_MO_text 56 = .ok (.iload 4, 2) := by decide +kernel
theorem d_MO_text_58 : decode b_MO_text 58 = .ok (.imul, 1) := by decide +kernel
theorem d_MO_text_59 : decode b_MO_text 59 = .ok (.istore 5, 2) := by decide +kernel
theorem d_MO_text_61 : decode b_MO_text 61 = .ok (.iload 5, 2) := by decide +kernel
theorem d_MO_text_63 : decode b_MO_text 63 = .ok (.bipush 40, 2) := by decide +kernel
theorem d_MO_text_65 : decode b_MO_text 65 = .ok (.iload 4, 2) := by decide +kernel
theorem d_MO_text_67 : decode b_MO_text 67 = .ok (.imul, 1) := by decide +kernel
theorem d_MO_text_68 : decode b_MO_text 68 = .ok (.aload_n 0, 1) := by decide +kernel
theorem d_MO_text_69 : decode b_MO_text 69 = .ok (.getfield 13, 3) := by decide +kernel
theorem d_MO_text_72 : decode b_MO_text 72 = .ok (.iload 4, 2) := by decide +kernel
theorem d_MO_text_74 : decode b_MO_text 74 = .ok (.iaload, 1) := by decide +kernel
theorem d_MO_text_75 : decode b_MO_text 75 = .ok (.iadd, 1) := by decide +kernel
theorem d_MO_text_76 : decode b_MO_text 76 = .ok (.if_icmp .ge 15, 3) := by decide +kernel
theorem d_MO_text_79 : decode b_MO_text 79 = .ok (.aload_n 0, 1) := by decide +kernel
theorem d_MO_text_80 : decode b_MO_text 80 = .ok (.iload 5, 2) := by decide +kernel
theorem d_MO_text_82 : decode b_MO_text 82 = .ok (.invokevirtual 334, 3) := by decide +kernel
theorem d_MO_text_85 : decode b_MO_text 85 = .ok (.iinc 5 1, 3) := by decide +kernel
theorem d_MO_text_88 : decode b_MO_text 88 = .ok (.goto (-27), 3) := by decide +kernel
theorem d_MO_text_91 : decode b_MO_text 91 = .ok (.iload_n 3, 1) := by decide +kernel
theorem d_MO_text_92 : decode b_MO_text 92 = .ok (.ifCond .lt 11, 3) := by decide +kernel
theorem d_MO_text_95 : decode b_MO_text 95 = .ok (.iload_n 3, 1) := by decide +kernel
theorem d_MO_text_96 : decode b_MO_text 96 = .ok (.aload_n 0, 1) := by decide +kernel
theorem d_MO_text_97 : decode b_MO_text 97 = .ok (.getfield 294, 3) := by decide +kernel
theorem d_MO_text_100 : decode b_MO_text 100 = .ok (.if_icmp .lt 7, 3) := by decide +kernel
theorem d_MO_text_103 : decode b_MO_text 103 = .ok (.iconst (-1), 1) := by decide +kernel
theorem d_MO_text_104 : decode b_MO_text 104 = .ok (.goto 9, 3) := by decide +kernel
theorem d_MO_text_107 : decode b_MO_text 107 = .ok (.aload_n 0, 1) := by decide +kernel
theorem d_MO_text_108 : decode b_MO_text 108 = .ok (.getfield 87, 3) := by decide +kernel
theorem d_MO_text_111 : decode b_MO_text 111 = .ok (.iload_n 3, 1) := by decide +kernel
theorem d_MO_text_112 : decode b_MO_text 112 = .ok (.iaload, 1) := by decide +kernel
theorem d_MO_text_113 : decode b_MO_text 113 = .ok (.ireturn, 1) := by decide +kernel
abbrev b_MO_count : ByteArray := prog_14_method_77_code
def y_MO_count : MethodName := ⟨"FormulaSheetModel", "count", "(I)I"⟩
theorem d_MO_count_0 : decode b_MO_count 0 = .ok (.aload_n 0, 1) := by decide +kernel
theorem d_MO_count_1 : decode b_MO_count 1 = .ok (.iconst 0, 1) := by decide +kernel
theorem d_MO_count_2 : decode b_MO_count 2 = .ok (.putfield 96, 3) := by decide +kernel
theorem d_MO_count_5 : decode b_MO_count 5 = .ok (.iload_n 1, 1) := by decide +kernel
theorem d_MO_count_6 : decode b_MO_count 6 = .ok (.ifCond .ne 8, 3) := by decide +kernel
theorem d_MO_count_9 : decode b_MO_count 9 = .ok (.aload_n 0, 1) := by decide +kernel
theorem d_MO_count_10 : decode b_MO_count 10 = .ok (.getfield 103, 3) := by decide +kernel
theorem d_MO_count_13 : decode b_MO_count 13 = .ok (.ireturn, 1) := by decide +kernel
theorem d_MO_count_14 : decode b_MO_count 14 = .ok (.iload_n 1, 1) := by decide +kernel
theorem d_MO_count_15 : decode b_MO_count 15 = .ok (.ifCond .lt 8, 3) := by decide +kernel
theorem d_MO_count_18 : decode b_MO_count 18 = .ok (.iload_n 1, 1) := by decide +kernel
theorem d_MO_count_19 : decode b_MO_count 19 = .ok (.iconst 5, 1) := by decide +kernel
theorem d_MO_count_20 : decode b_MO_count 20 = .ok (.if_icmp .le 5, 3) := by decide +kernel
theorem d_MO_count_23 : decode b_MO_count 23 = .ok (.iconst (-1), 1) := by decide +kernel
theorem d_MO_count_24 : decode b_MO_count 24 = .ok (.ireturn, 1) := by decide +kernel
theorem d_MO_count_25 : decode b_MO_count 25 = .ok (.aload_n 0, 1) := by decide +kernel
theorem d_MO_count_26 : decode b_MO_count 26 = .ok (.invokevirtual 193, 3) := by decide +kernel
theorem d_MO_count_29 : decode b_MO_count 29 = .ok (.iconst 0, 1) := by decide +kernel
theorem d_MO_count_30 : decode b_MO_count 30 = .ok (.istore_n 2, 1) := by decide +kernel
theorem d_MO_count_31 : decode b_MO_count 31 = .ok (.iconst 0, 1) := by decide +kernel
theorem d_MO_count_32 : decode b_MO_count 32 = .ok (.istore_n 3, 1) := by decide +kernel
theorem d_MO_count_33 : decode b_MO_count 33 = .ok (.iload_n 3, 1) := by decide +kernel
theorem d_MO_count_34 : decode b_MO_count 34 = .ok (.bipush 80, 2) := by decide +kernel
theorem d_MO_count_36 : decode b_MO_count 36 = .ok (.if_icmp .ge 75, 3) := by decide +kernel
theorem d_MO_count_39 : decode b_MO_count 39 = .ok (.aload_n 0, 1) := by decide +kernel
theorem d_MO_count_40 : decode b_MO_count 40 = .ok (.iload_n 3, 1) := by decide +kernel
theorem d_MO_count_41 : decode b_MO_count 41 = .ok (.invokevirtual 291, 3) := by decide +kernel
theorem d_MO_count_44 : decode b_MO_count 44 = .ok (.istore 4, 2) := by decide +kernel
theorem d_MO_count_46 : decode b_MO_count 46 = .ok (.iload_n 1, 1) := by decide +kernel
theorem d_MO_count_47 : decode b_MO_count 47 = .ok (.iconst 1, 1) := by decide +kernel
theorem d_MO_count_48 : decode b_MO_count 48 = .ok (.if_icmp .ne 8, 3) := by decide +kernel
theorem d_MO_count_51 : decode b_MO_count 51 = .ok (.iload 4, 2) := by decide +kernel
theorem d_MO_count_53 : decode b_MO_count 53 = .ok (.ifCond .gt 36, 3) := by decide +kernel
theorem d_MO_count_56 : decode b_MO_count 56 = .ok (.iload_n 1, 1) := by decide +kernel
theorem d_MO_count_57 : decode b_MO_count 57 = .ok (.iconst 2, 1) := by decide +kernel
theorem d_MO_count_58 : decode b_MO_count 58 = .ok (.if_icmp .ne 9, 3) := by decide +kernel
theorem d_MO_count_61 : decode b_MO_count 61 = .ok (.iload 4, 2) := by decide +kernel
theorem d_MO_count_63 : decode b_MO_count 63 = .ok (.iconst 1, 1) := by decide +kernel
theorem d_MO_count_64 : decode b_MO_count 64 = .ok (.if_icmp .gt 25, 3) := by decide +kernel
theorem d_MO_count_67 : decode b_MO_count 67 = .ok (.iload_n 1, 1) := by decide +kernel
theorem d_MO_count_68 : decode b_MO_count 68 = .ok (.iconst 3, 1) := by decide +kernel
theorem d_MO_count_69 : decode b_MO_count 69 = .ok (.if_icmp .ne 9, 3) := by decide +kernel
theorem d_MO_count_72 : decode b_MO_count 72 = .ok (.iload 4, 2) := by decide +kernel
theorem d_MO_count_74 : decode b_MO_count 74 = .ok (.iconst 4, 1) := by decide +kernel
theorem d_MO_count_75 : decode b_MO_count 75 = .ok (.if_icmp .eq 14, 3) := by decide +kernel
theorem d_MO_count_78 : decode b_MO_count 78 = .ok (.iload_n 1, 1) := by decide +kernel
theorem d_MO_count_79 : decode b_MO_count 79 = .ok (.iconst 4, 1) := by decide +kernel
theorem d_MO_count_80 : decode b_MO_count 80 = .ok (.if_icmp .ne 12, 3) := by decide +kernel
theorem d_MO_count_83 : decode b_MO_count 83 = .ok (.iload 4, 2) := by decide +kernel
theorem d_MO_count_85 : decode b_MO_count 85 = .ok (.iconst 2, 1) := by decide +kernel
theorem d_MO_count_86 : decode b_MO_count 86 = .ok (.if_icmp .le 6, 3) := by decide +kernel
theorem d_MO_count_89 : decode b_MO_count 89 = .ok (.iinc 2 1, 3) := by decide +kernel
theorem d_MO_count_92 : decode b_MO_count 92 = .ok (.iload_n 1, 1) := by decide +kernel
theorem d_MO_count_93 : decode b_MO_count 93 = .ok (.iconst 5, 1) := by decide +kernel
theorem d_MO_count_94 : decode b_MO_count 94 = .ok (.if_icmp .ne 11, 3) := by decide +kernel
theorem d_MO_count_97 : decode b_MO_count 97 = .ok (.iload_n 2, 1) := by decide +kernel
theorem d_MO_count_98 : decode b_MO_count 98 = .ok (.aload_n 0, 1) := by decide +kernel
theorem d_MO_count_99 : decode b_MO_count 99 = .ok (.iload_n 3, 1) := by decide +kernel
theorem d_MO_count_100 : decode b_MO_count 100 = .ok (.invokevirtual 268, 3) := by decide +kernel
theorem d_MO_count_103 : decode b_MO_count 103 = .ok (.iadd, 1) := by decide +kernel
theorem d_MO_count_104 : decode b_MO_count 104 = .ok (.istore_n 2, 1) := by decide +kernel
theorem d_MO_count_105 : decode b_MO_count 105 = .ok (.iinc 3 1, 3) := by decide +kernel
theorem d_MO_count_108 : decode b_MO_count 108 = .ok (.goto (-75), 3) := by decide +kernel
theorem d_MO_count_111 : decode b_MO_count 111 = .ok (.iload_n 2, 1) := by decide +kernel
theorem d_MO_count_112 : decode b_MO_count 112 = .ok (.ireturn, 1) := by decide +kernel
theorem tw_75 : lw_tbl[75]? = some (Cond.selects "FormulaSheetModel" ⟨"FormulaSheetModel", "writeItem", "(I)V"⟩ ⟨"FormulaSheetModel", "writeItem", "(I)V"⟩) := by decide +kernel
theorem tw_76 : lw_tbl[76]? = some (Cond.selects "FormulaSheetModel" ⟨"FormulaSheetModel", "writePart", "(I)V"⟩ ⟨"FormulaSheetModel", "writePart", "(I)V"⟩) := by decide +kernel
theorem tw_77 : lw_tbl[77]? = some (Cond.selects "FormulaSheetModel" ⟨"FormulaSheetModel", "beginPiece", "(I)V"⟩ ⟨"FormulaSheetModel", "beginPiece", "(I)V"⟩) := by decide +kernel
theorem tw_78 : lw_tbl[78]? = some (Cond.selects "FormulaSheetModel" ⟨"FormulaSheetModel", "writeNumeral", "(I)V"⟩ ⟨"FormulaSheetModel", "writeNumeral", "(I)V"⟩) := by decide +kernel
theorem tw_82 : lw_tbl[82]? = some (Cond.selects "FormulaSheetModel" ⟨"FormulaSheetModel", "writeReference", "(I)V"⟩ ⟨"FormulaSheetModel", "writeReference", "(I)V"⟩) := by decide +kernel
theorem tw_83 : lw_tbl[83]? = some (Cond.selects "FormulaSheetModel" ⟨"FormulaSheetModel", "name", "(II)V"⟩ ⟨"FormulaSheetModel", "name", "(II)V"⟩) := by decide +kernel
theorem tw_84 : lw_tbl[84]? = some (Cond.selects "FormulaSheetModel" ⟨"FormulaSheetModel", "bracketLast", "(I)V"⟩ ⟨"FormulaSheetModel", "bracketLast", "(I)V"⟩) := by decide +kernel
theorem tw_85 : lw_tbl[85]? = some (Cond.selects "FormulaSheetModel" ⟨"FormulaSheetModel", "writeFunction", "(I)V"⟩ ⟨"FormulaSheetModel", "writeFunction", "(I)V"⟩) := by decide +kernel
theorem tw_86 : lw_tbl[86]? = some (Cond.selects "FormulaSheetModel" ⟨"FormulaSheetModel", "writePair", "(I)V"⟩ ⟨"FormulaSheetModel", "writePair", "(I)V"⟩) := by decide +kernel
theorem tw_1808 : lw_tbl[1808]? = some (Jvm.Cond.methodLink "FormulaSheetModel" (334 : Nat) ({ cls := "FormulaSheetModel", name := "writeItem", desc := "(I)V" } : Jvm.MethodName)) := by decide +kernel
theorem tw_1810 : lw_tbl[1810]? = some (Jvm.Cond.instanceMethod ({ cls := "FormulaSheetModel", name := "writeItem", desc := "(I)V" } : Jvm.MethodName)) := by decide +kernel
theorem tw_1811 : lw_tbl[1811]? = some (Jvm.Cond.code ({ cls := "FormulaSheetModel", name := "writeItem", desc := "(I)V" } : Jvm.MethodName) prog_14_method_75_code (3 : Nat) (Option.none : Option Jvm.ClassFile.FieldType)) := by decide +kernel
theorem tw_1812 : lw_tbl[1812]? = some (Jvm.Cond.methodLink "FormulaSheetModel" (325 : Nat) ({ cls := "FormulaSheetModel", name := "writePart", desc := "(I)V" } : Jvm.MethodName)) := by decide +kernel
theorem tw_1814 : lw_tbl[1814]? = some (Jvm.Cond.instanceMethod ({ cls := "FormulaSheetModel", name := "writePart", desc := "(I)V" } : Jvm.MethodName)) := by decide +kernel
theorem tw_1815 : lw_tbl[1815]? = some (Jvm.Cond.code ({ cls := "FormulaSheetModel", name := "writePart", desc := "(I)V" } : Jvm.MethodName) prog_14_method_72_code (3 : Nat) (Option.none : Option Jvm.ClassFile.FieldType)) := by decide +kernel
theorem tw_1816 : lw_tbl[1816]? = some (Jvm.Cond.methodLink "FormulaSheetModel" (310 : Nat) ({ cls := "FormulaSheetModel", name := "beginPiece", desc := "(I)V" } : Jvm.MethodName)) := by decide +kernel
theorem tw_1818 : lw_tbl[1818]? = some (Jvm.Cond.instanceMethod ({ cls := "FormulaSheetModel", name := "beginPiece", desc := "(I)V" } : Jvm.MethodName)) := by decide +kernel
theorem tw_1819 : lw_tbl[1819]? = some (Jvm.Cond.code ({ cls := "FormulaSheetModel", name := "beginPiece", desc := "(I)V" } : Jvm.MethodName) prog_14_method_66_code (2 : Nat) (Option.none : Option Jvm.ClassFile.FieldType)) := by decide +kernel
theorem tw_1820 : lw_tbl[1820]? = some (Jvm.Cond.methodLink "FormulaSheetModel" (313 : Nat) ({ cls := "FormulaSheetModel", name := "writeNumeral", desc := "(I)V" } : Jvm.MethodName)) := by decide +kernel
theorem tw_1822 : lw_tbl[1822]? = some (Jvm.Cond.instanceMethod ({ cls := "FormulaSheetModel", name := "writeNumeral", desc := "(I)V" } : Jvm.MethodName)) := by decide +kernel
theorem tw_1823 : lw_tbl[1823]? = some (Jvm.Cond.code ({ cls := "FormulaSheetModel", name := "writeNumeral", desc := "(I)V" } : Jvm.MethodName) prog_14_method_69_code (5 : Nat) (Option.none : Option Jvm.ClassFile.FieldType)) := by decide +kernel
theorem tw_1836 : lw_tbl[1836]? = some (Jvm.Cond.methodLink "FormulaSheetModel" (316 : Nat) ({ cls := "FormulaSheetModel", name := "writeReference", desc := "(I)V" } : Jvm.MethodName)) := by decide +kernel
theorem tw_1838 : lw_tbl[1838]? = some (Jvm.Cond.instanceMethod ({ cls := "FormulaSheetModel", name := "writeReference", desc := "(I)V" } : Jvm.MethodName)) := by decide +kernel
theorem tw_1839 : lw_tbl[1839]? = some (Jvm.Cond.code ({ cls := "FormulaSheetModel", name := "writeReference", desc := "(I)V" } : Jvm.MethodName) prog_14_method_70_code (2 : Nat) (Option.none : Option Jvm.ClassFile.FieldType)) := by decide +kernel
theorem tw_1840 : lw_tbl[1840]? = some (Jvm.Cond.methodLink "FormulaSheetModel" (319 : Nat) ({ cls := "FormulaSheetModel", name := "name", desc := "(II)V" } : Jvm.MethodName)) := by decide +kernel
theorem tw_1842 : lw_tbl[1842]? = some (Jvm.Cond.instanceMethod ({ cls := "FormulaSheetModel", name := "name", desc := "(II)V" } : Jvm.MethodName)) := by decide +kernel
theorem tw_1843 : lw_tbl[1843]? = some (Jvm.Cond.code ({ cls := "FormulaSheetModel", name := "name", desc := "(II)V" } : Jvm.MethodName) prog_14_method_71_code (4 : Nat) (Option.none : Option Jvm.ClassFile.FieldType)) := by decide +kernel
theorem tw_1844 : lw_tbl[1844]? = some (Jvm.Cond.methodLink "FormulaSheetModel" (322 : Nat) ({ cls := "FormulaSheetModel", name := "bracketLast", desc := "(I)V" } : Jvm.MethodName)) := by decide +kernel
theorem tw_1846 : lw_tbl[1846]? = some (Jvm.Cond.instanceMethod ({ cls := "FormulaSheetModel", name := "bracketLast", desc := "(I)V" } : Jvm.MethodName)) := by decide +kernel
theorem tw_1847 : lw_tbl[1847]? = some (Jvm.Cond.code ({ cls := "FormulaSheetModel", name := "bracketLast", desc := "(I)V" } : Jvm.MethodName) prog_14_method_67_code (2 : Nat) (Option.none : Option Jvm.ClassFile.FieldType)) := by decide +kernel
theorem tw_1848 : lw_tbl[1848]? = some (Jvm.Cond.methodLink "FormulaSheetModel" (328 : Nat) ({ cls := "FormulaSheetModel", name := "writeFunction", desc := "(I)V" } : Jvm.MethodName)) := by decide +kernel
theorem tw_1850 : lw_tbl[1850]? = some (Jvm.Cond.instanceMethod ({ cls := "FormulaSheetModel", name := "writeFunction", desc := "(I)V" } : Jvm.MethodName)) := by decide +kernel
theorem tw_1851 : lw_tbl[1851]? = some (Jvm.Cond.code ({ cls := "FormulaSheetModel", name := "writeFunction", desc := "(I)V" } : Jvm.MethodName) prog_14_method_74_code (2 : Nat) (Option.none : Option Jvm.ClassFile.FieldType)) := by decide +kernel
theorem tw_1852 : lw_tbl[1852]? = some (Jvm.Cond.methodLink "FormulaSheetModel" (331 : Nat) ({ cls := "FormulaSheetModel", name := "writePair", desc := "(I)V" } : Jvm.MethodName)) := by decide +kernel
theorem tw_1854 : lw_tbl[1854]? = some (Jvm.Cond.instanceMethod ({ cls := "FormulaSheetModel", name := "writePair", desc := "(I)V" } : Jvm.MethodName)) := by decide +kernel
theorem tw_1855 : lw_tbl[1855]? = some (Jvm.Cond.code ({ cls := "FormulaSheetModel", name := "writePair", desc := "(I)V" } : Jvm.MethodName) prog_14_method_73_code (5 : Nat) (Option.none : Option Jvm.ClassFile.FieldType)) := by decide +kernel
noncomputable def q_MO_writePart (M : mo_S) (x1 : Int32) : Option (mo_S) := fs_okp (vp_in x1 3240) (Option.bind (q_MO_beginPiece M 5) (fun R1163 => (if (M.2.1 3 (Int32.toNatClampNeg x1)) = 0 then Option.bind (q_MO_writeNumeral R1163 x1) (fun R1172 => some R1172) else (if (M.2.1 3 (Int32.toNatClampNeg x1)) = 1 then fs_okp (vp_in x1 3240) (Option.bind (q_MO_writeReference R1163 (R1163.2.1 4 (Int32.toNatClampNeg x1))) (fun R1171 => some R1171)) else Option.bind (q_MO_name R1163 (R1163.1 34) (M.2.1 3 (Int32.toNatClampNeg x1))) (fun R1166 => fs_okp (vp_in x1 3240) (Option.bind (q_MO_writeReference R1166 (R1166.2.1 4 (Int32.toNatClampNeg x1))) (fun R1167 => Option.bind (q_MO_append R1167 58) (fun R1168 => fs_okp (vp_in x1 3240) (Option.bind (q_MO_writeReference R1168 (R1168.2.1 5 (Int32.toNatClampNeg x1))) (fun R1169 => Option.bind (q_MO_append R1169 41) (fun R1170 => some R1170)))))))))))
set_option maxHeartbeats 4000000 in
set_option maxRecDepth 100000 in
theorem k_MO_writePart {l : Launch} {s00 : State} {G : fs_G} (hSt : fs_St l s00 G) {h : fs_Hp} {a : Nat} {ad : Nat → Nat} {M : mo_S} (hM : mo_at G h a ad M) (x1 : Int32) {r : mo_S} (hq : q_MO_writePart M x1 = some r) : fs_Ct l s00 G y_MO_writePart (.code y_MO_writePart b_MO_writePart 3 none) { frames := 4, cells := 0, slots := 0, locals := 62 } [.ref a, .int x1] h (fun o h' => o = .inl none ∧ mo_at G h' a ad r ∧ mo_fr a ad h h') := by
  refine fs_Ct.ofW hSt (by decide) ?_
  intro p e s m below meth c B hout hP
  obtain ⟨hx, hb, hr, hml, hown, hts, hlocks, hname, hK, hw, htr⟩ := id B
  have hown : s.vm.findClass "FormulaSheetModel" = some m.cls := hown
  have hS := hw.S
  have hA : ∀ q : Nat, s00.heap.size ≤ q → fs_A s00 q := fun _ h9 => h9
  generalize hH : s.heap = H at hP hS ⊢
  have hH0 : s.heap.size ≤ H.size := by rw [hH]; exact Nat.le_refl _
  have hl := lv_entry ([.ref a, .int x1]) (n := 3) (Nat.le_of_ble_eq_true rfl)
  rw [lg_entry_eq]
  generalize (lg_sl ([.ref a, .int x1]) ++ List.replicate (3 - (lg_sl ([.ref a, .int x1])).length) Slot.unset).toArray = ls at hl ⊢
  have hl : lv_has ls 3 [(0, .ref a), (1, .int x1)] := hl
  have hf : mo_fr a ad h h := mo_fr.rf
  rw [q_MO_writePart] at hq
  refine lv_aload_n hx hb d_MO_writePart_0 rfl (lv_at hl 0 rfl) ?_
  refine fs_get (v := .ref (ad 3)) hx hb hts hown hK c_MO hP hM.1 3 (by decide) (hts _ (fs_tb_at 1459 tw_1459 rfl)) (fun _ h9 => h9) rfl d_MO_writePart_1 ?_
  refine lv_iload_n hx hb d_MO_writePart_4 rfl (lv_at hl 1 rfl) ?_
  obtain ⟨hi_, hq⟩ := fs_okp_some hq
  refine fs_iald (f := M.2.1 3) hx hb hK hP 0 (hM.2.1 3 0 3240 rfl) rfl hi_ d_MO_writePart_5 ?_
  refine lv_istore_n (lv' := [(2, .int (M.2.1 3 (Int32.toNatClampNeg x1))), (0, .ref a), (1, .int x1)]) hx hb d_MO_writePart_6 rfl hl (by decide) rfl (fun ls hl => ?_)
  refine lv_aload_n hx hb d_MO_writePart_7 rfl (lv_at hl 1 rfl) ?_
  refine lv_iconst (v := 5) hx hb d_MO_writePart_8 (by decide) ?_
  obtain ⟨R1163, eR1163, hq⟩ := fs_bind_some hq
  refine fs_cV B hl.1 hP hS (k_MO_beginPiece hSt hM 5 eR1163) (fs_tb_at 1816 tw_1816 rfl) hM.1 rfl (fs_tb_at 1818 tw_1818 rfl) (fs_tb_at 77 tw_77 rfl) (fs_tb_at 96 tw_96 rfl) (fs_tb_at 1819 tw_1819 rfl) (by decide) (show (parseMethodDescriptor y_MO_beginPiece.desc).map (fun d => d.parameters.length) = some 1 by decide +kernel) rfl d_MO_writePart_9 ⟨Nat.le_of_ble_eq_true rfl, Nat.le_of_ble_eq_true rfl, Nat.le_of_ble_eq_true rfl, Nat.le_of_ble_eq_true rfl⟩ (fun v_ h_ H locs hc_ hP hS => ?_) (fun C_ a_ h_ H locs hc_ => absurd hc_.1 (fun h9 => by cases h9))
  obtain ⟨ev, hM, hf2⟩ := hc_
  cases ev
  have hf := hf.trans hf2
  refine W.widen (k := 0) (n := 0) (Nat.le_of_ble_eq_true rfl) (Nat.le_of_ble_eq_true rfl) ?_
  refine W.eq (g2 := F0 m 12 ls ([])) rfl ?_
  refine lv_iload_n hx hb d_MO_writePart_12 rfl (lv_at hl 0 rfl) ?_
  refine lv_if_ne (tgt := 24) hx hb d_MO_writePart_13 (by decide) (fun c_1164 => ?_) (fun c_1164 => ?_)
  · have hq := fs_ifn c_1164 hq
    refine lv_iload_n hx hb d_MO_writePart_24 rfl (lv_at hl 0 rfl) ?_
    refine lv_iconst (v := 1) hx hb d_MO_writePart_25 (by decide) ?_
    refine lv_icmp_ne (tgt := 42) hx hb d_MO_writePart_26 (by decide) (fun c_1165 => ?_) (fun c_1165 => ?_)
    · have hq := fs_ifn c_1165 hq
      refine lv_aload_n hx hb d_MO_writePart_42 rfl (lv_at hl 1 rfl) ?_
      refine lv_aload_n hx hb d_MO_writePart_43 rfl (lv_at hl 1 rfl) ?_
      refine fs_get (v := .int (R1163.1 34)) hx hb hts hown hK c_MO hP hM.1 34 (by decide) (hts _ (fs_tb_at 1490 tw_1490 rfl)) (fun _ h9 => h9) rfl d_MO_writePart_44 ?_
      refine lv_iload_n hx hb d_MO_writePart_47 rfl (lv_at hl 0 rfl) ?_
      obtain ⟨R1166, eR1166, hq⟩ := fs_bind_some hq
      refine fs_cV B hl.1 hP hS (k_MO_name hSt hM (R1163.1 34) (M.2.1 3 (Int32.toNatClampNeg x1)) eR1166) (fs_tb_at 1840 tw_1840 rfl) hM.1 rfl (fs_tb_at 1842 tw_1842 rfl) (fs_tb_at 83 tw_83 rfl) (fs_tb_at 96 tw_96 rfl) (fs_tb_at 1843 tw_1843 rfl) (by decide) (show (parseMethodDescriptor y_MO_name.desc).map (fun d => d.parameters.length) = some 2 by decide +kernel) rfl d_MO_writePart_48 ⟨Nat.le_of_ble_eq_true rfl, Nat.le_of_ble_eq_true rfl, Nat.le_of_ble_eq_true rfl, Nat.le_of_ble_eq_true rfl⟩ (fun v_ h_ H locs hc_ hP hS => ?_) (fun C_ a_ h_ H locs hc_ => absurd hc_.1 (fun h9 => by cases h9))
      obtain ⟨ev, hM, hf2⟩ := hc_
      cases ev
      have hf := hf.trans hf2
      refine W.widen (k := 0) (n := 0) (Nat.le_of_ble_eq_true rfl) (Nat.le_of_ble_eq_true rfl) ?_
      refine W.eq (g2 := F0 m 51 ls ([])) rfl ?_
      refine lv_aload_n hx hb d_MO_writePart_51 rfl (lv_at hl 1 rfl) ?_
      refine lv_aload_n hx hb d_MO_writePart_52 rfl (lv_at hl 1 rfl) ?_
      refine fs_get (v := .ref (ad 4)) hx hb hts hown hK c_MO hP hM.1 4 (by decide) (hts _ (fs_tb_at 1460 tw_1460 rfl)) (fun _ h9 => h9) rfl d_MO_writePart_53 ?_
      refine lv_iload_n hx hb d_MO_writePart_56 rfl (lv_at hl 2 rfl) ?_
      obtain ⟨hi_, hq⟩ := fs_okp_some hq
      refine fs_iald (f := R1166.2.1 4) hx hb hK hP 0 (hM.2.1 4 0 3240 rfl) rfl hi_ d_MO_writePart_57 ?_
      obtain ⟨R1167, eR1167, hq⟩ := fs_bind_some hq
      refine fs_cV B hl.1 hP hS (k_MO_writeReference hSt hM (R1166.2.1 4 (Int32.toNatClampNeg x1)) eR1167) (fs_tb_at 1836 tw_1836 rfl) hM.1 rfl (fs_tb_at 1838 tw_1838 rfl) (fs_tb_at 82 tw_82 rfl) (fs_tb_at 96 tw_96 rfl) (fs_tb_at 1839 tw_1839 rfl) (by decide) (show (parseMethodDescriptor y_MO_writeReference.desc).map (fun d => d.parameters.length) = some 1 by decide +kernel) rfl d_MO_writePart_58 ⟨Nat.le_of_ble_eq_true rfl, Nat.le_of_ble_eq_true rfl, Nat.le_of_ble_eq_true rfl, Nat.le_of_ble_eq_true rfl⟩ (fun v_ h_ H locs hc_ hP hS => ?_) (fun C_ a_ h_ H locs hc_ => absurd hc_.1 (fun h9 => by cases h9))
      obtain ⟨ev, hM, hf2⟩ := hc_
      cases ev
      have hf := hf.trans hf2
      refine W.widen (k := 0) (n := 0) (Nat.le_of_ble_eq_true rfl) (Nat.le_of_ble_eq_true rfl) ?_
      refine W.eq (g2 := F0 m 61 ls ([])) rfl ?_
      refine lv_aload_n hx hb d_MO_writePart_61 rfl (lv_at hl 1 rfl) ?_
      refine lv_bipush (v := 58) hx hb d_MO_writePart_62 (by decide) ?_
      obtain ⟨R1168, eR1168, hq⟩ := fs_bind_some hq
      refine fs_cV B hl.1 hP hS (k_MO_append hSt hM 58 eR1168) (fs_tb_at 1828 tw_1828 rfl) hM.1 rfl (fs_tb_at 1830 tw_1830 rfl) (fs_tb_at 80 tw_80 rfl) (fs_tb_at 96 tw_96 rfl) (fs_tb_at 1831 tw_1831 rfl) (by decide) (show (parseMethodDescriptor y_MO_append.desc).map (fun d => d.parameters.length) = some 1 by decide +kernel) rfl d_MO_writePart_64 ⟨Nat.le_of_ble_eq_true rfl, Nat.le_of_ble_eq_true rfl, Nat.le_of_ble_eq_true rfl, Nat.le_of_ble_eq_true rfl⟩ (fun v_ h_ H locs hc_ hP hS => ?_) (fun C_ a_ h_ H locs hc_ => absurd hc_.1 (fun h9 => by cases h9))
      obtain ⟨ev, hM, hf2⟩ := hc_
      cases ev
      have hf := hf.trans hf2
      refine W.widen (k := 0) (n := 0) (Nat.le_of_ble_eq_true rfl) (Nat.le_of_ble_eq_true rfl) ?_
      refine W.eq (g2 := F0 m 67 ls ([])) rfl ?_
      refine lv_aload_n hx hb d_MO_writePart_67 rfl (lv_at hl 1 rfl) ?_
      refine lv_aload_n hx hb d_MO_writePart_68 rfl (lv_at hl 1 rfl) ?_
      refine fs_get (v := .ref (ad 5)) hx hb hts hown hK c_MO hP hM.1 5 (by decide) (hts _ (fs_tb_at 1461 tw_1461 rfl)) (fun _ h9 => h9) rfl d_MO_writePart_69 ?_
      refine lv_iload_n hx hb d_MO_writePart_72 rfl (lv_at hl 2 rfl) ?_
      obtain ⟨hi_, hq⟩ := fs_okp_some hq
      refine fs_iald (f := R1168.2.1 5) hx hb hK hP 0 (hM.2.1 5 0 3240 rfl) rfl hi_ d_MO_writePart_73 ?_
      obtain ⟨R1169, eR1169, hq⟩ := fs_bind_some hq
      refine fs_cV B hl.1 hP hS (k_MO_writeReference hSt hM (R1168.2.1 5 (Int32.toNatClampNeg x1)) eR1169) (fs_tb_at 1836 tw_1836 rfl) hM.1 rfl (fs_tb_at 1838 tw_1838 rfl) (fs_tb_at 82 tw_82 rfl) (fs_tb_at 96 tw_96 rfl) (fs_tb_at 1839 tw_1839 rfl) (by decide) (show (parseMethodDescriptor y_MO_writeReference.desc).map (fun d => d.parameters.length) = some 1 by decide +kernel) rfl d_MO_writePart_74 ⟨Nat.le_of_ble_eq_true rfl, Nat.le_of_ble_eq_true rfl, Nat.le_of_ble_eq_true rfl, Nat.le_of_ble_eq_true rfl⟩ (fun v_ h_ H locs hc_ hP hS => ?_) (fun C_ a_ h_ H locs hc_ => absurd hc_.1 (fun h9 => by cases h9))
      obtain ⟨ev, hM, hf2⟩ := hc_
      cases ev
      have hf := hf.trans hf2
      refine W.widen (k := 0) (n := 0) (Nat.le_of_ble_eq_true rfl) (Nat.le_of_ble_eq_true rfl) ?_
      refine W.eq (g2 := F0 m 77 ls ([])) rfl ?_
      refine lv_aload_n hx hb d_MO_writePart_77 rfl (lv_at hl 1 rfl) ?_
      refine lv_bipush (v := 41) hx hb d_MO_writePart_78 (by decide) ?_
      obtain ⟨R1170, eR1170, hq⟩ := fs_bind_some hq
      refine fs_cV B hl.1 hP hS (k_MO_append hSt hM 41 eR1170) (fs_tb_at 1828 tw_1828 rfl) hM.1 rfl (fs_tb_at 1830 tw_1830 rfl) (fs_tb_at 80 tw_80 rfl) (fs_tb_at 96 tw_96 rfl) (fs_tb_at 1831 tw_1831 rfl) (by decide) (show (parseMethodDescriptor y_MO_append.desc).map (fun d => d.parameters.length) = some 1 by decide +kernel) rfl d_MO_writePart_80 ⟨Nat.le_of_ble_eq_true rfl, Nat.le_of_ble_eq_true rfl, Nat.le_of_ble_eq_true rfl, Nat.le_of_ble_eq_true rfl⟩ (fun v_ h_ H locs hc_ hP hS => ?_) (fun C_ a_ h_ H locs hc_ => absurd hc_.1 (fun h9 => by cases h9))
      obtain ⟨ev, hM, hf2⟩ := hc_
      cases ev
      have hf := hf.trans hf2
      refine W.widen (k := 0) (n := 0) (Nat.le_of_ble_eq_true rfl) (Nat.le_of_ble_eq_true rfl) ?_
      refine W.eq (g2 := F0 m 83 ls ([])) rfl ?_
      cases hq
      exact fs_vret hx hb hr hlocks hw hP hS (by omega) (by omega) (⟨rfl, hM, hf⟩) d_MO_writePart_83
    · have hq := fs_ifp c_1165 hq
      refine lv_aload_n hx hb d_MO_writePart_29 rfl (lv_at hl 1 rfl) ?_
      refine lv_aload_n hx hb d_MO_writePart_30 rfl (lv_at hl 1 rfl) ?_
      refine fs_get (v := .ref (ad 4)) hx hb hts hown hK c_MO hP hM.1 4 (by decide) (hts _ (fs_tb_at 1460 tw_1460 rfl)) (fun _ h9 => h9) rfl d_MO_writePart_31 ?_
      refine lv_iload_n hx hb d_MO_writePart_34 rfl (lv_at hl 2 rfl) ?_
      obtain ⟨hi_, hq⟩ := fs_okp_some hq
      refine fs_iald (f := R1163.2.1 4) hx hb hK hP 0 (hM.2.1 4 0 3240 rfl) rfl hi_ d_MO_writePart_35 ?_
      obtain ⟨R1171, eR1171, hq⟩ := fs_bind_some hq
      refine fs_cV B hl.1 hP hS (k_MO_writeReference hSt hM (R1163.2.1 4 (Int32.toNatClampNeg x1)) eR1171) (fs_tb_at 1836 tw_1836 rfl) hM.1 rfl (fs_tb_at 1838 tw_1838 rfl) (fs_tb_at 82 tw_82 rfl) (fs_tb_at 96 tw_96 rfl) (fs_tb_at 1839 tw_1839 rfl) (by decide) (show (parseMethodDescriptor y_MO_writeReference.desc).map (fun d => d.parameters.length) = some 1 by decide +kernel) rfl d_MO_writePart_36 ⟨Nat.le_of_ble_eq_true rfl, Nat.le_of_ble_eq_true rfl, Nat.le_of_ble_eq_true rfl, Nat.le_of_ble_eq_true rfl⟩ (fun v_ h_ H locs hc_ hP hS => ?_) (fun C_ a_ h_ H locs hc_ => absurd hc_.1 (fun h9 => by cases h9))
      obtain ⟨ev, hM, hf2⟩ := hc_
      cases ev
      have hf := hf.trans hf2
      refine W.widen (k := 0) (n := 0) (Nat.le_of_ble_eq_true rfl) (Nat.le_of_ble_eq_true rfl) ?_
      refine W.eq (g2 := F0 m 39 ls ([])) rfl ?_
      refine lv_goto (tgt := 83) hx hb d_MO_writePart_39 (by decide) ?_
      cases hq
      exact fs_vret hx hb hr hlocks hw hP hS (by omega) (by omega) (⟨rfl, hM, hf⟩) d_MO_writePart_83
  · have hq := fs_ifp c_1164 hq
    refine lv_aload_n hx hb d_MO_writePart_16 rfl (lv_at hl 1 rfl) ?_
    refine lv_iload_n hx hb d_MO_writePart_17 rfl (lv_at hl 2 rfl) ?_
    obtain ⟨R1172, eR1172, hq⟩ := fs_bind_some hq
    refine fs_cV B hl.1 hP hS (k_MO_writeNumeral hSt hM x1 eR1172) (fs_tb_at 1820 tw_1820 rfl) hM.1 rfl (fs_tb_at 1822 tw_1822 rfl) (fs_tb_at 78 tw_78 rfl) (fs_tb_at 96 tw_96 rfl) (fs_tb_at 1823 tw_1823 rfl) (by decide) (show (parseMethodDescriptor y_MO_writeNumeral.desc).map (fun d => d.parameters.length) = some 1 by decide +kernel) rfl d_MO_writePart_18 ⟨Nat.le_of_ble_eq_true rfl, Nat.le_of_ble_eq_true rfl, Nat.le_of_ble_eq_true rfl, Nat.le_of_ble_eq_true rfl⟩ (fun v_ h_ H locs hc_ hP hS => ?_) (fun C_ a_ h_ H locs hc_ => absurd hc_.1 (fun h9 => by cases h9))
    obtain ⟨ev, hM, hf2⟩ := hc_
    cases ev
    have hf := hf.trans hf2
    refine W.widen (k := 0) (n := 0) (Nat.le_of_ble_eq_true rfl) (Nat.le_of_ble_eq_true rfl) ?_
    refine W.eq (g2 := F0 m 21 ls ([])) rfl ?_
    refine lv_goto (tgt := 83) hx hb d_MO_writePart_21 (by decide) ?_
    cases hq
    exact fs_vret hx hb hr hlocks hw hP hS (by omega) (by omega) (⟨rfl, hM, hf⟩) d_MO_writePart_83
noncomputable def q_MO_writePair_J119 (z2 : Int32) (M1 : mo_S) : Option (mo_S) := fs_okp (vp_in ((M1.1 35) - 1) 44) (some (mo_i M1 33 (Int32.toNatClampNeg ((M1.1 35) - 1)) z2))
noncomputable def q_MO_writePair_J77 (z2 : Int32) (z3 : Int32) (w0 : Int32) (M1 : mo_S) : Option (mo_S) := fs_okp (vp_in ((M1.1 35) - 1) 44) ((if w0 ≤ (M1.2.1 33 (Int32.toNatClampNeg ((M1.1 35) - 1))) then q_MO_writePair_J119 z2 M1 else Option.bind (q_MO_insertAt M1 z3 41) (fun R1194 => fs_okp (vp_in ((R1194.1 35) - 1) 44) (Option.bind (q_MO_insertAt R1194 (R1194.2.1 32 (Int32.toNatClampNeg ((R1194.1 35) - 1))) 40) (fun R1195 => q_MO_writePair_J119 z2 R1195)))))
noncomputable def q_MO_writePair_J36 (z1 : Int32) (z2 : Int32) (w0 : Int32) (M1 : mo_S) : Option (mo_S) := Option.bind (q_MO_bracketLast M1 w0) (fun R1196 => fs_okp (vp_in ((R1196.1 35) - 1) 44) (Option.bind (q_MO_insertAt R1196 (R1196.2.1 32 (Int32.toNatClampNeg ((R1196.1 35) - 1))) z1) (fun R1197 => (if z2 = 1 then q_MO_writePair_J77 z2 (R1196.2.1 32 (Int32.toNatClampNeg ((R1196.1 35) - 1))) 2 (mo_f R1197 35 ((R1197.1 35) - 1)) else q_MO_writePair_J77 z2 (R1196.2.1 32 (Int32.toNatClampNeg ((R1196.1 35) - 1))) z2 (mo_f R1197 35 ((R1197.1 35) - 1))))))
noncomputable def q_MO_writePair_J20 (z1 : Int32) (z2 : Int32) (M1 : mo_S) : Option (mo_S) := q_MO_writePair_J36 z1 z2 1 M1
noncomputable def q_MO_writePair (M : mo_S) (x1 : Int32) : Option (mo_S) := (if x1 = 38 then q_MO_writePair_J20 x1 ((p_MO_strength x1) - 1) M else (if x1 = 124 then q_MO_writePair_J20 x1 ((p_MO_strength x1) - 1) M else (if ((p_MO_strength x1) - 1) = 1 then q_MO_writePair_J36 x1 ((p_MO_strength x1) - 1) 2 M else q_MO_writePair_J36 x1 ((p_MO_strength x1) - 1) (((p_MO_strength x1) - 1) + 1) M)))
set_option maxHeartbeats 4000000 in
set_option maxRecDepth 100000 in
theorem k_MO_writePair {l : Launch} {s00 : State} {G : fs_G} (hSt : fs_St l s00 G) {h : fs_Hp} {a : Nat} {ad : Nat → Nat} {M : mo_S} (hM : mo_at G h a ad M) (x1 : Int32) {r : mo_S} (hq : q_MO_writePair M x1 = some r) : fs_Ct l s00 G y_MO_writePair (.code y_MO_writePair b_MO_writePair 5 none) { frames := 3, cells := 0, slots := 0, locals := 41 } [.ref a, .int x1] h (fun o h' => o = .inl none ∧ mo_at G h' a ad r ∧ mo_fr a ad h h') := by
  refine fs_Ct.ofW hSt (by decide) ?_
  intro p e s m below meth c B hout hP
  obtain ⟨hx, hb, hr, hml, hown, hts, hlocks, hname, hK, hw, htr⟩ := id B
  have hown : s.vm.findClass "FormulaSheetModel" = some m.cls := hown
  have hS := hw.S
  have hA : ∀ q : Nat, s00.heap.size ≤ q → fs_A s00 q := fun _ h9 => h9
  generalize hH : s.heap = H at hP hS ⊢
  have hH0 : s.heap.size ≤ H.size := by rw [hH]; exact Nat.le_refl _
  have hJ119 : ∀ (z2 : Int32) (M1 : mo_S) (h1 : fs_Hp) (H : Heap) (locs : List Loc) (ls : Array Slot), q_MO_writePair_J119 z2 M1 = some r → fs_P G.1 fs_cl (fs_A s00) h1 H → va_S (fs_A s00) s00.heap H locs → mo_at G h1 a ad M1 → mo_fr a ad h h1 → lv_has ls 5 [(0, .ref a), (2, .int z2)] → W p l e { frames := 3, cells := 0, slots := 0, locals := 41 } s m ([.ref a, .int x1] : List Value).toArray below meth c H locs 0 0 (fx_MQ below (fs_Qc s00 G (fun o h' => o = .inl none ∧ mo_at G h' a ad r ∧ mo_fr a ad h h')) ([.ref a, .int x1] : List Value).toArray s 0 0 (fs_A s00)) (F0 m 119 ls ([])) := by
    intro z2 M1 h1 H locs ls hq hP hS hM hf hl
    rw [q_MO_writePair_J119] at hq
    refine lv_aload_n hx hb d_MO_writePair_119 rfl (lv_at hl 0 rfl) ?_
    refine fs_get (v := .ref (ad 33)) hx hb hts hown hK c_MO hP hM.1 33 (by decide) (hts _ (fs_tb_at 1489 tw_1489 rfl)) (fun _ h9 => h9) rfl d_MO_writePair_120 ?_
    refine lv_aload_n hx hb d_MO_writePair_123 rfl (lv_at hl 0 rfl) ?_
    refine fs_get (v := .int (M1.1 35)) hx hb hts hown hK c_MO hP hM.1 35 (by decide) (hts _ (fs_tb_at 1491 tw_1491 rfl)) (fun _ h9 => h9) rfl d_MO_writePair_124 ?_
    refine lv_iconst (v := 1) hx hb d_MO_writePair_127 (by decide) ?_
    refine lv_isub hx hb d_MO_writePair_128 ?_
    refine lv_iload_n hx hb d_MO_writePair_129 rfl (lv_at hl 1 rfl) ?_
    obtain ⟨hi_, hq⟩ := fs_okp_some hq
    refine fs_iast hx hb hK hP hS 0 (hM.2.1 33 0 44 rfl) rfl hi_ d_MO_writePair_130 (fun H locs hP hS => ?_)
    obtain ⟨h1192, hP, hM, hf⟩ : ∃ x, fs_P G.1 fs_cl (fs_A s00) x H ∧ mo_at G x a ad (mo_i M1 33 (Int32.toNatClampNeg ((M1.1 35) - 1)) z2) ∧ mo_fr a ad h x := ⟨_, hP, hM.I (j := 33) (k := (Int32.toNatClampNeg ((M1.1 35) - 1))) (x := z2) rfl (fun _ => rfl), hf.arr (j := 33) (by decide)⟩
    cases hq
    exact fs_vret hx hb hr hlocks hw hP hS (by omega) (by omega) (⟨rfl, hM, hf⟩) d_MO_writePair_131
  have hJ77 : ∀ (z2 : Int32) (z3 : Int32) (w0 : Int32) (M1 : mo_S) (h1 : fs_Hp) (H : Heap) (locs : List Loc) (ls : Array Slot), q_MO_writePair_J77 z2 z3 w0 M1 = some r → fs_P G.1 fs_cl (fs_A s00) h1 H → va_S (fs_A s00) s00.heap H locs → mo_at G h1 a ad M1 → mo_fr a ad h h1 → lv_has ls 5 [(0, .ref a), (2, .int z2), (3, .int z3)] → W p l e { frames := 3, cells := 0, slots := 0, locals := 41 } s m ([.ref a, .int x1] : List Value).toArray below meth c H locs 0 0 (fx_MQ below (fs_Qc s00 G (fun o h' => o = .inl none ∧ mo_at G h' a ad r ∧ mo_fr a ad h h')) ([.ref a, .int x1] : List Value).toArray s 0 0 (fs_A s00)) (F0 m 77 ls (.int w0 :: [])) := by
    intro z2 z3 w0 M1 h1 H locs ls hq hP hS hM hf hl
    rw [q_MO_writePair_J77] at hq
    refine lv_istore (lv' := [(4, .int w0), (0, .ref a), (2, .int z2), (3, .int z3)]) hx hb d_MO_writePair_77 hl (by decide) rfl (fun ls hl => ?_)
    refine lv_aload_n hx hb d_MO_writePair_79 rfl (lv_at hl 1 rfl) ?_
    refine fs_get (v := .ref (ad 33)) hx hb hts hown hK c_MO hP hM.1 33 (by decide) (hts _ (fs_tb_at 1489 tw_1489 rfl)) (fun _ h9 => h9) rfl d_MO_writePair_80 ?_
    refine lv_aload_n hx hb d_MO_writePair_83 rfl (lv_at hl 1 rfl) ?_
    refine fs_get (v := .int (M1.1 35)) hx hb hts hown hK c_MO hP hM.1 35 (by decide) (hts _ (fs_tb_at 1491 tw_1491 rfl)) (fun _ h9 => h9) rfl d_MO_writePair_84 ?_
    refine lv_iconst (v := 1) hx hb d_MO_writePair_87 (by decide) ?_
    refine lv_isub hx hb d_MO_writePair_88 ?_
    obtain ⟨hi_, hq⟩ := fs_okp_some hq
    refine fs_iald (f := M1.2.1 33) hx hb hK hP 0 (hM.2.1 33 0 44 rfl) rfl hi_ d_MO_writePair_89 ?_
    refine lv_iload hx hb d_MO_writePair_90 (lv_at hl 0 rfl) ?_
    refine lv_icmp_ge (tgt := 119) hx hb d_MO_writePair_92 (by decide) (fun c_1193 => ?_) (fun c_1193 => ?_)
    · have hq := fs_ifp c_1193 hq
      exact hJ119 z2 M1 _ _ _ _ hq hP hS hM hf (lv_sub hl [1, 2] rfl)
    · have hq := fs_ifn c_1193 hq
      refine lv_aload_n hx hb d_MO_writePair_95 rfl (lv_at hl 1 rfl) ?_
      refine lv_iload_n hx hb d_MO_writePair_96 rfl (lv_at hl 3 rfl) ?_
      refine lv_bipush (v := 41) hx hb d_MO_writePair_97 (by decide) ?_
      obtain ⟨R1194, eR1194, hq⟩ := fs_bind_some hq
      refine fs_cV B hl.1 hP hS (k_MO_insertAt hSt hM z3 41 eR1194) (fs_tb_at 1832 tw_1832 rfl) hM.1 rfl (fs_tb_at 1834 tw_1834 rfl) (fs_tb_at 81 tw_81 rfl) (fs_tb_at 96 tw_96 rfl) (fs_tb_at 1835 tw_1835 rfl) (by decide) (show (parseMethodDescriptor y_MO_insertAt.desc).map (fun d => d.parameters.length) = some 2 by decide +kernel) rfl d_MO_writePair_99 ⟨Nat.le_of_ble_eq_true rfl, Nat.le_of_ble_eq_true rfl, Nat.le_of_ble_eq_true rfl, Nat.le_of_ble_eq_true rfl⟩ (fun v_ h_ H locs hc_ hP hS => ?_) (fun C_ a_ h_ H locs hc_ => absurd hc_.1 (fun h9 => by cases h9))
      obtain ⟨ev, hM, hf2⟩ := hc_
      cases ev
      have hf := hf.trans hf2
      refine W.widen (k := 0) (n := 0) (Nat.le_of_ble_eq_true rfl) (Nat.le_of_ble_eq_true rfl) ?_
      refine W.eq (g2 := F0 m 102 ls ([])) rfl ?_
      refine lv_aload_n hx hb d_MO_writePair_102 rfl (lv_at hl 1 rfl) ?_
      refine lv_aload_n hx hb d_MO_writePair_103 rfl (lv_at hl 1 rfl) ?_
      refine fs_get (v := .ref (ad 32)) hx hb hts hown hK c_MO hP hM.1 32 (by decide) (hts _ (fs_tb_at 1488 tw_1488 rfl)) (fun _ h9 => h9) rfl d_MO_writePair_104 ?_
      refine lv_aload_n hx hb d_MO_writePair_107 rfl (lv_at hl 1 rfl) ?_
      refine fs_get (v := .int (R1194.1 35)) hx hb hts hown hK c_MO hP hM.1 35 (by decide) (hts _ (fs_tb_at 1491 tw_1491 rfl)) (fun _ h9 => h9) rfl d_MO_writePair_108 ?_
      refine lv_iconst (v := 1) hx hb d_MO_writePair_111 (by decide) ?_
      refine lv_isub hx hb d_MO_writePair_112 ?_
      obtain ⟨hi_, hq⟩ := fs_okp_some hq
      refine fs_iald (f := R1194.2.1 32) hx hb hK hP 0 (hM.2.1 32 0 44 rfl) rfl hi_ d_MO_writePair_113 ?_
      refine lv_bipush (v := 40) hx hb d_MO_writePair_114 (by decide) ?_
      obtain ⟨R1195, eR1195, hq⟩ := fs_bind_some hq
      refine fs_cV B hl.1 hP hS (k_MO_insertAt hSt hM (R1194.2.1 32 (Int32.toNatClampNeg ((R1194.1 35) - 1))) 40 eR1195) (fs_tb_at 1832 tw_1832 rfl) hM.1 rfl (fs_tb_at 1834 tw_1834 rfl) (fs_tb_at 81 tw_81 rfl) (fs_tb_at 96 tw_96 rfl) (fs_tb_at 1835 tw_1835 rfl) (by decide) (show (parseMethodDescriptor y_MO_insertAt.desc).map (fun d => d.parameters.length) = some 2 by decide +kernel) rfl d_MO_writePair_116 ⟨Nat.le_of_ble_eq_true rfl, Nat.le_of_ble_eq_true rfl, Nat.le_of_ble_eq_true rfl, Nat.le_of_ble_eq_true rfl⟩ (fun v_ h_ H locs hc_ hP hS => ?_) (fun C_ a_ h_ H locs hc_ => absurd hc_.1 (fun h9 => by cases h9))
      obtain ⟨ev, hM, hf2⟩ := hc_
      cases ev
      have hf := hf.trans hf2
      refine W.widen (k := 0) (n := 0) (Nat.le_of_ble_eq_true rfl) (Nat.le_of_ble_eq_true rfl) ?_
      refine W.eq (g2 := F0 m 119 ls ([])) rfl ?_
      exact hJ119 z2 R1195 _ _ _ _ hq hP hS hM hf (lv_sub hl [1, 2] rfl)
  have hJ36 : ∀ (z1 : Int32) (z2 : Int32) (w0 : Int32) (M1 : mo_S) (h1 : fs_Hp) (H : Heap) (locs : List Loc) (ls : Array Slot), q_MO_writePair_J36 z1 z2 w0 M1 = some r → fs_P G.1 fs_cl (fs_A s00) h1 H → va_S (fs_A s00) s00.heap H locs → mo_at G h1 a ad M1 → mo_fr a ad h h1 → lv_has ls 5 [(0, .ref a), (1, .int z1), (2, .int z2)] → W p l e { frames := 3, cells := 0, slots := 0, locals := 41 } s m ([.ref a, .int x1] : List Value).toArray below meth c H locs 0 0 (fx_MQ below (fs_Qc s00 G (fun o h' => o = .inl none ∧ mo_at G h' a ad r ∧ mo_fr a ad h h')) ([.ref a, .int x1] : List Value).toArray s 0 0 (fs_A s00)) (F0 m 36 ls (.int w0 :: .ref a :: [])) := by
    intro z1 z2 w0 M1 h1 H locs ls hq hP hS hM hf hl
    rw [q_MO_writePair_J36] at hq
    obtain ⟨R1196, eR1196, hq⟩ := fs_bind_some hq
    refine fs_cV B hl.1 hP hS (k_MO_bracketLast hSt hM w0 eR1196) (fs_tb_at 1844 tw_1844 rfl) hM.1 rfl (fs_tb_at 1846 tw_1846 rfl) (fs_tb_at 84 tw_84 rfl) (fs_tb_at 96 tw_96 rfl) (fs_tb_at 1847 tw_1847 rfl) (by decide) (show (parseMethodDescriptor y_MO_bracketLast.desc).map (fun d => d.parameters.length) = some 1 by decide +kernel) rfl d_MO_writePair_36 ⟨Nat.le_of_ble_eq_true rfl, Nat.le_of_ble_eq_true rfl, Nat.le_of_ble_eq_true rfl, Nat.le_of_ble_eq_true rfl⟩ (fun v_ h_ H locs hc_ hP hS => ?_) (fun C_ a_ h_ H locs hc_ => absurd hc_.1 (fun h9 => by cases h9))
    obtain ⟨ev, hM, hf2⟩ := hc_
    cases ev
    have hf := hf.trans hf2
    refine W.widen (k := 0) (n := 0) (Nat.le_of_ble_eq_true rfl) (Nat.le_of_ble_eq_true rfl) ?_
    refine W.eq (g2 := F0 m 39 ls ([])) rfl ?_
    refine lv_aload_n hx hb d_MO_writePair_39 rfl (lv_at hl 0 rfl) ?_
    refine fs_get (v := .ref (ad 32)) hx hb hts hown hK c_MO hP hM.1 32 (by decide) (hts _ (fs_tb_at 1488 tw_1488 rfl)) (fun _ h9 => h9) rfl d_MO_writePair_40 ?_
    refine lv_aload_n hx hb d_MO_writePair_43 rfl (lv_at hl 0 rfl) ?_
    refine fs_get (v := .int (R1196.1 35)) hx hb hts hown hK c_MO hP hM.1 35 (by decide) (hts _ (fs_tb_at 1491 tw_1491 rfl)) (fun _ h9 => h9) rfl d_MO_writePair_44 ?_
    refine lv_iconst (v := 1) hx hb d_MO_writePair_47 (by decide) ?_
    refine lv_isub hx hb d_MO_writePair_48 ?_
    obtain ⟨hi_, hq⟩ := fs_okp_some hq
    refine fs_iald (f := R1196.2.1 32) hx hb hK hP 0 (hM.2.1 32 0 44 rfl) rfl hi_ d_MO_writePair_49 ?_
    refine lv_istore_n (lv' := [(3, .int (R1196.2.1 32 (Int32.toNatClampNeg ((R1196.1 35) - 1)))), (0, .ref a), (1, .int z1), (2, .int z2)]) hx hb d_MO_writePair_50 rfl hl (by decide) rfl (fun ls hl => ?_)
    refine lv_aload_n hx hb d_MO_writePair_51 rfl (lv_at hl 1 rfl) ?_
    refine lv_iload_n hx hb d_MO_writePair_52 rfl (lv_at hl 0 rfl) ?_
    refine lv_iload_n hx hb d_MO_writePair_53 rfl (lv_at hl 2 rfl) ?_
    obtain ⟨R1197, eR1197, hq⟩ := fs_bind_some hq
    refine fs_cV B hl.1 hP hS (k_MO_insertAt hSt hM (R1196.2.1 32 (Int32.toNatClampNeg ((R1196.1 35) - 1))) z1 eR1197) (fs_tb_at 1832 tw_1832 rfl) hM.1 rfl (fs_tb_at 1834 tw_1834 rfl) (fs_tb_at 81 tw_81 rfl) (fs_tb_at 96 tw_96 rfl) (fs_tb_at 1835 tw_1835 rfl) (by decide) (show (parseMethodDescriptor y_MO_insertAt.desc).map (fun d => d.parameters.length) = some 2 by decide +kernel) rfl d_MO_writePair_54 ⟨Nat.le_of_ble_eq_true rfl, Nat.le_of_ble_eq_true rfl, Nat.le_of_ble_eq_true rfl, Nat.le_of_ble_eq_true rfl⟩ (fun v_ h_ H locs hc_ hP hS => ?_) (fun C_ a_ h_ H locs hc_ => absurd hc_.1 (fun h9 => by cases h9))
    obtain ⟨ev, hM, hf2⟩ := hc_
    cases ev
    have hf := hf.trans hf2
    refine W.widen (k := 0) (n := 0) (Nat.le_of_ble_eq_true rfl) (Nat.le_of_ble_eq_true rfl) ?_
    refine W.eq (g2 := F0 m 57 ls ([])) rfl ?_
    refine lv_aload_n hx hb d_MO_writePair_57 rfl (lv_at hl 1 rfl) ?_
    refine lv_dup hx hb d_MO_writePair_58 rfl ?_
    refine fs_get (v := .int (R1197.1 35)) hx hb hts hown hK c_MO hP hM.1 35 (by decide) (hts _ (fs_tb_at 1491 tw_1491 rfl)) (fun _ h9 => h9) rfl d_MO_writePair_59 ?_
    refine lv_iconst (v := 1) hx hb d_MO_writePair_62 (by decide) ?_
    refine lv_isub hx hb d_MO_writePair_63 ?_
    refine fs_put hx hb hts hown hK c_MO hP hS hM.1 35 (by decide) (hts _ (fs_tb_at 1491 tw_1491 rfl)) (fun _ h9 => h9) rfl rfl rfl (Nat.le_of_ble_eq_true rfl) d_MO_writePair_64 (fun H locs hP hS => ?_)
    obtain ⟨h1198, hP, hM, hf⟩ : ∃ x, fs_P G.1 fs_cl (fs_A s00) x H ∧ mo_at G x a ad (mo_f R1197 35 ((R1197.1 35) - 1)) ∧ mo_fr a ad h x := ⟨_, hP, hM.F (mo_F35 ad R1197 ((R1197.1 35) - 1)), hf.self⟩
    refine lv_iload_n hx hb d_MO_writePair_67 rfl (lv_at hl 3 rfl) ?_
    refine lv_iconst (v := 1) hx hb d_MO_writePair_68 (by decide) ?_
    refine lv_icmp_ne (tgt := 76) hx hb d_MO_writePair_69 (by decide) (fun c_1199 => ?_) (fun c_1199 => ?_)
    · have hq := fs_ifn c_1199 hq
      refine lv_iload_n hx hb d_MO_writePair_76 rfl (lv_at hl 3 rfl) ?_
      exact hJ77 z2 (R1196.2.1 32 (Int32.toNatClampNeg ((R1196.1 35) - 1))) z2 (mo_f R1197 35 ((R1197.1 35) - 1)) _ _ _ _ hq hP hS hM hf (lv_sub hl [1, 3, 0] rfl)
    · have hq := fs_ifp c_1199 hq
      refine lv_iconst (v := 2) hx hb d_MO_writePair_72 (by decide) ?_
      refine lv_goto (tgt := 77) hx hb d_MO_writePair_73 (by decide) ?_
      exact hJ77 z2 (R1196.2.1 32 (Int32.toNatClampNeg ((R1196.1 35) - 1))) 2 (mo_f R1197 35 ((R1197.1 35) - 1)) _ _ _ _ hq hP hS hM hf (lv_sub hl [1, 3, 0] rfl)
  have hJ20 : ∀ (z1 : Int32) (z2 : Int32) (M1 : mo_S) (h1 : fs_Hp) (H : Heap) (locs : List Loc) (ls : Array Slot), q_MO_writePair_J20 z1 z2 M1 = some r → fs_P G.1 fs_cl (fs_A s00) h1 H → va_S (fs_A s00) s00.heap H locs → mo_at G h1 a ad M1 → mo_fr a ad h h1 → lv_has ls 5 [(0, .ref a), (1, .int z1), (2, .int z2)] → W p l e { frames := 3, cells := 0, slots := 0, locals := 41 } s m ([.ref a, .int x1] : List Value).toArray below meth c H locs 0 0 (fx_MQ below (fs_Qc s00 G (fun o h' => o = .inl none ∧ mo_at G h' a ad r ∧ mo_fr a ad h h')) ([.ref a, .int x1] : List Value).toArray s 0 0 (fs_A s00)) (F0 m 20 ls (.ref a :: [])) := by
    intro z1 z2 M1 h1 H locs ls hq hP hS hM hf hl
    rw [q_MO_writePair_J20] at hq
    refine lv_iconst (v := 1) hx hb d_MO_writePair_20 (by decide) ?_
    refine lv_goto (tgt := 36) hx hb d_MO_writePair_21 (by decide) ?_
    exact hJ36 z1 z2 1 M1 _ _ _ _ hq hP hS hM hf (lv_sub hl [0, 1, 2] rfl)
  have hl := lv_entry ([.ref a, .int x1]) (n := 5) (Nat.le_of_ble_eq_true rfl)
  rw [lg_entry_eq]
  generalize (lg_sl ([.ref a, .int x1]) ++ List.replicate (5 - (lg_sl ([.ref a, .int x1])).length) Slot.unset).toArray = ls at hl ⊢
  have hl : lv_has ls 5 [(0, .ref a), (1, .int x1)] := hl
  have hf : mo_fr a ad h h := mo_fr.rf
  rw [q_MO_writePair] at hq
  refine lv_iload_n hx hb d_MO_writePair_0 rfl (lv_at hl 1 rfl) ?_
  refine fs_cS B hl.1 hP hS (k_MO_strength hSt x1) (fs_tb_at 1601 tw_1601 rfl) (fs_tb_at 1602 tw_1602 rfl) (fs_tb_at 96 tw_96 rfl) (fs_tb_at 1603 tw_1603 rfl) (by decide) (show (parseMethodDescriptor y_MO_strength.desc).map (fun d => d.parameters.length) = some 1 by decide +kernel) rfl d_MO_writePair_1 ⟨Nat.le_of_ble_eq_true rfl, Nat.le_of_ble_eq_true rfl, Nat.le_of_ble_eq_true rfl, Nat.le_of_ble_eq_true rfl⟩ (fun v_ h_ H locs hc_ hP hS => ?_) (fun C_ a_ h_ H locs hc_ => absurd hc_.1 (fun h9 => by cases h9))
  obtain ⟨ev, eh⟩ := hc_
  cases ev
  rw [eh] at hP
  refine W.widen (k := 0) (n := 0) (Nat.le_of_ble_eq_true rfl) (Nat.le_of_ble_eq_true rfl) ?_
  refine W.eq (g2 := F0 m 4 ls (.int (p_MO_strength x1) :: [])) rfl ?_
  refine lv_iconst (v := 1) hx hb d_MO_writePair_4 (by decide) ?_
  refine lv_isub hx hb d_MO_writePair_5 ?_
  refine lv_istore_n (lv' := [(2, .int ((p_MO_strength x1) - 1)), (0, .ref a), (1, .int x1)]) hx hb d_MO_writePair_6 rfl hl (by decide) rfl (fun ls hl => ?_)
  refine lv_aload_n hx hb d_MO_writePair_7 rfl (lv_at hl 1 rfl) ?_
  refine lv_iload_n hx hb d_MO_writePair_8 rfl (lv_at hl 2 rfl) ?_
  refine lv_bipush (v := 38) hx hb d_MO_writePair_9 (by decide) ?_
  refine lv_icmp_eq (tgt := 20) hx hb d_MO_writePair_11 (by decide) (fun c_1200 => ?_) (fun c_1200 => ?_)
  · have hq := fs_ifp c_1200 hq
    exact hJ20 x1 ((p_MO_strength x1) - 1) M _ _ _ _ hq hP hS hM hf (lv_sub hl [1, 2, 0] rfl)
  · have hq := fs_ifn c_1200 hq
    refine lv_iload_n hx hb d_MO_writePair_14 rfl (lv_at hl 2 rfl) ?_
    refine lv_bipush (v := 124) hx hb d_MO_writePair_15 (by decide) ?_
    refine lv_icmp_ne (tgt := 24) hx hb d_MO_writePair_17 (by decide) (fun c_1201 => ?_) (fun c_1201 => ?_)
    · have hq := fs_ifn c_1201 hq
      refine lv_iload_n hx hb d_MO_writePair_24 rfl (lv_at hl 0 rfl) ?_
      refine lv_iconst (v := 1) hx hb d_MO_writePair_25 (by decide) ?_
      refine lv_icmp_ne (tgt := 33) hx hb d_MO_writePair_26 (by decide) (fun c_1202 => ?_) (fun c_1202 => ?_)
      · have hq := fs_ifn c_1202 hq
        refine lv_iload_n hx hb d_MO_writePair_33 rfl (lv_at hl 0 rfl) ?_
        refine lv_iconst (v := 1) hx hb d_MO_writePair_34 (by decide) ?_
        refine lv_iadd hx hb d_MO_writePair_35 ?_
        exact hJ36 x1 ((p_MO_strength x1) - 1) (((p_MO_strength x1) - 1) + 1) M _ _ _ _ hq hP hS hM hf (lv_sub hl [1, 2, 0] rfl)
      · have hq := fs_ifp c_1202 hq
        refine lv_iconst (v := 2) hx hb d_MO_writePair_29 (by decide) ?_
        refine lv_goto (tgt := 36) hx hb d_MO_writePair_30 (by decide) ?_
        exact hJ36 x1 ((p_MO_strength x1) - 1) 2 M _ _ _ _ hq hP hS hM hf (lv_sub hl [1, 2, 0] rfl)
    · have hq := fs_ifp c_1201 hq
      exact hJ20 x1 ((p_MO_strength x1) - 1) M _ _ _ _ hq hP hS hM hf (lv_sub hl [1, 2, 0] rfl)
noncomputable def q_MO_writeFunction_J50 (z1 : Int32) (M1 : mo_S) : Option (mo_S) := fs_okp (vp_in ((M1.1 35) - 1) 44) (Option.bind (q_MO_name M1 (M1.2.1 32 (Int32.toNatClampNeg ((M1.1 35) - 1))) z1) (fun R1213 => Option.bind (q_MO_append R1213 41) (fun R1214 => fs_okp (vp_in ((R1214.1 35) - 1) 44) (some (mo_i R1214 33 (Int32.toNatClampNeg ((R1214.1 35) - 1)) 5)))))
noncomputable def q_MO_writeFunction (M : mo_S) (x1 : Int32) : Option (mo_S) := (if x1 = 9 then fs_okp (vp_in ((M.1 35) - 1) 44) (Option.bind (q_MO_insertAt M (M.2.1 32 (Int32.toNatClampNeg ((M.1 35) - 1))) 44) (fun R1217 => fs_okp (vp_in ((R1217.1 35) - 2) 44) (Option.bind (q_MO_insertAt R1217 (R1217.2.1 32 (Int32.toNatClampNeg ((R1217.1 35) - 2))) 44) (fun R1218 => q_MO_writeFunction_J50 x1 (mo_f R1218 35 ((R1218.1 35) - 2)))))) else q_MO_writeFunction_J50 x1 M)
set_option maxHeartbeats 4000000 in
set_option maxRecDepth 100000 in
theorem k_MO_writeFunction {l : Launch} {s00 : State} {G : fs_G} (hSt : fs_St l s00 G) {h : fs_Hp} {a : Nat} {ad : Nat → Nat} {M : mo_S} (hM : mo_at G h a ad M) (x1 : Int32) {r : mo_S} (hq : q_MO_writeFunction M x1 = some r) : fs_Ct l s00 G y_MO_writeFunction (.code y_MO_writeFunction b_MO_writeFunction 2 none) { frames := 2, cells := 0, slots := 0, locals := 31 } [.ref a, .int x1] h (fun o h' => o = .inl none ∧ mo_at G h' a ad r ∧ mo_fr a ad h h') := by
  refine fs_Ct.ofW hSt (by decide) ?_
  intro p e s m below meth c B hout hP
  obtain ⟨hx, hb, hr, hml, hown, hts, hlocks, hname, hK, hw, htr⟩ := id B
  have hown : s.vm.findClass "FormulaSheetModel" = some m.cls := hown
  have hS := hw.S
  have hA : ∀ q : Nat, s00.heap.size ≤ q → fs_A s00 q := fun _ h9 => h9
  generalize hH : s.heap = H at hP hS ⊢
  have hH0 : s.heap.size ≤ H.size := by rw [hH]; exact Nat.le_refl _
  have hJ50 : ∀ (z1 : Int32) (M1 : mo_S) (h1 : fs_Hp) (H : Heap) (locs : List Loc) (ls : Array Slot), q_MO_writeFunction_J50 z1 M1 = some r → fs_P G.1 fs_cl (fs_A s00) h1 H → va_S (fs_A s00) s00.heap H locs → mo_at G h1 a ad M1 → mo_fr a ad h h1 → lv_has ls 2 [(0, .ref a), (1, .int z1)] → W p l e { frames := 2, cells := 0, slots := 0, locals := 31 } s m ([.ref a, .int x1] : List Value).toArray below meth c H locs 0 0 (fx_MQ below (fs_Qc s00 G (fun o h' => o = .inl none ∧ mo_at G h' a ad r ∧ mo_fr a ad h h')) ([.ref a, .int x1] : List Value).toArray s 0 0 (fs_A s00)) (F0 m 50 ls ([])) := by
    intro z1 M1 h1 H locs ls hq hP hS hM hf hl
    rw [q_MO_writeFunction_J50] at hq
    refine lv_aload_n hx hb d_MO_writeFunction_50 rfl (lv_at hl 0 rfl) ?_
    refine lv_aload_n hx hb d_MO_writeFunction_51 rfl (lv_at hl 0 rfl) ?_
    refine fs_get (v := .ref (ad 32)) hx hb hts hown hK c_MO hP hM.1 32 (by decide) (hts _ (fs_tb_at 1488 tw_1488 rfl)) (fun _ h9 => h9) rfl d_MO_writeFunction_52 ?_
    refine lv_aload_n hx hb d_MO_writeFunction_55 rfl (lv_at hl 0 rfl) ?_
    refine fs_get (v := .int (M1.1 35)) hx hb hts hown hK c_MO hP hM.1 35 (by decide) (hts _ (fs_tb_at 1491 tw_1491 rfl)) (fun _ h9 => h9) rfl d_MO_writeFunction_56 ?_
    refine lv_iconst (v := 1) hx hb d_MO_writeFunction_59 (by decide) ?_
    refine lv_isub hx hb d_MO_writeFunction_60 ?_
    obtain ⟨hi_, hq⟩ := fs_okp_some hq
    refine fs_iald (f := M1.2.1 32) hx hb hK hP 0 (hM.2.1 32 0 44 rfl) rfl hi_ d_MO_writeFunction_61 ?_
    refine lv_iload_n hx hb d_MO_writeFunction_62 rfl (lv_at hl 1 rfl) ?_
    obtain ⟨R1213, eR1213, hq⟩ := fs_bind_some hq
    refine fs_cV B hl.1 hP hS (k_MO_name hSt hM (M1.2.1 32 (Int32.toNatClampNeg ((M1.1 35) - 1))) z1 eR1213) (fs_tb_at 1840 tw_1840 rfl) hM.1 rfl (fs_tb_at 1842 tw_1842 rfl) (fs_tb_at 83 tw_83 rfl) (fs_tb_at 96 tw_96 rfl) (fs_tb_at 1843 tw_1843 rfl) (by decide) (show (parseMethodDescriptor y_MO_name.desc).map (fun d => d.parameters.length) = some 2 by decide +kernel) rfl d_MO_writeFunction_63 ⟨Nat.le_of_ble_eq_true rfl, Nat.le_of_ble_eq_true rfl, Nat.le_of_ble_eq_true rfl, Nat.le_of_ble_eq_true rfl⟩ (fun v_ h_ H locs hc_ hP hS => ?_) (fun C_ a_ h_ H locs hc_ => absurd hc_.1 (fun h9 => by cases h9))
    obtain ⟨ev, hM, hf2⟩ := hc_
    cases ev
    have hf := hf.trans hf2
    refine W.widen (k := 0) (n := 0) (Nat.le_of_ble_eq_true rfl) (Nat.le_of_ble_eq_true rfl) ?_
    refine W.eq (g2 := F0 m 66 ls ([])) rfl ?_
    refine lv_aload_n hx hb d_MO_writeFunction_66 rfl (lv_at hl 0 rfl) ?_
    refine lv_bipush (v := 41) hx hb d_MO_writeFunction_67 (by decide) ?_
    obtain ⟨R1214, eR1214, hq⟩ := fs_bind_some hq
    refine fs_cV B hl.1 hP hS (k_MO_append hSt hM 41 eR1214) (fs_tb_at 1828 tw_1828 rfl) hM.1 rfl (fs_tb_at 1830 tw_1830 rfl) (fs_tb_at 80 tw_80 rfl) (fs_tb_at 96 tw_96 rfl) (fs_tb_at 1831 tw_1831 rfl) (by decide) (show (parseMethodDescriptor y_MO_append.desc).map (fun d => d.parameters.length) = some 1 by decide +kernel) rfl d_MO_writeFunction_69 ⟨Nat.le_of_ble_eq_true rfl, Nat.le_of_ble_eq_true rfl, Nat.le_of_ble_eq_true rfl, Nat.le_of_ble_eq_true rfl⟩ (fun v_ h_ H locs hc_ hP hS => ?_) (fun C_ a_ h_ H locs hc_ => absurd hc_.1 (fun h9 => by cases h9))
    obtain ⟨ev, hM, hf2⟩ := hc_
    cases ev
    have hf := hf.trans hf2
    refine W.widen (k := 0) (n := 0) (Nat.le_of_ble_eq_true rfl) (Nat.le_of_ble_eq_true rfl) ?_
    refine W.eq (g2 := F0 m 72 ls ([])) rfl ?_
    refine lv_aload_n hx hb d_MO_writeFunction_72 rfl (lv_at hl 0 rfl) ?_
    refine fs_get (v := .ref (ad 33)) hx hb hts hown hK c_MO hP hM.1 33 (by decide) (hts _ (fs_tb_at 1489 tw_1489 rfl)) (fun _ h9 => h9) rfl d_MO_writeFunction_73 ?_
    refine lv_aload_n hx hb d_MO_writeFunction_76 rfl (lv_at hl 0 rfl) ?_
    refine fs_get (v := .int (R1214.1 35)) hx hb hts hown hK c_MO hP hM.1 35 (by decide) (hts _ (fs_tb_at 1491 tw_1491 rfl)) (fun _ h9 => h9) rfl d_MO_writeFunction_77 ?_
    refine lv_iconst (v := 1) hx hb d_MO_writeFunction_80 (by decide) ?_
    refine lv_isub hx hb d_MO_writeFunction_81 ?_
    refine lv_iconst (v := 5) hx hb d_MO_writeFunction_82 (by decide) ?_
    obtain ⟨hi_, hq⟩ := fs_okp_some hq
    refine fs_iast hx hb hK hP hS 0 (hM.2.1 33 0 44 rfl) rfl hi_ d_MO_writeFunction_83 (fun H locs hP hS => ?_)
    obtain ⟨h1215, hP, hM, hf⟩ : ∃ x, fs_P G.1 fs_cl (fs_A s00) x H ∧ mo_at G x a ad (mo_i R1214 33 (Int32.toNatClampNeg ((R1214.1 35) - 1)) 5) ∧ mo_fr a ad h x := ⟨_, hP, hM.I (j := 33) (k := (Int32.toNatClampNeg ((R1214.1 35) - 1))) (x := 5) rfl (fun _ => rfl), hf.arr (j := 33) (by decide)⟩
    cases hq
    exact fs_vret hx hb hr hlocks hw hP hS (by omega) (by omega) (⟨rfl, hM, hf⟩) d_MO_writeFunction_84
  have hl := lv_entry ([.ref a, .int x1]) (n := 2) (Nat.le_of_ble_eq_true rfl)
  rw [lg_entry_eq]
  generalize (lg_sl ([.ref a, .int x1]) ++ List.replicate (2 - (lg_sl ([.ref a, .int x1])).length) Slot.unset).toArray = ls at hl ⊢
  have hl : lv_has ls 2 [(0, .ref a), (1, .int x1)] := hl
  have hf : mo_fr a ad h h := mo_fr.rf
  rw [q_MO_writeFunction] at hq
  refine lv_iload_n hx hb d_MO_writeFunction_0 rfl (lv_at hl 1 rfl) ?_
  refine lv_bipush (v := 9) hx hb d_MO_writeFunction_1 (by decide) ?_
  refine lv_icmp_ne (tgt := 50) hx hb d_MO_writeFunction_3 (by decide) (fun c_1216 => ?_) (fun c_1216 => ?_)
  · have hq := fs_ifn c_1216 hq
    exact hJ50 x1 M _ _ _ _ hq hP hS hM hf (lv_sub hl [0, 1] rfl)
  · have hq := fs_ifp c_1216 hq
    refine lv_aload_n hx hb d_MO_writeFunction_6 rfl (lv_at hl 0 rfl) ?_
    refine lv_aload_n hx hb d_MO_writeFunction_7 rfl (lv_at hl 0 rfl) ?_
    refine fs_get (v := .ref (ad 32)) hx hb hts hown hK c_MO hP hM.1 32 (by decide) (hts _ (fs_tb_at 1488 tw_1488 rfl)) (fun _ h9 => h9) rfl d_MO_writeFunction_8 ?_
    refine lv_aload_n hx hb d_MO_writeFunction_11 rfl (lv_at hl 0 rfl) ?_
    refine fs_get (v := .int (M.1 35)) hx hb hts hown hK c_MO hP hM.1 35 (by decide) (hts _ (fs_tb_at 1491 tw_1491 rfl)) (fun _ h9 => h9) rfl d_MO_writeFunction_12 ?_
    refine lv_iconst (v := 1) hx hb d_MO_writeFunction_15 (by decide) ?_
    refine lv_isub hx hb d_MO_writeFunction_16 ?_
    obtain ⟨hi_, hq⟩ := fs_okp_some hq
    refine fs_iald (f := M.2.1 32) hx hb hK hP 0 (hM.2.1 32 0 44 rfl) rfl hi_ d_MO_writeFunction_17 ?_
    refine lv_bipush (v := 44) hx hb d_MO_writeFunction_18 (by decide) ?_
    obtain ⟨R1217, eR1217, hq⟩ := fs_bind_some hq
    refine fs_cV B hl.1 hP hS (k_MO_insertAt hSt hM (M.2.1 32 (Int32.toNatClampNeg ((M.1 35) - 1))) 44 eR1217) (fs_tb_at 1832 tw_1832 rfl) hM.1 rfl (fs_tb_at 1834 tw_1834 rfl) (fs_tb_at 81 tw_81 rfl) (fs_tb_at 96 tw_96 rfl) (fs_tb_at 1835 tw_1835 rfl) (by decide) (show (parseMethodDescriptor y_MO_insertAt.desc).map (fun d => d.parameters.length) = some 2 by decide +kernel) rfl d_MO_writeFunction_20 ⟨Nat.le_of_ble_eq_true rfl, Nat.le_of_ble_eq_true rfl, Nat.le_of_ble_eq_true rfl, Nat.le_of_ble_eq_true rfl⟩ (fun v_ h_ H locs hc_ hP hS => ?_) (fun C_ a_ h_ H locs hc_ => absurd hc_.1 (fun h9 => by cases h9))
    obtain ⟨ev, hM, hf2⟩ := hc_
    cases ev
    have hf := hf.trans hf2
    refine W.widen (k := 0) (n := 0) (Nat.le_of_ble_eq_true rfl) (Nat.le_of_ble_eq_true rfl) ?_
    refine W.eq (g2 := F0 m 23 ls ([])) rfl ?_
    refine lv_aload_n hx hb d_MO_writeFunction_23 rfl (lv_at hl 0 rfl) ?_
    refine lv_aload_n hx hb d_MO_writeFunction_24 rfl (lv_at hl 0 rfl) ?_
    refine fs_get (v := .ref (ad 32)) hx hb hts hown hK c_MO hP hM.1 32 (by decide) (hts _ (fs_tb_at 1488 tw_1488 rfl)) (fun _ h9 => h9) rfl d_MO_writeFunction_25 ?_
    refine lv_aload_n hx hb d_MO_writeFunction_28 rfl (lv_at hl 0 rfl) ?_
    refine fs_get (v := .int (R1217.1 35)) hx hb hts hown hK c_MO hP hM.1 35 (by decide) (hts _ (fs_tb_at 1491 tw_1491 rfl)) (fun _ h9 => h9) rfl d_MO_writeFunction_29 ?_
    refine lv_iconst (v := 2) hx hb d_MO_writeFunction_32 (by decide) ?_
    refine lv_isub hx hb d_MO_writeFunction_33 ?_
    obtain ⟨hi_, hq⟩ := fs_okp_some hq
    refine fs_iald (f := R1217.2.1 32) hx hb hK hP 0 (hM.2.1 32 0 44 rfl) rfl hi_ d_MO_writeFunction_34 ?_
    refine lv_bipush (v := 44) hx hb d_MO_writeFunction_35 (by decide) ?_
    obtain ⟨R1218, eR1218, hq⟩ := fs_bind_some hq
    refine fs_cV B hl.1 hP hS (k_MO_insertAt hSt hM (R1217.2.1 32 (Int32.toNatClampNeg ((R1217.1 35) - 2))) 44 eR1218) (fs_tb_at 1832 tw_1832 rfl) hM.1 rfl (fs_tb_at 1834 tw_1834 rfl) (fs_tb_at 81 tw_81 rfl) (fs_tb_at 96 tw_96 rfl) (fs_tb_at 1835 tw_1835 rfl) (by decide) (show (parseMethodDescriptor y_MO_insertAt.desc).map (fun d => d.parameters.length) = some 2 by decide +kernel) rfl d_MO_writeFunction_37 ⟨Nat.le_of_ble_eq_true rfl, Nat.le_of_ble_eq_true rfl, Nat.le_of_ble_eq_true rfl, Nat.le_of_ble_eq_true rfl⟩ (fun v_ h_ H locs hc_ hP hS => ?_) (fun C_ a_ h_ H locs hc_ => absurd hc_.1 (fun h9 => by cases h9))
    obtain ⟨ev, hM, hf2⟩ := hc_
    cases ev
    have hf := hf.trans hf2
    refine W.widen (k := 0) (n := 0) (Nat.le_of_ble_eq_true rfl) (Nat.le_of_ble_eq_true rfl) ?_
    refine W.eq (g2 := F0 m 40 ls ([])) rfl ?_
    refine lv_aload_n hx hb d_MO_writeFunction_40 rfl (lv_at hl 0 rfl) ?_
    refine lv_dup hx hb d_MO_writeFunction_41 rfl ?_
    refine fs_get (v := .int (R1218.1 35)) hx hb hts hown hK c_MO hP hM.1 35 (by decide) (hts _ (fs_tb_at 1491 tw_1491 rfl)) (fun _ h9 => h9) rfl d_MO_writeFunction_42 ?_
    refine lv_iconst (v := 2) hx hb d_MO_writeFunction_45 (by decide) ?_
    refine lv_isub hx hb d_MO_writeFunction_46 ?_
    refine fs_put hx hb hts hown hK c_MO hP hS hM.1 35 (by decide) (hts _ (fs_tb_at 1491 tw_1491 rfl)) (fun _ h9 => h9) rfl rfl rfl (Nat.le_of_ble_eq_true rfl) d_MO_writeFunction_47 (fun H locs hP hS => ?_)
    obtain ⟨h1219, hP, hM, hf⟩ : ∃ x, fs_P G.1 fs_cl (fs_A s00) x H ∧ mo_at G x a ad (mo_f R1218 35 ((R1218.1 35) - 2)) ∧ mo_fr a ad h x := ⟨_, hP, hM.F (mo_F35 ad R1218 ((R1218.1 35) - 2)), hf.self⟩
    exact hJ50 x1 (mo_f R1218 35 ((R1218.1 35) - 2)) _ _ _ _ hq hP hS hM hf (lv_sub hl [0, 1] rfl)
noncomputable def q_MO_writeItem_J83 (z2 : Int32) (w0 : Int32) (w1 : Int32) (M1 : mo_S) : Option (mo_S) := Option.bind (q_MO_insertAt M1 w1 w0) (fun R1249 => (if z2 = 10 then fs_okp (vp_in ((R1249.1 35) - 1) 44) (some (mo_i R1249 33 (Int32.toNatClampNeg ((R1249.1 35) - 1)) 4)) else fs_okp (vp_in ((R1249.1 35) - 1) 44) (some (mo_i R1249 33 (Int32.toNatClampNeg ((R1249.1 35) - 1)) 1))))
noncomputable def q_MO_writeItem_J55 (z2 : Int32) (w0 : Int32) (M1 : mo_S) : Option (mo_S) := Option.bind (q_MO_bracketLast M1 w0) (fun R1253 => fs_okp (vp_in ((R1253.1 35) - 1) 44) ((if z2 = 10 then q_MO_writeItem_J83 z2 45 (R1253.2.1 32 (Int32.toNatClampNeg ((R1253.1 35) - 1))) R1253 else q_MO_writeItem_J83 z2 33 (R1253.2.1 32 (Int32.toNatClampNeg ((R1253.1 35) - 1))) R1253)))
noncomputable def q_MO_writeItem_J43 (z2 : Int32) (M1 : mo_S) : Option (mo_S) := (if z2 = 10 then q_MO_writeItem_J55 z2 5 M1 else q_MO_writeItem_J55 z2 2 M1)
noncomputable def q_MO_writeItem (M : mo_S) (x1 : Int32) : Option (mo_S) := fs_okp (vp_in x1 3240) ((if (M.2.1 3 (Int32.toNatClampNeg x1)) = 0 then Option.bind (q_MO_writePart M x1) (fun R1257 => some R1257) else (if (M.2.1 3 (Int32.toNatClampNeg x1)) = 1 then Option.bind (q_MO_writePart M x1) (fun R1259 => some R1259) else (if (p_MO_isRange (M.2.1 3 (Int32.toNatClampNeg x1))) = 0 then (if (M.2.1 3 (Int32.toNatClampNeg x1)) = 10 then q_MO_writeItem_J43 (M.2.1 3 (Int32.toNatClampNeg x1)) M else (if (M.2.1 3 (Int32.toNatClampNeg x1)) = 33 then q_MO_writeItem_J43 (M.2.1 3 (Int32.toNatClampNeg x1)) M else (if (M.2.1 3 (Int32.toNatClampNeg x1)) = 7 then Option.bind (q_MO_writeFunction M (M.2.1 3 (Int32.toNatClampNeg x1))) (fun R1264 => some R1264) else (if (M.2.1 3 (Int32.toNatClampNeg x1)) = 8 then Option.bind (q_MO_writeFunction M (M.2.1 3 (Int32.toNatClampNeg x1))) (fun R1266 => some R1266) else (if (M.2.1 3 (Int32.toNatClampNeg x1)) = 9 then Option.bind (q_MO_writeFunction M (M.2.1 3 (Int32.toNatClampNeg x1))) (fun R1269 => some R1269) else Option.bind (q_MO_writePair M (M.2.1 3 (Int32.toNatClampNeg x1))) (fun R1268 => some R1268)))))) else Option.bind (q_MO_writePart M x1) (fun R1270 => some R1270)))))
set_option maxHeartbeats 4000000 in
set_option maxRecDepth 100000 in
theorem k_MO_writeItem {l : Launch} {s00 : State} {G : fs_G} (hSt : fs_St l s00 G) {h : fs_Hp} {a : Nat} {ad : Nat → Nat} {M : mo_S} (hM : mo_at G h a ad M) (x1 : Int32) {r : mo_S} (hq : q_MO_writeItem M x1 = some r) : fs_Ct l s00 G y_MO_writeItem (.code y_MO_writeItem b_MO_writeItem 3 none) { frames := 5, cells := 0, slots := 0, locals := 76 } [.ref a, .int x1] h (fun o h' => o = .inl none ∧ mo_at G h' a ad r ∧ mo_fr a ad h h') := by
  refine fs_Ct.ofW hSt (by decide) ?_
  intro p e s m below meth c B hout hP
  obtain ⟨hx, hb, hr, hml, hown, hts, hlocks, hname, hK, hw, htr⟩ := id B
  have hown : s.vm.findClass "FormulaSheetModel" = some m.cls := hown
  have hS := hw.S
  have hA : ∀ q : Nat, s00.heap.size ≤ q → fs_A s00 q := fun _ h9 => h9
  generalize hH : s.heap = H at hP hS ⊢
  have hH0 : s.heap.size ≤ H.size := by rw [hH]; exact Nat.le_refl _
  have hJ83 : ∀ (z2 : Int32) (w0 : Int32) (w1 : Int32) (M1 : mo_S) (h1 : fs_Hp) (H : Heap) (locs : List Loc) (ls : Array Slot), q_MO_writeItem_J83 z2 w0 w1 M1 = some r → fs_P G.1 fs_cl (fs_A s00) h1 H → va_S (fs_A s00) s00.heap H locs → mo_at G h1 a ad M1 → mo_fr a ad h h1 → lv_has ls 3 [(0, .ref a), (2, .int z2)] → W p l e { frames := 5, cells := 0, slots := 0, locals := 76 } s m ([.ref a, .int x1] : List Value).toArray below meth c H locs 0 0 (fx_MQ below (fs_Qc s00 G (fun o h' => o = .inl none ∧ mo_at G h' a ad r ∧ mo_fr a ad h h')) ([.ref a, .int x1] : List Value).toArray s 0 0 (fs_A s00)) (F0 m 83 ls (.int w0 :: .int w1 :: .ref a :: [])) := by
    intro z2 w0 w1 M1 h1 H locs ls hq hP hS hM hf hl
    rw [q_MO_writeItem_J83] at hq
    obtain ⟨R1249, eR1249, hq⟩ := fs_bind_some hq
    refine fs_cV B hl.1 hP hS (k_MO_insertAt hSt hM w1 w0 eR1249) (fs_tb_at 1832 tw_1832 rfl) hM.1 rfl (fs_tb_at 1834 tw_1834 rfl) (fs_tb_at 81 tw_81 rfl) (fs_tb_at 96 tw_96 rfl) (fs_tb_at 1835 tw_1835 rfl) (by decide) (show (parseMethodDescriptor y_MO_insertAt.desc).map (fun d => d.parameters.length) = some 2 by decide +kernel) rfl d_MO_writeItem_83 ⟨Nat.le_of_ble_eq_true rfl, Nat.le_of_ble_eq_true rfl, Nat.le_of_ble_eq_true rfl, Nat.le_of_ble_eq_true rfl⟩ (fun v_ h_ H locs hc_ hP hS => ?_) (fun C_ a_ h_ H locs hc_ => absurd hc_.1 (fun h9 => by cases h9))
    obtain ⟨ev, hM, hf2⟩ := hc_
    cases ev
    have hf := hf.trans hf2
    refine W.widen (k := 0) (n := 0) (Nat.le_of_ble_eq_true rfl) (Nat.le_of_ble_eq_true rfl) ?_
    refine W.eq (g2 := F0 m 86 ls ([])) rfl ?_
    refine lv_aload_n hx hb d_MO_writeItem_86 rfl (lv_at hl 0 rfl) ?_
    refine fs_get (v := .ref (ad 33)) hx hb hts hown hK c_MO hP hM.1 33 (by decide) (hts _ (fs_tb_at 1489 tw_1489 rfl)) (fun _ h9 => h9) rfl d_MO_writeItem_87 ?_
    refine lv_aload_n hx hb d_MO_writeItem_90 rfl (lv_at hl 0 rfl) ?_
    refine fs_get (v := .int (R1249.1 35)) hx hb hts hown hK c_MO hP hM.1 35 (by decide) (hts _ (fs_tb_at 1491 tw_1491 rfl)) (fun _ h9 => h9) rfl d_MO_writeItem_91 ?_
    refine lv_iconst (v := 1) hx hb d_MO_writeItem_94 (by decide) ?_
    refine lv_isub hx hb d_MO_writeItem_95 ?_
    refine lv_iload_n hx hb d_MO_writeItem_96 rfl (lv_at hl 1 rfl) ?_
    refine lv_bipush (v := 10) hx hb d_MO_writeItem_97 (by decide) ?_
    refine lv_icmp_ne (tgt := 106) hx hb d_MO_writeItem_99 (by decide) (fun c_1250 => ?_) (fun c_1250 => ?_)
    · have hq := fs_ifn c_1250 hq
      refine lv_iconst (v := 1) hx hb d_MO_writeItem_106 (by decide) ?_
      obtain ⟨hi_, hq⟩ := fs_okp_some hq
      refine fs_iast hx hb hK hP hS 0 (hM.2.1 33 0 44 rfl) rfl hi_ d_MO_writeItem_107 (fun H locs hP hS => ?_)
      obtain ⟨h1251, hP, hM, hf⟩ : ∃ x, fs_P G.1 fs_cl (fs_A s00) x H ∧ mo_at G x a ad (mo_i R1249 33 (Int32.toNatClampNeg ((R1249.1 35) - 1)) 1) ∧ mo_fr a ad h x := ⟨_, hP, hM.I (j := 33) (k := (Int32.toNatClampNeg ((R1249.1 35) - 1))) (x := 1) rfl (fun _ => rfl), hf.arr (j := 33) (by decide)⟩
      refine lv_goto (tgt := 142) hx hb d_MO_writeItem_108 (by decide) ?_
      cases hq
      exact fs_vret hx hb hr hlocks hw hP hS (by omega) (by omega) (⟨rfl, hM, hf⟩) d_MO_writeItem_142
    · have hq := fs_ifp c_1250 hq
      refine lv_iconst (v := 4) hx hb d_MO_writeItem_102 (by decide) ?_
      refine lv_goto (tgt := 107) hx hb d_MO_writeItem_103 (by decide) ?_
      obtain ⟨hi_, hq⟩ := fs_okp_some hq
      refine fs_iast hx hb hK hP hS 0 (hM.2.1 33 0 44 rfl) rfl hi_ d_MO_writeItem_107 (fun H locs hP hS => ?_)
      obtain ⟨h1252, hP, hM, hf⟩ : ∃ x, fs_P G.1 fs_cl (fs_A s00) x H ∧ mo_at G x a ad (mo_i R1249 33 (Int32.toNatClampNeg ((R1249.1 35) - 1)) 4) ∧ mo_fr a ad h x := ⟨_, hP, hM.I (j := 33) (k := (Int32.toNatClampNeg ((R1249.1 35) - 1))) (x := 4) rfl (fun _ => rfl), hf.arr (j := 33) (by decide)⟩
      refine lv_goto (tgt := 142) hx hb d_MO_writeItem_108 (by decide) ?_
      cases hq
      exact fs_vret hx hb hr hlocks hw hP hS (by omega) (by omega) (⟨rfl, hM, hf⟩) d_MO_writeItem_142
  have hJ55 : ∀ (z2 : Int32) (w0 : Int32) (M1 : mo_S) (h1 : fs_Hp) (H : Heap) (locs : List Loc) (ls : Array Slot), q_MO_writeItem_J55 z2 w0 M1 = some r → fs_P G.1 fs_cl (fs_A s00) h1 H → va_S (fs_A s00) s00.heap H locs → mo_at G h1 a ad M1 → mo_fr a ad h h1 → lv_has ls 3 [(0, .ref a), (2, .int z2)] → W p l e { frames := 5, cells := 0, slots := 0, locals := 76 } s m ([.ref a, .int x1] : List Value).toArray below meth c H locs 0 0 (fx_MQ below (fs_Qc s00 G (fun o h' => o = .inl none ∧ mo_at G h' a ad r ∧ mo_fr a ad h h')) ([.ref a, .int x1] : List Value).toArray s 0 0 (fs_A s00)) (F0 m 55 ls (.int w0 :: .ref a :: [])) := by
    intro z2 w0 M1 h1 H locs ls hq hP hS hM hf hl
    rw [q_MO_writeItem_J55] at hq
    obtain ⟨R1253, eR1253, hq⟩ := fs_bind_some hq
    refine fs_cV B hl.1 hP hS (k_MO_bracketLast hSt hM w0 eR1253) (fs_tb_at 1844 tw_1844 rfl) hM.1 rfl (fs_tb_at 1846 tw_1846 rfl) (fs_tb_at 84 tw_84 rfl) (fs_tb_at 96 tw_96 rfl) (fs_tb_at 1847 tw_1847 rfl) (by decide) (show (parseMethodDescriptor y_MO_bracketLast.desc).map (fun d => d.parameters.length) = some 1 by decide +kernel) rfl d_MO_writeItem_55 ⟨Nat.le_of_ble_eq_true rfl, Nat.le_of_ble_eq_true rfl, Nat.le_of_ble_eq_true rfl, Nat.le_of_ble_eq_true rfl⟩ (fun v_ h_ H locs hc_ hP hS => ?_) (fun C_ a_ h_ H locs hc_ => absurd hc_.1 (fun h9 => by cases h9))
    obtain ⟨ev, hM, hf2⟩ := hc_
    cases ev
    have hf := hf.trans hf2
    refine W.widen (k := 0) (n := 0) (Nat.le_of_ble_eq_true rfl) (Nat.le_of_ble_eq_true rfl) ?_
    refine W.eq (g2 := F0 m 58 ls ([])) rfl ?_
    refine lv_aload_n hx hb d_MO_writeItem_58 rfl (lv_at hl 0 rfl) ?_
    refine lv_aload_n hx hb d_MO_writeItem_59 rfl (lv_at hl 0 rfl) ?_
    refine fs_get (v := .ref (ad 32)) hx hb hts hown hK c_MO hP hM.1 32 (by decide) (hts _ (fs_tb_at 1488 tw_1488 rfl)) (fun _ h9 => h9) rfl d_MO_writeItem_60 ?_
    refine lv_aload_n hx hb d_MO_writeItem_63 rfl (lv_at hl 0 rfl) ?_
    refine fs_get (v := .int (R1253.1 35)) hx hb hts hown hK c_MO hP hM.1 35 (by decide) (hts _ (fs_tb_at 1491 tw_1491 rfl)) (fun _ h9 => h9) rfl d_MO_writeItem_64 ?_
    refine lv_iconst (v := 1) hx hb d_MO_writeItem_67 (by decide) ?_
    refine lv_isub hx hb d_MO_writeItem_68 ?_
    obtain ⟨hi_, hq⟩ := fs_okp_some hq
    refine fs_iald (f := R1253.2.1 32) hx hb hK hP 0 (hM.2.1 32 0 44 rfl) rfl hi_ d_MO_writeItem_69 ?_
    refine lv_iload_n hx hb d_MO_writeItem_70 rfl (lv_at hl 1 rfl) ?_
    refine lv_bipush (v := 10) hx hb d_MO_writeItem_71 (by decide) ?_
    refine lv_icmp_ne (tgt := 81) hx hb d_MO_writeItem_73 (by decide) (fun c_1254 => ?_) (fun c_1254 => ?_)
    · have hq := fs_ifn c_1254 hq
      refine lv_bipush (v := 33) hx hb d_MO_writeItem_81 (by decide) ?_
      exact hJ83 z2 33 (R1253.2.1 32 (Int32.toNatClampNeg ((R1253.1 35) - 1))) R1253 _ _ _ _ hq hP hS hM hf (lv_sub hl [0, 1] rfl)
    · have hq := fs_ifp c_1254 hq
      refine lv_bipush (v := 45) hx hb d_MO_writeItem_76 (by decide) ?_
      refine lv_goto (tgt := 83) hx hb d_MO_writeItem_78 (by decide) ?_
      exact hJ83 z2 45 (R1253.2.1 32 (Int32.toNatClampNeg ((R1253.1 35) - 1))) R1253 _ _ _ _ hq hP hS hM hf (lv_sub hl [0, 1] rfl)
  have hJ43 : ∀ (z2 : Int32) (M1 : mo_S) (h1 : fs_Hp) (H : Heap) (locs : List Loc) (ls : Array Slot), q_MO_writeItem_J43 z2 M1 = some r → fs_P G.1 fs_cl (fs_A s00) h1 H → va_S (fs_A s00) s00.heap H locs → mo_at G h1 a ad M1 → mo_fr a ad h h1 → lv_has ls 3 [(0, .ref a), (2, .int z2)] → W p l e { frames := 5, cells := 0, slots := 0, locals := 76 } s m ([.ref a, .int x1] : List Value).toArray below meth c H locs 0 0 (fx_MQ below (fs_Qc s00 G (fun o h' => o = .inl none ∧ mo_at G h' a ad r ∧ mo_fr a ad h h')) ([.ref a, .int x1] : List Value).toArray s 0 0 (fs_A s00)) (F0 m 43 ls ([])) := by
    intro z2 M1 h1 H locs ls hq hP hS hM hf hl
    rw [q_MO_writeItem_J43] at hq
    refine lv_aload_n hx hb d_MO_writeItem_43 rfl (lv_at hl 0 rfl) ?_
    refine lv_iload_n hx hb d_MO_writeItem_44 rfl (lv_at hl 1 rfl) ?_
    refine lv_bipush (v := 10) hx hb d_MO_writeItem_45 (by decide) ?_
    refine lv_icmp_ne (tgt := 54) hx hb d_MO_writeItem_47 (by decide) (fun c_1255 => ?_) (fun c_1255 => ?_)
    · have hq := fs_ifn c_1255 hq
      refine lv_iconst (v := 2) hx hb d_MO_writeItem_54 (by decide) ?_
      exact hJ55 z2 2 M1 _ _ _ _ hq hP hS hM hf (lv_sub hl [0, 1] rfl)
    · have hq := fs_ifp c_1255 hq
      refine lv_iconst (v := 5) hx hb d_MO_writeItem_50 (by decide) ?_
      refine lv_goto (tgt := 55) hx hb d_MO_writeItem_51 (by decide) ?_
      exact hJ55 z2 5 M1 _ _ _ _ hq hP hS hM hf (lv_sub hl [0, 1] rfl)
  have hl := lv_entry ([.ref a, .int x1]) (n := 3) (Nat.le_of_ble_eq_true rfl)
  rw [lg_entry_eq]
  generalize (lg_sl ([.ref a, .int x1]) ++ List.replicate (3 - (lg_sl ([.ref a, .int x1])).length) Slot.unset).toArray = ls at hl ⊢
  have hl : lv_has ls 3 [(0, .ref a), (1, .int x1)] := hl
  have hf : mo_fr a ad h h := mo_fr.rf
  rw [q_MO_writeItem] at hq
  refine lv_aload_n hx hb d_MO_writeItem_0 rfl (lv_at hl 0 rfl) ?_
  refine fs_get (v := .ref (ad 3)) hx hb hts hown hK c_MO hP hM.1 3 (by decide) (hts _ (fs_tb_at 1459 tw_1459 rfl)) (fun _ h9 => h9) rfl d_MO_writeItem_1 ?_
  refine lv_iload_n hx hb d_MO_writeItem_4 rfl (lv_at hl 1 rfl) ?_
  obtain ⟨hi_, hq⟩ := fs_okp_some hq
  refine fs_iald (f := M.2.1 3) hx hb hK hP 0 (hM.2.1 3 0 3240 rfl) rfl hi_ d_MO_writeItem_5 ?_
  refine lv_istore_n (lv' := [(2, .int (M.2.1 3 (Int32.toNatClampNeg x1))), (0, .ref a), (1, .int x1)]) hx hb d_MO_writeItem_6 rfl hl (by decide) rfl (fun ls hl => ?_)
  refine lv_iload_n hx hb d_MO_writeItem_7 rfl (lv_at hl 0 rfl) ?_
  refine lv_if_eq (tgt := 23) hx hb d_MO_writeItem_8 (by decide) (fun c_1256 => ?_) (fun c_1256 => ?_)
  · have hq := fs_ifp c_1256 hq
    refine lv_aload_n hx hb d_MO_writeItem_23 rfl (lv_at hl 1 rfl) ?_
    refine lv_iload_n hx hb d_MO_writeItem_24 rfl (lv_at hl 2 rfl) ?_
    obtain ⟨R1257, eR1257, hq⟩ := fs_bind_some hq
    refine fs_cV B hl.1 hP hS (k_MO_writePart hSt hM x1 eR1257) (fs_tb_at 1812 tw_1812 rfl) hM.1 rfl (fs_tb_at 1814 tw_1814 rfl) (fs_tb_at 76 tw_76 rfl) (fs_tb_at 96 tw_96 rfl) (fs_tb_at 1815 tw_1815 rfl) (by decide) (show (parseMethodDescriptor y_MO_writePart.desc).map (fun d => d.parameters.length) = some 1 by decide +kernel) rfl d_MO_writeItem_25 ⟨Nat.le_of_ble_eq_true rfl, Nat.le_of_ble_eq_true rfl, Nat.le_of_ble_eq_true rfl, Nat.le_of_ble_eq_true rfl⟩ (fun v_ h_ H locs hc_ hP hS => ?_) (fun C_ a_ h_ H locs hc_ => absurd hc_.1 (fun h9 => by cases h9))
    obtain ⟨ev, hM, hf2⟩ := hc_
    cases ev
    have hf := hf.trans hf2
    refine W.widen (k := 0) (n := 0) (Nat.le_of_ble_eq_true rfl) (Nat.le_of_ble_eq_true rfl) ?_
    refine W.eq (g2 := F0 m 28 ls ([])) rfl ?_
    refine lv_goto (tgt := 142) hx hb d_MO_writeItem_28 (by decide) ?_
    cases hq
    exact fs_vret hx hb hr hlocks hw hP hS (by omega) (by omega) (⟨rfl, hM, hf⟩) d_MO_writeItem_142
  · have hq := fs_ifn c_1256 hq
    refine lv_iload_n hx hb d_MO_writeItem_11 rfl (lv_at hl 0 rfl) ?_
    refine lv_iconst (v := 1) hx hb d_MO_writeItem_12 (by decide) ?_
    refine lv_icmp_eq (tgt := 23) hx hb d_MO_writeItem_13 (by decide) (fun c_1258 => ?_) (fun c_1258 => ?_)
    · have hq := fs_ifp c_1258 hq
      refine lv_aload_n hx hb d_MO_writeItem_23 rfl (lv_at hl 1 rfl) ?_
      refine lv_iload_n hx hb d_MO_writeItem_24 rfl (lv_at hl 2 rfl) ?_
      obtain ⟨R1259, eR1259, hq⟩ := fs_bind_some hq
      refine fs_cV B hl.1 hP hS (k_MO_writePart hSt hM x1 eR1259) (fs_tb_at 1812 tw_1812 rfl) hM.1 rfl (fs_tb_at 1814 tw_1814 rfl) (fs_tb_at 76 tw_76 rfl) (fs_tb_at 96 tw_96 rfl) (fs_tb_at 1815 tw_1815 rfl) (by decide) (show (parseMethodDescriptor y_MO_writePart.desc).map (fun d => d.parameters.length) = some 1 by decide +kernel) rfl d_MO_writeItem_25 ⟨Nat.le_of_ble_eq_true rfl, Nat.le_of_ble_eq_true rfl, Nat.le_of_ble_eq_true rfl, Nat.le_of_ble_eq_true rfl⟩ (fun v_ h_ H locs hc_ hP hS => ?_) (fun C_ a_ h_ H locs hc_ => absurd hc_.1 (fun h9 => by cases h9))
      obtain ⟨ev, hM, hf2⟩ := hc_
      cases ev
      have hf := hf.trans hf2
      refine W.widen (k := 0) (n := 0) (Nat.le_of_ble_eq_true rfl) (Nat.le_of_ble_eq_true rfl) ?_
      refine W.eq (g2 := F0 m 28 ls ([])) rfl ?_
      refine lv_goto (tgt := 142) hx hb d_MO_writeItem_28 (by decide) ?_
      cases hq
      exact fs_vret hx hb hr hlocks hw hP hS (by omega) (by omega) (⟨rfl, hM, hf⟩) d_MO_writeItem_142
    · have hq := fs_ifn c_1258 hq
      refine lv_iload_n hx hb d_MO_writeItem_16 rfl (lv_at hl 0 rfl) ?_
      refine fs_cS B hl.1 hP hS (k_MO_isRange hSt (M.2.1 3 (Int32.toNatClampNeg x1))) (fs_tb_at 1682 tw_1682 rfl) (fs_tb_at 1683 tw_1683 rfl) (fs_tb_at 96 tw_96 rfl) (fs_tb_at 1684 tw_1684 rfl) (by decide) (show (parseMethodDescriptor y_MO_isRange.desc).map (fun d => d.parameters.length) = some 1 by decide +kernel) rfl d_MO_writeItem_17 ⟨Nat.le_of_ble_eq_true rfl, Nat.le_of_ble_eq_true rfl, Nat.le_of_ble_eq_true rfl, Nat.le_of_ble_eq_true rfl⟩ (fun v_ h_ H locs hc_ hP hS => ?_) (fun C_ a_ h_ H locs hc_ => absurd hc_.1 (fun h9 => by cases h9))
      obtain ⟨ev, eh⟩ := hc_
      cases ev
      rw [eh] at hP
      refine W.widen (k := 0) (n := 0) (Nat.le_of_ble_eq_true rfl) (Nat.le_of_ble_eq_true rfl) ?_
      refine W.eq (g2 := F0 m 20 ls (.int (p_MO_isRange (M.2.1 3 (Int32.toNatClampNeg x1))) :: [])) rfl ?_
      refine lv_if_eq (tgt := 31) hx hb d_MO_writeItem_20 (by decide) (fun c_1260 => ?_) (fun c_1260 => ?_)
      · have hq := fs_ifp c_1260 hq
        refine lv_iload_n hx hb d_MO_writeItem_31 rfl (lv_at hl 0 rfl) ?_
        refine lv_bipush (v := 10) hx hb d_MO_writeItem_32 (by decide) ?_
        refine lv_icmp_eq (tgt := 43) hx hb d_MO_writeItem_34 (by decide) (fun c_1261 => ?_) (fun c_1261 => ?_)
        · have hq := fs_ifp c_1261 hq
          exact hJ43 (M.2.1 3 (Int32.toNatClampNeg x1)) M _ _ _ _ hq hP hS hM hf (lv_sub hl [1, 0] rfl)
        · have hq := fs_ifn c_1261 hq
          refine lv_iload_n hx hb d_MO_writeItem_37 rfl (lv_at hl 0 rfl) ?_
          refine lv_bipush (v := 33) hx hb d_MO_writeItem_38 (by decide) ?_
          refine lv_icmp_ne (tgt := 111) hx hb d_MO_writeItem_40 (by decide) (fun c_1262 => ?_) (fun c_1262 => ?_)
          · have hq := fs_ifn c_1262 hq
            refine lv_iload_n hx hb d_MO_writeItem_111 rfl (lv_at hl 0 rfl) ?_
            refine lv_bipush (v := 7) hx hb d_MO_writeItem_112 (by decide) ?_
            refine lv_icmp_eq (tgt := 129) hx hb d_MO_writeItem_114 (by decide) (fun c_1263 => ?_) (fun c_1263 => ?_)
            · have hq := fs_ifp c_1263 hq
              refine lv_aload_n hx hb d_MO_writeItem_129 rfl (lv_at hl 1 rfl) ?_
              refine lv_iload_n hx hb d_MO_writeItem_130 rfl (lv_at hl 0 rfl) ?_
              obtain ⟨R1264, eR1264, hq⟩ := fs_bind_some hq
              refine fs_cV B hl.1 hP hS (k_MO_writeFunction hSt hM (M.2.1 3 (Int32.toNatClampNeg x1)) eR1264) (fs_tb_at 1848 tw_1848 rfl) hM.1 rfl (fs_tb_at 1850 tw_1850 rfl) (fs_tb_at 85 tw_85 rfl) (fs_tb_at 96 tw_96 rfl) (fs_tb_at 1851 tw_1851 rfl) (by decide) (show (parseMethodDescriptor y_MO_writeFunction.desc).map (fun d => d.parameters.length) = some 1 by decide +kernel) rfl d_MO_writeItem_131 ⟨Nat.le_of_ble_eq_true rfl, Nat.le_of_ble_eq_true rfl, Nat.le_of_ble_eq_true rfl, Nat.le_of_ble_eq_true rfl⟩ (fun v_ h_ H locs hc_ hP hS => ?_) (fun C_ a_ h_ H locs hc_ => absurd hc_.1 (fun h9 => by cases h9))
              obtain ⟨ev, hM, hf2⟩ := hc_
              cases ev
              have hf := hf.trans hf2
              refine W.widen (k := 0) (n := 0) (Nat.le_of_ble_eq_true rfl) (Nat.le_of_ble_eq_true rfl) ?_
              refine W.eq (g2 := F0 m 134 ls ([])) rfl ?_
              refine lv_goto (tgt := 142) hx hb d_MO_writeItem_134 (by decide) ?_
              cases hq
              exact fs_vret hx hb hr hlocks hw hP hS (by omega) (by omega) (⟨rfl, hM, hf⟩) d_MO_writeItem_142
            · have hq := fs_ifn c_1263 hq
              refine lv_iload_n hx hb d_MO_writeItem_117 rfl (lv_at hl 0 rfl) ?_
              refine lv_bipush (v := 8) hx hb d_MO_writeItem_118 (by decide) ?_
              refine lv_icmp_eq (tgt := 129) hx hb d_MO_writeItem_120 (by decide) (fun c_1265 => ?_) (fun c_1265 => ?_)
              · have hq := fs_ifp c_1265 hq
                refine lv_aload_n hx hb d_MO_writeItem_129 rfl (lv_at hl 1 rfl) ?_
                refine lv_iload_n hx hb d_MO_writeItem_130 rfl (lv_at hl 0 rfl) ?_
                obtain ⟨R1266, eR1266, hq⟩ := fs_bind_some hq
                refine fs_cV B hl.1 hP hS (k_MO_writeFunction hSt hM (M.2.1 3 (Int32.toNatClampNeg x1)) eR1266) (fs_tb_at 1848 tw_1848 rfl) hM.1 rfl (fs_tb_at 1850 tw_1850 rfl) (fs_tb_at 85 tw_85 rfl) (fs_tb_at 96 tw_96 rfl) (fs_tb_at 1851 tw_1851 rfl) (by decide) (show (parseMethodDescriptor y_MO_writeFunction.desc).map (fun d => d.parameters.length) = some 1 by decide +kernel) rfl d_MO_writeItem_131 ⟨Nat.le_of_ble_eq_true rfl, Nat.le_of_ble_eq_true rfl, Nat.le_of_ble_eq_true rfl, Nat.le_of_ble_eq_true rfl⟩ (fun v_ h_ H locs hc_ hP hS => ?_) (fun C_ a_ h_ H locs hc_ => absurd hc_.1 (fun h9 => by cases h9))
                obtain ⟨ev, hM, hf2⟩ := hc_
                cases ev
                have hf := hf.trans hf2
                refine W.widen (k := 0) (n := 0) (Nat.le_of_ble_eq_true rfl) (Nat.le_of_ble_eq_true rfl) ?_
                refine W.eq (g2 := F0 m 134 ls ([])) rfl ?_
                refine lv_goto (tgt := 142) hx hb d_MO_writeItem_134 (by decide) ?_
                cases hq
                exact fs_vret hx hb hr hlocks hw hP hS (by omega) (by omega) (⟨rfl, hM, hf⟩) d_MO_writeItem_142
              · have hq := fs_ifn c_1265 hq
                refine lv_iload_n hx hb d_MO_writeItem_123 rfl (lv_at hl 0 rfl) ?_
                refine lv_bipush (v := 9) hx hb d_MO_writeItem_124 (by decide) ?_
                refine lv_icmp_ne (tgt := 137) hx hb d_MO_writeItem_126 (by decide) (fun c_1267 => ?_) (fun c_1267 => ?_)
                · have hq := fs_ifn c_1267 hq
                  refine lv_aload_n hx hb d_MO_writeItem_137 rfl (lv_at hl 1 rfl) ?_
                  refine lv_iload_n hx hb d_MO_writeItem_138 rfl (lv_at hl 0 rfl) ?_
                  obtain ⟨R1268, eR1268, hq⟩ := fs_bind_some hq
                  refine fs_cV B hl.1 hP hS (k_MO_writePair hSt hM (M.2.1 3 (Int32.toNatClampNeg x1)) eR1268) (fs_tb_at 1852 tw_1852 rfl) hM.1 rfl (fs_tb_at 1854 tw_1854 rfl) (fs_tb_at 86 tw_86 rfl) (fs_tb_at 96 tw_96 rfl) (fs_tb_at 1855 tw_1855 rfl) (by decide) (show (parseMethodDescriptor y_MO_writePair.desc).map (fun d => d.parameters.length) = some 1 by decide +kernel) rfl d_MO_writeItem_139 ⟨Nat.le_of_ble_eq_true rfl, Nat.le_of_ble_eq_true rfl, Nat.le_of_ble_eq_true rfl, Nat.le_of_ble_eq_true rfl⟩ (fun v_ h_ H locs hc_ hP hS => ?_) (fun C_ a_ h_ H locs hc_ => absurd hc_.1 (fun h9 => by cases h9))
                  obtain ⟨ev, hM, hf2⟩ := hc_
                  cases ev
                  have hf := hf.trans hf2
                  refine W.widen (k := 0) (n := 0) (Nat.le_of_ble_eq_true rfl) (Nat.le_of_ble_eq_true rfl) ?_
                  refine W.eq (g2 := F0 m 142 ls ([])) rfl ?_
                  cases hq
                  exact fs_vret hx hb hr hlocks hw hP hS (by omega) (by omega) (⟨rfl, hM, hf⟩) d_MO_writeItem_142
                · have hq := fs_ifp c_1267 hq
                  refine lv_aload_n hx hb d_MO_writeItem_129 rfl (lv_at hl 1 rfl) ?_
                  refine lv_iload_n hx hb d_MO_writeItem_130 rfl (lv_at hl 0 rfl) ?_
                  obtain ⟨R1269, eR1269, hq⟩ := fs_bind_some hq
                  refine fs_cV B hl.1 hP hS (k_MO_writeFunction hSt hM (M.2.1 3 (Int32.toNatClampNeg x1)) eR1269) (fs_tb_at 1848 tw_1848 rfl) hM.1 rfl (fs_tb_at 1850 tw_1850 rfl) (fs_tb_at 85 tw_85 rfl) (fs_tb_at 96 tw_96 rfl) (fs_tb_at 1851 tw_1851 rfl) (by decide) (show (parseMethodDescriptor y_MO_writeFunction.desc).map (fun d => d.parameters.length) = some 1 by decide +kernel) rfl d_MO_writeItem_131 ⟨Nat.le_of_ble_eq_true rfl, Nat.le_of_ble_eq_true rfl, Nat.le_of_ble_eq_true rfl, Nat.le_of_ble_eq_true rfl⟩ (fun v_ h_ H locs hc_ hP hS => ?_) (fun C_ a_ h_ H locs hc_ => absurd hc_.1 (fun h9 => by cases h9))
                  obtain ⟨ev, hM, hf2⟩ := hc_
                  cases ev
                  have hf := hf.trans hf2
                  refine W.widen (k := 0) (n := 0) (Nat.le_of_ble_eq_true rfl) (Nat.le_of_ble_eq_true rfl) ?_
                  refine W.eq (g2 := F0 m 134 ls ([])) rfl ?_
                  refine lv_goto (tgt := 142) hx hb d_MO_writeItem_134 (by decide) ?_
                  cases hq
                  exact fs_vret hx hb hr hlocks hw hP hS (by omega) (by omega) (⟨rfl, hM, hf⟩) d_MO_writeItem_142
          · have hq := fs_ifp c_1262 hq
            exact hJ43 (M.2.1 3 (Int32.toNatClampNeg x1)) M _ _ _ _ hq hP hS hM hf (lv_sub hl [1, 0] rfl)
      · have hq := fs_ifn c_1260 hq
        refine lv_aload_n hx hb d_MO_writeItem_23 rfl (lv_at hl 1 rfl) ?_
        refine lv_iload_n hx hb d_MO_writeItem_24 rfl (lv_at hl 2 rfl) ?_
        obtain ⟨R1270, eR1270, hq⟩ := fs_bind_some hq
        refine fs_cV B hl.1 hP hS (k_MO_writePart hSt hM x1 eR1270) (fs_tb_at 1812 tw_1812 rfl) hM.1 rfl (fs_tb_at 1814 tw_1814 rfl) (fs_tb_at 76 tw_76 rfl) (fs_tb_at 96 tw_96 rfl) (fs_tb_at 1815 tw_1815 rfl) (by decide) (show (parseMethodDescriptor y_MO_writePart.desc).map (fun d => d.parameters.length) = some 1 by decide +kernel) rfl d_MO_writeItem_25 ⟨Nat.le_of_ble_eq_true rfl, Nat.le_of_ble_eq_true rfl, Nat.le_of_ble_eq_true rfl, Nat.le_of_ble_eq_true rfl⟩ (fun v_ h_ H locs hc_ hP hS => ?_) (fun C_ a_ h_ H locs hc_ => absurd hc_.1 (fun h9 => by cases h9))
        obtain ⟨ev, hM, hf2⟩ := hc_
        cases ev
        have hf := hf.trans hf2
        refine W.widen (k := 0) (n := 0) (Nat.le_of_ble_eq_true rfl) (Nat.le_of_ble_eq_true rfl) ?_
        refine W.eq (g2 := F0 m 28 ls ([])) rfl ?_
        refine lv_goto (tgt := 142) hx hb d_MO_writeItem_28 (by decide) ?_
        cases hq
        exact fs_vret hx hb hr hlocks hw hP hS (by omega) (by omega) (⟨rfl, hM, hf⟩) d_MO_writeItem_142
noncomputable def q_MO_text_L61 : Nat → Int32 → Int32 → Int32 → mo_S → Option (mo_S)
  | 0, _, _, _, _ => none
  | n + 1, z3, z4, z5, M1 => fs_okp (vp_in z4 81) ((if ((40 * z4) + (M1.2.1 1 (Int32.toNatClampNeg z4))) ≤ z5 then some (M1) else Option.bind (q_MO_writeItem M1 z5) (fun R1288 => (q_MO_text_L61 n) z3 z4 (z5 + 1) R1288)))
noncomputable def q_MO_text (M : mo_S) (x1 : Int32) (x2 : Int32) (x3 : Int32) : Option (Int32 × mo_S) := (if (p_MO_out x1 x2) = 0 then fs_okp (vp_in ((10 * x1) + x2) 81) ((if (M.2.1 0 (Int32.toNatClampNeg ((10 * x1) + x2))) = 2 then Option.bind (q_MO_text_L61 41 x3 ((10 * x1) + x2) (40 * ((10 * x1) + x2)) (mo_f (mo_f (mo_f M 11 0) 34 0) 35 0)) (fun R1289 => (if x3 < 0 then some ((-1), R1289) else (if x3 < (R1289.1 34) then fs_okp (vp_in x3 400) (some (R1289.2.1 31 (Int32.toNatClampNeg x3), R1289)) else some ((-1), R1289)))) else fs_let (p_MO_fail (mo_f M 11 0) 2) (fun R1292 => some (R1292.1, R1292.2)))) else fs_let (p_MO_fail (mo_f M 11 0) 1) (fun R1293 => some (R1293.1, R1293.2)))
set_option maxHeartbeats 4000000 in
set_option maxRecDepth 100000 in
theorem l_MO_text_61 {p : Program} {l : Launch} {e : Env} {R : Room} {s : State} {m : MethodId} {args : Array Value} {below : List Frame} {meth : Method} {c : Code} {Q : State → Prop} {s00 : State} {G : fs_G} (hSt : fs_St l s00 G) (B : fs_B p l e s m args meth c s00 G y_MO_text b_MO_text 6 (some .int)) {h : fs_Hp} {a : Nat} {ad : Nat → Nat} (hR : 6 ≤ R.frames ∧ 90 ≤ R.locals) : ∀ (n : Nat) (z3 : Int32) (z4 : Int32) (z5 : Int32) (M1 : mo_S) (h1 : fs_Hp) (H : Heap) (locs : List Loc) (ls : Array Slot) (r : mo_S), q_MO_text_L61 n z3 z4 z5 M1 = some r → fs_P G.1 fs_cl (fs_A s00) h1 H → va_S (fs_A s00) s00.heap H locs → mo_at G h1 a ad M1 → mo_fr a ad h h1 → lv_has ls 6 [(0, .ref a), (3, .int z3), (4, .int z4), (5, .int z5)] → (∀ (h' : fs_Hp) (H : Heap) (locs : List Loc) (ls : Array Slot), fs_P G.1 fs_cl (fs_A s00) h' H → va_S (fs_A s00) s00.heap H locs → mo_at G h' a ad r → mo_fr a ad h h' → lv_has ls 6 [(0, .ref a), (3, .int z3), (4, .int z4)] → W p l e R s m args below meth c H locs 0 0 Q (F0 m 91 ls [])) → W p l e R s m args below meth c H locs 0 0 Q (F0 m 61 ls []) := by
  obtain ⟨hx, hb, hr, hml, hown, hts, hlocks, hname, hK, hw, htr⟩ := id B
  have hown : s.vm.findClass "FormulaSheetModel" = some m.cls := hown
  intro n
  induction n with
  | zero => intro z3 z4 z5 M1 h1 H locs ls r hq; rw [q_MO_text_L61] at hq; cases hq
  | succ n ih =>
    intro z3 z4 z5 M1 h1 H locs ls r hq hP hS hM hf hl kk
    rw [q_MO_text_L61] at hq
    refine lv_iload hx hb d_MO_text_61 (lv_at hl 3 rfl) ?_
    refine lv_bipush (v := 40) hx hb d_MO_text_63 (by decide) ?_
    refine lv_iload hx hb d_MO_text_65 (lv_at hl 2 rfl) ?_
    refine lv_imul hx hb d_MO_text_67 ?_
    refine lv_aload_n hx hb d_MO_text_68 rfl (lv_at hl 0 rfl) ?_
    refine fs_get (v := .ref (ad 1)) hx hb hts hown hK c_MO hP hM.1 1 (by decide) (hts _ (fs_tb_at 1457 tw_1457 rfl)) (fun _ h9 => h9) rfl d_MO_text_69 ?_
    refine lv_iload hx hb d_MO_text_72 (lv_at hl 2 rfl) ?_
    obtain ⟨hi_, hq⟩ := fs_okp_some hq
    refine fs_iald (f := M1.2.1 1) hx hb hK hP 0 (hM.2.1 1 0 81 rfl) rfl hi_ d_MO_text_74 ?_
    refine lv_iadd hx hb d_MO_text_75 ?_
    refine lv_icmp_ge (tgt := 91) hx hb d_MO_text_76 (by decide) (fun c_1287 => ?_) (fun c_1287 => ?_)
    · have hq := fs_ifp c_1287 hq
      cases hq
      exact kk _ _ _ _ hP hS hM hf (lv_sub hl [0, 1, 2] rfl)
    · have hq := fs_ifn c_1287 hq
      refine lv_aload_n hx hb d_MO_text_79 rfl (lv_at hl 0 rfl) ?_
      refine lv_iload hx hb d_MO_text_80 (lv_at hl 3 rfl) ?_
      obtain ⟨R1288, eR1288, hq⟩ := fs_bind_some hq
      refine fs_cV B hl.1 hP hS (k_MO_writeItem hSt hM z5 eR1288) (fs_tb_at 1808 tw_1808 rfl) hM.1 rfl (fs_tb_at 1810 tw_1810 rfl) (fs_tb_at 75 tw_75 rfl) (fs_tb_at 96 tw_96 rfl) (fs_tb_at 1811 tw_1811 rfl) (by decide) (show (parseMethodDescriptor y_MO_writeItem.desc).map (fun d => d.parameters.length) = some 1 by decide +kernel) rfl d_MO_text_82 ⟨Nat.le_trans (Nat.le_of_ble_eq_true rfl) hR.1, Nat.le_trans (Nat.le_of_ble_eq_true rfl) hR.2, Nat.zero_le _, Nat.zero_le _⟩ (fun v_ h_ H locs hc_ hP hS => ?_) (fun C_ a_ h_ H locs hc_ => absurd hc_.1 (fun h9 => by cases h9))
      obtain ⟨ev, hM, hf2⟩ := hc_
      cases ev
      have hf := hf.trans hf2
      refine W.widen (k := 0) (n := 0) (Nat.le_of_ble_eq_true rfl) (Nat.le_of_ble_eq_true rfl) ?_
      refine W.eq (g2 := F0 m 85 ls ([])) rfl ?_
      refine lv_iinc (v := z5 + 1) (lv' := [(5, .int (z5 + 1)), (0, .ref a), (3, .int z3), (4, .int z4)]) hx hb d_MO_text_85 hl (k := 3) rfl rfl (by decide) rfl (fun ls hl => ?_)
      refine lv_goto (tgt := 61) hx hb d_MO_text_88 (by decide) ?_
      exact ih z3 z4 (z5 + 1) R1288 _ _ _ _ r hq hP hS hM hf (lv_sub hl [1, 2, 3, 0] rfl) kk
set_option maxHeartbeats 4000000 in
set_option maxRecDepth 100000 in
theorem k_MO_text {l : Launch} {s00 : State} {G : fs_G} (hSt : fs_St l s00 G) {h : fs_Hp} {a : Nat} {ad : Nat → Nat} {M : mo_S} (hM : mo_at G h a ad M) (x1 : Int32) (x2 : Int32) (x3 : Int32) {r : Int32 × mo_S} (hq : q_MO_text M x1 x2 x3 = some r) : fs_Ct l s00 G y_MO_text (.code y_MO_text b_MO_text 6 (some .int)) { frames := 6, cells := 0, slots := 0, locals := 90 } [.ref a, .int x1, .int x2, .int x3] h (fun o h' => o = .inl (some (.int r.1)) ∧ mo_at G h' a ad r.2 ∧ mo_fr a ad h h') := by
  refine fs_Ct.ofW hSt (by decide) ?_
  intro p e s m below meth c B hout hP
  obtain ⟨hx, hb, hr, hml, hown, hts, hlocks, hname, hK, hw, htr⟩ := id B
  have hown : s.vm.findClass "FormulaSheetModel" = some m.cls := hown
  have hS := hw.S
  have hA : ∀ q : Nat, s00.heap.size ≤ q → fs_A s00 q := fun _ h9 => h9
  generalize hH : s.heap = H at hP hS ⊢
  have hH0 : s.heap.size ≤ H.size := by rw [hH]; exact Nat.le_refl _
  have hl := lv_entry ([.ref a, .int x1, .int x2, .int x3]) (n := 6) (Nat.le_of_ble_eq_true rfl)
  rw [lg_entry_eq]
  generalize (lg_sl ([.ref a, .int x1, .int x2, .int x3]) ++ List.replicate (6 - (lg_sl ([.ref a, .int x1, .int x2, .int x3])).length) Slot.unset).toArray = ls at hl ⊢
  have hl : lv_has ls 6 [(0, .ref a), (1, .int x1), (2, .int x2), (3, .int x3)] := hl
  have hf : mo_fr a ad h h := mo_fr.rf
  rw [q_MO_text] at hq
  refine lv_aload_n hx hb d_MO_text_0 rfl (lv_at hl 0 rfl) ?_
  refine lv_iconst (v := 0) hx hb d_MO_text_1 (by decide) ?_
  refine fs_put hx hb hts hown hK c_MO hP hS hM.1 11 (by decide) (hts _ (fs_tb_at 1467 tw_1467 rfl)) (fun _ h9 => h9) rfl rfl rfl (Nat.le_of_ble_eq_true rfl) d_MO_text_2 (fun H locs hP hS => ?_)
  obtain ⟨h1282, hP, hM, hf⟩ : ∃ x, fs_P G.1 fs_cl (fs_A s00) x H ∧ mo_at G x a ad (mo_f M 11 0) ∧ mo_fr a ad h x := ⟨_, hP, hM.F (mo_F11 ad M 0), hf.self⟩
  refine lv_iload_n hx hb d_MO_text_5 rfl (lv_at hl 1 rfl) ?_
  refine lv_iload_n hx hb d_MO_text_6 rfl (lv_at hl 2 rfl) ?_
  refine fs_cS B hl.1 hP hS (k_MO_out hSt x1 x2) (fs_tb_at 1582 tw_1582 rfl) (fs_tb_at 1583 tw_1583 rfl) (fs_tb_at 96 tw_96 rfl) (fs_tb_at 1584 tw_1584 rfl) (by decide) (show (parseMethodDescriptor y_MO_out.desc).map (fun d => d.parameters.length) = some 2 by decide +kernel) rfl d_MO_text_7 ⟨Nat.le_of_ble_eq_true rfl, Nat.le_of_ble_eq_true rfl, Nat.le_of_ble_eq_true rfl, Nat.le_of_ble_eq_true rfl⟩ (fun v_ h_ H locs hc_ hP hS => ?_) (fun C_ a_ h_ H locs hc_ => absurd hc_.1 (fun h9 => by cases h9))
  obtain ⟨ev, eh⟩ := hc_
  cases ev
  rw [eh] at hP
  refine W.widen (k := 0) (n := 0) (Nat.le_of_ble_eq_true rfl) (Nat.le_of_ble_eq_true rfl) ?_
  refine W.eq (g2 := F0 m 10 ls (.int (p_MO_out x1 x2) :: [])) rfl ?_
  refine lv_if_eq (tgt := 19) hx hb d_MO_text_10 (by decide) (fun c_1283 => ?_) (fun c_1283 => ?_)
  · have hq := fs_ifp c_1283 hq
    refine lv_bipush (v := 10) hx hb d_MO_text_19 (by decide) ?_
    refine lv_iload_n hx hb d_MO_text_21 rfl (lv_at hl 1 rfl) ?_
    refine lv_imul hx hb d_MO_text_22 ?_
    refine lv_iload_n hx hb d_MO_text_23 rfl (lv_at hl 2 rfl) ?_
    refine lv_iadd hx hb d_MO_text_24 ?_
    refine lv_istore (lv' := [(4, .int ((10 * x1) + x2)), (0, .ref a), (1, .int x1), (2, .int x2), (3, .int x3)]) hx hb d_MO_text_25 hl (by decide) rfl (fun ls hl => ?_)
    refine lv_aload_n hx hb d_MO_text_27 rfl (lv_at hl 1 rfl) ?_
    refine fs_get (v := .ref (ad 0)) hx hb hts hown hK c_MO hP hM.1 0 (by decide) (hts _ (fs_tb_at 1456 tw_1456 rfl)) (fun _ h9 => h9) rfl d_MO_text_28 ?_
    refine lv_iload hx hb d_MO_text_31 (lv_at hl 0 rfl) ?_
    obtain ⟨hi_, hq⟩ := fs_okp_some hq
    refine fs_iald (f := M.2.1 0) hx hb hK hP 0 (hM.2.1 0 0 81 rfl) rfl hi_ d_MO_text_33 ?_
    refine lv_iconst (v := 2) hx hb d_MO_text_34 (by decide) ?_
    refine lv_icmp_eq (tgt := 44) hx hb d_MO_text_35 (by decide) (fun c_1284 => ?_) (fun c_1284 => ?_)
    · have hq := fs_ifp c_1284 hq
      refine lv_aload_n hx hb d_MO_text_44 rfl (lv_at hl 1 rfl) ?_
      refine lv_iconst (v := 0) hx hb d_MO_text_45 (by decide) ?_
      refine fs_put hx hb hts hown hK c_MO hP hS hM.1 34 (by decide) (hts _ (fs_tb_at 1490 tw_1490 rfl)) (fun _ h9 => h9) rfl rfl rfl (Nat.le_of_ble_eq_true rfl) d_MO_text_46 (fun H locs hP hS => ?_)
      obtain ⟨h1285, hP, hM, hf⟩ : ∃ x, fs_P G.1 fs_cl (fs_A s00) x H ∧ mo_at G x a ad (mo_f (mo_f M 11 0) 34 0) ∧ mo_fr a ad h x := ⟨_, hP, hM.F (mo_F34 ad (mo_f M 11 0) 0), hf.self⟩
      refine lv_aload_n hx hb d_MO_text_49 rfl (lv_at hl 1 rfl) ?_
      refine lv_iconst (v := 0) hx hb d_MO_text_50 (by decide) ?_
      refine fs_put hx hb hts hown hK c_MO hP hS hM.1 35 (by decide) (hts _ (fs_tb_at 1491 tw_1491 rfl)) (fun _ h9 => h9) rfl rfl rfl (Nat.le_of_ble_eq_true rfl) d_MO_text_51 (fun H locs hP hS => ?_)
      obtain ⟨h1286, hP, hM, hf⟩ : ∃ x, fs_P G.1 fs_cl (fs_A s00) x H ∧ mo_at G x a ad (mo_f (mo_f (mo_f M 11 0) 34 0) 35 0) ∧ mo_fr a ad h x := ⟨_, hP, hM.F (mo_F35 ad (mo_f (mo_f M 11 0) 34 0) 0), hf.self⟩
      refine lv_bipush (v := 40) hx hb d_MO_text_54 (by decide) ?_
      refine lv_iload hx hb d_MO_text_56 (lv_at hl 0 rfl) ?_
      refine lv_imul hx hb d_MO_text_58 ?_
      refine lv_istore (lv' := [(5, .int (40 * ((10 * x1) + x2))), (4, .int ((10 * x1) + x2)), (0, .ref a), (1, .int x1), (2, .int x2), (3, .int x3)]) hx hb d_MO_text_59 hl (by decide) rfl (fun ls hl => ?_)
      obtain ⟨R1289, eR1289, hq⟩ := fs_bind_some hq
      refine l_MO_text_61 hSt B ⟨Nat.le_of_ble_eq_true rfl, Nat.le_of_ble_eq_true rfl⟩ 41 x3 ((10 * x1) + x2) (40 * ((10 * x1) + x2)) (mo_f (mo_f (mo_f M 11 0) 34 0) 35 0) _ _ _ _ R1289 eR1289 hP hS hM hf (lv_sub hl [2, 5, 1, 0] rfl) (fun h_ H locs ls hP hS hM hf hl => ?_)
      refine lv_iload_n hx hb d_MO_text_91 rfl (lv_at hl 1 rfl) ?_
      refine lv_if_lt (tgt := 103) hx hb d_MO_text_92 (by decide) (fun c_1290 => ?_) (fun c_1290 => ?_)
      · have hq := fs_ifp c_1290 hq
        refine lv_iconst (v := (-1)) hx hb d_MO_text_103 (by decide) ?_
        refine lv_goto (tgt := 113) hx hb d_MO_text_104 (by decide) ?_
        cases hq
        exact fs_iret hx hb hr hlocks hw hP hS (vp_nar_int _) (by omega) (by omega) (⟨rfl, hM, hf⟩) d_MO_text_113
      · have hq := fs_ifn c_1290 hq
        refine lv_iload_n hx hb d_MO_text_95 rfl (lv_at hl 1 rfl) ?_
        refine lv_aload_n hx hb d_MO_text_96 rfl (lv_at hl 0 rfl) ?_
        refine fs_get (v := .int (R1289.1 34)) hx hb hts hown hK c_MO hP hM.1 34 (by decide) (hts _ (fs_tb_at 1490 tw_1490 rfl)) (fun _ h9 => h9) rfl d_MO_text_97 ?_
        refine lv_icmp_lt (tgt := 107) hx hb d_MO_text_100 (by decide) (fun c_1291 => ?_) (fun c_1291 => ?_)
        · have hq := fs_ifp c_1291 hq
          refine lv_aload_n hx hb d_MO_text_107 rfl (lv_at hl 0 rfl) ?_
          refine fs_get (v := .ref (ad 31)) hx hb hts hown hK c_MO hP hM.1 31 (by decide) (hts _ (fs_tb_at 1487 tw_1487 rfl)) (fun _ h9 => h9) rfl d_MO_text_108 ?_
          refine lv_iload_n hx hb d_MO_text_111 rfl (lv_at hl 1 rfl) ?_
          obtain ⟨hi_, hq⟩ := fs_okp_some hq
          refine fs_iald (f := R1289.2.1 31) hx hb hK hP 0 (hM.2.1 31 0 400 rfl) rfl hi_ d_MO_text_112 ?_
          cases hq
          exact fs_iret hx hb hr hlocks hw hP hS (vp_nar_int _) (by omega) (by omega) (⟨rfl, hM, hf⟩) d_MO_text_113
        · have hq := fs_ifn c_1291 hq
          refine lv_iconst (v := (-1)) hx hb d_MO_text_103 (by decide) ?_
          refine lv_goto (tgt := 113) hx hb d_MO_text_104 (by decide) ?_
          cases hq
          exact fs_iret hx hb hr hlocks hw hP hS (vp_nar_int _) (by omega) (by omega) (⟨rfl, hM, hf⟩) d_MO_text_113
    · have hq := fs_ifn c_1284 hq
      refine lv_aload_n hx hb d_MO_text_38 rfl (lv_at hl 1 rfl) ?_
      refine lv_iconst (v := 2) hx hb d_MO_text_39 (by decide) ?_
      obtain ⟨R1292, eR1292, hq⟩ := fs_let_some hq
      refine fs_cV B hl.1 hP hS (k_MO_fail hSt hM 2 ) (fs_tb_at 1574 tw_1574 rfl) hM.1 rfl (fs_tb_at 1576 tw_1576 rfl) (fs_tb_at 40 tw_40 rfl) (fs_tb_at 96 tw_96 rfl) (fs_tb_at 1577 tw_1577 rfl) (by decide) (show (parseMethodDescriptor y_MO_fail.desc).map (fun d => d.parameters.length) = some 1 by decide +kernel) rfl d_MO_text_40 ⟨Nat.le_of_ble_eq_true rfl, Nat.le_of_ble_eq_true rfl, Nat.le_of_ble_eq_true rfl, Nat.le_of_ble_eq_true rfl⟩ (fun v_ h_ H locs hc_ hP hS => ?_) (fun C_ a_ h_ H locs hc_ => absurd hc_.1 (fun h9 => by cases h9))
      obtain ⟨ev, hM, hf2⟩ := hc_
      cases ev
      have hf := hf.trans hf2
      rw [← eR1292] at hM
      refine W.widen (k := 0) (n := 0) (Nat.le_of_ble_eq_true rfl) (Nat.le_of_ble_eq_true rfl) ?_
      refine W.eq (g2 := F0 m 43 ls (.int R1292.1 :: [])) (by rw [eR1292]; rfl) ?_
      cases hq
      exact fs_iret hx hb hr hlocks hw hP hS (vp_nar_int _) (by omega) (by omega) (⟨rfl, hM, hf⟩) d_MO_text_43
  · have hq := fs_ifn c_1283 hq
    refine lv_aload_n hx hb d_MO_text_13 rfl (lv_at hl 0 rfl) ?_
    refine lv_iconst (v := 1) hx hb d_MO_text_14 (by decide) ?_
    obtain ⟨R1293, eR1293, hq⟩ := fs_let_some hq
    refine fs_cV B hl.1 hP hS (k_MO_fail hSt hM 1 ) (fs_tb_at 1574 tw_1574 rfl) hM.1 rfl (fs_tb_at 1576 tw_1576 rfl) (fs_tb_at 40 tw_40 rfl) (fs_tb_at 96 tw_96 rfl) (fs_tb_at 1577 tw_1577 rfl) (by decide) (show (parseMethodDescriptor y_MO_fail.desc).map (fun d => d.parameters.length) = some 1 by decide +kernel) rfl d_MO_text_15 ⟨Nat.le_of_ble_eq_true rfl, Nat.le_of_ble_eq_true rfl, Nat.le_of_ble_eq_true rfl, Nat.le_of_ble_eq_true rfl⟩ (fun v_ h_ H locs hc_ hP hS => ?_) (fun C_ a_ h_ H locs hc_ => absurd hc_.1 (fun h9 => by cases h9))
    obtain ⟨ev, hM, hf2⟩ := hc_
    cases ev
    have hf := hf.trans hf2
    rw [← eR1293] at hM
    refine W.widen (k := 0) (n := 0) (Nat.le_of_ble_eq_true rfl) (Nat.le_of_ble_eq_true rfl) ?_
    refine W.eq (g2 := F0 m 18 ls (.int R1293.1 :: [])) (by rw [eR1293]; rfl) ?_
    cases hq
    exact fs_iret hx hb hr hlocks hw hP hS (vp_nar_int _) (by omega) (by omega) (⟨rfl, hM, hf⟩) d_MO_text_18
noncomputable def q_MO_count_L33_J92 (self : Int32 → Int32 → Int32 → mo_S → Option (Int32 × mo_S)) (z1 : Int32) (z2 : Int32) (z3 : Int32) (M1 : mo_S) : Option (Int32 × mo_S) := (if z1 = 5 then fs_okp ((0 ≤ (Int32.toInt z3)) ∧ ((Int32.toInt z3) < 80) ∧ (0 ≤ (Int32.toInt (M1.2.1 1 (Int32.toNatClampNeg z3)))) ∧ ((Int32.toInt (M1.2.1 1 (Int32.toNatClampNeg z3))) ≤ 40)) (self z1 (z2 + ((p_MO_lostNow M1 z3).1)) (z3 + 1) M1) else self z1 z2 (z3 + 1) M1)
noncomputable def q_MO_count_L33_J89 (self : Int32 → Int32 → Int32 → mo_S → Option (Int32 × mo_S)) (z1 : Int32) (z2 : Int32) (z3 : Int32) (M1 : mo_S) : Option (Int32 × mo_S) := q_MO_count_L33_J92 self z1 (z2 + 1) z3 M1
noncomputable def q_MO_count_L33_J78 (self : Int32 → Int32 → Int32 → mo_S → Option (Int32 × mo_S)) (z1 : Int32) (z2 : Int32) (z3 : Int32) (z4 : Int32) (M1 : mo_S) : Option (Int32 × mo_S) := (if z1 = 4 then (if z4 ≤ 2 then q_MO_count_L33_J92 self z1 z2 z3 M1 else q_MO_count_L33_J89 self z1 z2 z3 M1) else q_MO_count_L33_J92 self z1 z2 z3 M1)
noncomputable def q_MO_count_L33_J67 (self : Int32 → Int32 → Int32 → mo_S → Option (Int32 × mo_S)) (z1 : Int32) (z2 : Int32) (z3 : Int32) (z4 : Int32) (M1 : mo_S) : Option (Int32 × mo_S) := (if z1 = 3 then (if z4 = 4 then q_MO_count_L33_J89 self z1 z2 z3 M1 else q_MO_count_L33_J78 self z1 z2 z3 z4 M1) else q_MO_count_L33_J78 self z1 z2 z3 z4 M1)
noncomputable def q_MO_count_L33_J56 (self : Int32 → Int32 → Int32 → mo_S → Option (Int32 × mo_S)) (z1 : Int32) (z2 : Int32) (z3 : Int32) (z4 : Int32) (M1 : mo_S) : Option (Int32 × mo_S) := (if z1 = 2 then (if 1 < z4 then q_MO_count_L33_J89 self z1 z2 z3 M1 else q_MO_count_L33_J67 self z1 z2 z3 z4 M1) else q_MO_count_L33_J67 self z1 z2 z3 z4 M1)
noncomputable def q_MO_count_L33 : Nat → Int32 → Int32 → Int32 → mo_S → Option (Int32 × mo_S)
  | 0, _, _, _, _ => none
  | n + 1, z1, z2, z3, M1 => (if 80 ≤ z3 then some (z2, M1) else fs_okp ((0 ≤ (Int32.toInt z3)) ∧ ((Int32.toInt z3) < 80)) ((if z1 = 1 then (if 0 < ((p_MO_kindOf M1 z3).1) then q_MO_count_L33_J89 (q_MO_count_L33 n) z1 z2 z3 M1 else q_MO_count_L33_J56 (q_MO_count_L33 n) z1 z2 z3 ((p_MO_kindOf M1 z3).1) M1) else q_MO_count_L33_J56 (q_MO_count_L33 n) z1 z2 z3 ((p_MO_kindOf M1 z3).1) M1)))
noncomputable def q_MO_count (M : mo_S) (x1 : Int32) : Option (Int32 × mo_S) := (if x1 = 0 then some (M.1 9, (mo_f M 11 0)) else (if x1 < 0 then some ((-1), (mo_f M 11 0)) else (if x1 ≤ 5 then Option.bind (q_MO_work (mo_f M 11 0) ) (fun R1320 => Option.bind (q_MO_count_L33 81 x1 0 0 R1320) (fun R1331 => some (R1331.1, R1331.2))) else some ((-1), (mo_f M 11 0)))))
set_option maxHeartbeats 4000000 in
set_option maxRecDepth 100000 in
theorem l_MO_count_33 {p : Program} {l : Launch} {e : Env} {R : Room} {s : State} {m : MethodId} {args : Array Value} {below : List Frame} {meth : Method} {c : Code} {Q : State → Prop} {s00 : State} {G : fs_G} (hSt : fs_St l s00 G) (B : fs_B p l e s m args meth c s00 G y_MO_count b_MO_count 5 (some .int)) {h : fs_Hp} {a : Nat} {ad : Nat → Nat} (hR : 4 ≤ R.frames ∧ 75 ≤ R.locals) : ∀ (n : Nat) (z1 : Int32) (z2 : Int32) (z3 : Int32) (M1 : mo_S) (h1 : fs_Hp) (H : Heap) (locs : List Loc) (ls : Array Slot) (r : Int32 × mo_S), q_MO_count_L33 n z1 z2 z3 M1 = some r → fs_P G.1 fs_cl (fs_A s00) h1 H → va_S (fs_A s00) s00.heap H locs → mo_at G h1 a ad M1 → mo_fr a ad h h1 → lv_has ls 5 [(0, .ref a), (1, .int z1), (2, .int z2), (3, .int z3)] → (∀ (h' : fs_Hp) (H : Heap) (locs : List Loc) (ls : Array Slot), fs_P G.1 fs_cl (fs_A s00) h' H → va_S (fs_A s00) s00.heap H locs → mo_at G h' a ad r.2 → mo_fr a ad h h' → lv_has ls 5 [(0, .ref a), (1, .int z1), (2, .int r.1)] → W p l e R s m args below meth c H locs 0 0 Q (F0 m 111 ls [])) → W p l e R s m args below meth c H locs 0 0 Q (F0 m 33 ls []) := by
  obtain ⟨hx, hb, hr, hml, hown, hts, hlocks, hname, hK, hw, htr⟩ := id B
  have hown : s.vm.findClass "FormulaSheetModel" = some m.cls := hown
  intro n
  induction n with
  | zero => intro z1 z2 z3 M1 h1 H locs ls r hq; rw [q_MO_count_L33] at hq; cases hq
  | succ n ih =>
    intro z1 z2 z3 M1 h1 H locs ls r hq hP hS hM hf hl kk
    rw [q_MO_count_L33] at hq
    have hJ92 : ∀ (z2 : Int32) (z3 : Int32) (M1 : mo_S) (h1 : fs_Hp) (H : Heap) (locs : List Loc) (ls : Array Slot), q_MO_count_L33_J92 (q_MO_count_L33 n) z1 z2 z3 M1 = some r → fs_P G.1 fs_cl (fs_A s00) h1 H → va_S (fs_A s00) s00.heap H locs → mo_at G h1 a ad M1 → mo_fr a ad h h1 → lv_has ls 5 [(0, .ref a), (1, .int z1), (2, .int z2), (3, .int z3)] → W p l e R s m args below meth c H locs 0 0 Q (F0 m 92 ls ([])) := by
      intro z2 z3 M1 h1 H locs ls hq hP hS hM hf hl
      rw [q_MO_count_L33_J92] at hq
      refine lv_iload_n hx hb d_MO_count_92 rfl (lv_at hl 1 rfl) ?_
      refine lv_iconst (v := 5) hx hb d_MO_count_93 (by decide) ?_
      refine lv_icmp_ne (tgt := 105) hx hb d_MO_count_94 (by decide) (fun c_1321 => ?_) (fun c_1321 => ?_)
      · have hq := fs_ifn c_1321 hq
        refine lv_iinc (v := z3 + 1) (lv' := [(3, .int (z3 + 1)), (0, .ref a), (1, .int z1), (2, .int z2)]) hx hb d_MO_count_105 hl (k := 3) rfl rfl (by decide) rfl (fun ls hl => ?_)
        refine lv_goto (tgt := 33) hx hb d_MO_count_108 (by decide) ?_
        exact ih z1 z2 (z3 + 1) M1 _ _ _ _ r hq hP hS hM hf (lv_sub hl [1, 2, 3, 0] rfl) kk
      · have hq := fs_ifp c_1321 hq
        refine lv_iload_n hx hb d_MO_count_97 rfl (lv_at hl 2 rfl) ?_
        refine lv_aload_n hx hb d_MO_count_98 rfl (lv_at hl 0 rfl) ?_
        refine lv_iload_n hx hb d_MO_count_99 rfl (lv_at hl 3 rfl) ?_
        obtain ⟨⟨b0_, b1_, b2_, b3_⟩, hq⟩ := fs_okp_some hq
        refine fs_cV B hl.1 hP hS (k_MO_lostNow hSt hM z3 b0_ b1_ b2_ b3_) (fs_tb_at 1755 tw_1755 rfl) hM.1 rfl (fs_tb_at 1757 tw_1757 rfl) (fs_tb_at 70 tw_70 rfl) (fs_tb_at 96 tw_96 rfl) (fs_tb_at 1758 tw_1758 rfl) (by decide) (show (parseMethodDescriptor y_MO_lostNow.desc).map (fun d => d.parameters.length) = some 1 by decide +kernel) rfl d_MO_count_100 ⟨Nat.le_trans (Nat.le_of_ble_eq_true rfl) hR.1, Nat.le_trans (Nat.le_of_ble_eq_true rfl) hR.2, Nat.zero_le _, Nat.zero_le _⟩ (fun v_ h_ H locs hc_ hP hS => ?_) (fun C_ a_ h_ H locs hc_ => absurd hc_.1 (fun h9 => by cases h9))
        obtain ⟨ev, hM, hf2⟩ := hc_
        cases ev
        have hf := hf.trans hf2
        rw [ke_MO_lostNow] at hM
        refine W.widen (k := 0) (n := 0) (Nat.le_of_ble_eq_true rfl) (Nat.le_of_ble_eq_true rfl) ?_
        refine W.eq (g2 := F0 m 103 ls (.int ((p_MO_lostNow M1 z3).1) :: .int z2 :: [])) rfl ?_
        refine lv_iadd hx hb d_MO_count_103 ?_
        refine lv_istore_n (lv' := [(2, .int (z2 + ((p_MO_lostNow M1 z3).1))), (0, .ref a), (1, .int z1), (3, .int z3)]) hx hb d_MO_count_104 rfl hl (by decide) rfl (fun ls hl => ?_)
        refine lv_iinc (v := z3 + 1) (lv' := [(3, .int (z3 + 1)), (2, .int (z2 + ((p_MO_lostNow M1 z3).1))), (0, .ref a), (1, .int z1)]) hx hb d_MO_count_105 hl (k := 3) rfl rfl (by decide) rfl (fun ls hl => ?_)
        refine lv_goto (tgt := 33) hx hb d_MO_count_108 (by decide) ?_
        exact ih z1 (z2 + ((p_MO_lostNow M1 z3).1)) (z3 + 1) M1 _ _ _ _ r hq hP hS hM hf (lv_sub hl [2, 3, 1, 0] rfl) kk
    have hJ89 : ∀ (z2 : Int32) (z3 : Int32) (M1 : mo_S) (h1 : fs_Hp) (H : Heap) (locs : List Loc) (ls : Array Slot), q_MO_count_L33_J89 (q_MO_count_L33 n) z1 z2 z3 M1 = some r → fs_P G.1 fs_cl (fs_A s00) h1 H → va_S (fs_A s00) s00.heap H locs → mo_at G h1 a ad M1 → mo_fr a ad h h1 → lv_has ls 5 [(0, .ref a), (1, .int z1), (2, .int z2), (3, .int z3)] → W p l e R s m args below meth c H locs 0 0 Q (F0 m 89 ls ([])) := by
      intro z2 z3 M1 h1 H locs ls hq hP hS hM hf hl
      rw [q_MO_count_L33_J89] at hq
      refine lv_iinc (v := z2 + 1) (lv' := [(2, .int (z2 + 1)), (0, .ref a), (1, .int z1), (3, .int z3)]) hx hb d_MO_count_89 hl (k := 2) rfl rfl (by decide) rfl (fun ls hl => ?_)
      exact hJ92 (z2 + 1) z3 M1 _ _ _ _ hq hP hS hM hf (lv_sub hl [1, 2, 0, 3] rfl)
    have hJ78 : ∀ (z2 : Int32) (z3 : Int32) (z4 : Int32) (M1 : mo_S) (h1 : fs_Hp) (H : Heap) (locs : List Loc) (ls : Array Slot), q_MO_count_L33_J78 (q_MO_count_L33 n) z1 z2 z3 z4 M1 = some r → fs_P G.1 fs_cl (fs_A s00) h1 H → va_S (fs_A s00) s00.heap H locs → mo_at G h1 a ad M1 → mo_fr a ad h h1 → lv_has ls 5 [(0, .ref a), (1, .int z1), (2, .int z2), (3, .int z3), (4, .int z4)] → W p l e R s m args below meth c H locs 0 0 Q (F0 m 78 ls ([])) := by
      intro z2 z3 z4 M1 h1 H locs ls hq hP hS hM hf hl
      rw [q_MO_count_L33_J78] at hq
      refine lv_iload_n hx hb d_MO_count_78 rfl (lv_at hl 1 rfl) ?_
      refine lv_iconst (v := 4) hx hb d_MO_count_79 (by decide) ?_
      refine lv_icmp_ne (tgt := 92) hx hb d_MO_count_80 (by decide) (fun c_1322 => ?_) (fun c_1322 => ?_)
      · have hq := fs_ifn c_1322 hq
        exact hJ92 z2 z3 M1 _ _ _ _ hq hP hS hM hf (lv_sub hl [0, 1, 2, 3] rfl)
      · have hq := fs_ifp c_1322 hq
        refine lv_iload hx hb d_MO_count_83 (lv_at hl 4 rfl) ?_
        refine lv_iconst (v := 2) hx hb d_MO_count_85 (by decide) ?_
        refine lv_icmp_le (tgt := 92) hx hb d_MO_count_86 (by decide) (fun c_1323 => ?_) (fun c_1323 => ?_)
        · have hq := fs_ifp c_1323 hq
          exact hJ92 z2 z3 M1 _ _ _ _ hq hP hS hM hf (lv_sub hl [0, 1, 2, 3] rfl)
        · have hq := fs_ifn c_1323 hq
          exact hJ89 z2 z3 M1 _ _ _ _ hq hP hS hM hf (lv_sub hl [0, 1, 2, 3] rfl)
    have hJ67 : ∀ (z2 : Int32) (z3 : Int32) (z4 : Int32) (M1 : mo_S) (h1 : fs_Hp) (H : Heap) (locs : List Loc) (ls : Array Slot), q_MO_count_L33_J67 (q_MO_count_L33 n) z1 z2 z3 z4 M1 = some r → fs_P G.1 fs_cl (fs_A s00) h1 H → va_S (fs_A s00) s00.heap H locs → mo_at G h1 a ad M1 → mo_fr a ad h h1 → lv_has ls 5 [(0, .ref a), (1, .int z1), (2, .int z2), (3, .int z3), (4, .int z4)] → W p l e R s m args below meth c H locs 0 0 Q (F0 m 67 ls ([])) := by
      intro z2 z3 z4 M1 h1 H locs ls hq hP hS hM hf hl
      rw [q_MO_count_L33_J67] at hq
      refine lv_iload_n hx hb d_MO_count_67 rfl (lv_at hl 1 rfl) ?_
      refine lv_iconst (v := 3) hx hb d_MO_count_68 (by decide) ?_
      refine lv_icmp_ne (tgt := 78) hx hb d_MO_count_69 (by decide) (fun c_1324 => ?_) (fun c_1324 => ?_)
      · have hq := fs_ifn c_1324 hq
        exact hJ78 z2 z3 z4 M1 _ _ _ _ hq hP hS hM hf (lv_sub hl [0, 1, 2, 3, 4] rfl)
      · have hq := fs_ifp c_1324 hq
        refine lv_iload hx hb d_MO_count_72 (lv_at hl 4 rfl) ?_
        refine lv_iconst (v := 4) hx hb d_MO_count_74 (by decide) ?_
        refine lv_icmp_eq (tgt := 89) hx hb d_MO_count_75 (by decide) (fun c_1325 => ?_) (fun c_1325 => ?_)
        · have hq := fs_ifp c_1325 hq
          exact hJ89 z2 z3 M1 _ _ _ _ hq hP hS hM hf (lv_sub hl [0, 1, 2, 3] rfl)
        · have hq := fs_ifn c_1325 hq
          exact hJ78 z2 z3 z4 M1 _ _ _ _ hq hP hS hM hf (lv_sub hl [0, 1, 2, 3, 4] rfl)
    have hJ56 : ∀ (z2 : Int32) (z3 : Int32) (z4 : Int32) (M1 : mo_S) (h1 : fs_Hp) (H : Heap) (locs : List Loc) (ls : Array Slot), q_MO_count_L33_J56 (q_MO_count_L33 n) z1 z2 z3 z4 M1 = some r → fs_P G.1 fs_cl (fs_A s00) h1 H → va_S (fs_A s00) s00.heap H locs → mo_at G h1 a ad M1 → mo_fr a ad h h1 → lv_has ls 5 [(0, .ref a), (1, .int z1), (2, .int z2), (3, .int z3), (4, .int z4)] → W p l e R s m args below meth c H locs 0 0 Q (F0 m 56 ls ([])) := by
      intro z2 z3 z4 M1 h1 H locs ls hq hP hS hM hf hl
      rw [q_MO_count_L33_J56] at hq
      refine lv_iload_n hx hb d_MO_count_56 rfl (lv_at hl 1 rfl) ?_
      refine lv_iconst (v := 2) hx hb d_MO_count_57 (by decide) ?_
      refine lv_icmp_ne (tgt := 67) hx hb d_MO_count_58 (by decide) (fun c_1326 => ?_) (fun c_1326 => ?_)
      · have hq := fs_ifn c_1326 hq
        exact hJ67 z2 z3 z4 M1 _ _ _ _ hq hP hS hM hf (lv_sub hl [0, 1, 2, 3, 4] rfl)
      · have hq := fs_ifp c_1326 hq
        refine lv_iload hx hb d_MO_count_61 (lv_at hl 4 rfl) ?_
        refine lv_iconst (v := 1) hx hb d_MO_count_63 (by decide) ?_
        refine lv_icmp_gt (tgt := 89) hx hb d_MO_count_64 (by decide) (fun c_1327 => ?_) (fun c_1327 => ?_)
        · have hq := fs_ifp c_1327 hq
          exact hJ89 z2 z3 M1 _ _ _ _ hq hP hS hM hf (lv_sub hl [0, 1, 2, 3] rfl)
        · have hq := fs_ifn c_1327 hq
          exact hJ67 z2 z3 z4 M1 _ _ _ _ hq hP hS hM hf (lv_sub hl [0, 1, 2, 3, 4] rfl)
    refine lv_iload_n hx hb d_MO_count_33 rfl (lv_at hl 3 rfl) ?_
    refine lv_bipush (v := 80) hx hb d_MO_count_34 (by decide) ?_
    refine lv_icmp_ge (tgt := 111) hx hb d_MO_count_36 (by decide) (fun c_1328 => ?_) (fun c_1328 => ?_)
    · have hq := fs_ifp c_1328 hq
      cases hq
      exact kk _ _ _ _ hP hS hM hf (lv_sub hl [0, 1, 2] rfl)
    · have hq := fs_ifn c_1328 hq
      refine lv_aload_n hx hb d_MO_count_39 rfl (lv_at hl 0 rfl) ?_
      refine lv_iload_n hx hb d_MO_count_40 rfl (lv_at hl 3 rfl) ?_
      obtain ⟨⟨b0_, b1_⟩, hq⟩ := fs_okp_some hq
      refine fs_cV B hl.1 hP hS (k_MO_kindOf hSt hM z3 b0_ b1_) (fs_tb_at 1796 tw_1796 rfl) hM.1 rfl (fs_tb_at 1798 tw_1798 rfl) (fs_tb_at 74 tw_74 rfl) (fs_tb_at 96 tw_96 rfl) (fs_tb_at 1799 tw_1799 rfl) (by decide) (show (parseMethodDescriptor y_MO_kindOf.desc).map (fun d => d.parameters.length) = some 1 by decide +kernel) rfl d_MO_count_41 ⟨Nat.le_trans (Nat.le_of_ble_eq_true rfl) hR.1, Nat.le_trans (Nat.le_of_ble_eq_true rfl) hR.2, Nat.zero_le _, Nat.zero_le _⟩ (fun v_ h_ H locs hc_ hP hS => ?_) (fun C_ a_ h_ H locs hc_ => absurd hc_.1 (fun h9 => by cases h9))
      obtain ⟨ev, hM, hf2⟩ := hc_
      cases ev
      have hf := hf.trans hf2
      rw [ke_MO_kindOf] at hM
      refine W.widen (k := 0) (n := 0) (Nat.le_of_ble_eq_true rfl) (Nat.le_of_ble_eq_true rfl) ?_
      refine W.eq (g2 := F0 m 44 ls (.int ((p_MO_kindOf M1 z3).1) :: [])) rfl ?_
      refine lv_istore (lv' := [(4, .int ((p_MO_kindOf M1 z3).1)), (0, .ref a), (1, .int z1), (2, .int z2), (3, .int z3)]) hx hb d_MO_count_44 hl (by decide) rfl (fun ls hl => ?_)
      refine lv_iload_n hx hb d_MO_count_46 rfl (lv_at hl 2 rfl) ?_
      refine lv_iconst (v := 1) hx hb d_MO_count_47 (by decide) ?_
      refine lv_icmp_ne (tgt := 56) hx hb d_MO_count_48 (by decide) (fun c_1329 => ?_) (fun c_1329 => ?_)
      · have hq := fs_ifn c_1329 hq
        exact hJ56 z2 z3 ((p_MO_kindOf M1 z3).1) M1 _ _ _ _ hq hP hS hM hf (lv_sub hl [1, 2, 3, 4, 0] rfl)
      · have hq := fs_ifp c_1329 hq
        refine lv_iload hx hb d_MO_count_51 (lv_at hl 0 rfl) ?_
        refine lv_if_gt (tgt := 89) hx hb d_MO_count_53 (by decide) (fun c_1330 => ?_) (fun c_1330 => ?_)
        · have hq := fs_ifp c_1330 hq
          exact hJ89 z2 z3 M1 _ _ _ _ hq hP hS hM hf (lv_sub hl [1, 2, 3, 4] rfl)
        · have hq := fs_ifn c_1330 hq
          exact hJ56 z2 z3 ((p_MO_kindOf M1 z3).1) M1 _ _ _ _ hq hP hS hM hf (lv_sub hl [1, 2, 3, 4, 0] rfl)
set_option maxHeartbeats 4000000 in
set_option maxRecDepth 100000 in
theorem k_MO_count {l : Launch} {s00 : State} {G : fs_G} (hSt : fs_St l s00 G) {h : fs_Hp} {a : Nat} {ad : Nat → Nat} {M : mo_S} (hM : mo_at G h a ad M) (x1 : Int32) {r : Int32 × mo_S} (hq : q_MO_count M x1 = some r) : fs_Ct l s00 G y_MO_count (.code y_MO_count b_MO_count 5 (some .int)) { frames := 4, cells := 0, slots := 0, locals := 75 } [.ref a, .int x1] h (fun o h' => o = .inl (some (.int r.1)) ∧ mo_at G h' a ad r.2 ∧ mo_fr a ad h h') := by
  refine fs_Ct.ofW hSt (by decide) ?_
  intro p e s m below meth c B hout hP
  obtain ⟨hx, hb, hr, hml, hown, hts, hlocks, hname, hK, hw, htr⟩ := id B
  have hown : s.vm.findClass "FormulaSheetModel" = some m.cls := hown
  have hS := hw.S
  have hA : ∀ q : Nat, s00.heap.size ≤ q → fs_A s00 q := fun _ h9 => h9
  generalize hH : s.heap = H at hP hS ⊢
  have hH0 : s.heap.size ≤ H.size := by rw [hH]; exact Nat.le_refl _
  have hl := lv_entry ([.ref a, .int x1]) (n := 5) (Nat.le_of_ble_eq_true rfl)
  rw [lg_entry_eq]
  generalize (lg_sl ([.ref a, .int x1]) ++ List.replicate (5 - (lg_sl ([.ref a, .int x1])).length) Slot.unset).toArray = ls at hl ⊢
  have hl : lv_has ls 5 [(0, .ref a), (1, .int x1)] := hl
  have hf : mo_fr a ad h h := mo_fr.rf
  rw [q_MO_count] at hq
  refine lv_aload_n hx hb d_MO_count_0 rfl (lv_at hl 0 rfl) ?_
  refine lv_iconst (v := 0) hx hb d_MO_count_1 (by decide) ?_
  refine fs_put hx hb hts hown hK c_MO hP hS hM.1 11 (by decide) (hts _ (fs_tb_at 1467 tw_1467 rfl)) (fun _ h9 => h9) rfl rfl rfl (Nat.le_of_ble_eq_true rfl) d_MO_count_2 (fun H locs hP hS => ?_)
  obtain ⟨h1316, hP, hM, hf⟩ : ∃ x, fs_P G.1 fs_cl (fs_A s00) x H ∧ mo_at G x a ad (mo_f M 11 0) ∧ mo_fr a ad h x := ⟨_, hP, hM.F (mo_F11 ad M 0), hf.self⟩
  refine lv_iload_n hx hb d_MO_count_5 rfl (lv_at hl 1 rfl) ?_
  refine lv_if_ne (tgt := 14) hx hb d_MO_count_6 (by decide) (fun c_1317 => ?_) (fun c_1317 => ?_)
  · have hq := fs_ifn c_1317 hq
    refine lv_iload_n hx hb d_MO_count_14 rfl (lv_at hl 1 rfl) ?_
    refine lv_if_lt (tgt := 23) hx hb d_MO_count_15 (by decide) (fun c_1318 => ?_) (fun c_1318 => ?_)
    · have hq := fs_ifp c_1318 hq
      refine lv_iconst (v := (-1)) hx hb d_MO_count_23 (by decide) ?_
      cases hq
      exact fs_iret hx hb hr hlocks hw hP hS (vp_nar_int _) (by omega) (by omega) (⟨rfl, hM, hf⟩) d_MO_count_24
    · have hq := fs_ifn c_1318 hq
      refine lv_iload_n hx hb d_MO_count_18 rfl (lv_at hl 1 rfl) ?_
      refine lv_iconst (v := 5) hx hb d_MO_count_19 (by decide) ?_
      refine lv_icmp_le (tgt := 25) hx hb d_MO_count_20 (by decide) (fun c_1319 => ?_) (fun c_1319 => ?_)
      · have hq := fs_ifp c_1319 hq
        refine lv_aload_n hx hb d_MO_count_25 rfl (lv_at hl 0 rfl) ?_
        obtain ⟨R1320, eR1320, hq⟩ := fs_bind_some hq
        refine fs_cV B hl.1 hP hS (k_MO_work hSt hM  eR1320) (fs_tb_at 1661 tw_1661 rfl) hM.1 rfl (fs_tb_at 1663 tw_1663 rfl) (fs_tb_at 58 tw_58 rfl) (fs_tb_at 96 tw_96 rfl) (fs_tb_at 1664 tw_1664 rfl) (by decide) (show (parseMethodDescriptor y_MO_work.desc).map (fun d => d.parameters.length) = some 0 by decide +kernel) rfl d_MO_count_26 ⟨Nat.le_of_ble_eq_true rfl, Nat.le_of_ble_eq_true rfl, Nat.le_of_ble_eq_true rfl, Nat.le_of_ble_eq_true rfl⟩ (fun v_ h_ H locs hc_ hP hS => ?_) (fun C_ a_ h_ H locs hc_ => absurd hc_.1 (fun h9 => by cases h9))
        obtain ⟨ev, hM, hf2⟩ := hc_
        cases ev
        have hf := hf.trans hf2
        refine W.widen (k := 0) (n := 0) (Nat.le_of_ble_eq_true rfl) (Nat.le_of_ble_eq_true rfl) ?_
        refine W.eq (g2 := F0 m 29 ls ([])) rfl ?_
        refine lv_iconst (v := 0) hx hb d_MO_count_29 (by decide) ?_
        refine lv_istore_n (lv' := [(2, .int 0), (0, .ref a), (1, .int x1)]) hx hb d_MO_count_30 rfl hl (by decide) rfl (fun ls hl => ?_)
        refine lv_iconst (v := 0) hx hb d_MO_count_31 (by decide) ?_
        refine lv_istore_n (lv' := [(3, .int 0), (2, .int 0), (0, .ref a), (1, .int x1)]) hx hb d_MO_count_32 rfl hl (by decide) rfl (fun ls hl => ?_)
        obtain ⟨R1331, eR1331, hq⟩ := fs_bind_some hq
        refine l_MO_count_33 hSt B ⟨Nat.le_of_ble_eq_true rfl, Nat.le_of_ble_eq_true rfl⟩ 81 x1 0 0 R1320 _ _ _ _ R1331 eR1331 hP hS hM hf (lv_sub hl [2, 3, 1, 0] rfl) (fun h_ H locs ls hP hS hM hf hl => ?_)
        refine lv_iload_n hx hb d_MO_count_111 rfl (lv_at hl 2 rfl) ?_
        cases hq
        exact fs_iret hx hb hr hlocks hw hP hS (vp_nar_int _) (by omega) (by omega) (⟨rfl, hM, hf⟩) d_MO_count_112
      · have hq := fs_ifn c_1319 hq
        refine lv_iconst (v := (-1)) hx hb d_MO_count_23 (by decide) ?_
        cases hq
        exact fs_iret hx hb hr hlocks hw hP hS (vp_nar_int _) (by omega) (by omega) (⟨rfl, hM, hf⟩) d_MO_count_24
  · have hq := fs_ifp c_1317 hq
    refine lv_aload_n hx hb d_MO_count_9 rfl (lv_at hl 0 rfl) ?_
    refine fs_get (v := .int (M.1 9)) hx hb hts hown hK c_MO hP hM.1 9 (by decide) (hts _ (fs_tb_at 1465 tw_1465 rfl)) (fun _ h9 => h9) rfl d_MO_count_10 ?_
    cases hq
    exact fs_iret hx hb hr hlocks hw hP hS (vp_nar_int _) (by omega) (by omega) (⟨rfl, hM, hf⟩) d_MO_count_13
