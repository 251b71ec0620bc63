/-! The reference: its reading of THE LINE, checked. -/
abbrev b_MO_readPart : ByteArray := prog_14_method_16_code
def y_MO_readPart : MethodName := ⟨"FormulaSheetModel", "readPart", "()Z"⟩
theorem d_MO_readPart_0 : decode b_MO_readPart 0 = .ok (.aload_n 0, 1) := by decide +kernel
theorem d_MO_readPart_1 : decode b_MO_readPart 1 = .ok (.invokevirtual 112, 3) := by decide +kernel
theorem d_MO_readPart_4 : decode b_MO_readPart 4 = .ok (.istore_n 1, 1) := by decide +kernel
theorem d_MO_readPart_5 : decode b_MO_readPart 5 = .ok (.aload_n 0, 1) := by decide +kernel
theorem d_MO_readPart_6 : decode b_MO_readPart 6 = .ok (.iconst 3, 1) := by decide +kernel
theorem d_MO_readPart_7 : decode b_MO_readPart 7 = .ok (.putfield 141, 3) := by decide +kernel
theorem d_MO_readPart_10 : decode b_MO_readPart 10 = .ok (.iload_n 1, 1) := by decide +kernel
theorem d_MO_readPart_11 : decode b_MO_readPart 11 = .ok (.invokestatic 116, 3) := by decide +kernel
theorem d_MO_readPart_14 : decode b_MO_readPart 14 = .ok (.ifCond .eq 8, 3) := by decide +kernel
theorem d_MO_readPart_17 : decode b_MO_readPart 17 = .ok (.aload_n 0, 1) := by decide +kernel
theorem d_MO_readPart_18 : decode b_MO_readPart 18 = .ok (.invokevirtual 144, 3) := by decide +kernel
theorem d_MO_readPart_21 : decode b_MO_readPart 21 = .ok (.ireturn, 1) := by decide +kernel
theorem d_MO_readPart_22 : decode b_MO_readPart 22 = .ok (.iload_n 1, 1) := by decide +kernel
theorem d_MO_readPart_23 : decode b_MO_readPart 23 = .ok (.bipush 40, 2) := by decide +kernel
theorem d_MO_readPart_25 : decode b_MO_readPart 25 = .ok (.if_icmp .eq 14, 3) := by decide +kernel
theorem d_MO_readPart_28 : decode b_MO_readPart 28 = .ok (.iload_n 1, 1) := by decide +kernel
theorem d_MO_readPart_29 : decode b_MO_readPart 29 = .ok (.bipush 64, 2) := by decide +kernel
theorem d_MO_readPart_31 : decode b_MO_readPart 31 = .ok (.if_icmp .eq 8, 3) := by decide +kernel
theorem d_MO_readPart_34 : decode b_MO_readPart 34 = .ok (.aload_n 0, 1) := by decide +kernel
theorem d_MO_readPart_35 : decode b_MO_readPart 35 = .ok (.invokevirtual 148, 3) := by decide +kernel
theorem d_MO_readPart_38 : decode b_MO_readPart 38 = .ok (.ireturn, 1) := by decide +kernel
theorem d_MO_readPart_39 : decode b_MO_readPart 39 = .ok (.aload_n 0, 1) := by decide +kernel
theorem d_MO_readPart_40 : decode b_MO_readPart 40 = .ok (.getfield 135, 3) := by decide +kernel
theorem d_MO_readPart_43 : decode b_MO_readPart 43 = .ok (.bipush 6, 2) := by decide +kernel
theorem d_MO_readPart_45 : decode b_MO_readPart 45 = .ok (.if_icmp .ne 5, 3) := by decide +kernel
theorem d_MO_readPart_48 : decode b_MO_readPart 48 = .ok (.iconst 0, 1) := by decide +kernel
theorem d_MO_readPart_49 : decode b_MO_readPart 49 = .ok (.ireturn, 1) := by decide +kernel
theorem d_MO_readPart_50 : decode b_MO_readPart 50 = .ok (.aload_n 0, 1) := by decide +kernel
theorem d_MO_readPart_51 : decode b_MO_readPart 51 = .ok (.dup, 1) := by decide +kernel
theorem d_MO_readPart_52 : decode b_MO_readPart 52 = .ok (.getfield 106, 3) := by decide +kernel
theorem d_MO_readPart_55 : decode b_MO_readPart 55 = .ok (.iconst 1, 1) := by decide +kernel
theorem d_MO_readPart_56 : decode b_MO_readPart 56 = .ok (.iadd, 1) := by decide +kernel
theorem d_MO_readPart_57 : decode b_MO_readPart 57 = .ok (.putfield 106, 3) := by decide +kernel
theorem d_MO_readPart_60 : decode b_MO_readPart 60 = .ok (.iload_n 1, 1) := by decide +kernel
theorem d_MO_readPart_61 : decode b_MO_readPart 61 = .ok (.bipush 40, 2) := by decide +kernel
theorem d_MO_readPart_63 : decode b_MO_readPart 63 = .ok (.if_icmp .ne 9, 3) := by decide +kernel
theorem d_MO_readPart_66 : decode b_MO_readPart 66 = .ok (.aload_n 0, 1) := by decide +kernel
theorem d_MO_readPart_67 : decode b_MO_readPart 67 = .ok (.iconst 1, 1) := by decide +kernel
theorem d_MO_readPart_68 : decode b_MO_readPart 68 = .ok (.invokevirtual 151, 3) := by decide +kernel
theorem d_MO_readPart_71 : decode b_MO_readPart 71 = .ok (.ireturn, 1) := by decide +kernel
theorem d_MO_readPart_72 : decode b_MO_readPart 72 = .ok (.aload_n 0, 1) := by decide +kernel
theorem d_MO_readPart_73 : decode b_MO_readPart 73 = .ok (.invokevirtual 154, 3) := by decide +kernel
theorem d_MO_readPart_76 : decode b_MO_readPart 76 = .ok (.istore_n 2, 1) := by decide +kernel
theorem d_MO_readPart_77 : decode b_MO_readPart 77 = .ok (.iload_n 2, 1) := by decide +kernel
theorem d_MO_readPart_78 : decode b_MO_readPart 78 = .ok (.bipush 7, 2) := by decide +kernel
theorem d_MO_readPart_80 : decode b_MO_readPart 80 = .ok (.if_icmp .lt 11, 3) := by decide +kernel
theorem d_MO_readPart_83 : decode b_MO_readPart 83 = .ok (.aload_n 0, 1) := by decide +kernel
theorem d_MO_readPart_84 : decode b_MO_readPart 84 = .ok (.iload_n 2, 1) := by decide +kernel
theorem d_MO_readPart_85 : decode b_MO_readPart 85 = .ok (.invokevirtual 151, 3) := by decide +kernel
theorem d_MO_readPart_88 : decode b_MO_readPart 88 = .ok (.goto 20, 3) := by decide +kernel
theorem d_MO_readPart_91 : decode b_MO_readPart 91 = .ok (.iload_n 2, 1) := by decide +kernel
theorem d_MO_readPart_92 : decode b_MO_readPart 92 = .ok (.ifCond .lt 15, 3) := by decide +kernel
theorem d_MO_readPart_95 : decode b_MO_readPart 95 = .ok (.aload_n 0, 1) := by decide +kernel
theorem d_MO_readPart_96 : decode b_MO_readPart 96 = .ok (.iload_n 2, 1) := by decide +kernel
theorem d_MO_readPart_97 : decode b_MO_readPart 97 = .ok (.invokevirtual 157, 3) := by decide +kernel
theorem d_MO_readPart_100 : decode b_MO_readPart 100 = .ok (.ifCond .eq 7, 3) := by decide +kernel
theorem d_MO_readPart_103 : decode b_MO_readPart 103 = .ok (.iconst 1, 1) := by decide +kernel
theorem d_MO_readPart_104 : decode b_MO_readPart 104 = .ok (.goto 4, 3) := by decide +kernel
theorem d_MO_readPart_107 : decode b_MO_readPart 107 = .ok (.iconst 0, 1) := by decide +kernel
theorem d_MO_readPart_108 : decode b_MO_readPart 108 = .ok (.ireturn, 1) := by decide +kernel
abbrev b_MO_readEnd : ByteArray := prog_14_method_20_code
def y_MO_readEnd : MethodName := ⟨"FormulaSheetModel", "readEnd", "(Z)Z"⟩
theorem d_MO_readEnd_0 : decode b_MO_readEnd 0 = .ok (.aload_n 0, 1) := by decide +kernel
theorem d_MO_readEnd_1 : decode b_MO_readEnd 1 = .ok (.getfield 135, 3) := by decide +kernel
theorem d_MO_readEnd_4 : decode b_MO_readEnd 4 = .ok (.ifCond .le 21, 3) := by decide +kernel
theorem d_MO_readEnd_7 : decode b_MO_readEnd 7 = .ok (.aload_n 0, 1) := by decide +kernel
theorem d_MO_readEnd_8 : decode b_MO_readEnd 8 = .ok (.getfield 75, 3) := by decide +kernel
theorem d_MO_readEnd_11 : decode b_MO_readEnd 11 = .ok (.aload_n 0, 1) := by decide +kernel
theorem d_MO_readEnd_12 : decode b_MO_readEnd 12 = .ok (.getfield 135, 3) := by decide +kernel
theorem d_MO_readEnd_15 : decode b_MO_readEnd 15 = .ok (.iaload, 1) := by decide +kernel
theorem d_MO_readEnd_16 : decode b_MO_readEnd 16 = .ok (.bipush 9, 2) := by decide +kernel
theorem d_MO_readEnd_18 : decode b_MO_readEnd 18 = .ok (.if_icmp .ne 7, 3) := by decide +kernel
theorem d_MO_readEnd_21 : decode b_MO_readEnd 21 = .ok (.iconst 1, 1) := by decide +kernel
theorem d_MO_readEnd_22 : decode b_MO_readEnd 22 = .ok (.goto 4, 3) := by decide +kernel
theorem d_MO_readEnd_25 : decode b_MO_readEnd 25 = .ok (.iconst 0, 1) := by decide +kernel
theorem d_MO_readEnd_26 : decode b_MO_readEnd 26 = .ok (.istore_n 2, 1) := by decide +kernel
theorem d_MO_readEnd_27 : decode b_MO_readEnd 27 = .ok (.iload_n 1, 1) := by decide +kernel
theorem d_MO_readEnd_28 : decode b_MO_readEnd 28 = .ok (.ifCond .eq 30, 3) := by decide +kernel
theorem d_MO_readEnd_31 : decode b_MO_readEnd 31 = .ok (.aload_n 0, 1) := by decide +kernel
theorem d_MO_readEnd_32 : decode b_MO_readEnd 32 = .ok (.getfield 135, 3) := by decide +kernel
theorem d_MO_readEnd_35 : decode b_MO_readEnd 35 = .ok (.ifCond .eq 40, 3) := by decide +kernel
theorem d_MO_readEnd_38 : decode b_MO_readEnd 38 = .ok (.iload_n 2, 1) := by decide +kernel
theorem d_MO_readEnd_39 : decode b_MO_readEnd 39 = .ok (.ifCond .eq 38, 3) := by decide +kernel
theorem d_MO_readEnd_42 : decode b_MO_readEnd 42 = .ok (.aload_n 0, 1) := by decide +kernel
theorem d_MO_readEnd_43 : decode b_MO_readEnd 43 = .ok (.getfield 78, 3) := by decide +kernel
theorem d_MO_readEnd_46 : decode b_MO_readEnd 46 = .ok (.aload_n 0, 1) := by decide +kernel
theorem d_MO_readEnd_47 : decode b_MO_readEnd 47 = .ok (.getfield 135, 3) := by decide +kernel
theorem d_MO_readEnd_50 : decode b_MO_readEnd 50 = .ok (.iaload, 1) := by decide +kernel
theorem d_MO_readEnd_51 : decode b_MO_readEnd 51 = .ok (.iconst 2, 1) := by decide +kernel
theorem d_MO_readEnd_52 : decode b_MO_readEnd 52 = .ok (.if_icmp .ge 25, 3) := by decide +kernel
theorem d_MO_readEnd_55 : decode b_MO_readEnd 55 = .ok (.goto 20, 3) := by decide +kernel
theorem d_MO_readEnd_58 : decode b_MO_readEnd 58 = .ok (.iload_n 2, 1) := by decide +kernel
theorem d_MO_readEnd_59 : decode b_MO_readEnd 59 = .ok (.ifCond .eq 16, 3) := by decide +kernel
theorem d_MO_readEnd_62 : decode b_MO_readEnd 62 = .ok (.aload_n 0, 1) := by decide +kernel
theorem d_MO_readEnd_63 : decode b_MO_readEnd 63 = .ok (.getfield 78, 3) := by decide +kernel
theorem d_MO_readEnd_66 : decode b_MO_readEnd 66 = .ok (.aload_n 0, 1) := by decide +kernel
theorem d_MO_readEnd_67 : decode b_MO_readEnd 67 = .ok (.getfield 135, 3) := by decide +kernel
theorem d_MO_readEnd_70 : decode b_MO_readEnd 70 = .ok (.iaload, 1) := by decide +kernel
theorem d_MO_readEnd_71 : decode b_MO_readEnd 71 = .ok (.iconst 2, 1) := by decide +kernel
theorem d_MO_readEnd_72 : decode b_MO_readEnd 72 = .ok (.if_icmp .ne 5, 3) := by decide +kernel
theorem d_MO_readEnd_75 : decode b_MO_readEnd 75 = .ok (.iconst 0, 1) := by decide +kernel
theorem d_MO_readEnd_76 : decode b_MO_readEnd 76 = .ok (.ireturn, 1) := by decide +kernel
theorem d_MO_readEnd_77 : decode b_MO_readEnd 77 = .ok (.aload_n 0, 1) := by decide +kernel
theorem d_MO_readEnd_78 : decode b_MO_readEnd 78 = .ok (.iconst 1, 1) := by decide +kernel
theorem d_MO_readEnd_79 : decode b_MO_readEnd 79 = .ok (.invokevirtual 166, 3) := by decide +kernel
theorem d_MO_readEnd_82 : decode b_MO_readEnd 82 = .ok (.aload_n 0, 1) := by decide +kernel
theorem d_MO_readEnd_83 : decode b_MO_readEnd 83 = .ok (.getfield 78, 3) := by decide +kernel
theorem d_MO_readEnd_86 : decode b_MO_readEnd 86 = .ok (.aload_n 0, 1) := by decide +kernel
theorem d_MO_readEnd_87 : decode b_MO_readEnd 87 = .ok (.getfield 135, 3) := by decide +kernel
theorem d_MO_readEnd_90 : decode b_MO_readEnd 90 = .ok (.dup2, 1) := by decide +kernel
theorem d_MO_readEnd_91 : decode b_MO_readEnd 91 = .ok (.iaload, 1) := by decide +kernel
theorem d_MO_readEnd_92 : decode b_MO_readEnd 92 = .ok (.iconst 1, 1) := by decide +kernel
theorem d_MO_readEnd_93 : decode b_MO_readEnd 93 = .ok (.iadd, 1) := by decide +kernel
theorem d_MO_readEnd_94 : decode b_MO_readEnd 94 = .ok (.iastore, 1) := by decide +kernel
theorem d_MO_readEnd_95 : decode b_MO_readEnd 95 = .ok (.aload_n 0, 1) := by decide +kernel
theorem d_MO_readEnd_96 : decode b_MO_readEnd 96 = .ok (.getfield 81, 3) := by decide +kernel
theorem d_MO_readEnd_99 : decode b_MO_readEnd 99 = .ok (.aload_n 0, 1) := by decide +kernel
theorem d_MO_readEnd_100 : decode b_MO_readEnd 100 = .ok (.getfield 135, 3) := by decide +kernel
theorem d_MO_readEnd_103 : decode b_MO_readEnd 103 = .ok (.iconst 0, 1) := by decide +kernel
theorem d_MO_readEnd_104 : decode b_MO_readEnd 104 = .ok (.bastore, 1) := by decide +kernel
theorem d_MO_readEnd_105 : decode b_MO_readEnd 105 = .ok (.iload_n 1, 1) := by decide +kernel
theorem d_MO_readEnd_106 : decode b_MO_readEnd 106 = .ok (.ifCond .ne 10, 3) := by decide +kernel
theorem d_MO_readEnd_109 : decode b_MO_readEnd 109 = .ok (.aload_n 0, 1) := by decide +kernel
theorem d_MO_readEnd_110 : decode b_MO_readEnd 110 = .ok (.iconst 0, 1) := by decide +kernel
theorem d_MO_readEnd_111 : decode b_MO_readEnd 111 = .ok (.putfield 141, 3) := by decide +kernel
theorem d_MO_readEnd_114 : decode b_MO_readEnd 114 = .ok (.iconst 1, 1) := by decide +kernel
theorem d_MO_readEnd_115 : decode b_MO_readEnd 115 = .ok (.ireturn, 1) := by decide +kernel
theorem d_MO_readEnd_116 : decode b_MO_readEnd 116 = .ok (.aload_n 0, 1) := by decide +kernel
theorem d_MO_readEnd_117 : decode b_MO_readEnd 117 = .ok (.dup, 1) := by decide +kernel
theorem d_MO_readEnd_118 : decode b_MO_readEnd 118 = .ok (.getfield 135, 3) := by decide +kernel
theorem d_MO_readEnd_121 : decode b_MO_readEnd 121 = .ok (.iconst 1, 1) := by decide +kernel
theorem d_MO_readEnd_122 : decode b_MO_readEnd 122 = .ok (.isub, 1) := by decide +kernel
theorem d_MO_readEnd_123 : decode b_MO_readEnd 123 = .ok (.putfield 135, 3) := by decide +kernel
theorem d_MO_readEnd_126 : decode b_MO_readEnd 126 = .ok (.aload_n 0, 1) := by decide +kernel
theorem d_MO_readEnd_127 : decode b_MO_readEnd 127 = .ok (.dup, 1) := by decide +kernel
theorem d_MO_readEnd_128 : decode b_MO_readEnd 128 = .ok (.getfield 160, 3) := by decide +kernel
theorem d_MO_readEnd_131 : decode b_MO_readEnd 131 = .ok (.iconst 1, 1) := by decide +kernel
theorem d_MO_readEnd_132 : decode b_MO_readEnd 132 = .ok (.isub, 1) := by decide +kernel
theorem d_MO_readEnd_133 : decode b_MO_readEnd 133 = .ok (.putfield 160, 3) := by decide +kernel
theorem d_MO_readEnd_136 : decode b_MO_readEnd 136 = .ok (.aload_n 0, 1) := by decide +kernel
theorem d_MO_readEnd_137 : decode b_MO_readEnd 137 = .ok (.getfield 84, 3) := by decide +kernel
theorem d_MO_readEnd_140 : decode b_MO_readEnd 140 = .ok (.aload_n 0, 1) := by decide +kernel
theorem d_MO_readEnd_141 : decode b_MO_readEnd 141 = .ok (.getfield 160, 3) := by decide +kernel
theorem d_MO_readEnd_144 : decode b_MO_readEnd 144 = .ok (.iaload, 1) := by decide +kernel
theorem d_MO_readEnd_145 : decode b_MO_readEnd 145 = .ok (.bipush 101, 2) := by decide +kernel
theorem d_MO_readEnd_147 : decode b_MO_readEnd 147 = .ok (.if_icmp .le 19, 3) := by decide +kernel
theorem d_MO_readEnd_150 : decode b_MO_readEnd 150 = .ok (.aload_n 0, 1) := by decide +kernel
theorem d_MO_readEnd_151 : decode b_MO_readEnd 151 = .ok (.aload_n 0, 1) := by decide +kernel
theorem d_MO_readEnd_152 : decode b_MO_readEnd 152 = .ok (.getfield 84, 3) := by decide +kernel
theorem d_MO_readEnd_155 : decode b_MO_readEnd 155 = .ok (.aload_n 0, 1) := by decide +kernel
theorem d_MO_readEnd_156 : decode b_MO_readEnd 156 = .ok (.getfield 160, 3) := by decide +kernel
theorem d_MO_readEnd_159 : decode b_MO_readEnd 159 = .ok (.iaload, 1) := by decide +kernel
theorem d_MO_readEnd_160 : decode b_MO_readEnd 160 = .ok (.bipush 100, 2) := by decide +kernel
theorem d_MO_readEnd_162 : decode b_MO_readEnd 162 = .ok (.isub, 1) := by decide +kernel
theorem d_MO_readEnd_163 : decode b_MO_readEnd 163 = .ok (.invokevirtual 124, 3) := by decide +kernel
theorem d_MO_readEnd_166 : decode b_MO_readEnd 166 = .ok (.iconst 1, 1) := by decide +kernel
theorem d_MO_readEnd_167 : decode b_MO_readEnd 167 = .ok (.ireturn, 1) := by decide +kernel
abbrev b_MO_readOperator : ByteArray := prog_14_method_21_code
def y_MO_readOperator : MethodName := ⟨"FormulaSheetModel", "readOperator", "()Z"⟩
theorem d_MO_readOperator_0 : decode b_MO_readOperator 0 = .ok (.aload_n 0, 1) := by decide +kernel
theorem d_MO_readOperator_1 : decode b_MO_readOperator 1 = .ok (.invokevirtual 112, 3) := by decide +kernel
theorem d_MO_readOperator_4 : decode b_MO_readOperator 4 = .ok (.istore_n 1, 1) := by decide +kernel
theorem d_MO_readOperator_5 : decode b_MO_readOperator 5 = .ok (.iload_n 1, 1) := by decide +kernel
theorem d_MO_readOperator_6 : decode b_MO_readOperator 6 = .ok (.invokestatic 163, 3) := by decide +kernel
theorem d_MO_readOperator_9 : decode b_MO_readOperator 9 = .ok (.istore_n 2, 1) := by decide +kernel
theorem d_MO_readOperator_10 : decode b_MO_readOperator 10 = .ok (.iload_n 1, 1) := by decide +kernel
theorem d_MO_readOperator_11 : decode b_MO_readOperator 11 = .ok (.bipush 41, 2) := by decide +kernel
theorem d_MO_readOperator_13 : decode b_MO_readOperator 13 = .ok (.if_icmp .eq 9, 3) := by decide +kernel
theorem d_MO_readOperator_16 : decode b_MO_readOperator 16 = .ok (.iload_n 1, 1) := by decide +kernel
theorem d_MO_readOperator_17 : decode b_MO_readOperator 17 = .ok (.bipush 44, 2) := by decide +kernel
theorem d_MO_readOperator_19 : decode b_MO_readOperator 19 = .ok (.if_icmp .ne 23, 3) := by decide +kernel
theorem d_MO_readOperator_22 : decode b_MO_readOperator 22 = .ok (.aload_n 0, 1) := by decide +kernel
theorem d_MO_readOperator_23 : decode b_MO_readOperator 23 = .ok (.iload_n 1, 1) := by decide +kernel
theorem d_MO_readOperator_24 : decode b_MO_readOperator 24 = .ok (.bipush 41, 2) := by decide +kernel
theorem d_MO_readOperator_26 : decode b_MO_readOperator 26 = .ok (.if_icmp .ne 7, 3) := by decide +kernel
theorem d_MO_readOperator_29 : decode b_MO_readOperator 29 = .ok (.iconst 1, 1) := by decide +kernel
theorem d_MO_readOperator_30 : decode b_MO_readOperator 30 = .ok (.goto 4, 3) := by decide +kernel
theorem d_MO_readOperator_33 : decode b_MO_readOperator 33 = .ok (.iconst 0, 1) := by decide +kernel
theorem d_MO_readOperator_34 : decode b_MO_readOperator 34 = .ok (.invokevirtual 169, 3) := by decide +kernel
theorem d_MO_readOperator_37 : decode b_MO_readOperator 37 = .ok (.ifCond .ne 88, 3) := by decide +kernel
theorem d_MO_readOperator_40 : decode b_MO_readOperator 40 = .ok (.iconst 0, 1) := by decide +kernel
theorem d_MO_readOperator_41 : decode b_MO_readOperator 41 = .ok (.ireturn, 1) := by decide +kernel
theorem d_MO_readOperator_42 : decode b_MO_readOperator 42 = .ok (.iload_n 2, 1) := by decide +kernel
theorem d_MO_readOperator_43 : decode b_MO_readOperator 43 = .ok (.ifCond .eq 32, 3) := by decide +kernel
theorem d_MO_readOperator_46 : decode b_MO_readOperator 46 = .ok (.iload_n 1, 1) := by decide +kernel
theorem d_MO_readOperator_47 : decode b_MO_readOperator 47 = .ok (.bipush 10, 2) := by decide +kernel
theorem d_MO_readOperator_49 : decode b_MO_readOperator 49 = .ok (.if_icmp .eq 26, 3) := by decide +kernel
theorem d_MO_readOperator_52 : decode b_MO_readOperator 52 = .ok (.iload_n 1, 1) := by decide +kernel
theorem d_MO_readOperator_53 : decode b_MO_readOperator 53 = .ok (.bipush 33, 2) := by decide +kernel
theorem d_MO_readOperator_55 : decode b_MO_readOperator 55 = .ok (.if_icmp .eq 20, 3) := by decide +kernel
theorem d_MO_readOperator_58 : decode b_MO_readOperator 58 = .ok (.iload_n 2, 1) := by decide +kernel
theorem d_MO_readOperator_59 : decode b_MO_readOperator 59 = .ok (.iconst 2, 1) := by decide +kernel
theorem d_MO_readOperator_60 : decode b_MO_readOperator 60 = .ok (.if_icmp .ne 17, 3) := by decide +kernel
theorem d_MO_readOperator_63 : decode b_MO_readOperator 63 = .ok (.aload_n 0, 1) := by decide +kernel
theorem d_MO_readOperator_64 : decode b_MO_readOperator 64 = .ok (.getfield 81, 3) := by decide +kernel
theorem d_MO_readOperator_67 : decode b_MO_readOperator 67 = .ok (.aload_n 0, 1) := by decide +kernel
theorem d_MO_readOperator_68 : decode b_MO_readOperator 68 = .ok (.getfield 135, 3) := by decide +kernel
theorem d_MO_readOperator_71 : decode b_MO_readOperator 71 = .ok (.baload, 1) := by decide +kernel
theorem d_MO_readOperator_72 : decode b_MO_readOperator 72 = .ok (.ifCond .eq 5, 3) := by decide +kernel
theorem d_MO_readOperator_75 : decode b_MO_readOperator 75 = .ok (.iconst 0, 1) := by decide +kernel
theorem d_MO_readOperator_76 : decode b_MO_readOperator 76 = .ok (.ireturn, 1) := by decide +kernel
theorem d_MO_readOperator_77 : decode b_MO_readOperator 77 = .ok (.iload_n 2, 1) := by decide +kernel
theorem d_MO_readOperator_78 : decode b_MO_readOperator 78 = .ok (.iconst 3, 1) := by decide +kernel
theorem d_MO_readOperator_79 : decode b_MO_readOperator 79 = .ok (.if_icmp .ge 22, 3) := by decide +kernel
theorem d_MO_readOperator_82 : decode b_MO_readOperator 82 = .ok (.aload_n 0, 1) := by decide +kernel
theorem d_MO_readOperator_83 : decode b_MO_readOperator 83 = .ok (.getfield 81, 3) := by decide +kernel
theorem d_MO_readOperator_86 : decode b_MO_readOperator 86 = .ok (.aload_n 0, 1) := by decide +kernel
theorem d_MO_readOperator_87 : decode b_MO_readOperator 87 = .ok (.getfield 135, 3) := by decide +kernel
theorem d_MO_readOperator_90 : decode b_MO_readOperator 90 = .ok (.iload_n 2, 1) := by decide +kernel
theorem d_MO_readOperator_91 : decode b_MO_readOperator 91 = .ok (.iconst 2, 1) := by decide +kernel
theorem d_MO_readOperator_92 : decode b_MO_readOperator 92 = .ok (.if_icmp .ne 7, 3) := by decide +kernel
theorem d_MO_readOperator_95 : decode b_MO_readOperator 95 = .ok (.iconst 1, 1) := by decide +kernel
theorem d_MO_readOperator_96 : decode b_MO_readOperator 96 = .ok (.goto 4, 3) := by decide +kernel
theorem d_MO_readOperator_99 : decode b_MO_readOperator 99 = .ok (.iconst 0, 1) := by decide +kernel
theorem d_MO_readOperator_100 : decode b_MO_readOperator 100 = .ok (.bastore, 1) := by decide +kernel
theorem d_MO_readOperator_101 : decode b_MO_readOperator 101 = .ok (.aload_n 0, 1) := by decide +kernel
theorem d_MO_readOperator_102 : decode b_MO_readOperator 102 = .ok (.iload_n 2, 1) := by decide +kernel
theorem d_MO_readOperator_103 : decode b_MO_readOperator 103 = .ok (.invokevirtual 166, 3) := by decide +kernel
theorem d_MO_readOperator_106 : decode b_MO_readOperator 106 = .ok (.aload_n 0, 1) := by decide +kernel
theorem d_MO_readOperator_107 : decode b_MO_readOperator 107 = .ok (.iload_n 1, 1) := by decide +kernel
theorem d_MO_readOperator_108 : decode b_MO_readOperator 108 = .ok (.invokevirtual 138, 3) := by decide +kernel
theorem d_MO_readOperator_111 : decode b_MO_readOperator 111 = .ok (.aload_n 0, 1) := by decide +kernel
theorem d_MO_readOperator_112 : decode b_MO_readOperator 112 = .ok (.iload_n 2, 1) := by decide +kernel
theorem d_MO_readOperator_113 : decode b_MO_readOperator 113 = .ok (.iconst 1, 1) := by decide +kernel
theorem d_MO_readOperator_114 : decode b_MO_readOperator 114 = .ok (.if_icmp .ne 7, 3) := by decide +kernel
theorem d_MO_readOperator_117 : decode b_MO_readOperator 117 = .ok (.iconst 0, 1) := by decide +kernel
theorem d_MO_readOperator_118 : decode b_MO_readOperator 118 = .ok (.goto 4, 3) := by decide +kernel
theorem d_MO_readOperator_121 : decode b_MO_readOperator 121 = .ok (.iconst 1, 1) := by decide +kernel
theorem d_MO_readOperator_122 : decode b_MO_readOperator 122 = .ok (.putfield 141, 3) := by decide +kernel
theorem d_MO_readOperator_125 : decode b_MO_readOperator 125 = .ok (.aload_n 0, 1) := by decide +kernel
theorem d_MO_readOperator_126 : decode b_MO_readOperator 126 = .ok (.dup, 1) := by decide +kernel
theorem d_MO_readOperator_127 : decode b_MO_readOperator 127 = .ok (.getfield 106, 3) := by decide +kernel
theorem d_MO_readOperator_130 : decode b_MO_readOperator 130 = .ok (.iconst 1, 1) := by decide +kernel
theorem d_MO_readOperator_131 : decode b_MO_readOperator 131 = .ok (.iadd, 1) := by decide +kernel
theorem d_MO_readOperator_132 : decode b_MO_readOperator 132 = .ok (.putfield 106, 3) := by decide +kernel
theorem d_MO_readOperator_135 : decode b_MO_readOperator 135 = .ok (.iconst 1, 1) := by decide +kernel
theorem d_MO_readOperator_136 : decode b_MO_readOperator 136 = .ok (.ireturn, 1) := by decide +kernel
abbrev b_MO_readOne : ByteArray := prog_14_method_22_code
def y_MO_readOne : MethodName := ⟨"FormulaSheetModel", "readOne", "()Z"⟩
theorem d_MO_readOne_0 : decode b_MO_readOne 0 = .ok (.aload_n 0, 1) := by decide +kernel
theorem d_MO_readOne_1 : decode b_MO_readOne 1 = .ok (.getfield 141, 3) := by decide +kernel
theorem d_MO_readOne_4 : decode b_MO_readOne 4 = .ok (.iconst 3, 1) := by decide +kernel
theorem d_MO_readOne_5 : decode b_MO_readOne 5 = .ok (.if_icmp .ne 8, 3) := by decide +kernel
theorem d_MO_readOne_8 : decode b_MO_readOne 8 = .ok (.aload_n 0, 1) := by decide +kernel
theorem d_MO_readOne_9 : decode b_MO_readOne 9 = .ok (.invokevirtual 173, 3) := by decide +kernel
theorem d_MO_readOne_12 : decode b_MO_readOne 12 = .ok (.ireturn, 1) := by decide +kernel
theorem d_MO_readOne_13 : decode b_MO_readOne 13 = .ok (.aload_n 0, 1) := by decide +kernel
theorem d_MO_readOne_14 : decode b_MO_readOne 14 = .ok (.getfield 141, 3) := by decide +kernel
theorem d_MO_readOne_17 : decode b_MO_readOne 17 = .ok (.ifCond .ne 16, 3) := by decide +kernel
theorem d_MO_readOne_20 : decode b_MO_readOne 20 = .ok (.aload_n 0, 1) := by decide +kernel
theorem d_MO_readOne_21 : decode b_MO_readOne 21 = .ok (.invokevirtual 112, 3) := by decide +kernel
theorem d_MO_readOne_24 : decode b_MO_readOne 24 = .ok (.bipush 33, 2) := by decide +kernel
theorem d_MO_readOne_26 : decode b_MO_readOne 26 = .ok (.if_icmp .ne 7, 3) := by decide +kernel
theorem d_MO_readOne_29 : decode b_MO_readOne 29 = .ok (.iconst 1, 1) := by decide +kernel
theorem d_MO_readOne_30 : decode b_MO_readOne 30 = .ok (.goto 4, 3) := by decide +kernel
theorem d_MO_readOne_33 : decode b_MO_readOne 33 = .ok (.iconst 0, 1) := by decide +kernel
theorem d_MO_readOne_34 : decode b_MO_readOne 34 = .ok (.istore_n 1, 1) := by decide +kernel
theorem d_MO_readOne_35 : decode b_MO_readOne 35 = .ok (.iload_n 1, 1) := by decide +kernel
theorem d_MO_readOne_36 : decode b_MO_readOne 36 = .ok (.ifCond .ne 25, 3) := by decide +kernel
theorem d_MO_readOne_39 : decode b_MO_readOne 39 = .ok (.aload_n 0, 1) := by decide +kernel
theorem d_MO_readOne_40 : decode b_MO_readOne 40 = .ok (.getfield 141, 3) := by decide +kernel
theorem d_MO_readOne_43 : decode b_MO_readOne 43 = .ok (.iconst 2, 1) := by decide +kernel
theorem d_MO_readOne_44 : decode b_MO_readOne 44 = .ok (.if_icmp .eq 12, 3) := by decide +kernel
theorem d_MO_readOne_47 : decode b_MO_readOne 47 = .ok (.aload_n 0, 1) := by decide +kernel
theorem d_MO_readOne_48 : decode b_MO_readOne 48 = .ok (.invokevirtual 112, 3) := by decide +kernel
theorem d_MO_readOne_51 : decode b_MO_readOne 51 = .ok (.bipush 45, 2) := by decide +kernel
theorem d_MO_readOne_53 : decode b_MO_readOne 53 = .ok (.if_icmp .eq 8, 3) := by decide +kernel
theorem d_MO_readOne_56 : decode b_MO_readOne 56 = .ok (.aload_n 0, 1) := by decide +kernel
theorem d_MO_readOne_57 : decode b_MO_readOne 57 = .ok (.invokevirtual 176, 3) := by decide +kernel
theorem d_MO_readOne_60 : decode b_MO_readOne 60 = .ok (.ireturn, 1) := by decide +kernel
theorem d_MO_readOne_61 : decode b_MO_readOne 61 = .ok (.iload_n 1, 1) := by decide +kernel
theorem d_MO_readOne_62 : decode b_MO_readOne 62 = .ok (.ifCond .eq 13, 3) := by decide +kernel
theorem d_MO_readOne_65 : decode b_MO_readOne 65 = .ok (.aload_n 0, 1) := by decide +kernel
theorem d_MO_readOne_66 : decode b_MO_readOne 66 = .ok (.getfield 81, 3) := by decide +kernel
theorem d_MO_readOne_69 : decode b_MO_readOne 69 = .ok (.aload_n 0, 1) := by decide +kernel
theorem d_MO_readOne_70 : decode b_MO_readOne 70 = .ok (.getfield 135, 3) := by decide +kernel
theorem d_MO_readOne_73 : decode b_MO_readOne 73 = .ok (.iconst 1, 1) := by decide +kernel
theorem d_MO_readOne_74 : decode b_MO_readOne 74 = .ok (.bastore, 1) := by decide +kernel
theorem d_MO_readOne_75 : decode b_MO_readOne 75 = .ok (.aload_n 0, 1) := by decide +kernel
theorem d_MO_readOne_76 : decode b_MO_readOne 76 = .ok (.iload_n 1, 1) := by decide +kernel
theorem d_MO_readOne_77 : decode b_MO_readOne 77 = .ok (.ifCond .eq 8, 3) := by decide +kernel
theorem d_MO_readOne_80 : decode b_MO_readOne 80 = .ok (.bipush 33, 2) := by decide +kernel
theorem d_MO_readOne_82 : decode b_MO_readOne 82 = .ok (.goto 5, 3) := by decide +kernel
theorem d_MO_readOne_85 : decode b_MO_readOne 85 = .ok (.bipush 10, 2) := by decide +kernel
theorem d_MO_readOne_87 : decode b_MO_readOne 87 = .ok (.invokevirtual 138, 3) := by decide +kernel
theorem d_MO_readOne_90 : decode b_MO_readOne 90 = .ok (.aload_n 0, 1) := by decide +kernel
theorem d_MO_readOne_91 : decode b_MO_readOne 91 = .ok (.iload_n 1, 1) := by decide +kernel
theorem d_MO_readOne_92 : decode b_MO_readOne 92 = .ok (.ifCond .eq 7, 3) := by decide +kernel
theorem d_MO_readOne_95 : decode b_MO_readOne 95 = .ok (.iconst 1, 1) := by decide +kernel
theorem d_MO_readOne_96 : decode b_MO_readOne 96 = .ok (.goto 4, 3) := by decide +kernel
theorem d_MO_readOne_99 : decode b_MO_readOne 99 = .ok (.iconst 2, 1) := by decide +kernel
theorem d_MO_readOne_100 : decode b_MO_readOne 100 = .ok (.putfield 141, 3) := by decide +kernel
theorem d_MO_readOne_103 : decode b_MO_readOne 103 = .ok (.aload_n 0, 1) := by decide +kernel
theorem d_MO_readOne_104 : decode b_MO_readOne 104 = .ok (.dup, 1) := by decide +kernel
theorem d_MO_readOne_105 : decode b_MO_readOne 105 = .ok (.getfield 106, 3) := by decide +kernel
theorem d_MO_readOne_108 : decode b_MO_readOne 108 = .ok (.iconst 1, 1) := by decide +kernel
theorem d_MO_readOne_109 : decode b_MO_readOne 109 = .ok (.iadd, 1) := by decide +kernel
theorem d_MO_readOne_110 : decode b_MO_readOne 110 = .ok (.putfield 106, 3) := by decide +kernel
theorem d_MO_readOne_113 : decode b_MO_readOne 113 = .ok (.iconst 1, 1) := by decide +kernel
theorem d_MO_readOne_114 : decode b_MO_readOne 114 = .ok (.ireturn, 1) := by decide +kernel
abbrev b_MO_fault : ByteArray := prog_14_method_23_code
def y_MO_fault : MethodName := ⟨"FormulaSheetModel", "fault", "()I"⟩
theorem d_MO_fault_0 : decode b_MO_fault 0 = .ok (.aload_n 0, 1) := by decide +kernel
theorem d_MO_fault_1 : decode b_MO_fault 1 = .ok (.aload_n 0, 1) := by decide +kernel
theorem d_MO_fault_2 : decode b_MO_fault 2 = .ok (.aload_n 0, 1) := by decide +kernel
theorem d_MO_fault_3 : decode b_MO_fault 3 = .ok (.aload_n 0, 1) := by decide +kernel
theorem d_MO_fault_4 : decode b_MO_fault 4 = .ok (.aload_n 0, 1) := by decide +kernel
theorem d_MO_fault_5 : decode b_MO_fault 5 = .ok (.iconst 0, 1) := by decide +kernel
theorem d_MO_fault_6 : decode b_MO_fault 6 = .ok (.dup_x1, 1) := by decide +kernel
theorem d_MO_fault_7 : decode b_MO_fault 7 = .ok (.putfield 160, 3) := by decide +kernel
theorem d_MO_fault_10 : decode b_MO_fault 10 = .ok (.dup_x1, 1) := by decide +kernel
theorem d_MO_fault_11 : decode b_MO_fault 11 = .ok (.putfield 109, 3) := by decide +kernel
theorem d_MO_fault_14 : decode b_MO_fault 14 = .ok (.dup_x1, 1) := by decide +kernel
theorem d_MO_fault_15 : decode b_MO_fault 15 = .ok (.putfield 141, 3) := by decide +kernel
theorem d_MO_fault_18 : decode b_MO_fault 18 = .ok (.dup_x1, 1) := by decide +kernel
theorem d_MO_fault_19 : decode b_MO_fault 19 = .ok (.putfield 135, 3) := by decide +kernel
theorem d_MO_fault_22 : decode b_MO_fault 22 = .ok (.putfield 106, 3) := by decide +kernel
theorem d_MO_fault_25 : decode b_MO_fault 25 = .ok (.aload_n 0, 1) := by decide +kernel
theorem d_MO_fault_26 : decode b_MO_fault 26 = .ok (.getfield 75, 3) := by decide +kernel
theorem d_MO_fault_29 : decode b_MO_fault 29 = .ok (.iconst 0, 1) := by decide +kernel
theorem d_MO_fault_30 : decode b_MO_fault 30 = .ok (.iconst 0, 1) := by decide +kernel
theorem d_MO_fault_31 : decode b_MO_fault 31 = .ok (.iastore, 1) := by decide +kernel
theorem d_MO_fault_32 : decode b_MO_fault 32 = .ok (.aload_n 0, 1) := by decide +kernel
theorem d_MO_fault_33 : decode b_MO_fault 33 = .ok (.getfield 81, 3) := by decide +kernel
theorem d_MO_fault_36 : decode b_MO_fault 36 = .ok (.iconst 0, 1) := by decide +kernel
theorem d_MO_fault_37 : decode b_MO_fault 37 = .ok (.iconst 0, 1) := by decide +kernel
theorem d_MO_fault_38 : decode b_MO_fault 38 = .ok (.bastore, 1) := by decide +kernel
theorem d_MO_fault_39 : decode b_MO_fault 39 = .ok (.aload_n 0, 1) := by decide +kernel
theorem d_MO_fault_40 : decode b_MO_fault 40 = .ok (.getfield 106, 3) := by decide +kernel
theorem d_MO_fault_43 : decode b_MO_fault 43 = .ok (.aload_n 0, 1) := by decide +kernel
theorem d_MO_fault_44 : decode b_MO_fault 44 = .ok (.getfield 103, 3) := by decide +kernel
theorem d_MO_fault_47 : decode b_MO_fault 47 = .ok (.if_icmp .ge 15, 3) := by decide +kernel
theorem d_MO_fault_50 : decode b_MO_fault 50 = .ok (.aload_n 0, 1) := by decide +kernel
theorem d_MO_fault_51 : decode b_MO_fault 51 = .ok (.invokevirtual 179, 3) := by decide +kernel
theorem d_MO_fault_54 : decode b_MO_fault 54 = .ok (.ifCond .ne (-15), 3) := by decide +kernel
theorem d_MO_fault_57 : decode b_MO_fault 57 = .ok (.aload_n 0, 1) := by decide +kernel
theorem d_MO_fault_58 : decode b_MO_fault 58 = .ok (.getfield 106, 3) := by decide +kernel
theorem d_MO_fault_61 : decode b_MO_fault 61 = .ok (.ireturn, 1) := by decide +kernel
theorem d_MO_fault_62 : decode b_MO_fault 62 = .ok (.aload_n 0, 1) := by decide +kernel
theorem d_MO_fault_63 : decode b_MO_fault 63 = .ok (.iconst 1, 1) := by decide +kernel
theorem d_MO_fault_64 : decode b_MO_fault 64 = .ok (.invokevirtual 166, 3) := by decide +kernel
theorem d_MO_fault_67 : decode b_MO_fault 67 = .ok (.aload_n 0, 1) := by decide +kernel
theorem d_MO_fault_68 : decode b_MO_fault 68 = .ok (.getfield 135, 3) := by decide +kernel
theorem d_MO_fault_71 : decode b_MO_fault 71 = .ok (.ifCond .ne 15, 3) := by decide +kernel
theorem d_MO_fault_74 : decode b_MO_fault 74 = .ok (.aload_n 0, 1) := by decide +kernel
theorem d_MO_fault_75 : decode b_MO_fault 75 = .ok (.getfield 141, 3) := by decide +kernel
theorem d_MO_fault_78 : decode b_MO_fault 78 = .ok (.iconst 3, 1) := by decide +kernel
theorem d_MO_fault_79 : decode b_MO_fault 79 = .ok (.if_icmp .ne 7, 3) := by decide +kernel
theorem d_MO_fault_82 : decode b_MO_fault 82 = .ok (.iconst (-1), 1) := by decide +kernel
theorem d_MO_fault_83 : decode b_MO_fault 83 = .ok (.goto 7, 3) := by decide +kernel
theorem d_MO_fault_86 : decode b_MO_fault 86 = .ok (.aload_n 0, 1) := by decide +kernel
theorem d_MO_fault_87 : decode b_MO_fault 87 = .ok (.getfield 103, 3) := by decide +kernel
theorem d_MO_fault_90 : decode b_MO_fault 90 = .ok (.ireturn, 1) := by decide +kernel
theorem tw_42 : lw_tbl[42]? = some (Cond.selects "FormulaSheetModel" ⟨"FormulaSheetModel", "readOne", "()Z"⟩ ⟨"FormulaSheetModel", "readOne", "()Z"⟩) := by decide +kernel
theorem tw_43 : lw_tbl[43]? = some (Cond.selects "FormulaSheetModel" ⟨"FormulaSheetModel", "readOperator", "()Z"⟩ ⟨"FormulaSheetModel", "readOperator", "()Z"⟩) := by decide +kernel
theorem tw_45 : lw_tbl[45]? = some (Cond.selects "FormulaSheetModel" ⟨"FormulaSheetModel", "readEnd", "(Z)Z"⟩ ⟨"FormulaSheetModel", "readEnd", "(Z)Z"⟩) := by decide +kernel
theorem tw_46 : lw_tbl[46]? = some (Cond.selects "FormulaSheetModel" ⟨"FormulaSheetModel", "settle", "(I)V"⟩ ⟨"FormulaSheetModel", "settle", "(I)V"⟩) := by decide +kernel
theorem tw_49 : lw_tbl[49]? = some (Cond.selects "FormulaSheetModel" ⟨"FormulaSheetModel", "readPart", "()Z"⟩ ⟨"FormulaSheetModel", "readPart", "()Z"⟩) := by decide +kernel
theorem tw_50 : lw_tbl[50]? = some (Cond.selects "FormulaSheetModel" ⟨"FormulaSheetModel", "readNumeral", "()Z"⟩ ⟨"FormulaSheetModel", "readNumeral", "()Z"⟩) := by decide +kernel
theorem tw_51 : lw_tbl[51]? = some (Cond.selects "FormulaSheetModel" ⟨"FormulaSheetModel", "readSingle", "()Z"⟩ ⟨"FormulaSheetModel", "readSingle", "()Z"⟩) := by decide +kernel
theorem tw_53 : lw_tbl[53]? = some (Cond.selects "FormulaSheetModel" ⟨"FormulaSheetModel", "openOne", "(I)Z"⟩ ⟨"FormulaSheetModel", "openOne", "(I)Z"⟩) := by decide +kernel
theorem tw_54 : lw_tbl[54]? = some (Cond.selects "FormulaSheetModel" ⟨"FormulaSheetModel", "readName", "()I"⟩ ⟨"FormulaSheetModel", "readName", "()I"⟩) := by decide +kernel
theorem tw_56 : lw_tbl[56]? = some (Cond.selects "FormulaSheetModel" ⟨"FormulaSheetModel", "readRange", "(I)Z"⟩ ⟨"FormulaSheetModel", "readRange", "(I)Z"⟩) := by decide +kernel
theorem tw_1589 : lw_tbl[1589]? = some (Jvm.Cond.methodLink "FormulaSheetModel" (179 : Nat) ({ cls := "FormulaSheetModel", name := "readOne", desc := "()Z" } : Jvm.MethodName)) := by decide +kernel
theorem tw_1591 : lw_tbl[1591]? = some (Jvm.Cond.instanceMethod ({ cls := "FormulaSheetModel", name := "readOne", desc := "()Z" } : Jvm.MethodName)) := by decide +kernel
theorem tw_1592 : lw_tbl[1592]? = some (Jvm.Cond.code ({ cls := "FormulaSheetModel", name := "readOne", desc := "()Z" } : Jvm.MethodName) prog_14_method_22_code (2 : Nat) (Option.some Jvm.ClassFile.FieldType.boolean)) := by decide +kernel
theorem tw_1593 : lw_tbl[1593]? = some (Jvm.Cond.methodLink "FormulaSheetModel" (173 : Nat) ({ cls := "FormulaSheetModel", name := "readOperator", desc := "()Z" } : Jvm.MethodName)) := by decide +kernel
theorem tw_1595 : lw_tbl[1595]? = some (Jvm.Cond.instanceMethod ({ cls := "FormulaSheetModel", name := "readOperator", desc := "()Z" } : Jvm.MethodName)) := by decide +kernel
theorem tw_1596 : lw_tbl[1596]? = some (Jvm.Cond.code ({ cls := "FormulaSheetModel", name := "readOperator", desc := "()Z" } : Jvm.MethodName) prog_14_method_21_code (3 : Nat) (Option.some Jvm.ClassFile.FieldType.boolean)) := by decide +kernel
theorem tw_1604 : lw_tbl[1604]? = some (Jvm.Cond.methodLink "FormulaSheetModel" (169 : Nat) ({ cls := "FormulaSheetModel", name := "readEnd", desc := "(Z)Z" } : Jvm.MethodName)) := by decide +kernel
theorem tw_1606 : lw_tbl[1606]? = some (Jvm.Cond.instanceMethod ({ cls := "FormulaSheetModel", name := "readEnd", desc := "(Z)Z" } : Jvm.MethodName)) := by decide +kernel
theorem tw_1607 : lw_tbl[1607]? = some (Jvm.Cond.code ({ cls := "FormulaSheetModel", name := "readEnd", desc := "(Z)Z" } : Jvm.MethodName) prog_14_method_20_code (3 : Nat) (Option.some Jvm.ClassFile.FieldType.boolean)) := by decide +kernel
theorem tw_1608 : lw_tbl[1608]? = some (Jvm.Cond.methodLink "FormulaSheetModel" (166 : Nat) ({ cls := "FormulaSheetModel", name := "settle", desc := "(I)V" } : Jvm.MethodName)) := by decide +kernel
theorem tw_1610 : lw_tbl[1610]? = some (Jvm.Cond.instanceMethod ({ cls := "FormulaSheetModel", name := "settle", desc := "(I)V" } : Jvm.MethodName)) := by decide +kernel
theorem tw_1611 : lw_tbl[1611]? = some (Jvm.Cond.code ({ cls := "FormulaSheetModel", name := "settle", desc := "(I)V" } : Jvm.MethodName) prog_14_method_18_code (2 : Nat) (Option.none : Option Jvm.ClassFile.FieldType)) := by decide +kernel
theorem tw_1620 : lw_tbl[1620]? = some (Jvm.Cond.methodLink "FormulaSheetModel" (176 : Nat) ({ cls := "FormulaSheetModel", name := "readPart", desc := "()Z" } : Jvm.MethodName)) := by decide +kernel
theorem tw_1622 : lw_tbl[1622]? = some (Jvm.Cond.instanceMethod ({ cls := "FormulaSheetModel", name := "readPart", desc := "()Z" } : Jvm.MethodName)) := by decide +kernel
theorem tw_1623 : lw_tbl[1623]? = some (Jvm.Cond.code ({ cls := "FormulaSheetModel", name := "readPart", desc := "()Z" } : Jvm.MethodName) prog_14_method_16_code (3 : Nat) (Option.some Jvm.ClassFile.FieldType.boolean)) := by decide +kernel
theorem tw_1627 : lw_tbl[1627]? = some (Jvm.Cond.methodLink "FormulaSheetModel" (144 : Nat) ({ cls := "FormulaSheetModel", name := "readNumeral", desc := "()Z" } : Jvm.MethodName)) := by decide +kernel
theorem tw_1629 : lw_tbl[1629]? = some (Jvm.Cond.instanceMethod ({ cls := "FormulaSheetModel", name := "readNumeral", desc := "()Z" } : Jvm.MethodName)) := by decide +kernel
theorem tw_1630 : lw_tbl[1630]? = some (Jvm.Cond.code ({ cls := "FormulaSheetModel", name := "readNumeral", desc := "()Z" } : Jvm.MethodName) prog_14_method_9_code (5 : Nat) (Option.some Jvm.ClassFile.FieldType.boolean)) := by decide +kernel
theorem tw_1633 : lw_tbl[1633]? = some (Jvm.Cond.methodLink "FormulaSheetModel" (148 : Nat) ({ cls := "FormulaSheetModel", name := "readSingle", desc := "()Z" } : Jvm.MethodName)) := by decide +kernel
theorem tw_1635 : lw_tbl[1635]? = some (Jvm.Cond.instanceMethod ({ cls := "FormulaSheetModel", name := "readSingle", desc := "()Z" } : Jvm.MethodName)) := by decide +kernel
theorem tw_1636 : lw_tbl[1636]? = some (Jvm.Cond.code ({ cls := "FormulaSheetModel", name := "readSingle", desc := "()Z" } : Jvm.MethodName) prog_14_method_13_code (2 : Nat) (Option.some Jvm.ClassFile.FieldType.boolean)) := by decide +kernel
theorem tw_1641 : lw_tbl[1641]? = some (Jvm.Cond.methodLink "FormulaSheetModel" (151 : Nat) ({ cls := "FormulaSheetModel", name := "openOne", desc := "(I)Z" } : Jvm.MethodName)) := by decide +kernel
theorem tw_1643 : lw_tbl[1643]? = some (Jvm.Cond.instanceMethod ({ cls := "FormulaSheetModel", name := "openOne", desc := "(I)Z" } : Jvm.MethodName)) := by decide +kernel
theorem tw_1644 : lw_tbl[1644]? = some (Jvm.Cond.code ({ cls := "FormulaSheetModel", name := "openOne", desc := "(I)Z" } : Jvm.MethodName) prog_14_method_15_code (2 : Nat) (Option.some Jvm.ClassFile.FieldType.boolean)) := by decide +kernel
theorem tw_1645 : lw_tbl[1645]? = some (Jvm.Cond.methodLink "FormulaSheetModel" (154 : Nat) ({ cls := "FormulaSheetModel", name := "readName", desc := "()I" } : Jvm.MethodName)) := by decide +kernel
theorem tw_1647 : lw_tbl[1647]? = some (Jvm.Cond.instanceMethod ({ cls := "FormulaSheetModel", name := "readName", desc := "()I" } : Jvm.MethodName)) := by decide +kernel
theorem tw_1648 : lw_tbl[1648]? = some (Jvm.Cond.code ({ cls := "FormulaSheetModel", name := "readName", desc := "()I" } : Jvm.MethodName) prog_14_method_12_code (6 : Nat) (Option.some Jvm.ClassFile.FieldType.int)) := by decide +kernel
theorem tw_1653 : lw_tbl[1653]? = some (Jvm.Cond.methodLink "FormulaSheetModel" (157 : Nat) ({ cls := "FormulaSheetModel", name := "readRange", desc := "(I)Z" } : Jvm.MethodName)) := by decide +kernel
theorem tw_1655 : lw_tbl[1655]? = some (Jvm.Cond.instanceMethod ({ cls := "FormulaSheetModel", name := "readRange", desc := "(I)Z" } : Jvm.MethodName)) := by decide +kernel
theorem tw_1656 : lw_tbl[1656]? = some (Jvm.Cond.code ({ cls := "FormulaSheetModel", name := "readRange", desc := "(I)Z" } : Jvm.MethodName) prog_14_method_14_code (4 : Nat) (Option.some Jvm.ClassFile.FieldType.boolean)) := by decide +kernel
noncomputable def q_MO_readPart_J39 (z1 : Int32) (M1 : mo_S) : Option (Int32 × mo_S) := (if (M1.1 23) = 6 then some (0, M1) else (if z1 = 40 then fs_okp ((0 ≤ (Int32.toInt (M1.1 23))) ∧ ((Int32.toInt (M1.1 23)) ≤ 6) ∧ (0 ≤ (Int32.toInt (M1.1 29))) ∧ ((Int32.toInt (M1.1 29)) < 44)) (fs_let (p_MO_openOne (mo_f M1 22 ((M1.1 22) + 1)) 1) (fun R504 => fs_okp (R504.1 = 0 ∨ R504.1 = 1) (some (R504.1, R504.2)))) else fs_okp ((0 ≤ (Int32.toInt ((M1.1 22) + 1))) ∧ ((Int32.toInt ((M1.1 22) + 1)) ≤ 100) ∧ ((Int32.toInt (M1.1 9)) ≤ 40)) (fs_let (p_MO_readName (mo_f M1 22 ((M1.1 22) + 1)) ) (fun R498 => (if R498.1 < 7 then (if R498.1 < 0 then some (0, R498.2) else fs_okp ((0 ≤ (Int32.toInt (R498.2.1 22))) ∧ ((Int32.toInt (R498.2.1 22)) ≤ 90) ∧ ((Int32.toInt (R498.2.1 9)) ≤ 40) ∧ (0 ≤ (Int32.toInt (R498.2.1 30))) ∧ ((Int32.toInt (R498.2.1 30)) < 40)) (fs_let (p_MO_readRange R498.2 R498.1) (fun R501 => (if R501.1 = 0 then some (0, R501.2) else some (1, R501.2))))) else fs_okp ((0 ≤ (Int32.toInt (R498.2.1 23))) ∧ ((Int32.toInt (R498.2.1 23)) ≤ 6) ∧ (0 ≤ (Int32.toInt (R498.2.1 29))) ∧ ((Int32.toInt (R498.2.1 29)) < 44)) (fs_let (p_MO_openOne R498.2 R498.1) (fun R503 => fs_okp (R503.1 = 0 ∨ R503.1 = 1) (some (R503.1, R503.2)))))))))
noncomputable def q_MO_readPart (M : mo_S)  : Option (Int32 × mo_S) := fs_okp ((0 ≤ (Int32.toInt (M.1 22))) ∧ ((Int32.toInt (M.1 9)) ≤ 40)) ((if (p_MO_digit ((p_MO_here M ).1)) = 0 then (if ((p_MO_here M ).1) = 40 then q_MO_readPart_J39 ((p_MO_here M ).1) (mo_f M 24 3) else (if ((p_MO_here M ).1) = 64 then q_MO_readPart_J39 ((p_MO_here M ).1) (mo_f M 24 3) else fs_okp ((0 ≤ (Int32.toInt (M.1 22))) ∧ ((Int32.toInt (M.1 22)) ≤ 100) ∧ ((Int32.toInt (M.1 9)) ≤ 40) ∧ (0 ≤ (Int32.toInt (M.1 30))) ∧ ((Int32.toInt (M.1 30)) < 40)) (fs_let (p_MO_readSingle (mo_f M 24 3) ) (fun R509 => fs_okp (R509.1 = 0 ∨ R509.1 = 1) (some (R509.1, R509.2)))))) else fs_okp ((0 ≤ (Int32.toInt (M.1 22))) ∧ ((Int32.toInt (M.1 22)) ≤ 100) ∧ ((Int32.toInt (M.1 9)) ≤ 40) ∧ (0 ≤ (Int32.toInt (M.1 30))) ∧ ((Int32.toInt (M.1 30)) < 40)) (fs_let (p_MO_readNumeral (mo_f M 24 3) ) (fun R510 => fs_okp (R510.1 = 0 ∨ R510.1 = 1) (some (R510.1, R510.2))))))
set_option maxHeartbeats 4000000 in
set_option maxRecDepth 100000 in
theorem k_MO_readPart {l : Launch} {s00 : State} {G : fs_G} (hSt : fs_St l s00 G) {h : fs_Hp} {a : Nat} {ad : Nat → Nat} {M : mo_S} (hM : mo_at G h a ad M)  {r : Int32 × mo_S} (hq : q_MO_readPart M  = some r) : fs_Ct l s00 G y_MO_readPart (.code y_MO_readPart b_MO_readPart 3 (some .boolean)) { frames := 3, cells := 0, slots := 0, locals := 42 } [.ref a] h (fun o h' => o = .inl (some (.int r.1)) ∧ mo_at G h' a ad r.2 ∧ mo_fr a ad h h') := by
  refine fs_Ct.ofW hSt (by decide) ?_
  intro p e s m below meth c B hout hP
  obtain ⟨hx, hb, hr, hml, hown, hts, hlocks, hname, hK, hw, htr⟩ := id B
  have hown : s.vm.findClass "FormulaSheetModel" = some m.cls := hown
  have hS := hw.S
  have hA : ∀ q : Nat, s00.heap.size ≤ q → fs_A s00 q := fun _ h9 => h9
  generalize hH : s.heap = H at hP hS ⊢
  have hH0 : s.heap.size ≤ H.size := by rw [hH]; exact Nat.le_refl _
  have hJ39 : ∀ (z1 : Int32) (M1 : mo_S) (h1 : fs_Hp) (H : Heap) (locs : List Loc) (ls : Array Slot), q_MO_readPart_J39 z1 M1 = some r → fs_P G.1 fs_cl (fs_A s00) h1 H → va_S (fs_A s00) s00.heap H locs → mo_at G h1 a ad M1 → mo_fr a ad h h1 → lv_has ls 3 [(0, .ref a), (1, .int z1)] → W p l e { frames := 3, cells := 0, slots := 0, locals := 42 } s m ([.ref a] : List Value).toArray below meth c H locs 0 0 (fx_MQ below (fs_Qc s00 G (fun o h' => o = .inl (some (.int r.1)) ∧ mo_at G h' a ad r.2 ∧ mo_fr a ad h h')) ([.ref a] : List Value).toArray s 0 0 (fs_A s00)) (F0 m 39 ls ([])) := by
    intro z1 M1 h1 H locs ls hq hP hS hM hf hl
    rw [q_MO_readPart_J39] at hq
    refine lv_aload_n hx hb d_MO_readPart_39 rfl (lv_at hl 0 rfl) ?_
    refine fs_get (v := .int (M1.1 23)) hx hb hts hown hK c_MO hP hM.1 23 (by decide) (hts _ (fs_tb_at 1479 tw_1479 rfl)) (fun _ h9 => h9) rfl d_MO_readPart_40 ?_
    refine lv_bipush (v := 6) hx hb d_MO_readPart_43 (by decide) ?_
    refine lv_icmp_ne (tgt := 50) hx hb d_MO_readPart_45 (by decide) (fun c_495 => ?_) (fun c_495 => ?_)
    · have hq := fs_ifn c_495 hq
      refine lv_aload_n hx hb d_MO_readPart_50 rfl (lv_at hl 0 rfl) ?_
      refine lv_dup hx hb d_MO_readPart_51 rfl ?_
      refine fs_get (v := .int (M1.1 22)) hx hb hts hown hK c_MO hP hM.1 22 (by decide) (hts _ (fs_tb_at 1478 tw_1478 rfl)) (fun _ h9 => h9) rfl d_MO_readPart_52 ?_
      refine lv_iconst (v := 1) hx hb d_MO_readPart_55 (by decide) ?_
      refine lv_iadd hx hb d_MO_readPart_56 ?_
      refine fs_put hx hb hts hown hK c_MO hP hS hM.1 22 (by decide) (hts _ (fs_tb_at 1478 tw_1478 rfl)) (fun _ h9 => h9) rfl rfl rfl (Nat.le_of_ble_eq_true rfl) d_MO_readPart_57 (fun H locs hP hS => ?_)
      obtain ⟨h496, hP, hM, hf⟩ : ∃ x, fs_P G.1 fs_cl (fs_A s00) x H ∧ mo_at G x a ad (mo_f M1 22 ((M1.1 22) + 1)) ∧ mo_fr a ad h x := ⟨_, hP, hM.F (mo_F22 ad M1 ((M1.1 22) + 1)), hf.self⟩
      refine lv_iload_n hx hb d_MO_readPart_60 rfl (lv_at hl 1 rfl) ?_
      refine lv_bipush (v := 40) hx hb d_MO_readPart_61 (by decide) ?_
      refine lv_icmp_ne (tgt := 72) hx hb d_MO_readPart_63 (by decide) (fun c_497 => ?_) (fun c_497 => ?_)
      · have hq := fs_ifn c_497 hq
        refine lv_aload_n hx hb d_MO_readPart_72 rfl (lv_at hl 0 rfl) ?_
        obtain ⟨⟨b0_, b1_, b2_⟩, hq⟩ := fs_okp_some hq
        obtain ⟨R498, eR498, hq⟩ := fs_let_some hq
        refine fs_cV B hl.1 hP hS (k_MO_readName hSt hM  b0_ b1_ b2_) (fs_tb_at 1645 tw_1645 rfl) hM.1 rfl (fs_tb_at 1647 tw_1647 rfl) (fs_tb_at 54 tw_54 rfl) (fs_tb_at 96 tw_96 rfl) (fs_tb_at 1648 tw_1648 rfl) (by decide) (show (parseMethodDescriptor y_MO_readName.desc).map (fun d => d.parameters.length) = some 0 by decide +kernel) rfl d_MO_readPart_73 ⟨Nat.le_of_ble_eq_true rfl, Nat.le_of_ble_eq_true rfl, Nat.le_of_ble_eq_true rfl, Nat.le_of_ble_eq_true rfl⟩ (fun v_ h_ H locs hc_ hP hS => ?_) (fun C_ a_ h_ H locs hc_ => absurd hc_.1 (fun h9 => by cases h9))
        obtain ⟨ev, hM, hf2⟩ := hc_
        cases ev
        have hf := hf.trans hf2
        rw [← eR498] at hM
        refine W.widen (k := 0) (n := 0) (Nat.le_of_ble_eq_true rfl) (Nat.le_of_ble_eq_true rfl) ?_
        refine W.eq (g2 := F0 m 76 ls (.int R498.1 :: [])) (by rw [eR498]; rfl) ?_
        refine lv_istore_n (lv' := [(2, .int R498.1), (0, .ref a), (1, .int z1)]) hx hb d_MO_readPart_76 rfl hl (by decide) rfl (fun ls hl => ?_)
        refine lv_iload_n hx hb d_MO_readPart_77 rfl (lv_at hl 0 rfl) ?_
        refine lv_bipush (v := 7) hx hb d_MO_readPart_78 (by decide) ?_
        refine lv_icmp_lt (tgt := 91) hx hb d_MO_readPart_80 (by decide) (fun c_499 => ?_) (fun c_499 => ?_)
        · have hq := fs_ifp c_499 hq
          refine lv_iload_n hx hb d_MO_readPart_91 rfl (lv_at hl 0 rfl) ?_
          refine lv_if_lt (tgt := 107) hx hb d_MO_readPart_92 (by decide) (fun c_500 => ?_) (fun c_500 => ?_)
          · have hq := fs_ifp c_500 hq
            refine lv_iconst (v := 0) hx hb d_MO_readPart_107 (by decide) ?_
            cases hq
            exact fs_iret hx hb hr hlocks hw hP hS rfl (by omega) (by omega) (⟨rfl, hM, hf⟩) d_MO_readPart_108
          · have hq := fs_ifn c_500 hq
            refine lv_aload_n hx hb d_MO_readPart_95 rfl (lv_at hl 1 rfl) ?_
            refine lv_iload_n hx hb d_MO_readPart_96 rfl (lv_at hl 0 rfl) ?_
            obtain ⟨⟨b0_, b1_, b2_, b3_, b4_⟩, hq⟩ := fs_okp_some hq
            obtain ⟨R501, eR501, hq⟩ := fs_let_some hq
            refine fs_cV B hl.1 hP hS (k_MO_readRange hSt hM R498.1 b0_ b1_ b2_ b3_ b4_) (fs_tb_at 1653 tw_1653 rfl) hM.1 rfl (fs_tb_at 1655 tw_1655 rfl) (fs_tb_at 56 tw_56 rfl) (fs_tb_at 96 tw_96 rfl) (fs_tb_at 1656 tw_1656 rfl) (by decide) (show (parseMethodDescriptor y_MO_readRange.desc).map (fun d => d.parameters.length) = some 1 by decide +kernel) rfl d_MO_readPart_97 ⟨Nat.le_of_ble_eq_true rfl, Nat.le_of_ble_eq_true rfl, Nat.le_of_ble_eq_true rfl, Nat.le_of_ble_eq_true rfl⟩ (fun v_ h_ H locs hc_ hP hS => ?_) (fun C_ a_ h_ H locs hc_ => absurd hc_.1 (fun h9 => by cases h9))
            obtain ⟨ev, hM, hf2⟩ := hc_
            cases ev
            have hf := hf.trans hf2
            rw [← eR501] at hM
            refine W.widen (k := 0) (n := 0) (Nat.le_of_ble_eq_true rfl) (Nat.le_of_ble_eq_true rfl) ?_
            refine W.eq (g2 := F0 m 100 ls (.int R501.1 :: [])) (by rw [eR501]; rfl) ?_
            refine lv_if_eq (tgt := 107) hx hb d_MO_readPart_100 (by decide) (fun c_502 => ?_) (fun c_502 => ?_)
            · have hq := fs_ifp c_502 hq
              refine lv_iconst (v := 0) hx hb d_MO_readPart_107 (by decide) ?_
              cases hq
              exact fs_iret hx hb hr hlocks hw hP hS rfl (by omega) (by omega) (⟨rfl, hM, hf⟩) d_MO_readPart_108
            · have hq := fs_ifn c_502 hq
              refine lv_iconst (v := 1) hx hb d_MO_readPart_103 (by decide) ?_
              refine lv_goto (tgt := 108) hx hb d_MO_readPart_104 (by decide) ?_
              cases hq
              exact fs_iret hx hb hr hlocks hw hP hS rfl (by omega) (by omega) (⟨rfl, hM, hf⟩) d_MO_readPart_108
        · have hq := fs_ifn c_499 hq
          refine lv_aload_n hx hb d_MO_readPart_83 rfl (lv_at hl 1 rfl) ?_
          refine lv_iload_n hx hb d_MO_readPart_84 rfl (lv_at hl 0 rfl) ?_
          obtain ⟨⟨b0_, b1_, b2_, b3_⟩, hq⟩ := fs_okp_some hq
          obtain ⟨R503, eR503, hq⟩ := fs_let_some hq
          refine fs_cV B hl.1 hP hS (k_MO_openOne hSt hM R498.1 b0_ b1_ b2_ b3_) (fs_tb_at 1641 tw_1641 rfl) hM.1 rfl (fs_tb_at 1643 tw_1643 rfl) (fs_tb_at 53 tw_53 rfl) (fs_tb_at 96 tw_96 rfl) (fs_tb_at 1644 tw_1644 rfl) (by decide) (show (parseMethodDescriptor y_MO_openOne.desc).map (fun d => d.parameters.length) = some 1 by decide +kernel) rfl d_MO_readPart_85 ⟨Nat.le_of_ble_eq_true rfl, Nat.le_of_ble_eq_true rfl, Nat.le_of_ble_eq_true rfl, Nat.le_of_ble_eq_true rfl⟩ (fun v_ h_ H locs hc_ hP hS => ?_) (fun C_ a_ h_ H locs hc_ => absurd hc_.1 (fun h9 => by cases h9))
          obtain ⟨ev, hM, hf2⟩ := hc_
          cases ev
          have hf := hf.trans hf2
          rw [← eR503] at hM
          refine W.widen (k := 0) (n := 0) (Nat.le_of_ble_eq_true rfl) (Nat.le_of_ble_eq_true rfl) ?_
          refine W.eq (g2 := F0 m 88 ls (.int R503.1 :: [])) (by rw [eR503]; rfl) ?_
          refine lv_goto (tgt := 108) hx hb d_MO_readPart_88 (by decide) ?_
          obtain ⟨hz_, hq⟩ := fs_okp_some hq
          cases hq
          exact fs_iret hx hb hr hlocks hw hP hS (fs_nbo hz_) (by omega) (by omega) (⟨rfl, hM, hf⟩) d_MO_readPart_108
      · have hq := fs_ifp c_497 hq
        refine lv_aload_n hx hb d_MO_readPart_66 rfl (lv_at hl 0 rfl) ?_
        refine lv_iconst (v := 1) hx hb d_MO_readPart_67 (by decide) ?_
        obtain ⟨⟨b0_, b1_, b2_, b3_⟩, hq⟩ := fs_okp_some hq
        obtain ⟨R504, eR504, hq⟩ := fs_let_some hq
        refine fs_cV B hl.1 hP hS (k_MO_openOne hSt hM 1 b0_ b1_ b2_ b3_) (fs_tb_at 1641 tw_1641 rfl) hM.1 rfl (fs_tb_at 1643 tw_1643 rfl) (fs_tb_at 53 tw_53 rfl) (fs_tb_at 96 tw_96 rfl) (fs_tb_at 1644 tw_1644 rfl) (by decide) (show (parseMethodDescriptor y_MO_openOne.desc).map (fun d => d.parameters.length) = some 1 by decide +kernel) rfl d_MO_readPart_68 ⟨Nat.le_of_ble_eq_true rfl, Nat.le_of_ble_eq_true rfl, Nat.le_of_ble_eq_true rfl, Nat.le_of_ble_eq_true rfl⟩ (fun v_ h_ H locs hc_ hP hS => ?_) (fun C_ a_ h_ H locs hc_ => absurd hc_.1 (fun h9 => by cases h9))
        obtain ⟨ev, hM, hf2⟩ := hc_
        cases ev
        have hf := hf.trans hf2
        rw [← eR504] at hM
        refine W.widen (k := 0) (n := 0) (Nat.le_of_ble_eq_true rfl) (Nat.le_of_ble_eq_true rfl) ?_
        refine W.eq (g2 := F0 m 71 ls (.int R504.1 :: [])) (by rw [eR504]; rfl) ?_
        obtain ⟨hz_, hq⟩ := fs_okp_some hq
        cases hq
        exact fs_iret hx hb hr hlocks hw hP hS (fs_nbo hz_) (by omega) (by omega) (⟨rfl, hM, hf⟩) d_MO_readPart_71
    · have hq := fs_ifp c_495 hq
      refine lv_iconst (v := 0) hx hb d_MO_readPart_48 (by decide) ?_
      cases hq
      exact fs_iret hx hb hr hlocks hw hP hS rfl (by omega) (by omega) (⟨rfl, hM, hf⟩) d_MO_readPart_49
  have hl := lv_entry ([.ref a]) (n := 3) (Nat.le_of_ble_eq_true rfl)
  rw [lg_entry_eq]
  generalize (lg_sl ([.ref a]) ++ List.replicate (3 - (lg_sl ([.ref a])).length) Slot.unset).toArray = ls at hl ⊢
  have hl : lv_has ls 3 [(0, .ref a)] := hl
  have hf : mo_fr a ad h h := mo_fr.rf
  rw [q_MO_readPart] at hq
  refine lv_aload_n hx hb d_MO_readPart_0 rfl (lv_at hl 0 rfl) ?_
  obtain ⟨⟨b0_, b1_⟩, hq⟩ := fs_okp_some hq
  refine fs_cV B hl.1 hP hS (k_MO_here hSt hM  b0_ b1_) (fs_tb_at 1597 tw_1597 rfl) hM.1 rfl (fs_tb_at 1599 tw_1599 rfl) (fs_tb_at 44 tw_44 rfl) (fs_tb_at 96 tw_96 rfl) (fs_tb_at 1600 tw_1600 rfl) (by decide) (show (parseMethodDescriptor y_MO_here.desc).map (fun d => d.parameters.length) = some 0 by decide +kernel) rfl d_MO_readPart_1 ⟨Nat.le_of_ble_eq_true rfl, Nat.le_of_ble_eq_true rfl, Nat.le_of_ble_eq_true rfl, Nat.le_of_ble_eq_true rfl⟩ (fun v_ h_ H locs hc_ hP hS => ?_) (fun C_ a_ h_ H locs hc_ => absurd hc_.1 (fun h9 => by cases h9))
  obtain ⟨ev, hM, hf2⟩ := hc_
  cases ev
  have hf := hf.trans hf2
  rw [ke_MO_here] at hM
  refine W.widen (k := 0) (n := 0) (Nat.le_of_ble_eq_true rfl) (Nat.le_of_ble_eq_true rfl) ?_
  refine W.eq (g2 := F0 m 4 ls (.int ((p_MO_here M ).1) :: [])) rfl ?_
  refine lv_istore_n (lv' := [(1, .int ((p_MO_here M ).1)), (0, .ref a)]) hx hb d_MO_readPart_4 rfl hl (by decide) rfl (fun ls hl => ?_)
  refine lv_aload_n hx hb d_MO_readPart_5 rfl (lv_at hl 1 rfl) ?_
  refine lv_iconst (v := 3) hx hb d_MO_readPart_6 (by decide) ?_
  refine fs_put hx hb hts hown hK c_MO hP hS hM.1 24 (by decide) (hts _ (fs_tb_at 1480 tw_1480 rfl)) (fun _ h9 => h9) rfl rfl rfl (Nat.le_of_ble_eq_true rfl) d_MO_readPart_7 (fun H locs hP hS => ?_)
  obtain ⟨h505, hP, hM, hf⟩ : ∃ x, fs_P G.1 fs_cl (fs_A s00) x H ∧ mo_at G x a ad (mo_f M 24 3) ∧ mo_fr a ad h x := ⟨_, hP, hM.F (mo_F24 ad M 3), hf.self⟩
  refine lv_iload_n hx hb d_MO_readPart_10 rfl (lv_at hl 0 rfl) ?_
  refine fs_cS B hl.1 hP hS (k_MO_digit hSt ((p_MO_here M ).1)) (fs_tb_at 1624 tw_1624 rfl) (fs_tb_at 1625 tw_1625 rfl) (fs_tb_at 96 tw_96 rfl) (fs_tb_at 1626 tw_1626 rfl) (by decide) (show (parseMethodDescriptor y_MO_digit.desc).map (fun d => d.parameters.length) = some 1 by decide +kernel) rfl d_MO_readPart_11 ⟨Nat.le_of_ble_eq_true rfl, Nat.le_of_ble_eq_true rfl, Nat.le_of_ble_eq_true rfl, Nat.le_of_ble_eq_true rfl⟩ (fun v_ h_ H locs hc_ hP hS => ?_) (fun C_ a_ h_ H locs hc_ => absurd hc_.1 (fun h9 => by cases h9))
  obtain ⟨ev, eh⟩ := hc_
  cases ev
  rw [eh] at hP
  refine W.widen (k := 0) (n := 0) (Nat.le_of_ble_eq_true rfl) (Nat.le_of_ble_eq_true rfl) ?_
  refine W.eq (g2 := F0 m 14 ls (.int (p_MO_digit ((p_MO_here M ).1)) :: [])) rfl ?_
  refine lv_if_eq (tgt := 22) hx hb d_MO_readPart_14 (by decide) (fun c_506 => ?_) (fun c_506 => ?_)
  · have hq := fs_ifp c_506 hq
    refine lv_iload_n hx hb d_MO_readPart_22 rfl (lv_at hl 0 rfl) ?_
    refine lv_bipush (v := 40) hx hb d_MO_readPart_23 (by decide) ?_
    refine lv_icmp_eq (tgt := 39) hx hb d_MO_readPart_25 (by decide) (fun c_507 => ?_) (fun c_507 => ?_)
    · have hq := fs_ifp c_507 hq
      exact hJ39 ((p_MO_here M ).1) (mo_f M 24 3) _ _ _ _ hq hP hS hM hf (lv_sub hl [1, 0] rfl)
    · have hq := fs_ifn c_507 hq
      refine lv_iload_n hx hb d_MO_readPart_28 rfl (lv_at hl 0 rfl) ?_
      refine lv_bipush (v := 64) hx hb d_MO_readPart_29 (by decide) ?_
      refine lv_icmp_eq (tgt := 39) hx hb d_MO_readPart_31 (by decide) (fun c_508 => ?_) (fun c_508 => ?_)
      · have hq := fs_ifp c_508 hq
        exact hJ39 ((p_MO_here M ).1) (mo_f M 24 3) _ _ _ _ hq hP hS hM hf (lv_sub hl [1, 0] rfl)
      · have hq := fs_ifn c_508 hq
        refine lv_aload_n hx hb d_MO_readPart_34 rfl (lv_at hl 1 rfl) ?_
        obtain ⟨⟨b0_, b1_, b2_, b3_, b4_⟩, hq⟩ := fs_okp_some hq
        obtain ⟨R509, eR509, hq⟩ := fs_let_some hq
        refine fs_cV B hl.1 hP hS (k_MO_readSingle hSt hM  b0_ b1_ b2_ b3_ b4_) (fs_tb_at 1633 tw_1633 rfl) hM.1 rfl (fs_tb_at 1635 tw_1635 rfl) (fs_tb_at 51 tw_51 rfl) (fs_tb_at 96 tw_96 rfl) (fs_tb_at 1636 tw_1636 rfl) (by decide) (show (parseMethodDescriptor y_MO_readSingle.desc).map (fun d => d.parameters.length) = some 0 by decide +kernel) rfl d_MO_readPart_35 ⟨Nat.le_of_ble_eq_true rfl, Nat.le_of_ble_eq_true rfl, Nat.le_of_ble_eq_true rfl, Nat.le_of_ble_eq_true rfl⟩ (fun v_ h_ H locs hc_ hP hS => ?_) (fun C_ a_ h_ H locs hc_ => absurd hc_.1 (fun h9 => by cases h9))
        obtain ⟨ev, hM, hf2⟩ := hc_
        cases ev
        have hf := hf.trans hf2
        rw [← eR509] at hM
        refine W.widen (k := 0) (n := 0) (Nat.le_of_ble_eq_true rfl) (Nat.le_of_ble_eq_true rfl) ?_
        refine W.eq (g2 := F0 m 38 ls (.int R509.1 :: [])) (by rw [eR509]; rfl) ?_
        obtain ⟨hz_, hq⟩ := fs_okp_some hq
        cases hq
        exact fs_iret hx hb hr hlocks hw hP hS (fs_nbo hz_) (by omega) (by omega) (⟨rfl, hM, hf⟩) d_MO_readPart_38
  · have hq := fs_ifn c_506 hq
    refine lv_aload_n hx hb d_MO_readPart_17 rfl (lv_at hl 1 rfl) ?_
    obtain ⟨⟨b0_, b1_, b2_, b3_, b4_⟩, hq⟩ := fs_okp_some hq
    obtain ⟨R510, eR510, hq⟩ := fs_let_some hq
    refine fs_cV B hl.1 hP hS (k_MO_readNumeral hSt hM  b0_ b1_ b2_ b3_ b4_) (fs_tb_at 1627 tw_1627 rfl) hM.1 rfl (fs_tb_at 1629 tw_1629 rfl) (fs_tb_at 50 tw_50 rfl) (fs_tb_at 96 tw_96 rfl) (fs_tb_at 1630 tw_1630 rfl) (by decide) (show (parseMethodDescriptor y_MO_readNumeral.desc).map (fun d => d.parameters.length) = some 0 by decide +kernel) rfl d_MO_readPart_18 ⟨Nat.le_of_ble_eq_true rfl, Nat.le_of_ble_eq_true rfl, Nat.le_of_ble_eq_true rfl, Nat.le_of_ble_eq_true rfl⟩ (fun v_ h_ H locs hc_ hP hS => ?_) (fun C_ a_ h_ H locs hc_ => absurd hc_.1 (fun h9 => by cases h9))
    obtain ⟨ev, hM, hf2⟩ := hc_
    cases ev
    have hf := hf.trans hf2
    rw [← eR510] at hM
    refine W.widen (k := 0) (n := 0) (Nat.le_of_ble_eq_true rfl) (Nat.le_of_ble_eq_true rfl) ?_
    refine W.eq (g2 := F0 m 21 ls (.int R510.1 :: [])) (by rw [eR510]; rfl) ?_
    obtain ⟨hz_, hq⟩ := fs_okp_some hq
    cases hq
    exact fs_iret hx hb hr hlocks hw hP hS (fs_nbo hz_) (by omega) (by omega) (⟨rfl, hM, hf⟩) d_MO_readPart_21
noncomputable def q_MO_readEnd_J77 (z1 : Int32) (M1 : mo_S) : Option (Int32 × mo_S) := fs_okp ((0 ≤ (Int32.toInt (M1.1 30))) ∧ (0 ≤ (Int32.toInt (M1.1 29))) ∧ ((Int32.toInt (M1.1 30)) + (Int32.toInt (M1.1 29)) ≤ 40)) (fs_let (p_MO_settle M1 1) (fun R543 => fs_okp (vp_in (R543.1 23) 8) (fs_okp (vp_in (R543.1 23) 8) (fs_okp (vp_in (R543.1 23) 8) ((if z1 = 0 then some (1, (mo_f (mo_i (mo_i R543 26 (Int32.toNatClampNeg (R543.1 23)) ((R543.2.1 26 (Int32.toNatClampNeg (R543.1 23))) + 1)) 27 (Int32.toNatClampNeg (R543.1 23)) (vp_nar .boolean 0)) 24 0)) else fs_okp (vp_in ((R543.1 29) - 1) 44) ((if (R543.2.1 28 (Int32.toNatClampNeg ((R543.1 29) - 1))) ≤ 101 then some (1, (mo_f (mo_f (mo_i (mo_i R543 26 (Int32.toNatClampNeg (R543.1 23)) ((R543.2.1 26 (Int32.toNatClampNeg (R543.1 23))) + 1)) 27 (Int32.toNatClampNeg (R543.1 23)) (vp_nar .boolean 0)) 23 ((R543.1 23) - 1)) 29 ((R543.1 29) - 1))) else fs_okp (vp_in ((R543.1 29) - 1) 44) (fs_okp ((0 ≤ (Int32.toInt (R543.1 30))) ∧ ((Int32.toInt (R543.1 30)) < 40)) (fs_let (p_MO_add (mo_f (mo_f (mo_i (mo_i R543 26 (Int32.toNatClampNeg (R543.1 23)) ((R543.2.1 26 (Int32.toNatClampNeg (R543.1 23))) + 1)) 27 (Int32.toNatClampNeg (R543.1 23)) (vp_nar .boolean 0)) 23 ((R543.1 23) - 1)) 29 ((R543.1 29) - 1)) ((R543.2.1 28 (Int32.toNatClampNeg ((R543.1 29) - 1))) - 100)) (fun R550 => some (1, R550))))))))))))
noncomputable def q_MO_readEnd_J26 (z1 : Int32) (w0 : Int32) (M1 : mo_S) : Option (Int32 × mo_S) := (if z1 = 0 then (if w0 = 0 then some (0, M1) else fs_okp (vp_in (M1.1 23) 8) ((if (M1.2.1 26 (Int32.toNatClampNeg (M1.1 23))) = 2 then some (0, M1) else q_MO_readEnd_J77 z1 M1))) else (if (M1.1 23) = 0 then some (0, M1) else (if w0 = 0 then q_MO_readEnd_J77 z1 M1 else fs_okp (vp_in (M1.1 23) 8) ((if 2 ≤ (M1.2.1 26 (Int32.toNatClampNeg (M1.1 23))) then q_MO_readEnd_J77 z1 M1 else some (0, M1))))))
noncomputable def q_MO_readEnd_J25 (z1 : Int32) (M1 : mo_S) : Option (Int32 × mo_S) := q_MO_readEnd_J26 z1 0 M1
noncomputable def q_MO_readEnd (M : mo_S) (x1 : Int32) : Option (Int32 × mo_S) := (if (M.1 23) ≤ 0 then q_MO_readEnd_J25 x1 M else fs_okp (vp_in (M.1 23) 8) ((if (M.2.1 25 (Int32.toNatClampNeg (M.1 23))) = 9 then q_MO_readEnd_J26 x1 1 M else q_MO_readEnd_J25 x1 M)))
set_option maxHeartbeats 4000000 in
set_option maxRecDepth 100000 in
theorem k_MO_readEnd {l : Launch} {s00 : State} {G : fs_G} (hSt : fs_St l s00 G) {h : fs_Hp} {a : Nat} {ad : Nat → Nat} {M : mo_S} (hM : mo_at G h a ad M) (x1 : Int32) {r : Int32 × mo_S} (hq : q_MO_readEnd M x1 = some r) : fs_Ct l s00 G y_MO_readEnd (.code y_MO_readEnd b_MO_readEnd 3 (some .boolean)) { frames := 2, cells := 0, slots := 0, locals := 26 } [.ref a, .int x1] h (fun o h' => o = .inl (some (.int r.1)) ∧ mo_at G h' a ad r.2 ∧ mo_fr a ad h h') := by
  refine fs_Ct.ofW hSt (by decide) ?_
  intro p e s m below meth c B hout hP
  obtain ⟨hx, hb, hr, hml, hown, hts, hlocks, hname, hK, hw, htr⟩ := id B
  have hown : s.vm.findClass "FormulaSheetModel" = some m.cls := hown
  have hS := hw.S
  have hA : ∀ q : Nat, s00.heap.size ≤ q → fs_A s00 q := fun _ h9 => h9
  generalize hH : s.heap = H at hP hS ⊢
  have hH0 : s.heap.size ≤ H.size := by rw [hH]; exact Nat.le_refl _
  have hJ77 : ∀ (z1 : Int32) (M1 : mo_S) (h1 : fs_Hp) (H : Heap) (locs : List Loc) (ls : Array Slot), q_MO_readEnd_J77 z1 M1 = some r → fs_P G.1 fs_cl (fs_A s00) h1 H → va_S (fs_A s00) s00.heap H locs → mo_at G h1 a ad M1 → mo_fr a ad h h1 → lv_has ls 3 [(0, .ref a), (1, .int z1)] → W p l e { frames := 2, cells := 0, slots := 0, locals := 26 } s m ([.ref a, .int x1] : List Value).toArray below meth c H locs 0 0 (fx_MQ below (fs_Qc s00 G (fun o h' => o = .inl (some (.int r.1)) ∧ mo_at G h' a ad r.2 ∧ mo_fr a ad h h')) ([.ref a, .int x1] : List Value).toArray s 0 0 (fs_A s00)) (F0 m 77 ls ([])) := by
    intro z1 M1 h1 H locs ls hq hP hS hM hf hl
    rw [q_MO_readEnd_J77] at hq
    refine lv_aload_n hx hb d_MO_readEnd_77 rfl (lv_at hl 0 rfl) ?_
    refine lv_iconst (v := 1) hx hb d_MO_readEnd_78 (by decide) ?_
    obtain ⟨⟨b0_, b1_, b2_⟩, hq⟩ := fs_okp_some hq
    obtain ⟨R543, eR543, hq⟩ := fs_let_some hq
    refine fs_cV B hl.1 hP hS (k_MO_settle hSt hM 1 b0_ b1_ b2_) (fs_tb_at 1608 tw_1608 rfl) hM.1 rfl (fs_tb_at 1610 tw_1610 rfl) (fs_tb_at 46 tw_46 rfl) (fs_tb_at 96 tw_96 rfl) (fs_tb_at 1611 tw_1611 rfl) (by decide) (show (parseMethodDescriptor y_MO_settle.desc).map (fun d => d.parameters.length) = some 1 by decide +kernel) rfl d_MO_readEnd_79 ⟨Nat.le_of_ble_eq_true rfl, Nat.le_of_ble_eq_true rfl, Nat.le_of_ble_eq_true rfl, Nat.le_of_ble_eq_true rfl⟩ (fun v_ h_ H locs hc_ hP hS => ?_) (fun C_ a_ h_ H locs hc_ => absurd hc_.1 (fun h9 => by cases h9))
    obtain ⟨ev, hM, hf2⟩ := hc_
    cases ev
    have hf := hf.trans hf2
    rw [← eR543] at hM
    refine W.widen (k := 0) (n := 0) (Nat.le_of_ble_eq_true rfl) (Nat.le_of_ble_eq_true rfl) ?_
    refine W.eq (g2 := F0 m 82 ls ([])) rfl ?_
    refine lv_aload_n hx hb d_MO_readEnd_82 rfl (lv_at hl 0 rfl) ?_
    refine fs_get (v := .ref (ad 26)) hx hb hts hown hK c_MO hP hM.1 26 (by decide) (hts _ (fs_tb_at 1482 tw_1482 rfl)) (fun _ h9 => h9) rfl d_MO_readEnd_83 ?_
    refine lv_aload_n hx hb d_MO_readEnd_86 rfl (lv_at hl 0 rfl) ?_
    refine fs_get (v := .int (R543.1 23)) hx hb hts hown hK c_MO hP hM.1 23 (by decide) (hts _ (fs_tb_at 1479 tw_1479 rfl)) (fun _ h9 => h9) rfl d_MO_readEnd_87 ?_
    refine lv_dup2_11 hx hb d_MO_readEnd_90 rfl rfl ?_
    obtain ⟨hi_, hq⟩ := fs_okp_some hq
    refine fs_iald (f := R543.2.1 26) hx hb hK hP 0 (hM.2.1 26 0 8 rfl) rfl hi_ d_MO_readEnd_91 ?_
    refine lv_iconst (v := 1) hx hb d_MO_readEnd_92 (by decide) ?_
    refine lv_iadd hx hb d_MO_readEnd_93 ?_
    obtain ⟨hi_, hq⟩ := fs_okp_some hq
    refine fs_iast hx hb hK hP hS 0 (hM.2.1 26 0 8 rfl) rfl hi_ d_MO_readEnd_94 (fun H locs hP hS => ?_)
    obtain ⟨h544, hP, hM, hf⟩ : ∃ x, fs_P G.1 fs_cl (fs_A s00) x H ∧ mo_at G x a ad (mo_i R543 26 (Int32.toNatClampNeg (R543.1 23)) ((R543.2.1 26 (Int32.toNatClampNeg (R543.1 23))) + 1)) ∧ mo_fr a ad h x := ⟨_, hP, hM.I (j := 26) (k := (Int32.toNatClampNeg (R543.1 23))) (x := ((R543.2.1 26 (Int32.toNatClampNeg (R543.1 23))) + 1)) rfl (fun _ => rfl), hf.arr (j := 26) (by decide)⟩
    refine lv_aload_n hx hb d_MO_readEnd_95 rfl (lv_at hl 0 rfl) ?_
    refine fs_get (v := .ref (ad 27)) hx hb hts hown hK c_MO hP hM.1 27 (by decide) (hts _ (fs_tb_at 1483 tw_1483 rfl)) (fun _ h9 => h9) rfl d_MO_readEnd_96 ?_
    refine lv_aload_n hx hb d_MO_readEnd_99 rfl (lv_at hl 0 rfl) ?_
    refine fs_get (v := .int (R543.1 23)) hx hb hts hown hK c_MO hP hM.1 23 (by decide) (hts _ (fs_tb_at 1479 tw_1479 rfl)) (fun _ h9 => h9) rfl d_MO_readEnd_100 ?_
    refine lv_iconst (v := 0) hx hb d_MO_readEnd_103 (by decide) ?_
    obtain ⟨hi_, hq⟩ := fs_okp_some hq
    refine fs_zast hx hb hK hP hS 3 (hM.2.1 27 3 8 rfl) rfl hi_ d_MO_readEnd_104 (fun H locs hP hS => ?_)
    obtain ⟨h545, hP, hM, hf⟩ : ∃ x, fs_P G.1 fs_cl (fs_A s00) x H ∧ mo_at G x a ad (mo_i (mo_i R543 26 (Int32.toNatClampNeg (R543.1 23)) ((R543.2.1 26 (Int32.toNatClampNeg (R543.1 23))) + 1)) 27 (Int32.toNatClampNeg (R543.1 23)) (vp_nar .boolean 0)) ∧ mo_fr a ad h x := ⟨_, hP, hM.I (j := 27) (t := 3) (k := (Int32.toNatClampNeg (R543.1 23))) (x := (vp_nar .boolean 0)) rfl (fun _ => rfl), hf.arr (j := 27) (by decide)⟩
    refine lv_iload_n hx hb d_MO_readEnd_105 rfl (lv_at hl 1 rfl) ?_
    refine lv_if_ne (tgt := 116) hx hb d_MO_readEnd_106 (by decide) (fun c_546 => ?_) (fun c_546 => ?_)
    · have hq := fs_ifn c_546 hq
      refine lv_aload_n hx hb d_MO_readEnd_116 rfl (lv_at hl 0 rfl) ?_
      refine lv_dup hx hb d_MO_readEnd_117 rfl ?_
      refine fs_get (v := .int (R543.1 23)) hx hb hts hown hK c_MO hP hM.1 23 (by decide) (hts _ (fs_tb_at 1479 tw_1479 rfl)) (fun _ h9 => h9) rfl d_MO_readEnd_118 ?_
      refine lv_iconst (v := 1) hx hb d_MO_readEnd_121 (by decide) ?_
      refine lv_isub hx hb d_MO_readEnd_122 ?_
      refine fs_put hx hb hts hown hK c_MO hP hS hM.1 23 (by decide) (hts _ (fs_tb_at 1479 tw_1479 rfl)) (fun _ h9 => h9) rfl rfl rfl (Nat.le_of_ble_eq_true rfl) d_MO_readEnd_123 (fun H locs hP hS => ?_)
      obtain ⟨h547, hP, hM, hf⟩ : ∃ x, fs_P G.1 fs_cl (fs_A s00) x H ∧ mo_at G x a ad (mo_f (mo_i (mo_i R543 26 (Int32.toNatClampNeg (R543.1 23)) ((R543.2.1 26 (Int32.toNatClampNeg (R543.1 23))) + 1)) 27 (Int32.toNatClampNeg (R543.1 23)) (vp_nar .boolean 0)) 23 ((R543.1 23) - 1)) ∧ mo_fr a ad h x := ⟨_, hP, hM.F (mo_F23 ad (mo_i (mo_i R543 26 (Int32.toNatClampNeg (R543.1 23)) ((R543.2.1 26 (Int32.toNatClampNeg (R543.1 23))) + 1)) 27 (Int32.toNatClampNeg (R543.1 23)) (vp_nar .boolean 0)) ((R543.1 23) - 1)), hf.self⟩
      refine lv_aload_n hx hb d_MO_readEnd_126 rfl (lv_at hl 0 rfl) ?_
      refine lv_dup hx hb d_MO_readEnd_127 rfl ?_
      refine fs_get (v := .int (R543.1 29)) hx hb hts hown hK c_MO hP hM.1 29 (by decide) (hts _ (fs_tb_at 1485 tw_1485 rfl)) (fun _ h9 => h9) rfl d_MO_readEnd_128 ?_
      refine lv_iconst (v := 1) hx hb d_MO_readEnd_131 (by decide) ?_
      refine lv_isub hx hb d_MO_readEnd_132 ?_
      refine fs_put hx hb hts hown hK c_MO hP hS hM.1 29 (by decide) (hts _ (fs_tb_at 1485 tw_1485 rfl)) (fun _ h9 => h9) rfl rfl rfl (Nat.le_of_ble_eq_true rfl) d_MO_readEnd_133 (fun H locs hP hS => ?_)
      obtain ⟨h548, hP, hM, hf⟩ : ∃ x, fs_P G.1 fs_cl (fs_A s00) x H ∧ mo_at G x a ad (mo_f (mo_f (mo_i (mo_i R543 26 (Int32.toNatClampNeg (R543.1 23)) ((R543.2.1 26 (Int32.toNatClampNeg (R543.1 23))) + 1)) 27 (Int32.toNatClampNeg (R543.1 23)) (vp_nar .boolean 0)) 23 ((R543.1 23) - 1)) 29 ((R543.1 29) - 1)) ∧ mo_fr a ad h x := ⟨_, hP, hM.F (mo_F29 ad (mo_f (mo_i (mo_i R543 26 (Int32.toNatClampNeg (R543.1 23)) ((R543.2.1 26 (Int32.toNatClampNeg (R543.1 23))) + 1)) 27 (Int32.toNatClampNeg (R543.1 23)) (vp_nar .boolean 0)) 23 ((R543.1 23) - 1)) ((R543.1 29) - 1)), hf.self⟩
      refine lv_aload_n hx hb d_MO_readEnd_136 rfl (lv_at hl 0 rfl) ?_
      refine fs_get (v := .ref (ad 28)) hx hb hts hown hK c_MO hP hM.1 28 (by decide) (hts _ (fs_tb_at 1484 tw_1484 rfl)) (fun _ h9 => h9) rfl d_MO_readEnd_137 ?_
      refine lv_aload_n hx hb d_MO_readEnd_140 rfl (lv_at hl 0 rfl) ?_
      refine fs_get (v := .int ((R543.1 29) - 1)) hx hb hts hown hK c_MO hP hM.1 29 (by decide) (hts _ (fs_tb_at 1485 tw_1485 rfl)) (fun _ h9 => h9) rfl d_MO_readEnd_141 ?_
      obtain ⟨hi_, hq⟩ := fs_okp_some hq
      refine fs_iald (f := R543.2.1 28) hx hb hK hP 0 (hM.2.1 28 0 44 rfl) rfl hi_ d_MO_readEnd_144 ?_
      refine lv_bipush (v := 101) hx hb d_MO_readEnd_145 (by decide) ?_
      refine lv_icmp_le (tgt := 166) hx hb d_MO_readEnd_147 (by decide) (fun c_549 => ?_) (fun c_549 => ?_)
      · have hq := fs_ifp c_549 hq
        refine lv_iconst (v := 1) hx hb d_MO_readEnd_166 (by decide) ?_
        cases hq
        exact fs_iret hx hb hr hlocks hw hP hS rfl (by omega) (by omega) (⟨rfl, hM, hf⟩) d_MO_readEnd_167
      · have hq := fs_ifn c_549 hq
        refine lv_aload_n hx hb d_MO_readEnd_150 rfl (lv_at hl 0 rfl) ?_
        refine lv_aload_n hx hb d_MO_readEnd_151 rfl (lv_at hl 0 rfl) ?_
        refine fs_get (v := .ref (ad 28)) hx hb hts hown hK c_MO hP hM.1 28 (by decide) (hts _ (fs_tb_at 1484 tw_1484 rfl)) (fun _ h9 => h9) rfl d_MO_readEnd_152 ?_
        refine lv_aload_n hx hb d_MO_readEnd_155 rfl (lv_at hl 0 rfl) ?_
        refine fs_get (v := .int ((R543.1 29) - 1)) hx hb hts hown hK c_MO hP hM.1 29 (by decide) (hts _ (fs_tb_at 1485 tw_1485 rfl)) (fun _ h9 => h9) rfl d_MO_readEnd_156 ?_
        obtain ⟨hi_, hq⟩ := fs_okp_some hq
        refine fs_iald (f := R543.2.1 28) hx hb hK hP 0 (hM.2.1 28 0 44 rfl) rfl hi_ d_MO_readEnd_159 ?_
        refine lv_bipush (v := 100) hx hb d_MO_readEnd_160 (by decide) ?_
        refine lv_isub hx hb d_MO_readEnd_162 ?_
        obtain ⟨⟨b0_, b1_⟩, hq⟩ := fs_okp_some hq
        obtain ⟨R550, eR550, hq⟩ := fs_let_some hq
        refine fs_cV B hl.1 hP hS (k_MO_add hSt hM ((R543.2.1 28 (Int32.toNatClampNeg ((R543.1 29) - 1))) - 100) b0_ b1_) (fs_tb_at 1612 tw_1612 rfl) hM.1 rfl (fs_tb_at 1614 tw_1614 rfl) (fs_tb_at 47 tw_47 rfl) (fs_tb_at 96 tw_96 rfl) (fs_tb_at 1615 tw_1615 rfl) (by decide) (show (parseMethodDescriptor y_MO_add.desc).map (fun d => d.parameters.length) = some 1 by decide +kernel) rfl d_MO_readEnd_163 ⟨Nat.le_of_ble_eq_true rfl, Nat.le_of_ble_eq_true rfl, Nat.le_of_ble_eq_true rfl, Nat.le_of_ble_eq_true rfl⟩ (fun v_ h_ H locs hc_ hP hS => ?_) (fun C_ a_ h_ H locs hc_ => absurd hc_.1 (fun h9 => by cases h9))
        obtain ⟨ev, hM, hf2⟩ := hc_
        cases ev
        have hf := hf.trans hf2
        rw [← eR550] at hM
        refine W.widen (k := 0) (n := 0) (Nat.le_of_ble_eq_true rfl) (Nat.le_of_ble_eq_true rfl) ?_
        refine W.eq (g2 := F0 m 166 ls ([])) rfl ?_
        refine lv_iconst (v := 1) hx hb d_MO_readEnd_166 (by decide) ?_
        cases hq
        exact fs_iret hx hb hr hlocks hw hP hS rfl (by omega) (by omega) (⟨rfl, hM, hf⟩) d_MO_readEnd_167
    · have hq := fs_ifp c_546 hq
      refine lv_aload_n hx hb d_MO_readEnd_109 rfl (lv_at hl 0 rfl) ?_
      refine lv_iconst (v := 0) hx hb d_MO_readEnd_110 (by decide) ?_
      refine fs_put hx hb hts hown hK c_MO hP hS hM.1 24 (by decide) (hts _ (fs_tb_at 1480 tw_1480 rfl)) (fun _ h9 => h9) rfl rfl rfl (Nat.le_of_ble_eq_true rfl) d_MO_readEnd_111 (fun H locs hP hS => ?_)
      obtain ⟨h551, hP, hM, hf⟩ : ∃ x, fs_P G.1 fs_cl (fs_A s00) x H ∧ mo_at G x a ad (mo_f (mo_i (mo_i R543 26 (Int32.toNatClampNeg (R543.1 23)) ((R543.2.1 26 (Int32.toNatClampNeg (R543.1 23))) + 1)) 27 (Int32.toNatClampNeg (R543.1 23)) (vp_nar .boolean 0)) 24 0) ∧ mo_fr a ad h x := ⟨_, hP, hM.F (mo_F24 ad (mo_i (mo_i R543 26 (Int32.toNatClampNeg (R543.1 23)) ((R543.2.1 26 (Int32.toNatClampNeg (R543.1 23))) + 1)) 27 (Int32.toNatClampNeg (R543.1 23)) (vp_nar .boolean 0)) 0), hf.self⟩
      refine lv_iconst (v := 1) hx hb d_MO_readEnd_114 (by decide) ?_
      cases hq
      exact fs_iret hx hb hr hlocks hw hP hS rfl (by omega) (by omega) (⟨rfl, hM, hf⟩) d_MO_readEnd_115
  have hJ26 : ∀ (z1 : Int32) (w0 : Int32) (M1 : mo_S) (h1 : fs_Hp) (H : Heap) (locs : List Loc) (ls : Array Slot), q_MO_readEnd_J26 z1 w0 M1 = some r → fs_P G.1 fs_cl (fs_A s00) h1 H → va_S (fs_A s00) s00.heap H locs → mo_at G h1 a ad M1 → mo_fr a ad h h1 → lv_has ls 3 [(0, .ref a), (1, .int z1)] → W p l e { frames := 2, cells := 0, slots := 0, locals := 26 } s m ([.ref a, .int x1] : List Value).toArray below meth c H locs 0 0 (fx_MQ below (fs_Qc s00 G (fun o h' => o = .inl (some (.int r.1)) ∧ mo_at G h' a ad r.2 ∧ mo_fr a ad h h')) ([.ref a, .int x1] : List Value).toArray s 0 0 (fs_A s00)) (F0 m 26 ls (.int w0 :: [])) := by
    intro z1 w0 M1 h1 H locs ls hq hP hS hM hf hl
    rw [q_MO_readEnd_J26] at hq
    refine lv_istore_n (lv' := [(2, .int w0), (0, .ref a), (1, .int z1)]) hx hb d_MO_readEnd_26 rfl hl (by decide) rfl (fun ls hl => ?_)
    refine lv_iload_n hx hb d_MO_readEnd_27 rfl (lv_at hl 2 rfl) ?_
    refine lv_if_eq (tgt := 58) hx hb d_MO_readEnd_28 (by decide) (fun c_552 => ?_) (fun c_552 => ?_)
    · have hq := fs_ifp c_552 hq
      refine lv_iload_n hx hb d_MO_readEnd_58 rfl (lv_at hl 0 rfl) ?_
      refine lv_if_eq (tgt := 75) hx hb d_MO_readEnd_59 (by decide) (fun c_553 => ?_) (fun c_553 => ?_)
      · have hq := fs_ifp c_553 hq
        refine lv_iconst (v := 0) hx hb d_MO_readEnd_75 (by decide) ?_
        cases hq
        exact fs_iret hx hb hr hlocks hw hP hS rfl (by omega) (by omega) (⟨rfl, hM, hf⟩) d_MO_readEnd_76
      · have hq := fs_ifn c_553 hq
        refine lv_aload_n hx hb d_MO_readEnd_62 rfl (lv_at hl 1 rfl) ?_
        refine fs_get (v := .ref (ad 26)) hx hb hts hown hK c_MO hP hM.1 26 (by decide) (hts _ (fs_tb_at 1482 tw_1482 rfl)) (fun _ h9 => h9) rfl d_MO_readEnd_63 ?_
        refine lv_aload_n hx hb d_MO_readEnd_66 rfl (lv_at hl 1 rfl) ?_
        refine fs_get (v := .int (M1.1 23)) hx hb hts hown hK c_MO hP hM.1 23 (by decide) (hts _ (fs_tb_at 1479 tw_1479 rfl)) (fun _ h9 => h9) rfl d_MO_readEnd_67 ?_
        obtain ⟨hi_, hq⟩ := fs_okp_some hq
        refine fs_iald (f := M1.2.1 26) hx hb hK hP 0 (hM.2.1 26 0 8 rfl) rfl hi_ d_MO_readEnd_70 ?_
        refine lv_iconst (v := 2) hx hb d_MO_readEnd_71 (by decide) ?_
        refine lv_icmp_ne (tgt := 77) hx hb d_MO_readEnd_72 (by decide) (fun c_554 => ?_) (fun c_554 => ?_)
        · have hq := fs_ifn c_554 hq
          exact hJ77 z1 M1 _ _ _ _ hq hP hS hM hf (lv_sub hl [1, 2] rfl)
        · have hq := fs_ifp c_554 hq
          refine lv_iconst (v := 0) hx hb d_MO_readEnd_75 (by decide) ?_
          cases hq
          exact fs_iret hx hb hr hlocks hw hP hS rfl (by omega) (by omega) (⟨rfl, hM, hf⟩) d_MO_readEnd_76
    · have hq := fs_ifn c_552 hq
      refine lv_aload_n hx hb d_MO_readEnd_31 rfl (lv_at hl 1 rfl) ?_
      refine fs_get (v := .int (M1.1 23)) hx hb hts hown hK c_MO hP hM.1 23 (by decide) (hts _ (fs_tb_at 1479 tw_1479 rfl)) (fun _ h9 => h9) rfl d_MO_readEnd_32 ?_
      refine lv_if_eq (tgt := 75) hx hb d_MO_readEnd_35 (by decide) (fun c_555 => ?_) (fun c_555 => ?_)
      · have hq := fs_ifp c_555 hq
        refine lv_iconst (v := 0) hx hb d_MO_readEnd_75 (by decide) ?_
        cases hq
        exact fs_iret hx hb hr hlocks hw hP hS rfl (by omega) (by omega) (⟨rfl, hM, hf⟩) d_MO_readEnd_76
      · have hq := fs_ifn c_555 hq
        refine lv_iload_n hx hb d_MO_readEnd_38 rfl (lv_at hl 0 rfl) ?_
        refine lv_if_eq (tgt := 77) hx hb d_MO_readEnd_39 (by decide) (fun c_556 => ?_) (fun c_556 => ?_)
        · have hq := fs_ifp c_556 hq
          exact hJ77 z1 M1 _ _ _ _ hq hP hS hM hf (lv_sub hl [1, 2] rfl)
        · have hq := fs_ifn c_556 hq
          refine lv_aload_n hx hb d_MO_readEnd_42 rfl (lv_at hl 1 rfl) ?_
          refine fs_get (v := .ref (ad 26)) hx hb hts hown hK c_MO hP hM.1 26 (by decide) (hts _ (fs_tb_at 1482 tw_1482 rfl)) (fun _ h9 => h9) rfl d_MO_readEnd_43 ?_
          refine lv_aload_n hx hb d_MO_readEnd_46 rfl (lv_at hl 1 rfl) ?_
          refine fs_get (v := .int (M1.1 23)) hx hb hts hown hK c_MO hP hM.1 23 (by decide) (hts _ (fs_tb_at 1479 tw_1479 rfl)) (fun _ h9 => h9) rfl d_MO_readEnd_47 ?_
          obtain ⟨hi_, hq⟩ := fs_okp_some hq
          refine fs_iald (f := M1.2.1 26) hx hb hK hP 0 (hM.2.1 26 0 8 rfl) rfl hi_ d_MO_readEnd_50 ?_
          refine lv_iconst (v := 2) hx hb d_MO_readEnd_51 (by decide) ?_
          refine lv_icmp_ge (tgt := 77) hx hb d_MO_readEnd_52 (by decide) (fun c_557 => ?_) (fun c_557 => ?_)
          · have hq := fs_ifp c_557 hq
            exact hJ77 z1 M1 _ _ _ _ hq hP hS hM hf (lv_sub hl [1, 2] rfl)
          · have hq := fs_ifn c_557 hq
            refine lv_goto (tgt := 75) hx hb d_MO_readEnd_55 (by decide) ?_
            refine lv_iconst (v := 0) hx hb d_MO_readEnd_75 (by decide) ?_
            cases hq
            exact fs_iret hx hb hr hlocks hw hP hS rfl (by omega) (by omega) (⟨rfl, hM, hf⟩) d_MO_readEnd_76
  have hJ25 : ∀ (z1 : Int32) (M1 : mo_S) (h1 : fs_Hp) (H : Heap) (locs : List Loc) (ls : Array Slot), q_MO_readEnd_J25 z1 M1 = some r → fs_P G.1 fs_cl (fs_A s00) h1 H → va_S (fs_A s00) s00.heap H locs → mo_at G h1 a ad M1 → mo_fr a ad h h1 → lv_has ls 3 [(0, .ref a), (1, .int z1)] → W p l e { frames := 2, cells := 0, slots := 0, locals := 26 } s m ([.ref a, .int x1] : List Value).toArray below meth c H locs 0 0 (fx_MQ below (fs_Qc s00 G (fun o h' => o = .inl (some (.int r.1)) ∧ mo_at G h' a ad r.2 ∧ mo_fr a ad h h')) ([.ref a, .int x1] : List Value).toArray s 0 0 (fs_A s00)) (F0 m 25 ls ([])) := by
    intro z1 M1 h1 H locs ls hq hP hS hM hf hl
    rw [q_MO_readEnd_J25] at hq
    refine lv_iconst (v := 0) hx hb d_MO_readEnd_25 (by decide) ?_
    exact hJ26 z1 0 M1 _ _ _ _ hq hP hS hM hf (lv_sub hl [0, 1] rfl)
  have hl := lv_entry ([.ref a, .int x1]) (n := 3) (Nat.le_of_ble_eq_true rfl)
  rw [lg_entry_eq]
  generalize (lg_sl ([.ref a, .int x1]) ++ List.replicate (3 - (lg_sl ([.ref a, .int x1])).length) Slot.unset).toArray = ls at hl ⊢
  have hl : lv_has ls 3 [(0, .ref a), (1, .int x1)] := hl
  have hf : mo_fr a ad h h := mo_fr.rf
  rw [q_MO_readEnd] at hq
  refine lv_aload_n hx hb d_MO_readEnd_0 rfl (lv_at hl 0 rfl) ?_
  refine fs_get (v := .int (M.1 23)) hx hb hts hown hK c_MO hP hM.1 23 (by decide) (hts _ (fs_tb_at 1479 tw_1479 rfl)) (fun _ h9 => h9) rfl d_MO_readEnd_1 ?_
  refine lv_if_le (tgt := 25) hx hb d_MO_readEnd_4 (by decide) (fun c_558 => ?_) (fun c_558 => ?_)
  · have hq := fs_ifp c_558 hq
    exact hJ25 x1 M _ _ _ _ hq hP hS hM hf (lv_sub hl [0, 1] rfl)
  · have hq := fs_ifn c_558 hq
    refine lv_aload_n hx hb d_MO_readEnd_7 rfl (lv_at hl 0 rfl) ?_
    refine fs_get (v := .ref (ad 25)) hx hb hts hown hK c_MO hP hM.1 25 (by decide) (hts _ (fs_tb_at 1481 tw_1481 rfl)) (fun _ h9 => h9) rfl d_MO_readEnd_8 ?_
    refine lv_aload_n hx hb d_MO_readEnd_11 rfl (lv_at hl 0 rfl) ?_
    refine fs_get (v := .int (M.1 23)) hx hb hts hown hK c_MO hP hM.1 23 (by decide) (hts _ (fs_tb_at 1479 tw_1479 rfl)) (fun _ h9 => h9) rfl d_MO_readEnd_12 ?_
    obtain ⟨hi_, hq⟩ := fs_okp_some hq
    refine fs_iald (f := M.2.1 25) hx hb hK hP 0 (hM.2.1 25 0 8 rfl) rfl hi_ d_MO_readEnd_15 ?_
    refine lv_bipush (v := 9) hx hb d_MO_readEnd_16 (by decide) ?_
    refine lv_icmp_ne (tgt := 25) hx hb d_MO_readEnd_18 (by decide) (fun c_559 => ?_) (fun c_559 => ?_)
    · have hq := fs_ifn c_559 hq
      exact hJ25 x1 M _ _ _ _ hq hP hS hM hf (lv_sub hl [0, 1] rfl)
    · have hq := fs_ifp c_559 hq
      refine lv_iconst (v := 1) hx hb d_MO_readEnd_21 (by decide) ?_
      refine lv_goto (tgt := 26) hx hb d_MO_readEnd_22 (by decide) ?_
      exact hJ26 x1 1 M _ _ _ _ hq hP hS hM hf (lv_sub hl [0, 1] rfl)
noncomputable def q_MO_readOperator_J125  (M1 : mo_S) : Option (Int32 × mo_S) := some (1, (mo_f M1 22 ((M1.1 22) + 1)))
noncomputable def q_MO_readOperator_J122 (w0 : Int32) (M1 : mo_S) : Option (Int32 × mo_S) := q_MO_readOperator_J125  (mo_f M1 24 w0)
noncomputable def q_MO_readOperator_J101 (z1 : Int32) (z2 : Int32) (M1 : mo_S) : Option (Int32 × mo_S) := fs_okp ((0 ≤ (Int32.toInt (M1.1 30))) ∧ (0 ≤ (Int32.toInt (M1.1 29))) ∧ ((Int32.toInt (M1.1 30)) + (Int32.toInt (M1.1 29)) ≤ 40)) (fs_let (p_MO_settle M1 z2) (fun R591 => fs_okp ((0 ≤ (Int32.toInt (R591.1 29))) ∧ ((Int32.toInt (R591.1 29)) < 44)) (fs_let (p_MO_pushSign R591 z1) (fun R592 => (if z2 = 1 then q_MO_readOperator_J122 0 R592 else q_MO_readOperator_J122 1 R592)))))
noncomputable def q_MO_readOperator_J100 (z1 : Int32) (z2 : Int32) (w0 : Int32) (w1 : Int32) (M1 : mo_S) : Option (Int32 × mo_S) := fs_okp (vp_in w1 8) (q_MO_readOperator_J101 z1 z2 (mo_i M1 27 (Int32.toNatClampNeg w1) (vp_nar .boolean w0)))
noncomputable def q_MO_readOperator_J77 (z1 : Int32) (z2 : Int32) (M1 : mo_S) : Option (Int32 × mo_S) := (if 3 ≤ z2 then q_MO_readOperator_J101 z1 z2 M1 else (if z2 = 2 then q_MO_readOperator_J100 z1 z2 1 (M1.1 23) M1 else q_MO_readOperator_J100 z1 z2 0 (M1.1 23) M1))
noncomputable def q_MO_readOperator_J34 (w0 : Int32) (M1 : mo_S) : Option (Int32 × mo_S) := Option.bind (q_MO_readEnd M1 w0) (fun R597 => (if R597.1 = 0 then some (0, R597.2) else q_MO_readOperator_J125  R597.2))
noncomputable def q_MO_readOperator_J22 (z1 : Int32) (M1 : mo_S) : Option (Int32 × mo_S) := (if z1 = 41 then q_MO_readOperator_J34 1 M1 else q_MO_readOperator_J34 0 M1)
noncomputable def q_MO_readOperator (M : mo_S)  : Option (Int32 × mo_S) := fs_okp ((0 ≤ (Int32.toInt (M.1 22))) ∧ ((Int32.toInt (M.1 9)) ≤ 40)) ((if ((p_MO_here M ).1) = 41 then q_MO_readOperator_J22 ((p_MO_here M ).1) M else (if ((p_MO_here M ).1) = 44 then q_MO_readOperator_J22 ((p_MO_here M ).1) M else (if (p_MO_strength ((p_MO_here M ).1)) = 0 then some (0, M) else (if ((p_MO_here M ).1) = 10 then some (0, M) else (if ((p_MO_here M ).1) = 33 then some (0, M) else (if (p_MO_strength ((p_MO_here M ).1)) = 2 then fs_okp (vp_in (M.1 23) 8) ((if (M.2.1 27 (Int32.toNatClampNeg (M.1 23))) = 0 then q_MO_readOperator_J77 ((p_MO_here M ).1) (p_MO_strength ((p_MO_here M ).1)) M else some (0, M))) else q_MO_readOperator_J77 ((p_MO_here M ).1) (p_MO_strength ((p_MO_here M ).1)) M)))))))
set_option maxHeartbeats 4000000 in
set_option maxRecDepth 100000 in
theorem k_MO_readOperator {l : Launch} {s00 : State} {G : fs_G} (hSt : fs_St l s00 G) {h : fs_Hp} {a : Nat} {ad : Nat → Nat} {M : mo_S} (hM : mo_at G h a ad M)  {r : Int32 × mo_S} (hq : q_MO_readOperator M  = some r) : fs_Ct l s00 G y_MO_readOperator (.code y_MO_readOperator b_MO_readOperator 3 (some .boolean)) { frames := 3, cells := 0, slots := 0, locals := 40 } [.ref a] h (fun o h' => o = .inl (some (.int r.1)) ∧ mo_at G h' a ad r.2 ∧ mo_fr a ad h h') := by
  refine fs_Ct.ofW hSt (by decide) ?_
  intro p e s m below meth c B hout hP
  obtain ⟨hx, hb, hr, hml, hown, hts, hlocks, hname, hK, hw, htr⟩ := id B
  have hown : s.vm.findClass "FormulaSheetModel" = some m.cls := hown
  have hS := hw.S
  have hA : ∀ q : Nat, s00.heap.size ≤ q → fs_A s00 q := fun _ h9 => h9
  generalize hH : s.heap = H at hP hS ⊢
  have hH0 : s.heap.size ≤ H.size := by rw [hH]; exact Nat.le_refl _
  have hJ125 : ∀  (M1 : mo_S) (h1 : fs_Hp) (H : Heap) (locs : List Loc) (ls : Array Slot), q_MO_readOperator_J125  M1 = some r → fs_P G.1 fs_cl (fs_A s00) h1 H → va_S (fs_A s00) s00.heap H locs → mo_at G h1 a ad M1 → mo_fr a ad h h1 → lv_has ls 3 [(0, .ref a)] → W p l e { frames := 3, cells := 0, slots := 0, locals := 40 } s m ([.ref a] : List Value).toArray below meth c H locs 0 0 (fx_MQ below (fs_Qc s00 G (fun o h' => o = .inl (some (.int r.1)) ∧ mo_at G h' a ad r.2 ∧ mo_fr a ad h h')) ([.ref a] : List Value).toArray s 0 0 (fs_A s00)) (F0 m 125 ls ([])) := by
    intro  M1 h1 H locs ls hq hP hS hM hf hl
    rw [q_MO_readOperator_J125] at hq
    refine lv_aload_n hx hb d_MO_readOperator_125 rfl (lv_at hl 0 rfl) ?_
    refine lv_dup hx hb d_MO_readOperator_126 rfl ?_
    refine fs_get (v := .int (M1.1 22)) hx hb hts hown hK c_MO hP hM.1 22 (by decide) (hts _ (fs_tb_at 1478 tw_1478 rfl)) (fun _ h9 => h9) rfl d_MO_readOperator_127 ?_
    refine lv_iconst (v := 1) hx hb d_MO_readOperator_130 (by decide) ?_
    refine lv_iadd hx hb d_MO_readOperator_131 ?_
    refine fs_put hx hb hts hown hK c_MO hP hS hM.1 22 (by decide) (hts _ (fs_tb_at 1478 tw_1478 rfl)) (fun _ h9 => h9) rfl rfl rfl (Nat.le_of_ble_eq_true rfl) d_MO_readOperator_132 (fun H locs hP hS => ?_)
    obtain ⟨h589, hP, hM, hf⟩ : ∃ x, fs_P G.1 fs_cl (fs_A s00) x H ∧ mo_at G x a ad (mo_f M1 22 ((M1.1 22) + 1)) ∧ mo_fr a ad h x := ⟨_, hP, hM.F (mo_F22 ad M1 ((M1.1 22) + 1)), hf.self⟩
    refine lv_iconst (v := 1) hx hb d_MO_readOperator_135 (by decide) ?_
    cases hq
    exact fs_iret hx hb hr hlocks hw hP hS rfl (by omega) (by omega) (⟨rfl, hM, hf⟩) d_MO_readOperator_136
  have hJ122 : ∀ (w0 : Int32) (M1 : mo_S) (h1 : fs_Hp) (H : Heap) (locs : List Loc) (ls : Array Slot), q_MO_readOperator_J122 w0 M1 = some r → fs_P G.1 fs_cl (fs_A s00) h1 H → va_S (fs_A s00) s00.heap H locs → mo_at G h1 a ad M1 → mo_fr a ad h h1 → lv_has ls 3 [(0, .ref a)] → W p l e { frames := 3, cells := 0, slots := 0, locals := 40 } s m ([.ref a] : List Value).toArray below meth c H locs 0 0 (fx_MQ below (fs_Qc s00 G (fun o h' => o = .inl (some (.int r.1)) ∧ mo_at G h' a ad r.2 ∧ mo_fr a ad h h')) ([.ref a] : List Value).toArray s 0 0 (fs_A s00)) (F0 m 122 ls (.int w0 :: .ref a :: [])) := by
    intro w0 M1 h1 H locs ls hq hP hS hM hf hl
    rw [q_MO_readOperator_J122] at hq
    refine fs_put hx hb hts hown hK c_MO hP hS hM.1 24 (by decide) (hts _ (fs_tb_at 1480 tw_1480 rfl)) (fun _ h9 => h9) rfl rfl rfl (Nat.le_of_ble_eq_true rfl) d_MO_readOperator_122 (fun H locs hP hS => ?_)
    obtain ⟨h590, hP, hM, hf⟩ : ∃ x, fs_P G.1 fs_cl (fs_A s00) x H ∧ mo_at G x a ad (mo_f M1 24 w0) ∧ mo_fr a ad h x := ⟨_, hP, hM.F (mo_F24 ad M1 w0), hf.self⟩
    exact hJ125  (mo_f M1 24 w0) _ _ _ _ hq hP hS hM hf (lv_sub hl [0] rfl)
  have hJ101 : ∀ (z1 : Int32) (z2 : Int32) (M1 : mo_S) (h1 : fs_Hp) (H : Heap) (locs : List Loc) (ls : Array Slot), q_MO_readOperator_J101 z1 z2 M1 = some r → fs_P G.1 fs_cl (fs_A s00) h1 H → va_S (fs_A s00) s00.heap H locs → mo_at G h1 a ad M1 → mo_fr a ad h h1 → lv_has ls 3 [(0, .ref a), (1, .int z1), (2, .int z2)] → W p l e { frames := 3, cells := 0, slots := 0, locals := 40 } s m ([.ref a] : List Value).toArray below meth c H locs 0 0 (fx_MQ below (fs_Qc s00 G (fun o h' => o = .inl (some (.int r.1)) ∧ mo_at G h' a ad r.2 ∧ mo_fr a ad h h')) ([.ref a] : List Value).toArray s 0 0 (fs_A s00)) (F0 m 101 ls ([])) := by
    intro z1 z2 M1 h1 H locs ls hq hP hS hM hf hl
    rw [q_MO_readOperator_J101] at hq
    refine lv_aload_n hx hb d_MO_readOperator_101 rfl (lv_at hl 0 rfl) ?_
    refine lv_iload_n hx hb d_MO_readOperator_102 rfl (lv_at hl 2 rfl) ?_
    obtain ⟨⟨b0_, b1_, b2_⟩, hq⟩ := fs_okp_some hq
    obtain ⟨R591, eR591, hq⟩ := fs_let_some hq
    refine fs_cV B hl.1 hP hS (k_MO_settle hSt hM z2 b0_ b1_ b2_) (fs_tb_at 1608 tw_1608 rfl) hM.1 rfl (fs_tb_at 1610 tw_1610 rfl) (fs_tb_at 46 tw_46 rfl) (fs_tb_at 96 tw_96 rfl) (fs_tb_at 1611 tw_1611 rfl) (by decide) (show (parseMethodDescriptor y_MO_settle.desc).map (fun d => d.parameters.length) = some 1 by decide +kernel) rfl d_MO_readOperator_103 ⟨Nat.le_of_ble_eq_true rfl, Nat.le_of_ble_eq_true rfl, Nat.le_of_ble_eq_true rfl, Nat.le_of_ble_eq_true rfl⟩ (fun v_ h_ H locs hc_ hP hS => ?_) (fun C_ a_ h_ H locs hc_ => absurd hc_.1 (fun h9 => by cases h9))
    obtain ⟨ev, hM, hf2⟩ := hc_
    cases ev
    have hf := hf.trans hf2
    rw [← eR591] at hM
    refine W.widen (k := 0) (n := 0) (Nat.le_of_ble_eq_true rfl) (Nat.le_of_ble_eq_true rfl) ?_
    refine W.eq (g2 := F0 m 106 ls ([])) rfl ?_
    refine lv_aload_n hx hb d_MO_readOperator_106 rfl (lv_at hl 0 rfl) ?_
    refine lv_iload_n hx hb d_MO_readOperator_107 rfl (lv_at hl 1 rfl) ?_
    obtain ⟨⟨b0_, b1_⟩, hq⟩ := fs_okp_some hq
    obtain ⟨R592, eR592, hq⟩ := fs_let_some hq
    refine fs_cV B hl.1 hP hS (k_MO_pushSign hSt hM z1 b0_ b1_) (fs_tb_at 1616 tw_1616 rfl) hM.1 rfl (fs_tb_at 1618 tw_1618 rfl) (fs_tb_at 48 tw_48 rfl) (fs_tb_at 96 tw_96 rfl) (fs_tb_at 1619 tw_1619 rfl) (by decide) (show (parseMethodDescriptor y_MO_pushSign.desc).map (fun d => d.parameters.length) = some 1 by decide +kernel) rfl d_MO_readOperator_108 ⟨Nat.le_of_ble_eq_true rfl, Nat.le_of_ble_eq_true rfl, Nat.le_of_ble_eq_true rfl, Nat.le_of_ble_eq_true rfl⟩ (fun v_ h_ H locs hc_ hP hS => ?_) (fun C_ a_ h_ H locs hc_ => absurd hc_.1 (fun h9 => by cases h9))
    obtain ⟨ev, hM, hf2⟩ := hc_
    cases ev
    have hf := hf.trans hf2
    rw [← eR592] at hM
    refine W.widen (k := 0) (n := 0) (Nat.le_of_ble_eq_true rfl) (Nat.le_of_ble_eq_true rfl) ?_
    refine W.eq (g2 := F0 m 111 ls ([])) rfl ?_
    refine lv_aload_n hx hb d_MO_readOperator_111 rfl (lv_at hl 0 rfl) ?_
    refine lv_iload_n hx hb d_MO_readOperator_112 rfl (lv_at hl 2 rfl) ?_
    refine lv_iconst (v := 1) hx hb d_MO_readOperator_113 (by decide) ?_
    refine lv_icmp_ne (tgt := 121) hx hb d_MO_readOperator_114 (by decide) (fun c_593 => ?_) (fun c_593 => ?_)
    · have hq := fs_ifn c_593 hq
      refine lv_iconst (v := 1) hx hb d_MO_readOperator_121 (by decide) ?_
      exact hJ122 1 R592 _ _ _ _ hq hP hS hM hf (lv_sub hl [0] rfl)
    · have hq := fs_ifp c_593 hq
      refine lv_iconst (v := 0) hx hb d_MO_readOperator_117 (by decide) ?_
      refine lv_goto (tgt := 122) hx hb d_MO_readOperator_118 (by decide) ?_
      exact hJ122 0 R592 _ _ _ _ hq hP hS hM hf (lv_sub hl [0] rfl)
  have hJ100 : ∀ (z1 : Int32) (z2 : Int32) (w0 : Int32) (w1 : Int32) (M1 : mo_S) (h1 : fs_Hp) (H : Heap) (locs : List Loc) (ls : Array Slot), q_MO_readOperator_J100 z1 z2 w0 w1 M1 = some r → fs_P G.1 fs_cl (fs_A s00) h1 H → va_S (fs_A s00) s00.heap H locs → mo_at G h1 a ad M1 → mo_fr a ad h h1 → lv_has ls 3 [(0, .ref a), (1, .int z1), (2, .int z2)] → W p l e { frames := 3, cells := 0, slots := 0, locals := 40 } s m ([.ref a] : List Value).toArray below meth c H locs 0 0 (fx_MQ below (fs_Qc s00 G (fun o h' => o = .inl (some (.int r.1)) ∧ mo_at G h' a ad r.2 ∧ mo_fr a ad h h')) ([.ref a] : List Value).toArray s 0 0 (fs_A s00)) (F0 m 100 ls (.int w0 :: .int w1 :: .ref (ad 27) :: [])) := by
    intro z1 z2 w0 w1 M1 h1 H locs ls hq hP hS hM hf hl
    rw [q_MO_readOperator_J100] at hq
    obtain ⟨hi_, hq⟩ := fs_okp_some hq
    refine fs_zast hx hb hK hP hS 3 (hM.2.1 27 3 8 rfl) rfl hi_ d_MO_readOperator_100 (fun H locs hP hS => ?_)
    obtain ⟨h594, hP, hM, hf⟩ : ∃ x, fs_P G.1 fs_cl (fs_A s00) x H ∧ mo_at G x a ad (mo_i M1 27 (Int32.toNatClampNeg w1) (vp_nar .boolean w0)) ∧ mo_fr a ad h x := ⟨_, hP, hM.I (j := 27) (t := 3) (k := (Int32.toNatClampNeg w1)) (x := (vp_nar .boolean w0)) rfl (fun _ => rfl), hf.arr (j := 27) (by decide)⟩
    exact hJ101 z1 z2 (mo_i M1 27 (Int32.toNatClampNeg w1) (vp_nar .boolean w0)) _ _ _ _ hq hP hS hM hf (lv_sub hl [0, 1, 2] rfl)
  have hJ77 : ∀ (z1 : Int32) (z2 : Int32) (M1 : mo_S) (h1 : fs_Hp) (H : Heap) (locs : List Loc) (ls : Array Slot), q_MO_readOperator_J77 z1 z2 M1 = some r → fs_P G.1 fs_cl (fs_A s00) h1 H → va_S (fs_A s00) s00.heap H locs → mo_at G h1 a ad M1 → mo_fr a ad h h1 → lv_has ls 3 [(0, .ref a), (1, .int z1), (2, .int z2)] → W p l e { frames := 3, cells := 0, slots := 0, locals := 40 } s m ([.ref a] : List Value).toArray below meth c H locs 0 0 (fx_MQ below (fs_Qc s00 G (fun o h' => o = .inl (some (.int r.1)) ∧ mo_at G h' a ad r.2 ∧ mo_fr a ad h h')) ([.ref a] : List Value).toArray s 0 0 (fs_A s00)) (F0 m 77 ls ([])) := by
    intro z1 z2 M1 h1 H locs ls hq hP hS hM hf hl
    rw [q_MO_readOperator_J77] at hq
    refine lv_iload_n hx hb d_MO_readOperator_77 rfl (lv_at hl 2 rfl) ?_
    refine lv_iconst (v := 3) hx hb d_MO_readOperator_78 (by decide) ?_
    refine lv_icmp_ge (tgt := 101) hx hb d_MO_readOperator_79 (by decide) (fun c_595 => ?_) (fun c_595 => ?_)
    · have hq := fs_ifp c_595 hq
      exact hJ101 z1 z2 M1 _ _ _ _ hq hP hS hM hf (lv_sub hl [0, 1, 2] rfl)
    · have hq := fs_ifn c_595 hq
      refine lv_aload_n hx hb d_MO_readOperator_82 rfl (lv_at hl 0 rfl) ?_
      refine fs_get (v := .ref (ad 27)) hx hb hts hown hK c_MO hP hM.1 27 (by decide) (hts _ (fs_tb_at 1483 tw_1483 rfl)) (fun _ h9 => h9) rfl d_MO_readOperator_83 ?_
      refine lv_aload_n hx hb d_MO_readOperator_86 rfl (lv_at hl 0 rfl) ?_
      refine fs_get (v := .int (M1.1 23)) hx hb hts hown hK c_MO hP hM.1 23 (by decide) (hts _ (fs_tb_at 1479 tw_1479 rfl)) (fun _ h9 => h9) rfl d_MO_readOperator_87 ?_
      refine lv_iload_n hx hb d_MO_readOperator_90 rfl (lv_at hl 2 rfl) ?_
      refine lv_iconst (v := 2) hx hb d_MO_readOperator_91 (by decide) ?_
      refine lv_icmp_ne (tgt := 99) hx hb d_MO_readOperator_92 (by decide) (fun c_596 => ?_) (fun c_596 => ?_)
      · have hq := fs_ifn c_596 hq
        refine lv_iconst (v := 0) hx hb d_MO_readOperator_99 (by decide) ?_
        exact hJ100 z1 z2 0 (M1.1 23) M1 _ _ _ _ hq hP hS hM hf (lv_sub hl [0, 1, 2] rfl)
      · have hq := fs_ifp c_596 hq
        refine lv_iconst (v := 1) hx hb d_MO_readOperator_95 (by decide) ?_
        refine lv_goto (tgt := 100) hx hb d_MO_readOperator_96 (by decide) ?_
        exact hJ100 z1 z2 1 (M1.1 23) M1 _ _ _ _ hq hP hS hM hf (lv_sub hl [0, 1, 2] rfl)
  have hJ34 : ∀ (w0 : Int32) (M1 : mo_S) (h1 : fs_Hp) (H : Heap) (locs : List Loc) (ls : Array Slot), q_MO_readOperator_J34 w0 M1 = some r → fs_P G.1 fs_cl (fs_A s00) h1 H → va_S (fs_A s00) s00.heap H locs → mo_at G h1 a ad M1 → mo_fr a ad h h1 → lv_has ls 3 [(0, .ref a)] → W p l e { frames := 3, cells := 0, slots := 0, locals := 40 } s m ([.ref a] : List Value).toArray below meth c H locs 0 0 (fx_MQ below (fs_Qc s00 G (fun o h' => o = .inl (some (.int r.1)) ∧ mo_at G h' a ad r.2 ∧ mo_fr a ad h h')) ([.ref a] : List Value).toArray s 0 0 (fs_A s00)) (F0 m 34 ls (.int w0 :: .ref a :: [])) := by
    intro w0 M1 h1 H locs ls hq hP hS hM hf hl
    rw [q_MO_readOperator_J34] at hq
    obtain ⟨R597, eR597, hq⟩ := fs_bind_some hq
    refine fs_cV B hl.1 hP hS (k_MO_readEnd hSt hM w0 eR597) (fs_tb_at 1604 tw_1604 rfl) hM.1 rfl (fs_tb_at 1606 tw_1606 rfl) (fs_tb_at 45 tw_45 rfl) (fs_tb_at 96 tw_96 rfl) (fs_tb_at 1607 tw_1607 rfl) (by decide) (show (parseMethodDescriptor y_MO_readEnd.desc).map (fun d => d.parameters.length) = some 1 by decide +kernel) rfl d_MO_readOperator_34 ⟨Nat.le_of_ble_eq_true rfl, Nat.le_of_ble_eq_true rfl, Nat.le_of_ble_eq_true rfl, Nat.le_of_ble_eq_true rfl⟩ (fun v_ h_ H locs hc_ hP hS => ?_) (fun C_ a_ h_ H locs hc_ => absurd hc_.1 (fun h9 => by cases h9))
    obtain ⟨ev, hM, hf2⟩ := hc_
    cases ev
    have hf := hf.trans hf2
    refine W.widen (k := 0) (n := 0) (Nat.le_of_ble_eq_true rfl) (Nat.le_of_ble_eq_true rfl) ?_
    refine W.eq (g2 := F0 m 37 ls (.int R597.1 :: [])) rfl ?_
    refine lv_if_ne (tgt := 125) hx hb d_MO_readOperator_37 (by decide) (fun c_598 => ?_) (fun c_598 => ?_)
    · have hq := fs_ifn c_598 hq
      exact hJ125  R597.2 _ _ _ _ hq hP hS hM hf (lv_sub hl [0] rfl)
    · have hq := fs_ifp c_598 hq
      refine lv_iconst (v := 0) hx hb d_MO_readOperator_40 (by decide) ?_
      cases hq
      exact fs_iret hx hb hr hlocks hw hP hS rfl (by omega) (by omega) (⟨rfl, hM, hf⟩) d_MO_readOperator_41
  have hJ22 : ∀ (z1 : Int32) (M1 : mo_S) (h1 : fs_Hp) (H : Heap) (locs : List Loc) (ls : Array Slot), q_MO_readOperator_J22 z1 M1 = some r → fs_P G.1 fs_cl (fs_A s00) h1 H → va_S (fs_A s00) s00.heap H locs → mo_at G h1 a ad M1 → mo_fr a ad h h1 → lv_has ls 3 [(0, .ref a), (1, .int z1)] → W p l e { frames := 3, cells := 0, slots := 0, locals := 40 } s m ([.ref a] : List Value).toArray below meth c H locs 0 0 (fx_MQ below (fs_Qc s00 G (fun o h' => o = .inl (some (.int r.1)) ∧ mo_at G h' a ad r.2 ∧ mo_fr a ad h h')) ([.ref a] : List Value).toArray s 0 0 (fs_A s00)) (F0 m 22 ls ([])) := by
    intro z1 M1 h1 H locs ls hq hP hS hM hf hl
    rw [q_MO_readOperator_J22] at hq
    refine lv_aload_n hx hb d_MO_readOperator_22 rfl (lv_at hl 0 rfl) ?_
    refine lv_iload_n hx hb d_MO_readOperator_23 rfl (lv_at hl 1 rfl) ?_
    refine lv_bipush (v := 41) hx hb d_MO_readOperator_24 (by decide) ?_
    refine lv_icmp_ne (tgt := 33) hx hb d_MO_readOperator_26 (by decide) (fun c_599 => ?_) (fun c_599 => ?_)
    · have hq := fs_ifn c_599 hq
      refine lv_iconst (v := 0) hx hb d_MO_readOperator_33 (by decide) ?_
      exact hJ34 0 M1 _ _ _ _ hq hP hS hM hf (lv_sub hl [0] rfl)
    · have hq := fs_ifp c_599 hq
      refine lv_iconst (v := 1) hx hb d_MO_readOperator_29 (by decide) ?_
      refine lv_goto (tgt := 34) hx hb d_MO_readOperator_30 (by decide) ?_
      exact hJ34 1 M1 _ _ _ _ hq hP hS hM hf (lv_sub hl [0] rfl)
  have hl := lv_entry ([.ref a]) (n := 3) (Nat.le_of_ble_eq_true rfl)
  rw [lg_entry_eq]
  generalize (lg_sl ([.ref a]) ++ List.replicate (3 - (lg_sl ([.ref a])).length) Slot.unset).toArray = ls at hl ⊢
  have hl : lv_has ls 3 [(0, .ref a)] := hl
  have hf : mo_fr a ad h h := mo_fr.rf
  rw [q_MO_readOperator] at hq
  refine lv_aload_n hx hb d_MO_readOperator_0 rfl (lv_at hl 0 rfl) ?_
  obtain ⟨⟨b0_, b1_⟩, hq⟩ := fs_okp_some hq
  refine fs_cV B hl.1 hP hS (k_MO_here hSt hM  b0_ b1_) (fs_tb_at 1597 tw_1597 rfl) hM.1 rfl (fs_tb_at 1599 tw_1599 rfl) (fs_tb_at 44 tw_44 rfl) (fs_tb_at 96 tw_96 rfl) (fs_tb_at 1600 tw_1600 rfl) (by decide) (show (parseMethodDescriptor y_MO_here.desc).map (fun d => d.parameters.length) = some 0 by decide +kernel) rfl d_MO_readOperator_1 ⟨Nat.le_of_ble_eq_true rfl, Nat.le_of_ble_eq_true rfl, Nat.le_of_ble_eq_true rfl, Nat.le_of_ble_eq_true rfl⟩ (fun v_ h_ H locs hc_ hP hS => ?_) (fun C_ a_ h_ H locs hc_ => absurd hc_.1 (fun h9 => by cases h9))
  obtain ⟨ev, hM, hf2⟩ := hc_
  cases ev
  have hf := hf.trans hf2
  rw [ke_MO_here] at hM
  refine W.widen (k := 0) (n := 0) (Nat.le_of_ble_eq_true rfl) (Nat.le_of_ble_eq_true rfl) ?_
  refine W.eq (g2 := F0 m 4 ls (.int ((p_MO_here M ).1) :: [])) rfl ?_
  refine lv_istore_n (lv' := [(1, .int ((p_MO_here M ).1)), (0, .ref a)]) hx hb d_MO_readOperator_4 rfl hl (by decide) rfl (fun ls hl => ?_)
  refine lv_iload_n hx hb d_MO_readOperator_5 rfl (lv_at hl 0 rfl) ?_
  refine fs_cS B hl.1 hP hS (k_MO_strength hSt ((p_MO_here M ).1)) (fs_tb_at 1601 tw_1601 rfl) (fs_tb_at 1602 tw_1602 rfl) (fs_tb_at 96 tw_96 rfl) (fs_tb_at 1603 tw_1603 rfl) (by decide) (show (parseMethodDescriptor y_MO_strength.desc).map (fun d => d.parameters.length) = some 1 by decide +kernel) rfl d_MO_readOperator_6 ⟨Nat.le_of_ble_eq_true rfl, Nat.le_of_ble_eq_true rfl, Nat.le_of_ble_eq_true rfl, Nat.le_of_ble_eq_true rfl⟩ (fun v_ h_ H locs hc_ hP hS => ?_) (fun C_ a_ h_ H locs hc_ => absurd hc_.1 (fun h9 => by cases h9))
  obtain ⟨ev, eh⟩ := hc_
  cases ev
  rw [eh] at hP
  refine W.widen (k := 0) (n := 0) (Nat.le_of_ble_eq_true rfl) (Nat.le_of_ble_eq_true rfl) ?_
  refine W.eq (g2 := F0 m 9 ls (.int (p_MO_strength ((p_MO_here M ).1)) :: [])) rfl ?_
  refine lv_istore_n (lv' := [(2, .int (p_MO_strength ((p_MO_here M ).1))), (1, .int ((p_MO_here M ).1)), (0, .ref a)]) hx hb d_MO_readOperator_9 rfl hl (by decide) rfl (fun ls hl => ?_)
  refine lv_iload_n hx hb d_MO_readOperator_10 rfl (lv_at hl 1 rfl) ?_
  refine lv_bipush (v := 41) hx hb d_MO_readOperator_11 (by decide) ?_
  refine lv_icmp_eq (tgt := 22) hx hb d_MO_readOperator_13 (by decide) (fun c_600 => ?_) (fun c_600 => ?_)
  · have hq := fs_ifp c_600 hq
    exact hJ22 ((p_MO_here M ).1) M _ _ _ _ hq hP hS hM hf (lv_sub hl [2, 1] rfl)
  · have hq := fs_ifn c_600 hq
    refine lv_iload_n hx hb d_MO_readOperator_16 rfl (lv_at hl 1 rfl) ?_
    refine lv_bipush (v := 44) hx hb d_MO_readOperator_17 (by decide) ?_
    refine lv_icmp_ne (tgt := 42) hx hb d_MO_readOperator_19 (by decide) (fun c_601 => ?_) (fun c_601 => ?_)
    · have hq := fs_ifn c_601 hq
      refine lv_iload_n hx hb d_MO_readOperator_42 rfl (lv_at hl 0 rfl) ?_
      refine lv_if_eq (tgt := 75) hx hb d_MO_readOperator_43 (by decide) (fun c_602 => ?_) (fun c_602 => ?_)
      · have hq := fs_ifp c_602 hq
        refine lv_iconst (v := 0) hx hb d_MO_readOperator_75 (by decide) ?_
        cases hq
        exact fs_iret hx hb hr hlocks hw hP hS rfl (by omega) (by omega) (⟨rfl, hM, hf⟩) d_MO_readOperator_76
      · have hq := fs_ifn c_602 hq
        refine lv_iload_n hx hb d_MO_readOperator_46 rfl (lv_at hl 1 rfl) ?_
        refine lv_bipush (v := 10) hx hb d_MO_readOperator_47 (by decide) ?_
        refine lv_icmp_eq (tgt := 75) hx hb d_MO_readOperator_49 (by decide) (fun c_603 => ?_) (fun c_603 => ?_)
        · have hq := fs_ifp c_603 hq
          refine lv_iconst (v := 0) hx hb d_MO_readOperator_75 (by decide) ?_
          cases hq
          exact fs_iret hx hb hr hlocks hw hP hS rfl (by omega) (by omega) (⟨rfl, hM, hf⟩) d_MO_readOperator_76
        · have hq := fs_ifn c_603 hq
          refine lv_iload_n hx hb d_MO_readOperator_52 rfl (lv_at hl 1 rfl) ?_
          refine lv_bipush (v := 33) hx hb d_MO_readOperator_53 (by decide) ?_
          refine lv_icmp_eq (tgt := 75) hx hb d_MO_readOperator_55 (by decide) (fun c_604 => ?_) (fun c_604 => ?_)
          · have hq := fs_ifp c_604 hq
            refine lv_iconst (v := 0) hx hb d_MO_readOperator_75 (by decide) ?_
            cases hq
            exact fs_iret hx hb hr hlocks hw hP hS rfl (by omega) (by omega) (⟨rfl, hM, hf⟩) d_MO_readOperator_76
          · have hq := fs_ifn c_604 hq
            refine lv_iload_n hx hb d_MO_readOperator_58 rfl (lv_at hl 0 rfl) ?_
            refine lv_iconst (v := 2) hx hb d_MO_readOperator_59 (by decide) ?_
            refine lv_icmp_ne (tgt := 77) hx hb d_MO_readOperator_60 (by decide) (fun c_605 => ?_) (fun c_605 => ?_)
            · have hq := fs_ifn c_605 hq
              exact hJ77 ((p_MO_here M ).1) (p_MO_strength ((p_MO_here M ).1)) M _ _ _ _ hq hP hS hM hf (lv_sub hl [2, 1, 0] rfl)
            · have hq := fs_ifp c_605 hq
              refine lv_aload_n hx hb d_MO_readOperator_63 rfl (lv_at hl 2 rfl) ?_
              refine fs_get (v := .ref (ad 27)) hx hb hts hown hK c_MO hP hM.1 27 (by decide) (hts _ (fs_tb_at 1483 tw_1483 rfl)) (fun _ h9 => h9) rfl d_MO_readOperator_64 ?_
              refine lv_aload_n hx hb d_MO_readOperator_67 rfl (lv_at hl 2 rfl) ?_
              refine fs_get (v := .int (M.1 23)) hx hb hts hown hK c_MO hP hM.1 23 (by decide) (hts _ (fs_tb_at 1479 tw_1479 rfl)) (fun _ h9 => h9) rfl d_MO_readOperator_68 ?_
              obtain ⟨hi_, hq⟩ := fs_okp_some hq
              refine fs_zald (f := M.2.1 27) hx hb hK hP 3 (hM.2.1 27 3 8 rfl) rfl hi_ d_MO_readOperator_71 ?_
              refine lv_if_eq (tgt := 77) hx hb d_MO_readOperator_72 (by decide) (fun c_606 => ?_) (fun c_606 => ?_)
              · have hq := fs_ifp c_606 hq
                exact hJ77 ((p_MO_here M ).1) (p_MO_strength ((p_MO_here M ).1)) M _ _ _ _ hq hP hS hM hf (lv_sub hl [2, 1, 0] rfl)
              · have hq := fs_ifn c_606 hq
                refine lv_iconst (v := 0) hx hb d_MO_readOperator_75 (by decide) ?_
                cases hq
                exact fs_iret hx hb hr hlocks hw hP hS rfl (by omega) (by omega) (⟨rfl, hM, hf⟩) d_MO_readOperator_76
    · have hq := fs_ifp c_601 hq
      exact hJ22 ((p_MO_here M ).1) M _ _ _ _ hq hP hS hM hf (lv_sub hl [2, 1] rfl)
noncomputable def q_MO_readOne_J100 (w0 : Int32) (M1 : mo_S) : Option (Int32 × mo_S) := some (1, (mo_f (mo_f M1 24 w0) 22 ((M1.1 22) + 1)))
noncomputable def q_MO_readOne_J87 (z1 : Int32) (w0 : Int32) (M1 : mo_S) : Option (Int32 × mo_S) := fs_okp ((0 ≤ (Int32.toInt (M1.1 29))) ∧ ((Int32.toInt (M1.1 29)) < 44)) (fs_let (p_MO_pushSign M1 w0) (fun R637 => (if z1 = 0 then q_MO_readOne_J100 2 R637 else q_MO_readOne_J100 1 R637)))
noncomputable def q_MO_readOne_J75 (z1 : Int32) (M1 : mo_S) : Option (Int32 × mo_S) := (if z1 = 0 then q_MO_readOne_J87 z1 10 M1 else q_MO_readOne_J87 z1 33 M1)
noncomputable def q_MO_readOne_J61 (z1 : Int32) (M1 : mo_S) : Option (Int32 × mo_S) := (if z1 = 0 then q_MO_readOne_J75 z1 M1 else fs_okp (vp_in (M1.1 23) 8) (q_MO_readOne_J75 z1 (mo_i M1 27 (Int32.toNatClampNeg (M1.1 23)) (vp_nar .boolean 1))))
noncomputable def q_MO_readOne_J34 (w0 : Int32) (M1 : mo_S) : Option (Int32 × mo_S) := (if w0 = 0 then (if (M1.1 24) = 2 then Option.bind (q_MO_readPart M1 ) (fun R644 => fs_okp (R644.1 = 0 ∨ R644.1 = 1) (some (R644.1, R644.2))) else fs_okp ((0 ≤ (Int32.toInt (M1.1 22))) ∧ ((Int32.toInt (M1.1 9)) ≤ 40)) ((if ((p_MO_here M1 ).1) = 45 then q_MO_readOne_J61 w0 M1 else Option.bind (q_MO_readPart M1 ) (fun R646 => fs_okp (R646.1 = 0 ∨ R646.1 = 1) (some (R646.1, R646.2)))))) else q_MO_readOne_J61 w0 M1)
noncomputable def q_MO_readOne_J33  (M1 : mo_S) : Option (Int32 × mo_S) := q_MO_readOne_J34 0 M1
noncomputable def q_MO_readOne (M : mo_S)  : Option (Int32 × mo_S) := (if (M.1 24) = 3 then Option.bind (q_MO_readOperator M ) (fun R650 => fs_okp (R650.1 = 0 ∨ R650.1 = 1) (some (R650.1, R650.2))) else (if (M.1 24) = 0 then fs_okp ((0 ≤ (Int32.toInt (M.1 22))) ∧ ((Int32.toInt (M.1 9)) ≤ 40)) ((if ((p_MO_here M ).1) = 33 then q_MO_readOne_J34 1 M else q_MO_readOne_J33  M)) else q_MO_readOne_J33  M))
set_option maxHeartbeats 4000000 in
set_option maxRecDepth 100000 in
theorem k_MO_readOne {l : Launch} {s00 : State} {G : fs_G} (hSt : fs_St l s00 G) {h : fs_Hp} {a : Nat} {ad : Nat → Nat} {M : mo_S} (hM : mo_at G h a ad M)  {r : Int32 × mo_S} (hq : q_MO_readOne M  = some r) : fs_Ct l s00 G y_MO_readOne (.code y_MO_readOne b_MO_readOne 2 (some .boolean)) { frames := 4, cells := 0, slots := 0, locals := 56 } [.ref a] h (fun o h' => o = .inl (some (.int r.1)) ∧ mo_at G h' a ad r.2 ∧ mo_fr a ad h h') := by
  refine fs_Ct.ofW hSt (by decide) ?_
  intro p e s m below meth c B hout hP
  obtain ⟨hx, hb, hr, hml, hown, hts, hlocks, hname, hK, hw, htr⟩ := id B
  have hown : s.vm.findClass "FormulaSheetModel" = some m.cls := hown
  have hS := hw.S
  have hA : ∀ q : Nat, s00.heap.size ≤ q → fs_A s00 q := fun _ h9 => h9
  generalize hH : s.heap = H at hP hS ⊢
  have hH0 : s.heap.size ≤ H.size := by rw [hH]; exact Nat.le_refl _
  have hJ100 : ∀ (w0 : Int32) (M1 : mo_S) (h1 : fs_Hp) (H : Heap) (locs : List Loc) (ls : Array Slot), q_MO_readOne_J100 w0 M1 = some r → fs_P G.1 fs_cl (fs_A s00) h1 H → va_S (fs_A s00) s00.heap H locs → mo_at G h1 a ad M1 → mo_fr a ad h h1 → lv_has ls 2 [(0, .ref a)] → W p l e { frames := 4, cells := 0, slots := 0, locals := 56 } s m ([.ref a] : List Value).toArray below meth c H locs 0 0 (fx_MQ below (fs_Qc s00 G (fun o h' => o = .inl (some (.int r.1)) ∧ mo_at G h' a ad r.2 ∧ mo_fr a ad h h')) ([.ref a] : List Value).toArray s 0 0 (fs_A s00)) (F0 m 100 ls (.int w0 :: .ref a :: [])) := by
    intro w0 M1 h1 H locs ls hq hP hS hM hf hl
    rw [q_MO_readOne_J100] at hq
    refine fs_put hx hb hts hown hK c_MO hP hS hM.1 24 (by decide) (hts _ (fs_tb_at 1480 tw_1480 rfl)) (fun _ h9 => h9) rfl rfl rfl (Nat.le_of_ble_eq_true rfl) d_MO_readOne_100 (fun H locs hP hS => ?_)
    obtain ⟨h635, hP, hM, hf⟩ : ∃ x, fs_P G.1 fs_cl (fs_A s00) x H ∧ mo_at G x a ad (mo_f M1 24 w0) ∧ mo_fr a ad h x := ⟨_, hP, hM.F (mo_F24 ad M1 w0), hf.self⟩
    refine lv_aload_n hx hb d_MO_readOne_103 rfl (lv_at hl 0 rfl) ?_
    refine lv_dup hx hb d_MO_readOne_104 rfl ?_
    refine fs_get (v := .int (M1.1 22)) hx hb hts hown hK c_MO hP hM.1 22 (by decide) (hts _ (fs_tb_at 1478 tw_1478 rfl)) (fun _ h9 => h9) rfl d_MO_readOne_105 ?_
    refine lv_iconst (v := 1) hx hb d_MO_readOne_108 (by decide) ?_
    refine lv_iadd hx hb d_MO_readOne_109 ?_
    refine fs_put hx hb hts hown hK c_MO hP hS hM.1 22 (by decide) (hts _ (fs_tb_at 1478 tw_1478 rfl)) (fun _ h9 => h9) rfl rfl rfl (Nat.le_of_ble_eq_true rfl) d_MO_readOne_110 (fun H locs hP hS => ?_)
    obtain ⟨h636, hP, hM, hf⟩ : ∃ x, fs_P G.1 fs_cl (fs_A s00) x H ∧ mo_at G x a ad (mo_f (mo_f M1 24 w0) 22 ((M1.1 22) + 1)) ∧ mo_fr a ad h x := ⟨_, hP, hM.F (mo_F22 ad (mo_f M1 24 w0) ((M1.1 22) + 1)), hf.self⟩
    refine lv_iconst (v := 1) hx hb d_MO_readOne_113 (by decide) ?_
    cases hq
    exact fs_iret hx hb hr hlocks hw hP hS rfl (by omega) (by omega) (⟨rfl, hM, hf⟩) d_MO_readOne_114
  have hJ87 : ∀ (z1 : Int32) (w0 : Int32) (M1 : mo_S) (h1 : fs_Hp) (H : Heap) (locs : List Loc) (ls : Array Slot), q_MO_readOne_J87 z1 w0 M1 = some r → fs_P G.1 fs_cl (fs_A s00) h1 H → va_S (fs_A s00) s00.heap H locs → mo_at G h1 a ad M1 → mo_fr a ad h h1 → lv_has ls 2 [(0, .ref a), (1, .int z1)] → W p l e { frames := 4, cells := 0, slots := 0, locals := 56 } s m ([.ref a] : List Value).toArray below meth c H locs 0 0 (fx_MQ below (fs_Qc s00 G (fun o h' => o = .inl (some (.int r.1)) ∧ mo_at G h' a ad r.2 ∧ mo_fr a ad h h')) ([.ref a] : List Value).toArray s 0 0 (fs_A s00)) (F0 m 87 ls (.int w0 :: .ref a :: [])) := by
    intro z1 w0 M1 h1 H locs ls hq hP hS hM hf hl
    rw [q_MO_readOne_J87] at hq
    obtain ⟨⟨b0_, b1_⟩, hq⟩ := fs_okp_some hq
    obtain ⟨R637, eR637, hq⟩ := fs_let_some hq
    refine fs_cV B hl.1 hP hS (k_MO_pushSign hSt hM w0 b0_ b1_) (fs_tb_at 1616 tw_1616 rfl) hM.1 rfl (fs_tb_at 1618 tw_1618 rfl) (fs_tb_at 48 tw_48 rfl) (fs_tb_at 96 tw_96 rfl) (fs_tb_at 1619 tw_1619 rfl) (by decide) (show (parseMethodDescriptor y_MO_pushSign.desc).map (fun d => d.parameters.length) = some 1 by decide +kernel) rfl d_MO_readOne_87 ⟨Nat.le_of_ble_eq_true rfl, Nat.le_of_ble_eq_true rfl, Nat.le_of_ble_eq_true rfl, Nat.le_of_ble_eq_true rfl⟩ (fun v_ h_ H locs hc_ hP hS => ?_) (fun C_ a_ h_ H locs hc_ => absurd hc_.1 (fun h9 => by cases h9))
    obtain ⟨ev, hM, hf2⟩ := hc_
    cases ev
    have hf := hf.trans hf2
    rw [← eR637] at hM
    refine W.widen (k := 0) (n := 0) (Nat.le_of_ble_eq_true rfl) (Nat.le_of_ble_eq_true rfl) ?_
    refine W.eq (g2 := F0 m 90 ls ([])) rfl ?_
    refine lv_aload_n hx hb d_MO_readOne_90 rfl (lv_at hl 0 rfl) ?_
    refine lv_iload_n hx hb d_MO_readOne_91 rfl (lv_at hl 1 rfl) ?_
    refine lv_if_eq (tgt := 99) hx hb d_MO_readOne_92 (by decide) (fun c_638 => ?_) (fun c_638 => ?_)
    · have hq := fs_ifp c_638 hq
      refine lv_iconst (v := 2) hx hb d_MO_readOne_99 (by decide) ?_
      exact hJ100 2 R637 _ _ _ _ hq hP hS hM hf (lv_sub hl [0] rfl)
    · have hq := fs_ifn c_638 hq
      refine lv_iconst (v := 1) hx hb d_MO_readOne_95 (by decide) ?_
      refine lv_goto (tgt := 100) hx hb d_MO_readOne_96 (by decide) ?_
      exact hJ100 1 R637 _ _ _ _ hq hP hS hM hf (lv_sub hl [0] rfl)
  have hJ75 : ∀ (z1 : Int32) (M1 : mo_S) (h1 : fs_Hp) (H : Heap) (locs : List Loc) (ls : Array Slot), q_MO_readOne_J75 z1 M1 = some r → fs_P G.1 fs_cl (fs_A s00) h1 H → va_S (fs_A s00) s00.heap H locs → mo_at G h1 a ad M1 → mo_fr a ad h h1 → lv_has ls 2 [(0, .ref a), (1, .int z1)] → W p l e { frames := 4, cells := 0, slots := 0, locals := 56 } s m ([.ref a] : List Value).toArray below meth c H locs 0 0 (fx_MQ below (fs_Qc s00 G (fun o h' => o = .inl (some (.int r.1)) ∧ mo_at G h' a ad r.2 ∧ mo_fr a ad h h')) ([.ref a] : List Value).toArray s 0 0 (fs_A s00)) (F0 m 75 ls ([])) := by
    intro z1 M1 h1 H locs ls hq hP hS hM hf hl
    rw [q_MO_readOne_J75] at hq
    refine lv_aload_n hx hb d_MO_readOne_75 rfl (lv_at hl 0 rfl) ?_
    refine lv_iload_n hx hb d_MO_readOne_76 rfl (lv_at hl 1 rfl) ?_
    refine lv_if_eq (tgt := 85) hx hb d_MO_readOne_77 (by decide) (fun c_639 => ?_) (fun c_639 => ?_)
    · have hq := fs_ifp c_639 hq
      refine lv_bipush (v := 10) hx hb d_MO_readOne_85 (by decide) ?_
      exact hJ87 z1 10 M1 _ _ _ _ hq hP hS hM hf (lv_sub hl [0, 1] rfl)
    · have hq := fs_ifn c_639 hq
      refine lv_bipush (v := 33) hx hb d_MO_readOne_80 (by decide) ?_
      refine lv_goto (tgt := 87) hx hb d_MO_readOne_82 (by decide) ?_
      exact hJ87 z1 33 M1 _ _ _ _ hq hP hS hM hf (lv_sub hl [0, 1] rfl)
  have hJ61 : ∀ (z1 : Int32) (M1 : mo_S) (h1 : fs_Hp) (H : Heap) (locs : List Loc) (ls : Array Slot), q_MO_readOne_J61 z1 M1 = some r → fs_P G.1 fs_cl (fs_A s00) h1 H → va_S (fs_A s00) s00.heap H locs → mo_at G h1 a ad M1 → mo_fr a ad h h1 → lv_has ls 2 [(0, .ref a), (1, .int z1)] → W p l e { frames := 4, cells := 0, slots := 0, locals := 56 } s m ([.ref a] : List Value).toArray below meth c H locs 0 0 (fx_MQ below (fs_Qc s00 G (fun o h' => o = .inl (some (.int r.1)) ∧ mo_at G h' a ad r.2 ∧ mo_fr a ad h h')) ([.ref a] : List Value).toArray s 0 0 (fs_A s00)) (F0 m 61 ls ([])) := by
    intro z1 M1 h1 H locs ls hq hP hS hM hf hl
    rw [q_MO_readOne_J61] at hq
    refine lv_iload_n hx hb d_MO_readOne_61 rfl (lv_at hl 1 rfl) ?_
    refine lv_if_eq (tgt := 75) hx hb d_MO_readOne_62 (by decide) (fun c_640 => ?_) (fun c_640 => ?_)
    · have hq := fs_ifp c_640 hq
      exact hJ75 z1 M1 _ _ _ _ hq hP hS hM hf (lv_sub hl [0, 1] rfl)
    · have hq := fs_ifn c_640 hq
      refine lv_aload_n hx hb d_MO_readOne_65 rfl (lv_at hl 0 rfl) ?_
      refine fs_get (v := .ref (ad 27)) hx hb hts hown hK c_MO hP hM.1 27 (by decide) (hts _ (fs_tb_at 1483 tw_1483 rfl)) (fun _ h9 => h9) rfl d_MO_readOne_66 ?_
      refine lv_aload_n hx hb d_MO_readOne_69 rfl (lv_at hl 0 rfl) ?_
      refine fs_get (v := .int (M1.1 23)) hx hb hts hown hK c_MO hP hM.1 23 (by decide) (hts _ (fs_tb_at 1479 tw_1479 rfl)) (fun _ h9 => h9) rfl d_MO_readOne_70 ?_
      refine lv_iconst (v := 1) hx hb d_MO_readOne_73 (by decide) ?_
      obtain ⟨hi_, hq⟩ := fs_okp_some hq
      refine fs_zast hx hb hK hP hS 3 (hM.2.1 27 3 8 rfl) rfl hi_ d_MO_readOne_74 (fun H locs hP hS => ?_)
      obtain ⟨h641, hP, hM, hf⟩ : ∃ x, fs_P G.1 fs_cl (fs_A s00) x H ∧ mo_at G x a ad (mo_i M1 27 (Int32.toNatClampNeg (M1.1 23)) (vp_nar .boolean 1)) ∧ mo_fr a ad h x := ⟨_, hP, hM.I (j := 27) (t := 3) (k := (Int32.toNatClampNeg (M1.1 23))) (x := (vp_nar .boolean 1)) rfl (fun _ => rfl), hf.arr (j := 27) (by decide)⟩
      exact hJ75 z1 (mo_i M1 27 (Int32.toNatClampNeg (M1.1 23)) (vp_nar .boolean 1)) _ _ _ _ hq hP hS hM hf (lv_sub hl [0, 1] rfl)
  have hJ34 : ∀ (w0 : Int32) (M1 : mo_S) (h1 : fs_Hp) (H : Heap) (locs : List Loc) (ls : Array Slot), q_MO_readOne_J34 w0 M1 = some r → fs_P G.1 fs_cl (fs_A s00) h1 H → va_S (fs_A s00) s00.heap H locs → mo_at G h1 a ad M1 → mo_fr a ad h h1 → lv_has ls 2 [(0, .ref a)] → W p l e { frames := 4, cells := 0, slots := 0, locals := 56 } s m ([.ref a] : List Value).toArray below meth c H locs 0 0 (fx_MQ below (fs_Qc s00 G (fun o h' => o = .inl (some (.int r.1)) ∧ mo_at G h' a ad r.2 ∧ mo_fr a ad h h')) ([.ref a] : List Value).toArray s 0 0 (fs_A s00)) (F0 m 34 ls (.int w0 :: [])) := by
    intro w0 M1 h1 H locs ls hq hP hS hM hf hl
    rw [q_MO_readOne_J34] at hq
    refine lv_istore_n (lv' := [(1, .int w0), (0, .ref a)]) hx hb d_MO_readOne_34 rfl hl (by decide) rfl (fun ls hl => ?_)
    refine lv_iload_n hx hb d_MO_readOne_35 rfl (lv_at hl 0 rfl) ?_
    refine lv_if_ne (tgt := 61) hx hb d_MO_readOne_36 (by decide) (fun c_642 => ?_) (fun c_642 => ?_)
    · have hq := fs_ifn c_642 hq
      exact hJ61 w0 M1 _ _ _ _ hq hP hS hM hf (lv_sub hl [1, 0] rfl)
    · have hq := fs_ifp c_642 hq
      refine lv_aload_n hx hb d_MO_readOne_39 rfl (lv_at hl 1 rfl) ?_
      refine fs_get (v := .int (M1.1 24)) hx hb hts hown hK c_MO hP hM.1 24 (by decide) (hts _ (fs_tb_at 1480 tw_1480 rfl)) (fun _ h9 => h9) rfl d_MO_readOne_40 ?_
      refine lv_iconst (v := 2) hx hb d_MO_readOne_43 (by decide) ?_
      refine lv_icmp_eq (tgt := 56) hx hb d_MO_readOne_44 (by decide) (fun c_643 => ?_) (fun c_643 => ?_)
      · have hq := fs_ifp c_643 hq
        refine lv_aload_n hx hb d_MO_readOne_56 rfl (lv_at hl 1 rfl) ?_
        obtain ⟨R644, eR644, hq⟩ := fs_bind_some hq
        refine fs_cV B hl.1 hP hS (k_MO_readPart hSt hM  eR644) (fs_tb_at 1620 tw_1620 rfl) hM.1 rfl (fs_tb_at 1622 tw_1622 rfl) (fs_tb_at 49 tw_49 rfl) (fs_tb_at 96 tw_96 rfl) (fs_tb_at 1623 tw_1623 rfl) (by decide) (show (parseMethodDescriptor y_MO_readPart.desc).map (fun d => d.parameters.length) = some 0 by decide +kernel) rfl d_MO_readOne_57 ⟨Nat.le_of_ble_eq_true rfl, Nat.le_of_ble_eq_true rfl, Nat.le_of_ble_eq_true rfl, Nat.le_of_ble_eq_true rfl⟩ (fun v_ h_ H locs hc_ hP hS => ?_) (fun C_ a_ h_ H locs hc_ => absurd hc_.1 (fun h9 => by cases h9))
        obtain ⟨ev, hM, hf2⟩ := hc_
        cases ev
        have hf := hf.trans hf2
        refine W.widen (k := 0) (n := 0) (Nat.le_of_ble_eq_true rfl) (Nat.le_of_ble_eq_true rfl) ?_
        refine W.eq (g2 := F0 m 60 ls (.int R644.1 :: [])) rfl ?_
        obtain ⟨hz_, hq⟩ := fs_okp_some hq
        cases hq
        exact fs_iret hx hb hr hlocks hw hP hS (fs_nbo hz_) (by omega) (by omega) (⟨rfl, hM, hf⟩) d_MO_readOne_60
      · have hq := fs_ifn c_643 hq
        refine lv_aload_n hx hb d_MO_readOne_47 rfl (lv_at hl 1 rfl) ?_
        obtain ⟨⟨b0_, b1_⟩, hq⟩ := fs_okp_some hq
        refine fs_cV B hl.1 hP hS (k_MO_here hSt hM  b0_ b1_) (fs_tb_at 1597 tw_1597 rfl) hM.1 rfl (fs_tb_at 1599 tw_1599 rfl) (fs_tb_at 44 tw_44 rfl) (fs_tb_at 96 tw_96 rfl) (fs_tb_at 1600 tw_1600 rfl) (by decide) (show (parseMethodDescriptor y_MO_here.desc).map (fun d => d.parameters.length) = some 0 by decide +kernel) rfl d_MO_readOne_48 ⟨Nat.le_of_ble_eq_true rfl, Nat.le_of_ble_eq_true rfl, Nat.le_of_ble_eq_true rfl, Nat.le_of_ble_eq_true rfl⟩ (fun v_ h_ H locs hc_ hP hS => ?_) (fun C_ a_ h_ H locs hc_ => absurd hc_.1 (fun h9 => by cases h9))
        obtain ⟨ev, hM, hf2⟩ := hc_
        cases ev
        have hf := hf.trans hf2
        rw [ke_MO_here] at hM
        refine W.widen (k := 0) (n := 0) (Nat.le_of_ble_eq_true rfl) (Nat.le_of_ble_eq_true rfl) ?_
        refine W.eq (g2 := F0 m 51 ls (.int ((p_MO_here M1 ).1) :: [])) rfl ?_
        refine lv_bipush (v := 45) hx hb d_MO_readOne_51 (by decide) ?_
        refine lv_icmp_eq (tgt := 61) hx hb d_MO_readOne_53 (by decide) (fun c_645 => ?_) (fun c_645 => ?_)
        · have hq := fs_ifp c_645 hq
          exact hJ61 w0 M1 _ _ _ _ hq hP hS hM hf (lv_sub hl [1, 0] rfl)
        · have hq := fs_ifn c_645 hq
          refine lv_aload_n hx hb d_MO_readOne_56 rfl (lv_at hl 1 rfl) ?_
          obtain ⟨R646, eR646, hq⟩ := fs_bind_some hq
          refine fs_cV B hl.1 hP hS (k_MO_readPart hSt hM  eR646) (fs_tb_at 1620 tw_1620 rfl) hM.1 rfl (fs_tb_at 1622 tw_1622 rfl) (fs_tb_at 49 tw_49 rfl) (fs_tb_at 96 tw_96 rfl) (fs_tb_at 1623 tw_1623 rfl) (by decide) (show (parseMethodDescriptor y_MO_readPart.desc).map (fun d => d.parameters.length) = some 0 by decide +kernel) rfl d_MO_readOne_57 ⟨Nat.le_of_ble_eq_true rfl, Nat.le_of_ble_eq_true rfl, Nat.le_of_ble_eq_true rfl, Nat.le_of_ble_eq_true rfl⟩ (fun v_ h_ H locs hc_ hP hS => ?_) (fun C_ a_ h_ H locs hc_ => absurd hc_.1 (fun h9 => by cases h9))
          obtain ⟨ev, hM, hf2⟩ := hc_
          cases ev
          have hf := hf.trans hf2
          refine W.widen (k := 0) (n := 0) (Nat.le_of_ble_eq_true rfl) (Nat.le_of_ble_eq_true rfl) ?_
          refine W.eq (g2 := F0 m 60 ls (.int R646.1 :: [])) rfl ?_
          obtain ⟨hz_, hq⟩ := fs_okp_some hq
          cases hq
          exact fs_iret hx hb hr hlocks hw hP hS (fs_nbo hz_) (by omega) (by omega) (⟨rfl, hM, hf⟩) d_MO_readOne_60
  have hJ33 : ∀  (M1 : mo_S) (h1 : fs_Hp) (H : Heap) (locs : List Loc) (ls : Array Slot), q_MO_readOne_J33  M1 = some r → fs_P G.1 fs_cl (fs_A s00) h1 H → va_S (fs_A s00) s00.heap H locs → mo_at G h1 a ad M1 → mo_fr a ad h h1 → lv_has ls 2 [(0, .ref a)] → W p l e { frames := 4, cells := 0, slots := 0, locals := 56 } s m ([.ref a] : List Value).toArray below meth c H locs 0 0 (fx_MQ below (fs_Qc s00 G (fun o h' => o = .inl (some (.int r.1)) ∧ mo_at G h' a ad r.2 ∧ mo_fr a ad h h')) ([.ref a] : List Value).toArray s 0 0 (fs_A s00)) (F0 m 33 ls ([])) := by
    intro  M1 h1 H locs ls hq hP hS hM hf hl
    rw [q_MO_readOne_J33] at hq
    refine lv_iconst (v := 0) hx hb d_MO_readOne_33 (by decide) ?_
    exact hJ34 0 M1 _ _ _ _ hq hP hS hM hf (lv_sub hl [0] rfl)
  have hl := lv_entry ([.ref a]) (n := 2) (Nat.le_of_ble_eq_true rfl)
  rw [lg_entry_eq]
  generalize (lg_sl ([.ref a]) ++ List.replicate (2 - (lg_sl ([.ref a])).length) Slot.unset).toArray = ls at hl ⊢
  have hl : lv_has ls 2 [(0, .ref a)] := hl
  have hf : mo_fr a ad h h := mo_fr.rf
  rw [q_MO_readOne] at hq
  refine lv_aload_n hx hb d_MO_readOne_0 rfl (lv_at hl 0 rfl) ?_
  refine fs_get (v := .int (M.1 24)) hx hb hts hown hK c_MO hP hM.1 24 (by decide) (hts _ (fs_tb_at 1480 tw_1480 rfl)) (fun _ h9 => h9) rfl d_MO_readOne_1 ?_
  refine lv_iconst (v := 3) hx hb d_MO_readOne_4 (by decide) ?_
  refine lv_icmp_ne (tgt := 13) hx hb d_MO_readOne_5 (by decide) (fun c_647 => ?_) (fun c_647 => ?_)
  · have hq := fs_ifn c_647 hq
    refine lv_aload_n hx hb d_MO_readOne_13 rfl (lv_at hl 0 rfl) ?_
    refine fs_get (v := .int (M.1 24)) hx hb hts hown hK c_MO hP hM.1 24 (by decide) (hts _ (fs_tb_at 1480 tw_1480 rfl)) (fun _ h9 => h9) rfl d_MO_readOne_14 ?_
    refine lv_if_ne (tgt := 33) hx hb d_MO_readOne_17 (by decide) (fun c_648 => ?_) (fun c_648 => ?_)
    · have hq := fs_ifn c_648 hq
      exact hJ33  M _ _ _ _ hq hP hS hM hf (lv_sub hl [0] rfl)
    · have hq := fs_ifp c_648 hq
      refine lv_aload_n hx hb d_MO_readOne_20 rfl (lv_at hl 0 rfl) ?_
      obtain ⟨⟨b0_, b1_⟩, hq⟩ := fs_okp_some hq
      refine fs_cV B hl.1 hP hS (k_MO_here hSt hM  b0_ b1_) (fs_tb_at 1597 tw_1597 rfl) hM.1 rfl (fs_tb_at 1599 tw_1599 rfl) (fs_tb_at 44 tw_44 rfl) (fs_tb_at 96 tw_96 rfl) (fs_tb_at 1600 tw_1600 rfl) (by decide) (show (parseMethodDescriptor y_MO_here.desc).map (fun d => d.parameters.length) = some 0 by decide +kernel) rfl d_MO_readOne_21 ⟨Nat.le_of_ble_eq_true rfl, Nat.le_of_ble_eq_true rfl, Nat.le_of_ble_eq_true rfl, Nat.le_of_ble_eq_true rfl⟩ (fun v_ h_ H locs hc_ hP hS => ?_) (fun C_ a_ h_ H locs hc_ => absurd hc_.1 (fun h9 => by cases h9))
      obtain ⟨ev, hM, hf2⟩ := hc_
      cases ev
      have hf := hf.trans hf2
      rw [ke_MO_here] at hM
      refine W.widen (k := 0) (n := 0) (Nat.le_of_ble_eq_true rfl) (Nat.le_of_ble_eq_true rfl) ?_
      refine W.eq (g2 := F0 m 24 ls (.int ((p_MO_here M ).1) :: [])) rfl ?_
      refine lv_bipush (v := 33) hx hb d_MO_readOne_24 (by decide) ?_
      refine lv_icmp_ne (tgt := 33) hx hb d_MO_readOne_26 (by decide) (fun c_649 => ?_) (fun c_649 => ?_)
      · have hq := fs_ifn c_649 hq
        exact hJ33  M _ _ _ _ hq hP hS hM hf (lv_sub hl [0] rfl)
      · have hq := fs_ifp c_649 hq
        refine lv_iconst (v := 1) hx hb d_MO_readOne_29 (by decide) ?_
        refine lv_goto (tgt := 34) hx hb d_MO_readOne_30 (by decide) ?_
        exact hJ34 1 M _ _ _ _ hq hP hS hM hf (lv_sub hl [0] rfl)
  · have hq := fs_ifp c_647 hq
    refine lv_aload_n hx hb d_MO_readOne_8 rfl (lv_at hl 0 rfl) ?_
    obtain ⟨R650, eR650, hq⟩ := fs_bind_some hq
    refine fs_cV B hl.1 hP hS (k_MO_readOperator hSt hM  eR650) (fs_tb_at 1593 tw_1593 rfl) hM.1 rfl (fs_tb_at 1595 tw_1595 rfl) (fs_tb_at 43 tw_43 rfl) (fs_tb_at 96 tw_96 rfl) (fs_tb_at 1596 tw_1596 rfl) (by decide) (show (parseMethodDescriptor y_MO_readOperator.desc).map (fun d => d.parameters.length) = some 0 by decide +kernel) rfl d_MO_readOne_9 ⟨Nat.le_of_ble_eq_true rfl, Nat.le_of_ble_eq_true rfl, Nat.le_of_ble_eq_true rfl, Nat.le_of_ble_eq_true rfl⟩ (fun v_ h_ H locs hc_ hP hS => ?_) (fun C_ a_ h_ H locs hc_ => absurd hc_.1 (fun h9 => by cases h9))
    obtain ⟨ev, hM, hf2⟩ := hc_
    cases ev
    have hf := hf.trans hf2
    refine W.widen (k := 0) (n := 0) (Nat.le_of_ble_eq_true rfl) (Nat.le_of_ble_eq_true rfl) ?_
    refine W.eq (g2 := F0 m 12 ls (.int R650.1 :: [])) rfl ?_
    obtain ⟨hz_, hq⟩ := fs_okp_some hq
    cases hq
    exact fs_iret hx hb hr hlocks hw hP hS (fs_nbo hz_) (by omega) (by omega) (⟨rfl, hM, hf⟩) d_MO_readOne_12
noncomputable def q_MO_fault_L39 : Nat → mo_S → Option ((Int32 × mo_S) ⊕ (mo_S))
  | 0, _ => none
  | n + 1, M1 => (if (M1.1 9) ≤ (M1.1 22) then some (.inr (M1)) else Option.bind (q_MO_readOne M1 ) (fun R672 => (if R672.1 = 0 then some (.inl (R672.2.1 22, R672.2)) else (q_MO_fault_L39 n)  R672.2)))
noncomputable def q_MO_fault (M : mo_S)  : Option (Int32 × mo_S) := fs_okp (vp_in 0 8) (fs_okp (vp_in 0 8) (Option.bind (q_MO_fault_L39 41  (mo_i (mo_i (mo_f (mo_f (mo_f (mo_f (mo_f M 29 0) 30 0) 24 0) 23 0) 22 0) 25 (Int32.toNatClampNeg 0) 0) 27 (Int32.toNatClampNeg 0) (vp_nar .boolean 0))) (fun R674 => Sum.elim (fun v_ => some v_) (fun t675 => fs_okp ((0 ≤ (Int32.toInt (t675.1 30))) ∧ (0 ≤ (Int32.toInt (t675.1 29))) ∧ ((Int32.toInt (t675.1 30)) + (Int32.toInt (t675.1 29)) ≤ 40)) (fs_let (p_MO_settle t675 1) (fun R676 => (if (R676.1 23) = 0 then (if (R676.1 24) = 3 then some ((-1), R676) else some (R676.1 9, R676)) else some (R676.1 9, R676))))) R674)))
set_option maxHeartbeats 4000000 in
set_option maxRecDepth 100000 in
theorem l_MO_fault_39 {p : Program} {l : Launch} {e : Env} {R : Room} {s : State} {m : MethodId} {args : Array Value} {below : List Frame} {meth : Method} {c : Code} {Post : fs_O → fs_Hp → Prop} {mc ms : Nat} {s00 : State} {G : fs_G} (hSt : fs_St l s00 G) (B : fs_B p l e s m args meth c s00 G y_MO_fault b_MO_fault 1 (some .int)) {h : fs_Hp} {a : Nat} {ad : Nat → Nat} (hR : 5 ≤ R.frames ∧ 69 ≤ R.locals) : ∀ (n : Nat)  (M1 : mo_S) (h1 : fs_Hp) (H : Heap) (locs : List Loc) (ls : Array Slot) (r : (Int32 × mo_S) ⊕ (mo_S)), q_MO_fault_L39 n  M1 = some r → fs_P G.1 fs_cl (fs_A s00) h1 H → va_S (fs_A s00) s00.heap H locs → mo_at G h1 a ad M1 → mo_fr a ad h h1 → lv_has ls 1 [(0, .ref a)] → (∀ (t : mo_S), r = .inr t → ∀ (h' : fs_Hp) (H : Heap) (locs : List Loc) (ls : Array Slot), fs_P G.1 fs_cl (fs_A s00) h' H → va_S (fs_A s00) s00.heap H locs → mo_at G h' a ad t → mo_fr a ad h h' → lv_has ls 1 [(0, .ref a)] → W p l e R s m args below meth c H locs 0 0 (fx_MQ below (fs_Qc s00 G Post) args s mc ms (fs_A s00)) (F0 m 62 ls [])) → (∀ v : Int32 × mo_S, r = .inl v → ∀ h' : fs_Hp, mo_at G h' a ad v.2 → mo_fr a ad h h' → Post (.inl (some (.int v.1))) h') → W p l e R s m args below meth c H locs 0 0 (fx_MQ below (fs_Qc s00 G Post) args s mc ms (fs_A s00)) (F0 m 39 ls []) := by
  obtain ⟨hx, hb, hr, hml, hown, hts, hlocks, hname, hK, hw, htr⟩ := id B
  have hown : s.vm.findClass "FormulaSheetModel" = some m.cls := hown
  intro n
  induction n with
  | zero => intro  M1 h1 H locs ls r hq; rw [q_MO_fault_L39] at hq; cases hq
  | succ n ih =>
    intro  M1 h1 H locs ls r hq hP hS hM hf hl kk kret
    rw [q_MO_fault_L39] at hq
    refine lv_aload_n hx hb d_MO_fault_39 rfl (lv_at hl 0 rfl) ?_
    refine fs_get (v := .int (M1.1 22)) hx hb hts hown hK c_MO hP hM.1 22 (by decide) (hts _ (fs_tb_at 1478 tw_1478 rfl)) (fun _ h9 => h9) rfl d_MO_fault_40 ?_
    refine lv_aload_n hx hb d_MO_fault_43 rfl (lv_at hl 0 rfl) ?_
    refine fs_get (v := .int (M1.1 9)) hx hb hts hown hK c_MO hP hM.1 9 (by decide) (hts _ (fs_tb_at 1465 tw_1465 rfl)) (fun _ h9 => h9) rfl d_MO_fault_44 ?_
    refine lv_icmp_ge (tgt := 62) hx hb d_MO_fault_47 (by decide) (fun c_671 => ?_) (fun c_671 => ?_)
    · have hq := fs_ifp c_671 hq
      cases hq
      exact kk _ rfl _ _ _ _ hP hS hM hf (lv_sub hl [0] rfl)
    · have hq := fs_ifn c_671 hq
      refine lv_aload_n hx hb d_MO_fault_50 rfl (lv_at hl 0 rfl) ?_
      obtain ⟨R672, eR672, hq⟩ := fs_bind_some hq
      refine fs_cV B hl.1 hP hS (k_MO_readOne hSt hM  eR672) (fs_tb_at 1589 tw_1589 rfl) hM.1 rfl (fs_tb_at 1591 tw_1591 rfl) (fs_tb_at 42 tw_42 rfl) (fs_tb_at 96 tw_96 rfl) (fs_tb_at 1592 tw_1592 rfl) (by decide) (show (parseMethodDescriptor y_MO_readOne.desc).map (fun d => d.parameters.length) = some 0 by decide +kernel) rfl d_MO_fault_51 ⟨Nat.le_trans (Nat.le_of_ble_eq_true rfl) hR.1, Nat.le_trans (Nat.le_of_ble_eq_true rfl) hR.2, Nat.zero_le _, Nat.zero_le _⟩ (fun v_ h_ H locs hc_ hP hS => ?_) (fun C_ a_ h_ H locs hc_ => absurd hc_.1 (fun h9 => by cases h9))
      obtain ⟨ev, hM, hf2⟩ := hc_
      cases ev
      have hf := hf.trans hf2
      refine W.widen (k := 0) (n := 0) (Nat.le_of_ble_eq_true rfl) (Nat.le_of_ble_eq_true rfl) ?_
      refine W.eq (g2 := F0 m 54 ls (.int R672.1 :: [])) rfl ?_
      refine lv_if_ne (tgt := 39) hx hb d_MO_fault_54 (by decide) (fun c_673 => ?_) (fun c_673 => ?_)
      · have hq := fs_ifn c_673 hq
        exact ih  R672.2 _ _ _ _ r hq hP hS hM hf (lv_sub hl [0] rfl) kk kret
      · have hq := fs_ifp c_673 hq
        refine lv_aload_n hx hb d_MO_fault_57 rfl (lv_at hl 0 rfl) ?_
        refine fs_get (v := .int (R672.2.1 22)) hx hb hts hown hK c_MO hP hM.1 22 (by decide) (hts _ (fs_tb_at 1478 tw_1478 rfl)) (fun _ h9 => h9) rfl d_MO_fault_58 ?_
        cases hq
        exact fs_iret hx hb hr hlocks hw hP hS (vp_nar_int _) (by omega) (by omega) (kret _ rfl _ hM hf) d_MO_fault_61
set_option maxHeartbeats 4000000 in
set_option maxRecDepth 100000 in
theorem k_MO_fault {l : Launch} {s00 : State} {G : fs_G} (hSt : fs_St l s00 G) {h : fs_Hp} {a : Nat} {ad : Nat → Nat} {M : mo_S} (hM : mo_at G h a ad M)  {r : Int32 × mo_S} (hq : q_MO_fault M  = some r) : fs_Ct l s00 G y_MO_fault (.code y_MO_fault b_MO_fault 1 (some .int)) { frames := 5, cells := 0, slots := 0, locals := 69 } [.ref a] h (fun o h' => o = .inl (some (.int r.1)) ∧ mo_at G h' a ad r.2 ∧ mo_fr a ad h h') := by
  refine fs_Ct.ofW hSt (by decide) ?_
  intro p e s m below meth c B hout hP
  obtain ⟨hx, hb, hr, hml, hown, hts, hlocks, hname, hK, hw, htr⟩ := id B
  have hown : s.vm.findClass "FormulaSheetModel" = some m.cls := hown
  have hS := hw.S
  have hA : ∀ q : Nat, s00.heap.size ≤ q → fs_A s00 q := fun _ h9 => h9
  generalize hH : s.heap = H at hP hS ⊢
  have hH0 : s.heap.size ≤ H.size := by rw [hH]; exact Nat.le_refl _
  have hl := lv_entry ([.ref a]) (n := 1) (Nat.le_of_ble_eq_true rfl)
  rw [lg_entry_eq]
  generalize (lg_sl ([.ref a]) ++ List.replicate (1 - (lg_sl ([.ref a])).length) Slot.unset).toArray = ls at hl ⊢
  have hl : lv_has ls 1 [(0, .ref a)] := hl
  have hf : mo_fr a ad h h := mo_fr.rf
  rw [q_MO_fault] at hq
  refine lv_aload_n hx hb d_MO_fault_0 rfl (lv_at hl 0 rfl) ?_
  refine lv_aload_n hx hb d_MO_fault_1 rfl (lv_at hl 0 rfl) ?_
  refine lv_aload_n hx hb d_MO_fault_2 rfl (lv_at hl 0 rfl) ?_
  refine lv_aload_n hx hb d_MO_fault_3 rfl (lv_at hl 0 rfl) ?_
  refine lv_aload_n hx hb d_MO_fault_4 rfl (lv_at hl 0 rfl) ?_
  refine lv_iconst (v := 0) hx hb d_MO_fault_5 (by decide) ?_
  refine lv_dup_x1 hx hb d_MO_fault_6 rfl rfl ?_
  refine fs_put hx hb hts hown hK c_MO hP hS hM.1 29 (by decide) (hts _ (fs_tb_at 1485 tw_1485 rfl)) (fun _ h9 => h9) rfl rfl rfl (Nat.le_of_ble_eq_true rfl) d_MO_fault_7 (fun H locs hP hS => ?_)
  obtain ⟨h664, hP, hM, hf⟩ : ∃ x, fs_P G.1 fs_cl (fs_A s00) x H ∧ mo_at G x a ad (mo_f M 29 0) ∧ mo_fr a ad h x := ⟨_, hP, hM.F (mo_F29 ad M 0), hf.self⟩
  refine lv_dup_x1 hx hb d_MO_fault_10 rfl rfl ?_
  refine fs_put hx hb hts hown hK c_MO hP hS hM.1 30 (by decide) (hts _ (fs_tb_at 1486 tw_1486 rfl)) (fun _ h9 => h9) rfl rfl rfl (Nat.le_of_ble_eq_true rfl) d_MO_fault_11 (fun H locs hP hS => ?_)
  obtain ⟨h665, hP, hM, hf⟩ : ∃ x, fs_P G.1 fs_cl (fs_A s00) x H ∧ mo_at G x a ad (mo_f (mo_f M 29 0) 30 0) ∧ mo_fr a ad h x := ⟨_, hP, hM.F (mo_F30 ad (mo_f M 29 0) 0), hf.self⟩
  refine lv_dup_x1 hx hb d_MO_fault_14 rfl rfl ?_
  refine fs_put hx hb hts hown hK c_MO hP hS hM.1 24 (by decide) (hts _ (fs_tb_at 1480 tw_1480 rfl)) (fun _ h9 => h9) rfl rfl rfl (Nat.le_of_ble_eq_true rfl) d_MO_fault_15 (fun H locs hP hS => ?_)
  obtain ⟨h666, hP, hM, hf⟩ : ∃ x, fs_P G.1 fs_cl (fs_A s00) x H ∧ mo_at G x a ad (mo_f (mo_f (mo_f M 29 0) 30 0) 24 0) ∧ mo_fr a ad h x := ⟨_, hP, hM.F (mo_F24 ad (mo_f (mo_f M 29 0) 30 0) 0), hf.self⟩
  refine lv_dup_x1 hx hb d_MO_fault_18 rfl rfl ?_
  refine fs_put hx hb hts hown hK c_MO hP hS hM.1 23 (by decide) (hts _ (fs_tb_at 1479 tw_1479 rfl)) (fun _ h9 => h9) rfl rfl rfl (Nat.le_of_ble_eq_true rfl) d_MO_fault_19 (fun H locs hP hS => ?_)
  obtain ⟨h667, hP, hM, hf⟩ : ∃ x, fs_P G.1 fs_cl (fs_A s00) x H ∧ mo_at G x a ad (mo_f (mo_f (mo_f (mo_f M 29 0) 30 0) 24 0) 23 0) ∧ mo_fr a ad h x := ⟨_, hP, hM.F (mo_F23 ad (mo_f (mo_f (mo_f M 29 0) 30 0) 24 0) 0), hf.self⟩
  refine fs_put hx hb hts hown hK c_MO hP hS hM.1 22 (by decide) (hts _ (fs_tb_at 1478 tw_1478 rfl)) (fun _ h9 => h9) rfl rfl rfl (Nat.le_of_ble_eq_true rfl) d_MO_fault_22 (fun H locs hP hS => ?_)
  obtain ⟨h668, hP, hM, hf⟩ : ∃ x, fs_P G.1 fs_cl (fs_A s00) x H ∧ mo_at G x a ad (mo_f (mo_f (mo_f (mo_f (mo_f M 29 0) 30 0) 24 0) 23 0) 22 0) ∧ mo_fr a ad h x := ⟨_, hP, hM.F (mo_F22 ad (mo_f (mo_f (mo_f (mo_f M 29 0) 30 0) 24 0) 23 0) 0), hf.self⟩
  refine lv_aload_n hx hb d_MO_fault_25 rfl (lv_at hl 0 rfl) ?_
  refine fs_get (v := .ref (ad 25)) hx hb hts hown hK c_MO hP hM.1 25 (by decide) (hts _ (fs_tb_at 1481 tw_1481 rfl)) (fun _ h9 => h9) rfl d_MO_fault_26 ?_
  refine lv_iconst (v := 0) hx hb d_MO_fault_29 (by decide) ?_
  refine lv_iconst (v := 0) hx hb d_MO_fault_30 (by decide) ?_
  obtain ⟨hi_, hq⟩ := fs_okp_some hq
  refine fs_iast hx hb hK hP hS 0 (hM.2.1 25 0 8 rfl) rfl hi_ d_MO_fault_31 (fun H locs hP hS => ?_)
  obtain ⟨h669, hP, hM, hf⟩ : ∃ x, fs_P G.1 fs_cl (fs_A s00) x H ∧ mo_at G x a ad (mo_i (mo_f (mo_f (mo_f (mo_f (mo_f M 29 0) 30 0) 24 0) 23 0) 22 0) 25 (Int32.toNatClampNeg 0) 0) ∧ mo_fr a ad h x := ⟨_, hP, hM.I (j := 25) (k := (Int32.toNatClampNeg 0)) (x := 0) rfl (fun _ => rfl), hf.arr (j := 25) (by decide)⟩
  refine lv_aload_n hx hb d_MO_fault_32 rfl (lv_at hl 0 rfl) ?_
  refine fs_get (v := .ref (ad 27)) hx hb hts hown hK c_MO hP hM.1 27 (by decide) (hts _ (fs_tb_at 1483 tw_1483 rfl)) (fun _ h9 => h9) rfl d_MO_fault_33 ?_
  refine lv_iconst (v := 0) hx hb d_MO_fault_36 (by decide) ?_
  refine lv_iconst (v := 0) hx hb d_MO_fault_37 (by decide) ?_
  obtain ⟨hi_, hq⟩ := fs_okp_some hq
  refine fs_zast hx hb hK hP hS 3 (hM.2.1 27 3 8 rfl) rfl hi_ d_MO_fault_38 (fun H locs hP hS => ?_)
  obtain ⟨h670, hP, hM, hf⟩ : ∃ x, fs_P G.1 fs_cl (fs_A s00) x H ∧ mo_at G x a ad (mo_i (mo_i (mo_f (mo_f (mo_f (mo_f (mo_f M 29 0) 30 0) 24 0) 23 0) 22 0) 25 (Int32.toNatClampNeg 0) 0) 27 (Int32.toNatClampNeg 0) (vp_nar .boolean 0)) ∧ mo_fr a ad h x := ⟨_, hP, hM.I (j := 27) (t := 3) (k := (Int32.toNatClampNeg 0)) (x := (vp_nar .boolean 0)) rfl (fun _ => rfl), hf.arr (j := 27) (by decide)⟩
  obtain ⟨R674, eR674, hq⟩ := fs_bind_some hq
  refine l_MO_fault_39 hSt B ⟨Nat.le_of_ble_eq_true rfl, Nat.le_of_ble_eq_true rfl⟩ 41  (mo_i (mo_i (mo_f (mo_f (mo_f (mo_f (mo_f M 29 0) 30 0) 24 0) 23 0) 22 0) 25 (Int32.toNatClampNeg 0) 0) 27 (Int32.toNatClampNeg 0) (vp_nar .boolean 0)) _ _ _ _ R674 eR674 hP hS hM hf (lv_sub hl [0] rfl) (fun t675 et675 h_ H locs ls hP hS hM hf hl => ?_) (fun v_ ev_ => ?_)
  · subst et675
    have hq := fs_inr hq
    refine lv_aload_n hx hb d_MO_fault_62 rfl (lv_at hl 0 rfl) ?_
    refine lv_iconst (v := 1) hx hb d_MO_fault_63 (by decide) ?_
    obtain ⟨⟨b0_, b1_, b2_⟩, hq⟩ := fs_okp_some hq
    obtain ⟨R676, eR676, hq⟩ := fs_let_some hq
    refine fs_cV B hl.1 hP hS (k_MO_settle hSt hM 1 b0_ b1_ b2_) (fs_tb_at 1608 tw_1608 rfl) hM.1 rfl (fs_tb_at 1610 tw_1610 rfl) (fs_tb_at 46 tw_46 rfl) (fs_tb_at 96 tw_96 rfl) (fs_tb_at 1611 tw_1611 rfl) (by decide) (show (parseMethodDescriptor y_MO_settle.desc).map (fun d => d.parameters.length) = some 1 by decide +kernel) rfl d_MO_fault_64 ⟨Nat.le_of_ble_eq_true rfl, Nat.le_of_ble_eq_true rfl, Nat.le_of_ble_eq_true rfl, Nat.le_of_ble_eq_true rfl⟩ (fun v_ h_ H locs hc_ hP hS => ?_) (fun C_ a_ h_ H locs hc_ => absurd hc_.1 (fun h9 => by cases h9))
    obtain ⟨ev, hM, hf2⟩ := hc_
    cases ev
    have hf := hf.trans hf2
    rw [← eR676] at hM
    refine W.widen (k := 0) (n := 0) (Nat.le_of_ble_eq_true rfl) (Nat.le_of_ble_eq_true rfl) ?_
    refine W.eq (g2 := F0 m 67 ls ([])) rfl ?_
    refine lv_aload_n hx hb d_MO_fault_67 rfl (lv_at hl 0 rfl) ?_
    refine fs_get (v := .int (R676.1 23)) hx hb hts hown hK c_MO hP hM.1 23 (by decide) (hts _ (fs_tb_at 1479 tw_1479 rfl)) (fun _ h9 => h9) rfl d_MO_fault_68 ?_
    refine lv_if_ne (tgt := 86) hx hb d_MO_fault_71 (by decide) (fun c_677 => ?_) (fun c_677 => ?_)
    · have hq := fs_ifn c_677 hq
      refine lv_aload_n hx hb d_MO_fault_86 rfl (lv_at hl 0 rfl) ?_
      refine fs_get (v := .int (R676.1 9)) hx hb hts hown hK c_MO hP hM.1 9 (by decide) (hts _ (fs_tb_at 1465 tw_1465 rfl)) (fun _ h9 => h9) rfl d_MO_fault_87 ?_
      cases hq
      exact fs_iret hx hb hr hlocks hw hP hS (vp_nar_int _) (by omega) (by omega) (⟨rfl, hM, hf⟩) d_MO_fault_90
    · have hq := fs_ifp c_677 hq
      refine lv_aload_n hx hb d_MO_fault_74 rfl (lv_at hl 0 rfl) ?_
      refine fs_get (v := .int (R676.1 24)) hx hb hts hown hK c_MO hP hM.1 24 (by decide) (hts _ (fs_tb_at 1480 tw_1480 rfl)) (fun _ h9 => h9) rfl d_MO_fault_75 ?_
      refine lv_iconst (v := 3) hx hb d_MO_fault_78 (by decide) ?_
      refine lv_icmp_ne (tgt := 86) hx hb d_MO_fault_79 (by decide) (fun c_678 => ?_) (fun c_678 => ?_)
      · have hq := fs_ifn c_678 hq
        refine lv_aload_n hx hb d_MO_fault_86 rfl (lv_at hl 0 rfl) ?_
        refine fs_get (v := .int (R676.1 9)) hx hb hts hown hK c_MO hP hM.1 9 (by decide) (hts _ (fs_tb_at 1465 tw_1465 rfl)) (fun _ h9 => h9) rfl d_MO_fault_87 ?_
        cases hq
        exact fs_iret hx hb hr hlocks hw hP hS (vp_nar_int _) (by omega) (by omega) (⟨rfl, hM, hf⟩) d_MO_fault_90
      · have hq := fs_ifp c_678 hq
        refine lv_iconst (v := (-1)) hx hb d_MO_fault_82 (by decide) ?_
        refine lv_goto (tgt := 90) hx hb d_MO_fault_83 (by decide) ?_
        cases hq
        exact fs_iret hx hb hr hlocks hw hP hS (vp_nar_int _) (by omega) (by omega) (⟨rfl, hM, hf⟩) d_MO_fault_90
  · subst ev_
    have hq := fs_inl hq
    cases hq
    exact fun h9 hM9 hf9 => ⟨rfl, hM9, hf9⟩
