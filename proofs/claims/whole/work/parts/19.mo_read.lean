/-! The reference: its reading of THE LINE. -/
abbrev b_MO_settle : ByteArray := prog_14_method_18_code
def y_MO_settle : MethodName := ⟨"FormulaSheetModel", "settle", "(I)V"⟩
theorem d_MO_settle_0 : decode b_MO_settle 0 = .ok (.aload_n 0, 1) := by decide +kernel
theorem d_MO_settle_1 : decode b_MO_settle 1 = .ok (.getfield 160, 3) := by decide +kernel
theorem d_MO_settle_4 : decode b_MO_settle 4 = .ok (.ifCond .le 47, 3) := by decide +kernel
theorem d_MO_settle_7 : decode b_MO_settle 7 = .ok (.aload_n 0, 1) := by decide +kernel
theorem d_MO_settle_8 : decode b_MO_settle 8 = .ok (.getfield 84, 3) := by decide +kernel
theorem d_MO_settle_11 : decode b_MO_settle 11 = .ok (.aload_n 0, 1) := by decide +kernel
theorem d_MO_settle_12 : decode b_MO_settle 12 = .ok (.getfield 160, 3) := by decide +kernel
theorem d_MO_settle_15 : decode b_MO_settle 15 = .ok (.iconst 1, 1) := by decide +kernel
theorem d_MO_settle_16 : decode b_MO_settle 16 = .ok (.isub, 1) := by decide +kernel
theorem d_MO_settle_17 : decode b_MO_settle 17 = .ok (.iaload, 1) := by decide +kernel
theorem d_MO_settle_18 : decode b_MO_settle 18 = .ok (.invokestatic 163, 3) := by decide +kernel
theorem d_MO_settle_21 : decode b_MO_settle 21 = .ok (.iload_n 1, 1) := by decide +kernel
theorem d_MO_settle_22 : decode b_MO_settle 22 = .ok (.if_icmp .lt 29, 3) := by decide +kernel
theorem d_MO_settle_25 : decode b_MO_settle 25 = .ok (.aload_n 0, 1) := by decide +kernel
theorem d_MO_settle_26 : decode b_MO_settle 26 = .ok (.dup, 1) := by decide +kernel
theorem d_MO_settle_27 : decode b_MO_settle 27 = .ok (.getfield 160, 3) := by decide +kernel
theorem d_MO_settle_30 : decode b_MO_settle 30 = .ok (.iconst 1, 1) := by decide +kernel
theorem d_MO_settle_31 : decode b_MO_settle 31 = .ok (.isub, 1) := by decide +kernel
theorem d_MO_settle_32 : decode b_MO_settle 32 = .ok (.putfield 160, 3) := by decide +kernel
theorem d_MO_settle_35 : decode b_MO_settle 35 = .ok (.aload_n 0, 1) := by decide +kernel
theorem d_MO_settle_36 : decode b_MO_settle 36 = .ok (.aload_n 0, 1) := by decide +kernel
theorem d_MO_settle_37 : decode b_MO_settle 37 = .ok (.getfield 84, 3) := by decide +kernel
theorem d_MO_settle_40 : decode b_MO_settle 40 = .ok (.aload_n 0, 1) := by decide +kernel
theorem d_MO_settle_41 : decode b_MO_settle 41 = .ok (.getfield 160, 3) := by decide +kernel
theorem d_MO_settle_44 : decode b_MO_settle 44 = .ok (.iaload, 1) := by decide +kernel
theorem d_MO_settle_45 : decode b_MO_settle 45 = .ok (.invokevirtual 124, 3) := by decide +kernel
theorem d_MO_settle_48 : decode b_MO_settle 48 = .ok (.goto (-48), 3) := by decide +kernel
theorem d_MO_settle_51 : decode b_MO_settle 51 = .ok (.return_, 1) := by decide +kernel
abbrev b_MO_readReference : ByteArray := prog_14_method_10_code
def y_MO_readReference : MethodName := ⟨"FormulaSheetModel", "readReference", "()I"⟩
theorem d_MO_readReference_0 : decode b_MO_readReference 0 = .ok (.iconst 0, 1) := by decide +kernel
theorem d_MO_readReference_1 : decode b_MO_readReference 1 = .ok (.istore_n 1, 1) := by decide +kernel
theorem d_MO_readReference_2 : decode b_MO_readReference 2 = .ok (.aload_n 0, 1) := by decide +kernel
theorem d_MO_readReference_3 : decode b_MO_readReference 3 = .ok (.invokevirtual 112, 3) := by decide +kernel
theorem d_MO_readReference_6 : decode b_MO_readReference 6 = .ok (.bipush 36, 2) := by decide +kernel
theorem d_MO_readReference_8 : decode b_MO_readReference 8 = .ok (.if_icmp .ne 17, 3) := by decide +kernel
theorem d_MO_readReference_11 : decode b_MO_readReference 11 = .ok (.sipush 128, 3) := by decide +kernel
theorem d_MO_readReference_14 : decode b_MO_readReference 14 = .ok (.istore_n 1, 1) := by decide +kernel
theorem d_MO_readReference_15 : decode b_MO_readReference 15 = .ok (.aload_n 0, 1) := by decide +kernel
theorem d_MO_readReference_16 : decode b_MO_readReference 16 = .ok (.dup, 1) := by decide +kernel
theorem d_MO_readReference_17 : decode b_MO_readReference 17 = .ok (.getfield 106, 3) := by decide +kernel
theorem d_MO_readReference_20 : decode b_MO_readReference 20 = .ok (.iconst 1, 1) := by decide +kernel
theorem d_MO_readReference_21 : decode b_MO_readReference 21 = .ok (.iadd, 1) := by decide +kernel
theorem d_MO_readReference_22 : decode b_MO_readReference 22 = .ok (.putfield 106, 3) := by decide +kernel
theorem d_MO_readReference_25 : decode b_MO_readReference 25 = .ok (.aload_n 0, 1) := by decide +kernel
theorem d_MO_readReference_26 : decode b_MO_readReference 26 = .ok (.invokevirtual 112, 3) := by decide +kernel
theorem d_MO_readReference_29 : decode b_MO_readReference 29 = .ok (.bipush 97, 2) := by decide +kernel
theorem d_MO_readReference_31 : decode b_MO_readReference 31 = .ok (.if_icmp .lt 12, 3) := by decide +kernel
theorem d_MO_readReference_34 : decode b_MO_readReference 34 = .ok (.aload_n 0, 1) := by decide +kernel
theorem d_MO_readReference_35 : decode b_MO_readReference 35 = .ok (.invokevirtual 112, 3) := by decide +kernel
theorem d_MO_readReference_38 : decode b_MO_readReference 38 = .ok (.bipush 104, 2) := by decide +kernel
theorem d_MO_readReference_40 : decode b_MO_readReference 40 = .ok (.if_icmp .le 5, 3) := by decide +kernel
theorem d_MO_readReference_43 : decode b_MO_readReference 43 = .ok (.iconst (-1), 1) := by decide +kernel
theorem d_MO_readReference_44 : decode b_MO_readReference 44 = .ok (.ireturn, 1) := by decide +kernel
theorem d_MO_readReference_45 : decode b_MO_readReference 45 = .ok (.iload_n 1, 1) := by decide +kernel
theorem d_MO_readReference_46 : decode b_MO_readReference 46 = .ok (.aload_n 0, 1) := by decide +kernel
theorem d_MO_readReference_47 : decode b_MO_readReference 47 = .ok (.invokevirtual 112, 3) := by decide +kernel
theorem d_MO_readReference_50 : decode b_MO_readReference 50 = .ok (.bipush 97, 2) := by decide +kernel
theorem d_MO_readReference_52 : decode b_MO_readReference 52 = .ok (.isub, 1) := by decide +kernel
theorem d_MO_readReference_53 : decode b_MO_readReference 53 = .ok (.iadd, 1) := by decide +kernel
theorem d_MO_readReference_54 : decode b_MO_readReference 54 = .ok (.istore_n 1, 1) := by decide +kernel
theorem d_MO_readReference_55 : decode b_MO_readReference 55 = .ok (.aload_n 0, 1) := by decide +kernel
theorem d_MO_readReference_56 : decode b_MO_readReference 56 = .ok (.dup, 1) := by decide +kernel
theorem d_MO_readReference_57 : decode b_MO_readReference 57 = .ok (.getfield 106, 3) := by decide +kernel
theorem d_MO_readReference_60 : decode b_MO_readReference 60 = .ok (.iconst 1, 1) := by decide +kernel
theorem d_MO_readReference_61 : decode b_MO_readReference 61 = .ok (.iadd, 1) := by decide +kernel
theorem d_MO_readReference_62 : decode b_MO_readReference 62 = .ok (.putfield 106, 3) := by decide +kernel
theorem d_MO_readReference_65 : decode b_MO_readReference 65 = .ok (.aload_n 0, 1) := by decide +kernel
theorem d_MO_readReference_66 : decode b_MO_readReference 66 = .ok (.invokevirtual 112, 3) := by decide +kernel
theorem d_MO_readReference_69 : decode b_MO_readReference 69 = .ok (.bipush 36, 2) := by decide +kernel
theorem d_MO_readReference_71 : decode b_MO_readReference 71 = .ok (.if_icmp .ne 19, 3) := by decide +kernel
theorem d_MO_readReference_74 : decode b_MO_readReference 74 = .ok (.iinc 1 256, 6) := by decide +kernel
theorem d_MO_readReference_80 : decode b_MO_readReference 80 = .ok (.aload_n 0, 1) := by decide +kernel
theorem d_MO_readReference_81 : decode b_MO_readReference 81 = .ok (.dup, 1) := by decide +kernel
theorem d_MO_readReference_82 : decode b_MO_readReference 82 = .ok (.getfield 106, 3) := by decide +kernel
theorem d_MO_readReference_85 : decode b_MO_readReference 85 = .ok (.iconst 1, 1) := by decide +kernel
theorem d_MO_readReference_86 : decode b_MO_readReference 86 = .ok (.iadd, 1) := by decide +kernel
theorem d_MO_readReference_87 : decode b_MO_readReference 87 = .ok (.putfield 106, 3) := by decide +kernel
theorem d_MO_readReference_90 : decode b_MO_readReference 90 = .ok (.aload_n 0, 1) := by decide +kernel
theorem d_MO_readReference_91 : decode b_MO_readReference 91 = .ok (.invokevirtual 112, 3) := by decide +kernel
theorem d_MO_readReference_94 : decode b_MO_readReference 94 = .ok (.invokestatic 116, 3) := by decide +kernel
theorem d_MO_readReference_97 : decode b_MO_readReference 97 = .ok (.ifCond .eq 12, 3) := by decide +kernel
theorem d_MO_readReference_100 : decode b_MO_readReference 100 = .ok (.aload_n 0, 1) := by decide +kernel
theorem d_MO_readReference_101 : decode b_MO_readReference 101 = .ok (.invokevirtual 112, 3) := by decide +kernel
theorem d_MO_readReference_104 : decode b_MO_readReference 104 = .ok (.bipush 48, 2) := by decide +kernel
theorem d_MO_readReference_106 : decode b_MO_readReference 106 = .ok (.if_icmp .ne 5, 3) := by decide +kernel
theorem d_MO_readReference_109 : decode b_MO_readReference 109 = .ok (.iconst (-1), 1) := by decide +kernel
theorem d_MO_readReference_110 : decode b_MO_readReference 110 = .ok (.ireturn, 1) := by decide +kernel
theorem d_MO_readReference_111 : decode b_MO_readReference 111 = .ok (.aload_n 0, 1) := by decide +kernel
theorem d_MO_readReference_112 : decode b_MO_readReference 112 = .ok (.invokevirtual 112, 3) := by decide +kernel
theorem d_MO_readReference_115 : decode b_MO_readReference 115 = .ok (.bipush 49, 2) := by decide +kernel
theorem d_MO_readReference_117 : decode b_MO_readReference 117 = .ok (.isub, 1) := by decide +kernel
theorem d_MO_readReference_118 : decode b_MO_readReference 118 = .ok (.istore_n 2, 1) := by decide +kernel
theorem d_MO_readReference_119 : decode b_MO_readReference 119 = .ok (.aload_n 0, 1) := by decide +kernel
theorem d_MO_readReference_120 : decode b_MO_readReference 120 = .ok (.dup, 1) := by decide +kernel
theorem d_MO_readReference_121 : decode b_MO_readReference 121 = .ok (.getfield 106, 3) := by decide +kernel
theorem d_MO_readReference_124 : decode b_MO_readReference 124 = .ok (.iconst 1, 1) := by decide +kernel
theorem d_MO_readReference_125 : decode b_MO_readReference 125 = .ok (.iadd, 1) := by decide +kernel
theorem d_MO_readReference_126 : decode b_MO_readReference 126 = .ok (.putfield 106, 3) := by decide +kernel
theorem d_MO_readReference_129 : decode b_MO_readReference 129 = .ok (.iload_n 2, 1) := by decide +kernel
theorem d_MO_readReference_130 : decode b_MO_readReference 130 = .ok (.ifCond .ne 25, 3) := by decide +kernel
theorem d_MO_readReference_133 : decode b_MO_readReference 133 = .ok (.aload_n 0, 1) := by decide +kernel
theorem d_MO_readReference_134 : decode b_MO_readReference 134 = .ok (.invokevirtual 112, 3) := by decide +kernel
theorem d_MO_readReference_137 : decode b_MO_readReference 137 = .ok (.bipush 48, 2) := by decide +kernel
theorem d_MO_readReference_139 : decode b_MO_readReference 139 = .ok (.if_icmp .ne 16, 3) := by decide +kernel
theorem d_MO_readReference_142 : decode b_MO_readReference 142 = .ok (.bipush 9, 2) := by decide +kernel
theorem d_MO_readReference_144 : decode b_MO_readReference 144 = .ok (.istore_n 2, 1) := by decide +kernel
theorem d_MO_readReference_145 : decode b_MO_readReference 145 = .ok (.aload_n 0, 1) := by decide +kernel
theorem d_MO_readReference_146 : decode b_MO_readReference 146 = .ok (.dup, 1) := by decide +kernel
theorem d_MO_readReference_147 : decode b_MO_readReference 147 = .ok (.getfield 106, 3) := by decide +kernel
theorem d_MO_readReference_150 : decode b_MO_readReference 150 = .ok (.iconst 1, 1) := by decide +kernel
theorem d_MO_readReference_151 : decode b_MO_readReference 151 = .ok (.iadd, 1) := by decide +kernel
theorem d_MO_readReference_152 : decode b_MO_readReference 152 = .ok (.putfield 106, 3) := by decide +kernel
theorem d_MO_readReference_155 : decode b_MO_readReference 155 = .ok (.iload_n 1, 1) := by decide +kernel
theorem d_MO_readReference_156 : decode b_MO_readReference 156 = .ok (.bipush 8, 2) := by decide +kernel
theorem d_MO_readReference_158 : decode b_MO_readReference 158 = .ok (.iload_n 2, 1) := by decide +kernel
theorem d_MO_readReference_159 : decode b_MO_readReference 159 = .ok (.imul, 1) := by decide +kernel
theorem d_MO_readReference_160 : decode b_MO_readReference 160 = .ok (.iadd, 1) := by decide +kernel
theorem d_MO_readReference_161 : decode b_MO_readReference 161 = .ok (.ireturn, 1) := by decide +kernel
theorem tw_44 : lw_tbl[44]? = some (Cond.selects "FormulaSheetModel" ⟨"FormulaSheetModel", "here", "()I"⟩ ⟨"FormulaSheetModel", "here", "()I"⟩) := by decide +kernel
theorem tw_47 : lw_tbl[47]? = some (Cond.selects "FormulaSheetModel" ⟨"FormulaSheetModel", "add", "(I)V"⟩ ⟨"FormulaSheetModel", "add", "(I)V"⟩) := by decide +kernel
theorem tw_1597 : lw_tbl[1597]? = some (Jvm.Cond.methodLink "FormulaSheetModel" (112 : Nat) ({ cls := "FormulaSheetModel", name := "here", desc := "()I" } : Jvm.MethodName)) := by decide +kernel
theorem tw_1599 : lw_tbl[1599]? = some (Jvm.Cond.instanceMethod ({ cls := "FormulaSheetModel", name := "here", desc := "()I" } : Jvm.MethodName)) := by decide +kernel
theorem tw_1600 : lw_tbl[1600]? = some (Jvm.Cond.code ({ cls := "FormulaSheetModel", name := "here", desc := "()I" } : Jvm.MethodName) prog_14_method_6_code (1 : Nat) (Option.some Jvm.ClassFile.FieldType.int)) := by decide +kernel
theorem tw_1601 : lw_tbl[1601]? = some (Jvm.Cond.methodLink "FormulaSheetModel" (163 : Nat) ({ cls := "FormulaSheetModel", name := "strength", desc := "(I)I" } : Jvm.MethodName)) := by decide +kernel
theorem tw_1602 : lw_tbl[1602]? = some (Jvm.Cond.static ({ cls := "FormulaSheetModel", name := "strength", desc := "(I)I" } : Jvm.MethodName)) := by decide +kernel
theorem tw_1603 : lw_tbl[1603]? = some (Jvm.Cond.code ({ cls := "FormulaSheetModel", name := "strength", desc := "(I)I" } : Jvm.MethodName) prog_14_method_17_code (1 : Nat) (Option.some Jvm.ClassFile.FieldType.int)) := by decide +kernel
theorem tw_1612 : lw_tbl[1612]? = some (Jvm.Cond.methodLink "FormulaSheetModel" (124 : Nat) ({ cls := "FormulaSheetModel", name := "add", desc := "(I)V" } : Jvm.MethodName)) := by decide +kernel
theorem tw_1614 : lw_tbl[1614]? = some (Jvm.Cond.instanceMethod ({ cls := "FormulaSheetModel", name := "add", desc := "(I)V" } : Jvm.MethodName)) := by decide +kernel
theorem tw_1615 : lw_tbl[1615]? = some (Jvm.Cond.code ({ cls := "FormulaSheetModel", name := "add", desc := "(I)V" } : Jvm.MethodName) prog_14_method_8_code (2 : Nat) (Option.none : Option Jvm.ClassFile.FieldType)) := by decide +kernel
theorem tw_1624 : lw_tbl[1624]? = some (Jvm.Cond.methodLink "FormulaSheetModel" (116 : Nat) ({ cls := "FormulaSheetModel", name := "digit", desc := "(I)Z" } : Jvm.MethodName)) := by decide +kernel
theorem tw_1625 : lw_tbl[1625]? = some (Jvm.Cond.static ({ cls := "FormulaSheetModel", name := "digit", desc := "(I)Z" } : Jvm.MethodName)) := by decide +kernel
theorem tw_1626 : lw_tbl[1626]? = some (Jvm.Cond.code ({ cls := "FormulaSheetModel", name := "digit", desc := "(I)Z" } : Jvm.MethodName) prog_14_method_7_code (1 : Nat) (Option.some Jvm.ClassFile.FieldType.boolean)) := by decide +kernel
def p_MO_settle_L0 : Nat → Int32 → mo_S → mo_S
  | 0, z1, M1 => (M1)
  | n + 1, z1, M1 => (if (M1.1 29) ≤ 0 then (M1) else (if (p_MO_strength (M1.2.1 28 (Int32.toNatClampNeg ((M1.1 29) - 1)))) < z1 then (M1) else p_MO_settle_L0 n z1 (p_MO_add (mo_f M1 29 ((M1.1 29) - 1)) ((mo_f M1 29 ((M1.1 29) - 1)).2.1 28 (Int32.toNatClampNeg ((M1.1 29) - 1))))))
def p_MO_settle (M : mo_S) (x1 : Int32) : mo_S := (match p_MO_settle_L0 (45) x1 M with | (M62) => M62)
set_option maxHeartbeats 4000000 in
set_option maxRecDepth 100000 in
theorem l_MO_settle_0 {p : Program} {l : Launch} {e : Env} {R : Room} {s : State} {m : MethodId} {args : Array Value} {below : List Frame} {meth : Method} {c : Code} {Q : State → Prop} {s00 : State} {G : fs_G} (hSt : fs_St l s00 G) (B : fs_B p l e s m args meth c s00 G y_MO_settle b_MO_settle 2 none) {h : fs_Hp} {a : Nat} {ad : Nat → Nat} (hR : 1 ≤ R.frames ∧ 13 ≤ R.locals) : ∀ (n : Nat) (z1 : Int32) (M1 : mo_S) (h1 : fs_Hp) (H : Heap) (locs : List Loc) (ls : Array Slot), ((Int32.toInt (M1.1 29))).toNat < n → (0 ≤ (Int32.toInt (M1.1 30))) ∧ (0 ≤ (Int32.toInt (M1.1 29))) ∧ ((Int32.toInt (M1.1 30)) + (Int32.toInt (M1.1 29)) ≤ 40) → fs_P G.1 fs_cl (fs_A s00) h1 H → va_S (fs_A s00) s00.heap H locs → mo_at G h1 a ad M1 → mo_fr a ad h h1 → lv_has ls 2 [(0, .ref a), (1, .int z1)] → (∀  (M' : mo_S) (h' : fs_Hp) (H : Heap) (locs : List Loc) (ls : Array Slot), p_MO_settle_L0 n z1 M1 = (M') → (0 ≤ (Int32.toInt (M'.1 30))) ∧ (0 ≤ (Int32.toInt (M'.1 29))) ∧ ((Int32.toInt (M'.1 30)) + (Int32.toInt (M'.1 29)) ≤ 40) → fs_P G.1 fs_cl (fs_A s00) h' H → va_S (fs_A s00) s00.heap H locs → mo_at G h' a ad M' → mo_fr a ad h h' → lv_has ls 2 [(0, .ref a), (1, .int z1)] → W p l e R s m args below meth c H locs 0 0 Q (F0 m 51 ls [])) → W p l e R s m args below meth c H locs 0 0 Q (F0 m 0 ls []) := by
  obtain ⟨hx, hb, hr, hml, hown, hts, hlocks, hname, hK, hw, htr⟩ := id B
  have hown : s.vm.findClass "FormulaSheetModel" = some m.cls := hown
  intro n
  induction n with
  | zero => intro z1 M1 h1 H locs ls hn; exact absurd hn (Nat.not_lt_zero _)
  | succ n ih =>
    intro z1 M1 h1 H locs ls hn hI hP hS hM hf hl kk
    refine lv_aload_n hx hb d_MO_settle_0 rfl (lv_at hl 0 rfl) ?_
    refine fs_get (v := .int (M1.1 29)) hx hb hts hown hK c_MO hP hM.1 29 (by decide) (hts _ (fs_tb_at 1485 tw_1485 rfl)) (fun _ h9 => h9) rfl d_MO_settle_1 ?_
    refine lv_if_le (tgt := 51) hx hb d_MO_settle_4 (by decide) (fun c_57 => ?_) (fun c_57 => ?_)
    · have e_ : p_MO_settle_L0 (n + 1) z1 M1 = (M1) := by rw [p_MO_settle_L0, if_pos c_57]
      exact kk  _ _ _ _ _ e_ (⟨(by   have k0 := c_57; (try simp only [Int32.lt_iff_toInt_lt, Int32.le_iff_toInt_le, ← Int32.toInt_inj, i32_0, i32_1, i32_2, i32_3, i32_4, i32_5, i32_6, i32_7, i32_8, i32_9, i32_10, i32_11, i32_12, i32_16, i32_24, i32_39, i32_40, i32_41, i32_43, i32_44, i32_48, i32_49, i32_57, i32_64, i32_80, i32_81, i32_100, i32_101, i32_121, i32_127, i32_128, i32_256, i32_384, i32_400, i32_512, i32_3199, i32_3200, i32_3239, i32_3240, i32_m1] at k0);  show 0 ≤ (Int32.toInt (M1.1 30)); omega), (by   have k0 := c_57; (try simp only [Int32.lt_iff_toInt_lt, Int32.le_iff_toInt_le, ← Int32.toInt_inj, i32_0, i32_1, i32_2, i32_3, i32_4, i32_5, i32_6, i32_7, i32_8, i32_9, i32_10, i32_11, i32_12, i32_16, i32_24, i32_39, i32_40, i32_41, i32_43, i32_44, i32_48, i32_49, i32_57, i32_64, i32_80, i32_81, i32_100, i32_101, i32_121, i32_127, i32_128, i32_256, i32_384, i32_400, i32_512, i32_3199, i32_3200, i32_3239, i32_3240, i32_m1] at k0);  show 0 ≤ (Int32.toInt (M1.1 29)); omega), (by   have k0 := c_57; (try simp only [Int32.lt_iff_toInt_lt, Int32.le_iff_toInt_le, ← Int32.toInt_inj, i32_0, i32_1, i32_2, i32_3, i32_4, i32_5, i32_6, i32_7, i32_8, i32_9, i32_10, i32_11, i32_12, i32_16, i32_24, i32_39, i32_40, i32_41, i32_43, i32_44, i32_48, i32_49, i32_57, i32_64, i32_80, i32_81, i32_100, i32_101, i32_121, i32_127, i32_128, i32_256, i32_384, i32_400, i32_512, i32_3199, i32_3200, i32_3239, i32_3240, i32_m1] at k0);  show (Int32.toInt (M1.1 30)) + (Int32.toInt (M1.1 29)) ≤ 40; omega)⟩) hP hS hM hf (lv_sub hl [0, 1] rfl)
    · refine lv_aload_n hx hb d_MO_settle_7 rfl (lv_at hl 0 rfl) ?_
      refine fs_get (v := .ref (ad 28)) hx hb hts hown hK c_MO hP hM.1 28 (by decide) (hts _ (fs_tb_at 1484 tw_1484 rfl)) (fun _ h9 => h9) rfl d_MO_settle_8 ?_
      refine lv_aload_n hx hb d_MO_settle_11 rfl (lv_at hl 0 rfl) ?_
      refine fs_get (v := .int (M1.1 29)) hx hb hts hown hK c_MO hP hM.1 29 (by decide) (hts _ (fs_tb_at 1485 tw_1485 rfl)) (fun _ h9 => h9) rfl d_MO_settle_12 ?_
      refine lv_iconst (v := 1) hx hb d_MO_settle_15 (by decide) ?_
      refine lv_isub hx hb d_MO_settle_16 ?_
      have hi_ : vp_in ((M1.1 29) - 1) 44 := (by   have k0 := c_57; (try simp only [Int32.lt_iff_toInt_lt, Int32.le_iff_toInt_le, ← Int32.toInt_inj, i32_0, i32_1, i32_2, i32_3, i32_4, i32_5, i32_6, i32_7, i32_8, i32_9, i32_10, i32_11, i32_12, i32_16, i32_24, i32_39, i32_40, i32_41, i32_43, i32_44, i32_48, i32_49, i32_57, i32_64, i32_80, i32_81, i32_100, i32_101, i32_121, i32_127, i32_128, i32_256, i32_384, i32_400, i32_512, i32_3199, i32_3200, i32_3239, i32_3240, i32_m1] at k0); have tt1 : Int32.toInt ((M1.1 29) - 1) = (Int32.toInt (M1.1 29)) - 1 := (by rw [i32_sub (by rw [i32_1]; omega), i32_1]); rw [vp_in_iff]; omega)
      refine fs_iald hx hb hK hP 0 (hM.2.1 28 0 44 rfl) rfl hi_ d_MO_settle_17 ?_
      refine fs_cS B hl.1 hP hS (k_MO_strength hSt (M1.2.1 28 (Int32.toNatClampNeg ((M1.1 29) - 1))) ) (fs_tb_at 1601 tw_1601 rfl) (fs_tb_at 1602 tw_1602 rfl) (fs_tb_at 96 tw_96 rfl) (fs_tb_at 1603 tw_1603 rfl) (by decide) (show (parseMethodDescriptor y_MO_strength.desc).map (fun d => d.parameters.length) = some 1 by decide +kernel) rfl d_MO_settle_18 ⟨Nat.le_trans (Nat.le_of_ble_eq_true rfl) hR.1, Nat.le_trans (Nat.le_of_ble_eq_true rfl) hR.2, Nat.zero_le _, Nat.zero_le _⟩ (fun v_ h_ H locs hq hP hS => ?_) (fun C_ a_ h_ H locs hq => absurd hq.1 (fun h9 => by cases h9))
      obtain ⟨ev, eh⟩ := hq
      cases ev
      rw [eh] at hP
      refine W.widen (k := 0) (n := 0) (Nat.le_of_ble_eq_true rfl) (Nat.le_of_ble_eq_true rfl) ?_
      refine W.eq (g2 := F0 m 21 ls (.int (p_MO_strength (M1.2.1 28 (Int32.toNatClampNeg ((M1.1 29) - 1)))) :: [])) rfl ?_
      refine lv_iload_n hx hb d_MO_settle_21 rfl (lv_at hl 1 rfl) ?_
      refine lv_icmp_lt (tgt := 51) hx hb d_MO_settle_22 (by decide) (fun c_58 => ?_) (fun c_58 => ?_)
      · have e_ : p_MO_settle_L0 (n + 1) z1 M1 = (M1) := by rw [p_MO_settle_L0, if_neg c_57, if_pos c_58]
        exact kk  _ _ _ _ _ e_ (⟨(by   have k0 := c_57; (try simp only [Int32.lt_iff_toInt_lt, Int32.le_iff_toInt_le, ← Int32.toInt_inj, i32_0, i32_1, i32_2, i32_3, i32_4, i32_5, i32_6, i32_7, i32_8, i32_9, i32_10, i32_11, i32_12, i32_16, i32_24, i32_39, i32_40, i32_41, i32_43, i32_44, i32_48, i32_49, i32_57, i32_64, i32_80, i32_81, i32_100, i32_101, i32_121, i32_127, i32_128, i32_256, i32_384, i32_400, i32_512, i32_3199, i32_3200, i32_3239, i32_3240, i32_m1] at k0);  show 0 ≤ (Int32.toInt (M1.1 30)); omega), (by   have k0 := c_57; (try simp only [Int32.lt_iff_toInt_lt, Int32.le_iff_toInt_le, ← Int32.toInt_inj, i32_0, i32_1, i32_2, i32_3, i32_4, i32_5, i32_6, i32_7, i32_8, i32_9, i32_10, i32_11, i32_12, i32_16, i32_24, i32_39, i32_40, i32_41, i32_43, i32_44, i32_48, i32_49, i32_57, i32_64, i32_80, i32_81, i32_100, i32_101, i32_121, i32_127, i32_128, i32_256, i32_384, i32_400, i32_512, i32_3199, i32_3200, i32_3239, i32_3240, i32_m1] at k0);  show 0 ≤ (Int32.toInt (M1.1 29)); omega), (by   have k0 := c_57; (try simp only [Int32.lt_iff_toInt_lt, Int32.le_iff_toInt_le, ← Int32.toInt_inj, i32_0, i32_1, i32_2, i32_3, i32_4, i32_5, i32_6, i32_7, i32_8, i32_9, i32_10, i32_11, i32_12, i32_16, i32_24, i32_39, i32_40, i32_41, i32_43, i32_44, i32_48, i32_49, i32_57, i32_64, i32_80, i32_81, i32_100, i32_101, i32_121, i32_127, i32_128, i32_256, i32_384, i32_400, i32_512, i32_3199, i32_3200, i32_3239, i32_3240, i32_m1] at k0);  show (Int32.toInt (M1.1 30)) + (Int32.toInt (M1.1 29)) ≤ 40; omega)⟩) hP hS hM hf (lv_sub hl [0, 1] rfl)
      · refine lv_aload_n hx hb d_MO_settle_25 rfl (lv_at hl 0 rfl) ?_
        refine lv_dup hx hb d_MO_settle_26 rfl ?_
        refine fs_get (v := .int (M1.1 29)) hx hb hts hown hK c_MO hP hM.1 29 (by decide) (hts _ (fs_tb_at 1485 tw_1485 rfl)) (fun _ h9 => h9) rfl d_MO_settle_27 ?_
        refine lv_iconst (v := 1) hx hb d_MO_settle_30 (by decide) ?_
        refine lv_isub hx hb d_MO_settle_31 ?_
        refine fs_put hx hb hts hown hK c_MO hP hS hM.1 29 (by decide) (hts _ (fs_tb_at 1485 tw_1485 rfl)) (fun _ h9 => h9) rfl rfl rfl (Nat.le_of_ble_eq_true rfl) d_MO_settle_32 (fun H locs hP hS => ?_)
        obtain ⟨h59, hP, hM, hf⟩ : ∃ x, fs_P G.1 fs_cl (fs_A s00) x H ∧ mo_at G x a ad (mo_f M1 29 ((M1.1 29) - 1)) ∧ mo_fr a ad h x := ⟨_, hP, hM.F (mo_F29 ad M1 ((M1.1 29) - 1)), hf.self⟩
        refine lv_aload_n hx hb d_MO_settle_35 rfl (lv_at hl 0 rfl) ?_
        refine lv_aload_n hx hb d_MO_settle_36 rfl (lv_at hl 0 rfl) ?_
        refine fs_get (v := .ref (ad 28)) hx hb hts hown hK c_MO hP hM.1 28 (by decide) (hts _ (fs_tb_at 1484 tw_1484 rfl)) (fun _ h9 => h9) rfl d_MO_settle_37 ?_
        refine lv_aload_n hx hb d_MO_settle_40 rfl (lv_at hl 0 rfl) ?_
        refine fs_get (v := .int ((M1.1 29) - 1)) hx hb hts hown hK c_MO hP hM.1 29 (by decide) (hts _ (fs_tb_at 1485 tw_1485 rfl)) (fun _ h9 => h9) rfl d_MO_settle_41 ?_
        have hi_ : vp_in ((M1.1 29) - 1) 44 := (by   have k0 := c_57; (try simp only [Int32.lt_iff_toInt_lt, Int32.le_iff_toInt_le, ← Int32.toInt_inj, i32_0, i32_1, i32_2, i32_3, i32_4, i32_5, i32_6, i32_7, i32_8, i32_9, i32_10, i32_11, i32_12, i32_16, i32_24, i32_39, i32_40, i32_41, i32_43, i32_44, i32_48, i32_49, i32_57, i32_64, i32_80, i32_81, i32_100, i32_101, i32_121, i32_127, i32_128, i32_256, i32_384, i32_400, i32_512, i32_3199, i32_3200, i32_3239, i32_3240, i32_m1] at k0); have tt1 : Int32.toInt ((M1.1 29) - 1) = (Int32.toInt (M1.1 29)) - 1 := (by rw [i32_sub (by rw [i32_1]; omega), i32_1]); rw [vp_in_iff]; omega)
        refine fs_iald hx hb hK hP 0 (hM.2.1 28 0 44 rfl) rfl hi_ d_MO_settle_44 ?_
        refine fs_cV B hl.1 hP hS (k_MO_add hSt hM ((mo_f M1 29 ((M1.1 29) - 1)).2.1 28 (Int32.toNatClampNeg ((M1.1 29) - 1))) (by   have k0 := c_57; (try simp only [Int32.lt_iff_toInt_lt, Int32.le_iff_toInt_le, ← Int32.toInt_inj, i32_0, i32_1, i32_2, i32_3, i32_4, i32_5, i32_6, i32_7, i32_8, i32_9, i32_10, i32_11, i32_12, i32_16, i32_24, i32_39, i32_40, i32_41, i32_43, i32_44, i32_48, i32_49, i32_57, i32_64, i32_80, i32_81, i32_100, i32_101, i32_121, i32_127, i32_128, i32_256, i32_384, i32_400, i32_512, i32_3199, i32_3200, i32_3239, i32_3240, i32_m1] at k0);  show 0 ≤ (Int32.toInt (M1.1 30)); omega) (by   have k0 := c_57; (try simp only [Int32.lt_iff_toInt_lt, Int32.le_iff_toInt_le, ← Int32.toInt_inj, i32_0, i32_1, i32_2, i32_3, i32_4, i32_5, i32_6, i32_7, i32_8, i32_9, i32_10, i32_11, i32_12, i32_16, i32_24, i32_39, i32_40, i32_41, i32_43, i32_44, i32_48, i32_49, i32_57, i32_64, i32_80, i32_81, i32_100, i32_101, i32_121, i32_127, i32_128, i32_256, i32_384, i32_400, i32_512, i32_3199, i32_3200, i32_3239, i32_3240, i32_m1] at k0);  show (Int32.toInt (M1.1 30)) < 40; omega)) (fs_tb_at 1612 tw_1612 rfl) hM.1 rfl (fs_tb_at 1614 tw_1614 rfl) (fs_tb_at 47 tw_47 rfl) (fs_tb_at 96 tw_96 rfl) (fs_tb_at 1615 tw_1615 rfl) (by decide) (show (parseMethodDescriptor y_MO_add.desc).map (fun d => d.parameters.length) = some 1 by decide +kernel) rfl d_MO_settle_45 ⟨Nat.le_trans (Nat.le_of_ble_eq_true rfl) hR.1, Nat.le_trans (Nat.le_of_ble_eq_true rfl) hR.2, Nat.zero_le _, Nat.zero_le _⟩ (fun v_ h_ H locs hq hP hS => ?_) (fun C_ a_ h_ H locs hq => absurd hq.1 (fun h9 => by cases h9))
        obtain ⟨ev, hM, hf2⟩ := hq
        cases ev
        have hf := hf.trans hf2
        obtain ⟨R60, eR60⟩ : ∃ x, x = p_MO_add (mo_f M1 29 ((M1.1 29) - 1)) ((mo_f M1 29 ((M1.1 29) - 1)).2.1 28 (Int32.toNatClampNeg ((M1.1 29) - 1))) := ⟨_, rfl⟩
        rw [← eR60] at hM
        have pf61 : ((Int32.toInt (R60.1 9)) = (Int32.toInt (M1.1 9))) ∧ ((Int32.toInt (R60.1 10)) = (Int32.toInt (M1.1 10))) ∧ ((Int32.toInt (R60.1 11)) = (Int32.toInt (M1.1 11))) ∧ ((Int32.toInt (R60.1 12)) = (Int32.toInt (M1.1 12))) ∧ ((Int32.toInt (R60.1 22)) = (Int32.toInt (M1.1 22))) ∧ ((Int32.toInt (R60.1 23)) = (Int32.toInt (M1.1 23))) ∧ ((Int32.toInt (R60.1 24)) = (Int32.toInt (M1.1 24))) ∧ ((Int32.toInt (R60.1 29)) = (Int32.toInt ((M1.1 29) - 1))) ∧ ((Int32.toInt (R60.1 34)) = (Int32.toInt (M1.1 34))) ∧ ((Int32.toInt (R60.1 35)) = (Int32.toInt (M1.1 35))) ∧ ((Int32.toInt (R60.1 30)) = (Int32.toInt (M1.1 30)) + 1) := by rw [eR60]; exact po_MO_add (mo_f M1 29 ((M1.1 29) - 1)) ((mo_f M1 29 ((M1.1 29) - 1)).2.1 28 (Int32.toNatClampNeg ((M1.1 29) - 1))) (by   have k0 := c_57; (try simp only [Int32.lt_iff_toInt_lt, Int32.le_iff_toInt_le, ← Int32.toInt_inj, i32_0, i32_1, i32_2, i32_3, i32_4, i32_5, i32_6, i32_7, i32_8, i32_9, i32_10, i32_11, i32_12, i32_16, i32_24, i32_39, i32_40, i32_41, i32_43, i32_44, i32_48, i32_49, i32_57, i32_64, i32_80, i32_81, i32_100, i32_101, i32_121, i32_127, i32_128, i32_256, i32_384, i32_400, i32_512, i32_3199, i32_3200, i32_3239, i32_3240, i32_m1] at k0);  show 0 ≤ (Int32.toInt (M1.1 30)); omega) (by   have k0 := c_57; (try simp only [Int32.lt_iff_toInt_lt, Int32.le_iff_toInt_le, ← Int32.toInt_inj, i32_0, i32_1, i32_2, i32_3, i32_4, i32_5, i32_6, i32_7, i32_8, i32_9, i32_10, i32_11, i32_12, i32_16, i32_24, i32_39, i32_40, i32_41, i32_43, i32_44, i32_48, i32_49, i32_57, i32_64, i32_80, i32_81, i32_100, i32_101, i32_121, i32_127, i32_128, i32_256, i32_384, i32_400, i32_512, i32_3199, i32_3200, i32_3239, i32_3240, i32_m1] at k0);  show (Int32.toInt (M1.1 30)) < 40; omega)
        refine W.widen (k := 0) (n := 0) (Nat.le_of_ble_eq_true rfl) (Nat.le_of_ble_eq_true rfl) ?_
        refine W.eq (g2 := F0 m 48 ls ([])) rfl ?_
        refine lv_goto (tgt := 0) hx hb d_MO_settle_48 (by decide) ?_
        have e_ : p_MO_settle_L0 (n + 1) z1 M1 = p_MO_settle_L0 n z1 R60 := by rw [p_MO_settle_L0, if_neg c_57, if_neg c_58, ← eR60]
        exact ih z1 R60 _ _ _ _ (by   have k0 := c_57; (try simp only [Int32.lt_iff_toInt_lt, Int32.le_iff_toInt_le, ← Int32.toInt_inj, i32_0, i32_1, i32_2, i32_3, i32_4, i32_5, i32_6, i32_7, i32_8, i32_9, i32_10, i32_11, i32_12, i32_16, i32_24, i32_39, i32_40, i32_41, i32_43, i32_44, i32_48, i32_49, i32_57, i32_64, i32_80, i32_81, i32_100, i32_101, i32_121, i32_127, i32_128, i32_256, i32_384, i32_400, i32_512, i32_3199, i32_3200, i32_3239, i32_3240, i32_m1] at k0); have tt1 : Int32.toInt ((M1.1 29) - 1) = (Int32.toInt (M1.1 29)) - 1 := (by rw [i32_sub (by rw [i32_1]; omega), i32_1]); show ((Int32.toInt (R60.1 29))).toNat < n; omega) (⟨(by   have k0 := c_57; (try simp only [Int32.lt_iff_toInt_lt, Int32.le_iff_toInt_le, ← Int32.toInt_inj, i32_0, i32_1, i32_2, i32_3, i32_4, i32_5, i32_6, i32_7, i32_8, i32_9, i32_10, i32_11, i32_12, i32_16, i32_24, i32_39, i32_40, i32_41, i32_43, i32_44, i32_48, i32_49, i32_57, i32_64, i32_80, i32_81, i32_100, i32_101, i32_121, i32_127, i32_128, i32_256, i32_384, i32_400, i32_512, i32_3199, i32_3200, i32_3239, i32_3240, i32_m1] at k0); have tt1 : Int32.toInt ((M1.1 29) - 1) = (Int32.toInt (M1.1 29)) - 1 := (by rw [i32_sub (by rw [i32_1]; omega), i32_1]); show 0 ≤ (Int32.toInt (R60.1 30)); omega), (by   have k0 := c_57; (try simp only [Int32.lt_iff_toInt_lt, Int32.le_iff_toInt_le, ← Int32.toInt_inj, i32_0, i32_1, i32_2, i32_3, i32_4, i32_5, i32_6, i32_7, i32_8, i32_9, i32_10, i32_11, i32_12, i32_16, i32_24, i32_39, i32_40, i32_41, i32_43, i32_44, i32_48, i32_49, i32_57, i32_64, i32_80, i32_81, i32_100, i32_101, i32_121, i32_127, i32_128, i32_256, i32_384, i32_400, i32_512, i32_3199, i32_3200, i32_3239, i32_3240, i32_m1] at k0); have tt1 : Int32.toInt ((M1.1 29) - 1) = (Int32.toInt (M1.1 29)) - 1 := (by rw [i32_sub (by rw [i32_1]; omega), i32_1]); show 0 ≤ (Int32.toInt (R60.1 29)); omega), (by   have k0 := c_57; (try simp only [Int32.lt_iff_toInt_lt, Int32.le_iff_toInt_le, ← Int32.toInt_inj, i32_0, i32_1, i32_2, i32_3, i32_4, i32_5, i32_6, i32_7, i32_8, i32_9, i32_10, i32_11, i32_12, i32_16, i32_24, i32_39, i32_40, i32_41, i32_43, i32_44, i32_48, i32_49, i32_57, i32_64, i32_80, i32_81, i32_100, i32_101, i32_121, i32_127, i32_128, i32_256, i32_384, i32_400, i32_512, i32_3199, i32_3200, i32_3239, i32_3240, i32_m1] at k0); have tt1 : Int32.toInt ((M1.1 29) - 1) = (Int32.toInt (M1.1 29)) - 1 := (by rw [i32_sub (by rw [i32_1]; omega), i32_1]); show (Int32.toInt (R60.1 30)) + (Int32.toInt (R60.1 29)) ≤ 40; omega)⟩) hP hS hM hf (lv_sub hl [0, 1] rfl) (fun  M_ h_ H locs ls h9 => kk  M_ h_ H locs ls (e_.trans h9))
set_option maxHeartbeats 4000000 in
set_option maxRecDepth 100000 in
theorem k_MO_settle {l : Launch} {s00 : State} {G : fs_G} (hSt : fs_St l s00 G) {h : fs_Hp} {a : Nat} {ad : Nat → Nat} {M : mo_S} (hM : mo_at G h a ad M) (x1 : Int32) (b1 : 0 ≤ (Int32.toInt (M.1 30))) (b2 : 0 ≤ (Int32.toInt (M.1 29))) (b3 : (Int32.toInt (M.1 30)) + (Int32.toInt (M.1 29)) ≤ 40)  : fs_Ct l s00 G y_MO_settle (.code y_MO_settle b_MO_settle 2 none) { frames := 1, cells := 0, slots := 0, locals := 13 } [.ref a, .int x1] h (fun o h' => o = .inl none ∧ mo_at G h' a ad (p_MO_settle M x1) ∧ mo_fr a ad h h') := by
  refine fs_Ct.ofW hSt (by decide) ?_
  intro p e s m below meth c B hout hP
  obtain ⟨hx, hb, hr, hml, hown, hts, hlocks, hname, hK, hw, htr⟩ := id B
  have hown : s.vm.findClass "FormulaSheetModel" = some m.cls := hown
  have hS := hw.S
  have hA : ∀ q : Nat, s00.heap.size ≤ q → fs_A s00 q := fun _ h9 => h9
  generalize hH : s.heap = H at hP hS ⊢
  have hH0 : s.heap.size ≤ H.size := by rw [hH]; exact Nat.le_refl _
  have hl := lv_entry ([.ref a, .int x1]) (n := 2) (Nat.le_of_ble_eq_true rfl)
  rw [lg_entry_eq]
  generalize (lg_sl ([.ref a, .int x1]) ++ List.replicate (2 - (lg_sl ([.ref a, .int x1])).length) Slot.unset).toArray = ls at hl ⊢
  have hl : lv_has ls 2 [(0, .ref a), (1, .int x1)] := hl
  have hf : mo_fr a ad h h := mo_fr.rf
  refine l_MO_settle_0 hSt B (by exact ⟨Nat.le_of_ble_eq_true rfl, Nat.le_of_ble_eq_true rfl⟩) (45) x1 M _ _ _ _ (by     show ((Int32.toInt (M.1 29))).toNat < 45; omega) (⟨(by     show 0 ≤ (Int32.toInt (M.1 30)); omega), (by     show 0 ≤ (Int32.toInt (M.1 29)); omega), (by     show (Int32.toInt (M.1 30)) + (Int32.toInt (M.1 29)) ≤ 40; omega)⟩) hP hS hM hf (lv_sub hl [0, 1] rfl) (fun  M62 h_ H locs ls he_63 hI hP hS hM hf hl => ?_)
  have e_ : p_MO_settle M x1 = M62 := by rw [p_MO_settle, he_63]
  exact fs_vret hx hb hr hlocks hw hP hS  (by omega) (by omega) (⟨rfl, by rw [e_]; exact hM, hf⟩) d_MO_settle_51
def p_MO_readReference (M : mo_S)  : Int32 × mo_S := (if ((p_MO_here M).1) = 36 then (if ((p_MO_here (mo_f M 22 ((M.1 22) + 1))).1) < 97 then ((-1), (mo_f M 22 ((M.1 22) + 1))) else (if ((p_MO_here (mo_f M 22 ((M.1 22) + 1))).1) ≤ 104 then (if ((p_MO_here (mo_f (mo_f M 22 ((M.1 22) + 1)) 22 (((M.1 22) + 1) + 1))).1) = 36 then (if (p_MO_digit ((p_MO_here (mo_f (mo_f (mo_f M 22 ((M.1 22) + 1)) 22 (((M.1 22) + 1) + 1)) 22 ((((M.1 22) + 1) + 1) + 1))).1)) = 0 then ((-1), (mo_f (mo_f (mo_f M 22 ((M.1 22) + 1)) 22 (((M.1 22) + 1) + 1)) 22 ((((M.1 22) + 1) + 1) + 1))) else (if ((p_MO_here (mo_f (mo_f (mo_f M 22 ((M.1 22) + 1)) 22 (((M.1 22) + 1) + 1)) 22 ((((M.1 22) + 1) + 1) + 1))).1) = 48 then ((-1), (mo_f (mo_f (mo_f M 22 ((M.1 22) + 1)) 22 (((M.1 22) + 1) + 1)) 22 ((((M.1 22) + 1) + 1) + 1))) else (if (((p_MO_here (mo_f (mo_f (mo_f M 22 ((M.1 22) + 1)) 22 (((M.1 22) + 1) + 1)) 22 ((((M.1 22) + 1) + 1) + 1))).1) - 49) = 0 then (if ((p_MO_here (mo_f (mo_f (mo_f (mo_f M 22 ((M.1 22) + 1)) 22 (((M.1 22) + 1) + 1)) 22 ((((M.1 22) + 1) + 1) + 1)) 22 (((((M.1 22) + 1) + 1) + 1) + 1))).1) = 48 then (((128 + (((p_MO_here (mo_f M 22 ((M.1 22) + 1))).1) - 97)) + 256) + (8 * 9), (mo_f (mo_f (mo_f (mo_f (mo_f M 22 ((M.1 22) + 1)) 22 (((M.1 22) + 1) + 1)) 22 ((((M.1 22) + 1) + 1) + 1)) 22 (((((M.1 22) + 1) + 1) + 1) + 1)) 22 ((((((M.1 22) + 1) + 1) + 1) + 1) + 1))) else (((128 + (((p_MO_here (mo_f M 22 ((M.1 22) + 1))).1) - 97)) + 256) + (8 * (((p_MO_here (mo_f (mo_f (mo_f M 22 ((M.1 22) + 1)) 22 (((M.1 22) + 1) + 1)) 22 ((((M.1 22) + 1) + 1) + 1))).1) - 49)), (mo_f (mo_f (mo_f (mo_f M 22 ((M.1 22) + 1)) 22 (((M.1 22) + 1) + 1)) 22 ((((M.1 22) + 1) + 1) + 1)) 22 (((((M.1 22) + 1) + 1) + 1) + 1)))) else (((128 + (((p_MO_here (mo_f M 22 ((M.1 22) + 1))).1) - 97)) + 256) + (8 * (((p_MO_here (mo_f (mo_f (mo_f M 22 ((M.1 22) + 1)) 22 (((M.1 22) + 1) + 1)) 22 ((((M.1 22) + 1) + 1) + 1))).1) - 49)), (mo_f (mo_f (mo_f (mo_f M 22 ((M.1 22) + 1)) 22 (((M.1 22) + 1) + 1)) 22 ((((M.1 22) + 1) + 1) + 1)) 22 (((((M.1 22) + 1) + 1) + 1) + 1)))))) else (if (p_MO_digit ((p_MO_here (mo_f (mo_f M 22 ((M.1 22) + 1)) 22 (((M.1 22) + 1) + 1))).1)) = 0 then ((-1), (mo_f (mo_f M 22 ((M.1 22) + 1)) 22 (((M.1 22) + 1) + 1))) else (if ((p_MO_here (mo_f (mo_f M 22 ((M.1 22) + 1)) 22 (((M.1 22) + 1) + 1))).1) = 48 then ((-1), (mo_f (mo_f M 22 ((M.1 22) + 1)) 22 (((M.1 22) + 1) + 1))) else (if (((p_MO_here (mo_f (mo_f M 22 ((M.1 22) + 1)) 22 (((M.1 22) + 1) + 1))).1) - 49) = 0 then (if ((p_MO_here (mo_f (mo_f (mo_f M 22 ((M.1 22) + 1)) 22 (((M.1 22) + 1) + 1)) 22 ((((M.1 22) + 1) + 1) + 1))).1) = 48 then ((128 + (((p_MO_here (mo_f M 22 ((M.1 22) + 1))).1) - 97)) + (8 * 9), (mo_f (mo_f (mo_f (mo_f M 22 ((M.1 22) + 1)) 22 (((M.1 22) + 1) + 1)) 22 ((((M.1 22) + 1) + 1) + 1)) 22 (((((M.1 22) + 1) + 1) + 1) + 1))) else ((128 + (((p_MO_here (mo_f M 22 ((M.1 22) + 1))).1) - 97)) + (8 * (((p_MO_here (mo_f (mo_f M 22 ((M.1 22) + 1)) 22 (((M.1 22) + 1) + 1))).1) - 49)), (mo_f (mo_f (mo_f M 22 ((M.1 22) + 1)) 22 (((M.1 22) + 1) + 1)) 22 ((((M.1 22) + 1) + 1) + 1)))) else ((128 + (((p_MO_here (mo_f M 22 ((M.1 22) + 1))).1) - 97)) + (8 * (((p_MO_here (mo_f (mo_f M 22 ((M.1 22) + 1)) 22 (((M.1 22) + 1) + 1))).1) - 49)), (mo_f (mo_f (mo_f M 22 ((M.1 22) + 1)) 22 (((M.1 22) + 1) + 1)) 22 ((((M.1 22) + 1) + 1) + 1))))))) else ((-1), (mo_f M 22 ((M.1 22) + 1))))) else (if ((p_MO_here M).1) < 97 then ((-1), M) else (if ((p_MO_here M).1) ≤ 104 then (if ((p_MO_here (mo_f M 22 ((M.1 22) + 1))).1) = 36 then (if (p_MO_digit ((p_MO_here (mo_f (mo_f M 22 ((M.1 22) + 1)) 22 (((M.1 22) + 1) + 1))).1)) = 0 then ((-1), (mo_f (mo_f M 22 ((M.1 22) + 1)) 22 (((M.1 22) + 1) + 1))) else (if ((p_MO_here (mo_f (mo_f M 22 ((M.1 22) + 1)) 22 (((M.1 22) + 1) + 1))).1) = 48 then ((-1), (mo_f (mo_f M 22 ((M.1 22) + 1)) 22 (((M.1 22) + 1) + 1))) else (if (((p_MO_here (mo_f (mo_f M 22 ((M.1 22) + 1)) 22 (((M.1 22) + 1) + 1))).1) - 49) = 0 then (if ((p_MO_here (mo_f (mo_f (mo_f M 22 ((M.1 22) + 1)) 22 (((M.1 22) + 1) + 1)) 22 ((((M.1 22) + 1) + 1) + 1))).1) = 48 then (((0 + (((p_MO_here M).1) - 97)) + 256) + (8 * 9), (mo_f (mo_f (mo_f (mo_f M 22 ((M.1 22) + 1)) 22 (((M.1 22) + 1) + 1)) 22 ((((M.1 22) + 1) + 1) + 1)) 22 (((((M.1 22) + 1) + 1) + 1) + 1))) else (((0 + (((p_MO_here M).1) - 97)) + 256) + (8 * (((p_MO_here (mo_f (mo_f M 22 ((M.1 22) + 1)) 22 (((M.1 22) + 1) + 1))).1) - 49)), (mo_f (mo_f (mo_f M 22 ((M.1 22) + 1)) 22 (((M.1 22) + 1) + 1)) 22 ((((M.1 22) + 1) + 1) + 1)))) else (((0 + (((p_MO_here M).1) - 97)) + 256) + (8 * (((p_MO_here (mo_f (mo_f M 22 ((M.1 22) + 1)) 22 (((M.1 22) + 1) + 1))).1) - 49)), (mo_f (mo_f (mo_f M 22 ((M.1 22) + 1)) 22 (((M.1 22) + 1) + 1)) 22 ((((M.1 22) + 1) + 1) + 1)))))) else (if (p_MO_digit ((p_MO_here (mo_f M 22 ((M.1 22) + 1))).1)) = 0 then ((-1), (mo_f M 22 ((M.1 22) + 1))) else (if ((p_MO_here (mo_f M 22 ((M.1 22) + 1))).1) = 48 then ((-1), (mo_f M 22 ((M.1 22) + 1))) else (if (((p_MO_here (mo_f M 22 ((M.1 22) + 1))).1) - 49) = 0 then (if ((p_MO_here (mo_f (mo_f M 22 ((M.1 22) + 1)) 22 (((M.1 22) + 1) + 1))).1) = 48 then ((0 + (((p_MO_here M).1) - 97)) + (8 * 9), (mo_f (mo_f (mo_f M 22 ((M.1 22) + 1)) 22 (((M.1 22) + 1) + 1)) 22 ((((M.1 22) + 1) + 1) + 1))) else ((0 + (((p_MO_here M).1) - 97)) + (8 * (((p_MO_here (mo_f M 22 ((M.1 22) + 1))).1) - 49)), (mo_f (mo_f M 22 ((M.1 22) + 1)) 22 (((M.1 22) + 1) + 1)))) else ((0 + (((p_MO_here M).1) - 97)) + (8 * (((p_MO_here (mo_f M 22 ((M.1 22) + 1))).1) - 49)), (mo_f (mo_f M 22 ((M.1 22) + 1)) 22 (((M.1 22) + 1) + 1))))))) else ((-1), M))))
set_option maxHeartbeats 4000000 in
set_option maxRecDepth 100000 in
theorem k_MO_readReference {l : Launch} {s00 : State} {G : fs_G} (hSt : fs_St l s00 G) {h : fs_Hp} {a : Nat} {ad : Nat → Nat} {M : mo_S} (hM : mo_at G h a ad M)  (b1 : 0 ≤ (Int32.toInt (M.1 22))) (b2 : (Int32.toInt (M.1 22)) ≤ 100) (b3 : (Int32.toInt (M.1 9)) ≤ 40)  : fs_Ct l s00 G y_MO_readReference (.code y_MO_readReference b_MO_readReference 3 (some .int)) { frames := 1, cells := 0, slots := 0, locals := 13 } [.ref a] h (fun o h' => o = .inl (some (.int (p_MO_readReference M).1)) ∧ mo_at G h' a ad (p_MO_readReference M).2 ∧ mo_fr a ad h h') := by
  refine fs_Ct.ofW hSt (by decide) ?_
  intro p e s m below meth c B hout hP
  obtain ⟨hx, hb, hr, hml, hown, hts, hlocks, hname, hK, hw, htr⟩ := id B
  have hown : s.vm.findClass "FormulaSheetModel" = some m.cls := hown
  have hS := hw.S
  have hA : ∀ q : Nat, s00.heap.size ≤ q → fs_A s00 q := fun _ h9 => h9
  generalize hH : s.heap = H at hP hS ⊢
  have hH0 : s.heap.size ≤ H.size := by rw [hH]; exact Nat.le_refl _
  have hl := lv_entry ([.ref a]) (n := 3) (Nat.le_of_ble_eq_true rfl)
  rw [lg_entry_eq]
  generalize (lg_sl ([.ref a]) ++ List.replicate (3 - (lg_sl ([.ref a])).length) Slot.unset).toArray = ls at hl ⊢
  have hl : lv_has ls 3 [(0, .ref a)] := hl
  have hf : mo_fr a ad h h := mo_fr.rf
  refine lv_iconst (v := 0) hx hb d_MO_readReference_0 (by decide) ?_
  refine lv_istore_n (lv' := [(1, .int 0), (0, .ref a)]) hx hb d_MO_readReference_1 rfl hl (by decide) rfl (fun ls hl => ?_)
  refine lv_aload_n hx hb d_MO_readReference_2 rfl (lv_at hl 1 rfl) ?_
  refine fs_cV B hl.1 hP hS (k_MO_here hSt hM  (by     show 0 ≤ (Int32.toInt (M.1 22)); omega) (by     show (Int32.toInt (M.1 9)) ≤ 40; omega)) (fs_tb_at 1597 tw_1597 rfl) hM.1 rfl (fs_tb_at 1599 tw_1599 rfl) (fs_tb_at 44 tw_44 rfl) (fs_tb_at 96 tw_96 rfl) (fs_tb_at 1600 tw_1600 rfl) (by decide) (show (parseMethodDescriptor y_MO_here.desc).map (fun d => d.parameters.length) = some 0 by decide +kernel) rfl d_MO_readReference_3 ⟨Nat.le_of_ble_eq_true rfl, Nat.le_of_ble_eq_true rfl, Nat.le_of_ble_eq_true rfl, Nat.le_of_ble_eq_true rfl⟩ (fun v_ h_ H locs hq hP hS => ?_) (fun C_ a_ h_ H locs hq => absurd hq.1 (fun h9 => by cases h9))
  obtain ⟨ev, hM, hf2⟩ := hq
  cases ev
  have hf := hf.trans hf2
  rw [ke_MO_here] at hM
  refine W.widen (k := 0) (n := 0) (Nat.le_of_ble_eq_true rfl) (Nat.le_of_ble_eq_true rfl) ?_
  refine W.eq (g2 := F0 m 6 ls (.int ((p_MO_here M).1) :: [])) rfl ?_
  refine lv_bipush (v := 36) hx hb d_MO_readReference_6 (by decide) ?_
  refine lv_icmp_ne (tgt := 25) hx hb d_MO_readReference_8 (by decide) (fun c_64 => ?_) (fun c_64 => ?_)
  · refine lv_aload_n hx hb d_MO_readReference_25 rfl (lv_at hl 1 rfl) ?_
    refine fs_cV B hl.1 hP hS (k_MO_here hSt hM  (by have i32_36 : Int32.toInt 36 = 36 := (by decide);    show 0 ≤ (Int32.toInt (M.1 22)); omega) (by have i32_36 : Int32.toInt 36 = 36 := (by decide);    show (Int32.toInt (M.1 9)) ≤ 40; omega)) (fs_tb_at 1597 tw_1597 rfl) hM.1 rfl (fs_tb_at 1599 tw_1599 rfl) (fs_tb_at 44 tw_44 rfl) (fs_tb_at 96 tw_96 rfl) (fs_tb_at 1600 tw_1600 rfl) (by decide) (show (parseMethodDescriptor y_MO_here.desc).map (fun d => d.parameters.length) = some 0 by decide +kernel) rfl d_MO_readReference_26 ⟨Nat.le_of_ble_eq_true rfl, Nat.le_of_ble_eq_true rfl, Nat.le_of_ble_eq_true rfl, Nat.le_of_ble_eq_true rfl⟩ (fun v_ h_ H locs hq hP hS => ?_) (fun C_ a_ h_ H locs hq => absurd hq.1 (fun h9 => by cases h9))
    obtain ⟨ev, hM, hf2⟩ := hq
    cases ev
    have hf := hf.trans hf2
    rw [ke_MO_here] at hM
    refine W.widen (k := 0) (n := 0) (Nat.le_of_ble_eq_true rfl) (Nat.le_of_ble_eq_true rfl) ?_
    refine W.eq (g2 := F0 m 29 ls (.int ((p_MO_here M).1) :: [])) rfl ?_
    refine lv_bipush (v := 97) hx hb d_MO_readReference_29 (by decide) ?_
    refine lv_icmp_lt (tgt := 43) hx hb d_MO_readReference_31 (by decide) (fun c_65 => ?_) (fun c_65 => ?_)
    · refine lv_iconst (v := (-1)) hx hb d_MO_readReference_43 (by decide) ?_
      have e_ : p_MO_readReference M = ((-1), M) := by rw [p_MO_readReference, if_neg c_64, if_pos c_65]
      exact fs_iret hx hb hr hlocks hw hP hS (by first | rfl | exact vp_nar_int _) (by omega) (by omega) (⟨by rw [e_], by rw [e_]; exact hM, hf⟩) d_MO_readReference_44
    · refine lv_aload_n hx hb d_MO_readReference_34 rfl (lv_at hl 1 rfl) ?_
      refine fs_cV B hl.1 hP hS (k_MO_here hSt hM  (by have i32_97 : Int32.toInt 97 = 97 := (by decide); have i32_36 : Int32.toInt 36 = 36 := (by decide);    show 0 ≤ (Int32.toInt (M.1 22)); omega) (by have i32_97 : Int32.toInt 97 = 97 := (by decide); have i32_36 : Int32.toInt 36 = 36 := (by decide);    show (Int32.toInt (M.1 9)) ≤ 40; omega)) (fs_tb_at 1597 tw_1597 rfl) hM.1 rfl (fs_tb_at 1599 tw_1599 rfl) (fs_tb_at 44 tw_44 rfl) (fs_tb_at 96 tw_96 rfl) (fs_tb_at 1600 tw_1600 rfl) (by decide) (show (parseMethodDescriptor y_MO_here.desc).map (fun d => d.parameters.length) = some 0 by decide +kernel) rfl d_MO_readReference_35 ⟨Nat.le_of_ble_eq_true rfl, Nat.le_of_ble_eq_true rfl, Nat.le_of_ble_eq_true rfl, Nat.le_of_ble_eq_true rfl⟩ (fun v_ h_ H locs hq hP hS => ?_) (fun C_ a_ h_ H locs hq => absurd hq.1 (fun h9 => by cases h9))
      obtain ⟨ev, hM, hf2⟩ := hq
      cases ev
      have hf := hf.trans hf2
      rw [ke_MO_here] at hM
      refine W.widen (k := 0) (n := 0) (Nat.le_of_ble_eq_true rfl) (Nat.le_of_ble_eq_true rfl) ?_
      refine W.eq (g2 := F0 m 38 ls (.int ((p_MO_here M).1) :: [])) rfl ?_
      refine lv_bipush (v := 104) hx hb d_MO_readReference_38 (by decide) ?_
      refine lv_icmp_le (tgt := 45) hx hb d_MO_readReference_40 (by decide) (fun c_66 => ?_) (fun c_66 => ?_)
      · refine lv_iload_n hx hb d_MO_readReference_45 rfl (lv_at hl 0 rfl) ?_
        refine lv_aload_n hx hb d_MO_readReference_46 rfl (lv_at hl 1 rfl) ?_
        refine fs_cV B hl.1 hP hS (k_MO_here hSt hM  (by have i32_104 : Int32.toInt 104 = 104 := (by decide); have i32_97 : Int32.toInt 97 = 97 := (by decide); have i32_36 : Int32.toInt 36 = 36 := (by decide);    show 0 ≤ (Int32.toInt (M.1 22)); omega) (by have i32_104 : Int32.toInt 104 = 104 := (by decide); have i32_97 : Int32.toInt 97 = 97 := (by decide); have i32_36 : Int32.toInt 36 = 36 := (by decide);    show (Int32.toInt (M.1 9)) ≤ 40; omega)) (fs_tb_at 1597 tw_1597 rfl) hM.1 rfl (fs_tb_at 1599 tw_1599 rfl) (fs_tb_at 44 tw_44 rfl) (fs_tb_at 96 tw_96 rfl) (fs_tb_at 1600 tw_1600 rfl) (by decide) (show (parseMethodDescriptor y_MO_here.desc).map (fun d => d.parameters.length) = some 0 by decide +kernel) rfl d_MO_readReference_47 ⟨Nat.le_of_ble_eq_true rfl, Nat.le_of_ble_eq_true rfl, Nat.le_of_ble_eq_true rfl, Nat.le_of_ble_eq_true rfl⟩ (fun v_ h_ H locs hq hP hS => ?_) (fun C_ a_ h_ H locs hq => absurd hq.1 (fun h9 => by cases h9))
        obtain ⟨ev, hM, hf2⟩ := hq
        cases ev
        have hf := hf.trans hf2
        rw [ke_MO_here] at hM
        refine W.widen (k := 0) (n := 0) (Nat.le_of_ble_eq_true rfl) (Nat.le_of_ble_eq_true rfl) ?_
        refine W.eq (g2 := F0 m 50 ls (.int ((p_MO_here M).1) :: .int 0 :: [])) rfl ?_
        refine lv_bipush (v := 97) hx hb d_MO_readReference_50 (by decide) ?_
        refine lv_isub hx hb d_MO_readReference_52 ?_
        refine lv_iadd hx hb d_MO_readReference_53 ?_
        refine lv_istore_n (lv' := [(1, .int (0 + (((p_MO_here M).1) - 97))), (0, .ref a)]) hx hb d_MO_readReference_54 rfl hl (by decide) rfl (fun ls hl => ?_)
        refine lv_aload_n hx hb d_MO_readReference_55 rfl (lv_at hl 1 rfl) ?_
        refine lv_dup hx hb d_MO_readReference_56 rfl ?_
        refine fs_get (v := .int (M.1 22)) hx hb hts hown hK c_MO hP hM.1 22 (by decide) (hts _ (fs_tb_at 1478 tw_1478 rfl)) (fun _ h9 => h9) rfl d_MO_readReference_57 ?_
        refine lv_iconst (v := 1) hx hb d_MO_readReference_60 (by decide) ?_
        refine lv_iadd hx hb d_MO_readReference_61 ?_
        refine fs_put hx hb hts hown hK c_MO hP hS hM.1 22 (by decide) (hts _ (fs_tb_at 1478 tw_1478 rfl)) (fun _ h9 => h9) rfl rfl rfl (Nat.le_of_ble_eq_true rfl) d_MO_readReference_62 (fun H locs hP hS => ?_)
        obtain ⟨h67, hP, hM, hf⟩ : ∃ x, fs_P G.1 fs_cl (fs_A s00) x H ∧ mo_at G x a ad (mo_f M 22 ((M.1 22) + 1)) ∧ mo_fr a ad h x := ⟨_, hP, hM.F (mo_F22 ad M ((M.1 22) + 1)), hf.self⟩
        refine lv_aload_n hx hb d_MO_readReference_65 rfl (lv_at hl 1 rfl) ?_
        refine fs_cV B hl.1 hP hS (k_MO_here hSt hM  (by have i32_104 : Int32.toInt 104 = 104 := (by decide); have i32_97 : Int32.toInt 97 = 97 := (by decide); have i32_36 : Int32.toInt 36 = 36 := (by decide);   have tt1 : Int32.toInt ((M.1 22) + 1) = (Int32.toInt (M.1 22)) + 1 := (by rw [i32_add (by rw [i32_1]; omega), i32_1]); show 0 ≤ (Int32.toInt ((M.1 22) + 1)); omega) (by have i32_104 : Int32.toInt 104 = 104 := (by decide); have i32_97 : Int32.toInt 97 = 97 := (by decide); have i32_36 : Int32.toInt 36 = 36 := (by decide);    show (Int32.toInt (M.1 9)) ≤ 40; omega)) (fs_tb_at 1597 tw_1597 rfl) hM.1 rfl (fs_tb_at 1599 tw_1599 rfl) (fs_tb_at 44 tw_44 rfl) (fs_tb_at 96 tw_96 rfl) (fs_tb_at 1600 tw_1600 rfl) (by decide) (show (parseMethodDescriptor y_MO_here.desc).map (fun d => d.parameters.length) = some 0 by decide +kernel) rfl d_MO_readReference_66 ⟨Nat.le_of_ble_eq_true rfl, Nat.le_of_ble_eq_true rfl, Nat.le_of_ble_eq_true rfl, Nat.le_of_ble_eq_true rfl⟩ (fun v_ h_ H locs hq hP hS => ?_) (fun C_ a_ h_ H locs hq => absurd hq.1 (fun h9 => by cases h9))
        obtain ⟨ev, hM, hf2⟩ := hq
        cases ev
        have hf := hf.trans hf2
        rw [ke_MO_here] at hM
        refine W.widen (k := 0) (n := 0) (Nat.le_of_ble_eq_true rfl) (Nat.le_of_ble_eq_true rfl) ?_
        refine W.eq (g2 := F0 m 69 ls (.int ((p_MO_here (mo_f M 22 ((M.1 22) + 1))).1) :: [])) rfl ?_
        refine lv_bipush (v := 36) hx hb d_MO_readReference_69 (by decide) ?_
        refine lv_icmp_ne (tgt := 90) hx hb d_MO_readReference_71 (by decide) (fun c_68 => ?_) (fun c_68 => ?_)
        · refine lv_aload_n hx hb d_MO_readReference_90 rfl (lv_at hl 1 rfl) ?_
          refine fs_cV B hl.1 hP hS (k_MO_here hSt hM  (by have i32_104 : Int32.toInt 104 = 104 := (by decide); have i32_97 : Int32.toInt 97 = 97 := (by decide); have i32_36 : Int32.toInt 36 = 36 := (by decide);   have tt1 : Int32.toInt ((M.1 22) + 1) = (Int32.toInt (M.1 22)) + 1 := (by rw [i32_add (by rw [i32_1]; omega), i32_1]); show 0 ≤ (Int32.toInt ((M.1 22) + 1)); omega) (by have i32_104 : Int32.toInt 104 = 104 := (by decide); have i32_97 : Int32.toInt 97 = 97 := (by decide); have i32_36 : Int32.toInt 36 = 36 := (by decide);    show (Int32.toInt (M.1 9)) ≤ 40; omega)) (fs_tb_at 1597 tw_1597 rfl) hM.1 rfl (fs_tb_at 1599 tw_1599 rfl) (fs_tb_at 44 tw_44 rfl) (fs_tb_at 96 tw_96 rfl) (fs_tb_at 1600 tw_1600 rfl) (by decide) (show (parseMethodDescriptor y_MO_here.desc).map (fun d => d.parameters.length) = some 0 by decide +kernel) rfl d_MO_readReference_91 ⟨Nat.le_of_ble_eq_true rfl, Nat.le_of_ble_eq_true rfl, Nat.le_of_ble_eq_true rfl, Nat.le_of_ble_eq_true rfl⟩ (fun v_ h_ H locs hq hP hS => ?_) (fun C_ a_ h_ H locs hq => absurd hq.1 (fun h9 => by cases h9))
          obtain ⟨ev, hM, hf2⟩ := hq
          cases ev
          have hf := hf.trans hf2
          rw [ke_MO_here] at hM
          refine W.widen (k := 0) (n := 0) (Nat.le_of_ble_eq_true rfl) (Nat.le_of_ble_eq_true rfl) ?_
          refine W.eq (g2 := F0 m 94 ls (.int ((p_MO_here (mo_f M 22 ((M.1 22) + 1))).1) :: [])) rfl ?_
          refine fs_cS B hl.1 hP hS (k_MO_digit hSt ((p_MO_here (mo_f M 22 ((M.1 22) + 1))).1) ) (fs_tb_at 1624 tw_1624 rfl) (fs_tb_at 1625 tw_1625 rfl) (fs_tb_at 96 tw_96 rfl) (fs_tb_at 1626 tw_1626 rfl) (by decide) (show (parseMethodDescriptor y_MO_digit.desc).map (fun d => d.parameters.length) = some 1 by decide +kernel) rfl d_MO_readReference_94 ⟨Nat.le_of_ble_eq_true rfl, Nat.le_of_ble_eq_true rfl, Nat.le_of_ble_eq_true rfl, Nat.le_of_ble_eq_true rfl⟩ (fun v_ h_ H locs hq hP hS => ?_) (fun C_ a_ h_ H locs hq => absurd hq.1 (fun h9 => by cases h9))
          obtain ⟨ev, eh⟩ := hq
          cases ev
          rw [eh] at hP
          refine W.widen (k := 0) (n := 0) (Nat.le_of_ble_eq_true rfl) (Nat.le_of_ble_eq_true rfl) ?_
          refine W.eq (g2 := F0 m 97 ls (.int (p_MO_digit ((p_MO_here (mo_f M 22 ((M.1 22) + 1))).1)) :: [])) rfl ?_
          refine lv_if_eq (tgt := 109) hx hb d_MO_readReference_97 (by decide) (fun c_69 => ?_) (fun c_69 => ?_)
          · refine lv_iconst (v := (-1)) hx hb d_MO_readReference_109 (by decide) ?_
            have e_ : p_MO_readReference M = ((-1), (mo_f M 22 ((M.1 22) + 1))) := by rw [p_MO_readReference, if_neg c_64, if_neg c_65, if_pos c_66, if_neg c_68, if_pos c_69]
            exact fs_iret hx hb hr hlocks hw hP hS (by first | rfl | exact vp_nar_int _) (by omega) (by omega) (⟨by rw [e_], by rw [e_]; exact hM, hf⟩) d_MO_readReference_110
          · refine lv_aload_n hx hb d_MO_readReference_100 rfl (lv_at hl 1 rfl) ?_
            refine fs_cV B hl.1 hP hS (k_MO_here hSt hM  (by have i32_97 : Int32.toInt 97 = 97 := (by decide); have i32_36 : Int32.toInt 36 = 36 := (by decide); have i32_104 : Int32.toInt 104 = 104 := (by decide);   have tt1 : Int32.toInt ((M.1 22) + 1) = (Int32.toInt (M.1 22)) + 1 := (by rw [i32_add (by rw [i32_1]; omega), i32_1]); show 0 ≤ (Int32.toInt ((M.1 22) + 1)); omega) (by have i32_104 : Int32.toInt 104 = 104 := (by decide); have i32_97 : Int32.toInt 97 = 97 := (by decide); have i32_36 : Int32.toInt 36 = 36 := (by decide);    show (Int32.toInt (M.1 9)) ≤ 40; omega)) (fs_tb_at 1597 tw_1597 rfl) hM.1 rfl (fs_tb_at 1599 tw_1599 rfl) (fs_tb_at 44 tw_44 rfl) (fs_tb_at 96 tw_96 rfl) (fs_tb_at 1600 tw_1600 rfl) (by decide) (show (parseMethodDescriptor y_MO_here.desc).map (fun d => d.parameters.length) = some 0 by decide +kernel) rfl d_MO_readReference_101 ⟨Nat.le_of_ble_eq_true rfl, Nat.le_of_ble_eq_true rfl, Nat.le_of_ble_eq_true rfl, Nat.le_of_ble_eq_true rfl⟩ (fun v_ h_ H locs hq hP hS => ?_) (fun C_ a_ h_ H locs hq => absurd hq.1 (fun h9 => by cases h9))
            obtain ⟨ev, hM, hf2⟩ := hq
            cases ev
            have hf := hf.trans hf2
            rw [ke_MO_here] at hM
            refine W.widen (k := 0) (n := 0) (Nat.le_of_ble_eq_true rfl) (Nat.le_of_ble_eq_true rfl) ?_
            refine W.eq (g2 := F0 m 104 ls (.int ((p_MO_here (mo_f M 22 ((M.1 22) + 1))).1) :: [])) rfl ?_
            refine lv_bipush (v := 48) hx hb d_MO_readReference_104 (by decide) ?_
            refine lv_icmp_ne (tgt := 111) hx hb d_MO_readReference_106 (by decide) (fun c_70 => ?_) (fun c_70 => ?_)
            · refine lv_aload_n hx hb d_MO_readReference_111 rfl (lv_at hl 1 rfl) ?_
              refine fs_cV B hl.1 hP hS (k_MO_here hSt hM  (by have i32_97 : Int32.toInt 97 = 97 := (by decide); have i32_36 : Int32.toInt 36 = 36 := (by decide); have i32_104 : Int32.toInt 104 = 104 := (by decide);   have tt1 : Int32.toInt ((M.1 22) + 1) = (Int32.toInt (M.1 22)) + 1 := (by rw [i32_add (by rw [i32_1]; omega), i32_1]); show 0 ≤ (Int32.toInt ((M.1 22) + 1)); omega) (by have i32_97 : Int32.toInt 97 = 97 := (by decide); have i32_36 : Int32.toInt 36 = 36 := (by decide); have i32_104 : Int32.toInt 104 = 104 := (by decide);    show (Int32.toInt (M.1 9)) ≤ 40; omega)) (fs_tb_at 1597 tw_1597 rfl) hM.1 rfl (fs_tb_at 1599 tw_1599 rfl) (fs_tb_at 44 tw_44 rfl) (fs_tb_at 96 tw_96 rfl) (fs_tb_at 1600 tw_1600 rfl) (by decide) (show (parseMethodDescriptor y_MO_here.desc).map (fun d => d.parameters.length) = some 0 by decide +kernel) rfl d_MO_readReference_112 ⟨Nat.le_of_ble_eq_true rfl, Nat.le_of_ble_eq_true rfl, Nat.le_of_ble_eq_true rfl, Nat.le_of_ble_eq_true rfl⟩ (fun v_ h_ H locs hq hP hS => ?_) (fun C_ a_ h_ H locs hq => absurd hq.1 (fun h9 => by cases h9))
              obtain ⟨ev, hM, hf2⟩ := hq
              cases ev
              have hf := hf.trans hf2
              rw [ke_MO_here] at hM
              refine W.widen (k := 0) (n := 0) (Nat.le_of_ble_eq_true rfl) (Nat.le_of_ble_eq_true rfl) ?_
              refine W.eq (g2 := F0 m 115 ls (.int ((p_MO_here (mo_f M 22 ((M.1 22) + 1))).1) :: [])) rfl ?_
              refine lv_bipush (v := 49) hx hb d_MO_readReference_115 (by decide) ?_
              refine lv_isub hx hb d_MO_readReference_117 ?_
              refine lv_istore_n (lv' := [(2, .int (((p_MO_here (mo_f M 22 ((M.1 22) + 1))).1) - 49)), (1, .int (0 + (((p_MO_here M).1) - 97))), (0, .ref a)]) hx hb d_MO_readReference_118 rfl hl (by decide) rfl (fun ls hl => ?_)
              refine lv_aload_n hx hb d_MO_readReference_119 rfl (lv_at hl 2 rfl) ?_
              refine lv_dup hx hb d_MO_readReference_120 rfl ?_
              refine fs_get (v := .int ((M.1 22) + 1)) hx hb hts hown hK c_MO hP hM.1 22 (by decide) (hts _ (fs_tb_at 1478 tw_1478 rfl)) (fun _ h9 => h9) rfl d_MO_readReference_121 ?_
              refine lv_iconst (v := 1) hx hb d_MO_readReference_124 (by decide) ?_
              refine lv_iadd hx hb d_MO_readReference_125 ?_
              refine fs_put hx hb hts hown hK c_MO hP hS hM.1 22 (by decide) (hts _ (fs_tb_at 1478 tw_1478 rfl)) (fun _ h9 => h9) rfl rfl rfl (Nat.le_of_ble_eq_true rfl) d_MO_readReference_126 (fun H locs hP hS => ?_)
              obtain ⟨h71, hP, hM, hf⟩ : ∃ x, fs_P G.1 fs_cl (fs_A s00) x H ∧ mo_at G x a ad (mo_f (mo_f M 22 ((M.1 22) + 1)) 22 (((M.1 22) + 1) + 1)) ∧ mo_fr a ad h x := ⟨_, hP, hM.F (mo_F22 ad (mo_f M 22 ((M.1 22) + 1)) (((M.1 22) + 1) + 1)), hf.self⟩
              refine lv_iload_n hx hb d_MO_readReference_129 rfl (lv_at hl 0 rfl) ?_
              refine lv_if_ne (tgt := 155) hx hb d_MO_readReference_130 (by decide) (fun c_72 => ?_) (fun c_72 => ?_)
              · refine lv_iload_n hx hb d_MO_readReference_155 rfl (lv_at hl 1 rfl) ?_
                refine lv_bipush (v := 8) hx hb d_MO_readReference_156 (by decide) ?_
                refine lv_iload_n hx hb d_MO_readReference_158 rfl (lv_at hl 0 rfl) ?_
                refine lv_imul hx hb d_MO_readReference_159 ?_
                refine lv_iadd hx hb d_MO_readReference_160 ?_
                have e_ : p_MO_readReference M = ((0 + (((p_MO_here M).1) - 97)) + (8 * (((p_MO_here (mo_f M 22 ((M.1 22) + 1))).1) - 49)), (mo_f (mo_f M 22 ((M.1 22) + 1)) 22 (((M.1 22) + 1) + 1))) := by rw [p_MO_readReference, if_neg c_64, if_neg c_65, if_pos c_66, if_neg c_68, if_neg c_69, if_neg c_70, if_neg c_72]
                exact fs_iret hx hb hr hlocks hw hP hS (by first | rfl | exact vp_nar_int _) (by omega) (by omega) (⟨by rw [e_], by rw [e_]; exact hM, hf⟩) d_MO_readReference_161
              · refine lv_aload_n hx hb d_MO_readReference_133 rfl (lv_at hl 2 rfl) ?_
                refine fs_cV B hl.1 hP hS (k_MO_here hSt hM  (by have i32_97 : Int32.toInt 97 = 97 := (by decide); have i32_36 : Int32.toInt 36 = 36 := (by decide); have i32_104 : Int32.toInt 104 = 104 := (by decide);   have tt1 : Int32.toInt ((M.1 22) + 1) = (Int32.toInt (M.1 22)) + 1 := (by rw [i32_add (by rw [i32_1]; omega), i32_1]); have tt2 : Int32.toInt (((M.1 22) + 1) + 1) = ((Int32.toInt (M.1 22)) + 1) + 1 := (by rw [i32_add (by rw [tt1, i32_1]; omega), tt1, i32_1]); show 0 ≤ (Int32.toInt (((M.1 22) + 1) + 1)); omega) (by have i32_97 : Int32.toInt 97 = 97 := (by decide); have i32_36 : Int32.toInt 36 = 36 := (by decide); have i32_104 : Int32.toInt 104 = 104 := (by decide);    show (Int32.toInt (M.1 9)) ≤ 40; omega)) (fs_tb_at 1597 tw_1597 rfl) hM.1 rfl (fs_tb_at 1599 tw_1599 rfl) (fs_tb_at 44 tw_44 rfl) (fs_tb_at 96 tw_96 rfl) (fs_tb_at 1600 tw_1600 rfl) (by decide) (show (parseMethodDescriptor y_MO_here.desc).map (fun d => d.parameters.length) = some 0 by decide +kernel) rfl d_MO_readReference_134 ⟨Nat.le_of_ble_eq_true rfl, Nat.le_of_ble_eq_true rfl, Nat.le_of_ble_eq_true rfl, Nat.le_of_ble_eq_true rfl⟩ (fun v_ h_ H locs hq hP hS => ?_) (fun C_ a_ h_ H locs hq => absurd hq.1 (fun h9 => by cases h9))
                obtain ⟨ev, hM, hf2⟩ := hq
                cases ev
                have hf := hf.trans hf2
                rw [ke_MO_here] at hM
                refine W.widen (k := 0) (n := 0) (Nat.le_of_ble_eq_true rfl) (Nat.le_of_ble_eq_true rfl) ?_
                refine W.eq (g2 := F0 m 137 ls (.int ((p_MO_here (mo_f (mo_f M 22 ((M.1 22) + 1)) 22 (((M.1 22) + 1) + 1))).1) :: [])) rfl ?_
                refine lv_bipush (v := 48) hx hb d_MO_readReference_137 (by decide) ?_
                refine lv_icmp_ne (tgt := 155) hx hb d_MO_readReference_139 (by decide) (fun c_73 => ?_) (fun c_73 => ?_)
                · refine lv_iload_n hx hb d_MO_readReference_155 rfl (lv_at hl 1 rfl) ?_
                  refine lv_bipush (v := 8) hx hb d_MO_readReference_156 (by decide) ?_
                  refine lv_iload_n hx hb d_MO_readReference_158 rfl (lv_at hl 0 rfl) ?_
                  refine lv_imul hx hb d_MO_readReference_159 ?_
                  refine lv_iadd hx hb d_MO_readReference_160 ?_
                  have e_ : p_MO_readReference M = ((0 + (((p_MO_here M).1) - 97)) + (8 * (((p_MO_here (mo_f M 22 ((M.1 22) + 1))).1) - 49)), (mo_f (mo_f M 22 ((M.1 22) + 1)) 22 (((M.1 22) + 1) + 1))) := by rw [p_MO_readReference, if_neg c_64, if_neg c_65, if_pos c_66, if_neg c_68, if_neg c_69, if_neg c_70, if_pos c_72, if_neg c_73]
                  exact fs_iret hx hb hr hlocks hw hP hS (by first | rfl | exact vp_nar_int _) (by omega) (by omega) (⟨by rw [e_], by rw [e_]; exact hM, hf⟩) d_MO_readReference_161
                · refine lv_bipush (v := 9) hx hb d_MO_readReference_142 (by decide) ?_
                  refine lv_istore_n (lv' := [(2, .int 9), (1, .int (0 + (((p_MO_here M).1) - 97))), (0, .ref a)]) hx hb d_MO_readReference_144 rfl hl (by decide) rfl (fun ls hl => ?_)
                  refine lv_aload_n hx hb d_MO_readReference_145 rfl (lv_at hl 2 rfl) ?_
                  refine lv_dup hx hb d_MO_readReference_146 rfl ?_
                  refine fs_get (v := .int (((M.1 22) + 1) + 1)) hx hb hts hown hK c_MO hP hM.1 22 (by decide) (hts _ (fs_tb_at 1478 tw_1478 rfl)) (fun _ h9 => h9) rfl d_MO_readReference_147 ?_
                  refine lv_iconst (v := 1) hx hb d_MO_readReference_150 (by decide) ?_
                  refine lv_iadd hx hb d_MO_readReference_151 ?_
                  refine fs_put hx hb hts hown hK c_MO hP hS hM.1 22 (by decide) (hts _ (fs_tb_at 1478 tw_1478 rfl)) (fun _ h9 => h9) rfl rfl rfl (Nat.le_of_ble_eq_true rfl) d_MO_readReference_152 (fun H locs hP hS => ?_)
                  obtain ⟨h74, hP, hM, hf⟩ : ∃ x, fs_P G.1 fs_cl (fs_A s00) x H ∧ mo_at G x a ad (mo_f (mo_f (mo_f M 22 ((M.1 22) + 1)) 22 (((M.1 22) + 1) + 1)) 22 ((((M.1 22) + 1) + 1) + 1)) ∧ mo_fr a ad h x := ⟨_, hP, hM.F (mo_F22 ad (mo_f (mo_f M 22 ((M.1 22) + 1)) 22 (((M.1 22) + 1) + 1)) ((((M.1 22) + 1) + 1) + 1)), hf.self⟩
                  refine lv_iload_n hx hb d_MO_readReference_155 rfl (lv_at hl 1 rfl) ?_
                  refine lv_bipush (v := 8) hx hb d_MO_readReference_156 (by decide) ?_
                  refine lv_iload_n hx hb d_MO_readReference_158 rfl (lv_at hl 0 rfl) ?_
                  refine lv_imul hx hb d_MO_readReference_159 ?_
                  refine lv_iadd hx hb d_MO_readReference_160 ?_
                  have e_ : p_MO_readReference M = ((0 + (((p_MO_here M).1) - 97)) + (8 * 9), (mo_f (mo_f (mo_f M 22 ((M.1 22) + 1)) 22 (((M.1 22) + 1) + 1)) 22 ((((M.1 22) + 1) + 1) + 1))) := by rw [p_MO_readReference, if_neg c_64, if_neg c_65, if_pos c_66, if_neg c_68, if_neg c_69, if_neg c_70, if_pos c_72, if_pos c_73]
                  exact fs_iret hx hb hr hlocks hw hP hS (by first | rfl | exact vp_nar_int _) (by omega) (by omega) (⟨by rw [e_], by rw [e_]; exact hM, hf⟩) d_MO_readReference_161
            · refine lv_iconst (v := (-1)) hx hb d_MO_readReference_109 (by decide) ?_
              have e_ : p_MO_readReference M = ((-1), (mo_f M 22 ((M.1 22) + 1))) := by rw [p_MO_readReference, if_neg c_64, if_neg c_65, if_pos c_66, if_neg c_68, if_neg c_69, if_pos c_70]
              exact fs_iret hx hb hr hlocks hw hP hS (by first | rfl | exact vp_nar_int _) (by omega) (by omega) (⟨by rw [e_], by rw [e_]; exact hM, hf⟩) d_MO_readReference_110
        · refine lv_iincW (v := (0 + (((p_MO_here M).1) - 97)) + 256) (lv' := [(1, .int ((0 + (((p_MO_here M).1) - 97)) + 256)), (0, .ref a)]) hx hb d_MO_readReference_74 hl (k := 0) rfl rfl (by decide) rfl (fun ls hl => ?_)
          refine lv_aload_n hx hb d_MO_readReference_80 rfl (lv_at hl 1 rfl) ?_
          refine lv_dup hx hb d_MO_readReference_81 rfl ?_
          refine fs_get (v := .int ((M.1 22) + 1)) hx hb hts hown hK c_MO hP hM.1 22 (by decide) (hts _ (fs_tb_at 1478 tw_1478 rfl)) (fun _ h9 => h9) rfl d_MO_readReference_82 ?_
          refine lv_iconst (v := 1) hx hb d_MO_readReference_85 (by decide) ?_
          refine lv_iadd hx hb d_MO_readReference_86 ?_
          refine fs_put hx hb hts hown hK c_MO hP hS hM.1 22 (by decide) (hts _ (fs_tb_at 1478 tw_1478 rfl)) (fun _ h9 => h9) rfl rfl rfl (Nat.le_of_ble_eq_true rfl) d_MO_readReference_87 (fun H locs hP hS => ?_)
          obtain ⟨h75, hP, hM, hf⟩ : ∃ x, fs_P G.1 fs_cl (fs_A s00) x H ∧ mo_at G x a ad (mo_f (mo_f M 22 ((M.1 22) + 1)) 22 (((M.1 22) + 1) + 1)) ∧ mo_fr a ad h x := ⟨_, hP, hM.F (mo_F22 ad (mo_f M 22 ((M.1 22) + 1)) (((M.1 22) + 1) + 1)), hf.self⟩
          refine lv_aload_n hx hb d_MO_readReference_90 rfl (lv_at hl 1 rfl) ?_
          refine fs_cV B hl.1 hP hS (k_MO_here hSt hM  (by have i32_104 : Int32.toInt 104 = 104 := (by decide); have i32_97 : Int32.toInt 97 = 97 := (by decide); have i32_36 : Int32.toInt 36 = 36 := (by decide);   have tt1 : Int32.toInt ((M.1 22) + 1) = (Int32.toInt (M.1 22)) + 1 := (by rw [i32_add (by rw [i32_1]; omega), i32_1]); have tt2 : Int32.toInt (((M.1 22) + 1) + 1) = ((Int32.toInt (M.1 22)) + 1) + 1 := (by rw [i32_add (by rw [tt1, i32_1]; omega), tt1, i32_1]); show 0 ≤ (Int32.toInt (((M.1 22) + 1) + 1)); omega) (by have i32_104 : Int32.toInt 104 = 104 := (by decide); have i32_97 : Int32.toInt 97 = 97 := (by decide); have i32_36 : Int32.toInt 36 = 36 := (by decide);    show (Int32.toInt (M.1 9)) ≤ 40; omega)) (fs_tb_at 1597 tw_1597 rfl) hM.1 rfl (fs_tb_at 1599 tw_1599 rfl) (fs_tb_at 44 tw_44 rfl) (fs_tb_at 96 tw_96 rfl) (fs_tb_at 1600 tw_1600 rfl) (by decide) (show (parseMethodDescriptor y_MO_here.desc).map (fun d => d.parameters.length) = some 0 by decide +kernel) rfl d_MO_readReference_91 ⟨Nat.le_of_ble_eq_true rfl, Nat.le_of_ble_eq_true rfl, Nat.le_of_ble_eq_true rfl, Nat.le_of_ble_eq_true rfl⟩ (fun v_ h_ H locs hq hP hS => ?_) (fun C_ a_ h_ H locs hq => absurd hq.1 (fun h9 => by cases h9))
          obtain ⟨ev, hM, hf2⟩ := hq
          cases ev
          have hf := hf.trans hf2
          rw [ke_MO_here] at hM
          refine W.widen (k := 0) (n := 0) (Nat.le_of_ble_eq_true rfl) (Nat.le_of_ble_eq_true rfl) ?_
          refine W.eq (g2 := F0 m 94 ls (.int ((p_MO_here (mo_f (mo_f M 22 ((M.1 22) + 1)) 22 (((M.1 22) + 1) + 1))).1) :: [])) rfl ?_
          refine fs_cS B hl.1 hP hS (k_MO_digit hSt ((p_MO_here (mo_f (mo_f M 22 ((M.1 22) + 1)) 22 (((M.1 22) + 1) + 1))).1) ) (fs_tb_at 1624 tw_1624 rfl) (fs_tb_at 1625 tw_1625 rfl) (fs_tb_at 96 tw_96 rfl) (fs_tb_at 1626 tw_1626 rfl) (by decide) (show (parseMethodDescriptor y_MO_digit.desc).map (fun d => d.parameters.length) = some 1 by decide +kernel) rfl d_MO_readReference_94 ⟨Nat.le_of_ble_eq_true rfl, Nat.le_of_ble_eq_true rfl, Nat.le_of_ble_eq_true rfl, Nat.le_of_ble_eq_true rfl⟩ (fun v_ h_ H locs hq hP hS => ?_) (fun C_ a_ h_ H locs hq => absurd hq.1 (fun h9 => by cases h9))
          obtain ⟨ev, eh⟩ := hq
          cases ev
          rw [eh] at hP
          refine W.widen (k := 0) (n := 0) (Nat.le_of_ble_eq_true rfl) (Nat.le_of_ble_eq_true rfl) ?_
          refine W.eq (g2 := F0 m 97 ls (.int (p_MO_digit ((p_MO_here (mo_f (mo_f M 22 ((M.1 22) + 1)) 22 (((M.1 22) + 1) + 1))).1)) :: [])) rfl ?_
          refine lv_if_eq (tgt := 109) hx hb d_MO_readReference_97 (by decide) (fun c_76 => ?_) (fun c_76 => ?_)
          · refine lv_iconst (v := (-1)) hx hb d_MO_readReference_109 (by decide) ?_
            have e_ : p_MO_readReference M = ((-1), (mo_f (mo_f M 22 ((M.1 22) + 1)) 22 (((M.1 22) + 1) + 1))) := by rw [p_MO_readReference, if_neg c_64, if_neg c_65, if_pos c_66, if_pos c_68, if_pos c_76]
            exact fs_iret hx hb hr hlocks hw hP hS (by first | rfl | exact vp_nar_int _) (by omega) (by omega) (⟨by rw [e_], by rw [e_]; exact hM, hf⟩) d_MO_readReference_110
          · refine lv_aload_n hx hb d_MO_readReference_100 rfl (lv_at hl 1 rfl) ?_
            refine fs_cV B hl.1 hP hS (k_MO_here hSt hM  (by have i32_97 : Int32.toInt 97 = 97 := (by decide); have i32_36 : Int32.toInt 36 = 36 := (by decide); have i32_104 : Int32.toInt 104 = 104 := (by decide);   have tt1 : Int32.toInt ((M.1 22) + 1) = (Int32.toInt (M.1 22)) + 1 := (by rw [i32_add (by rw [i32_1]; omega), i32_1]); have tt2 : Int32.toInt (((M.1 22) + 1) + 1) = ((Int32.toInt (M.1 22)) + 1) + 1 := (by rw [i32_add (by rw [tt1, i32_1]; omega), tt1, i32_1]); show 0 ≤ (Int32.toInt (((M.1 22) + 1) + 1)); omega) (by have i32_104 : Int32.toInt 104 = 104 := (by decide); have i32_97 : Int32.toInt 97 = 97 := (by decide); have i32_36 : Int32.toInt 36 = 36 := (by decide);    show (Int32.toInt (M.1 9)) ≤ 40; omega)) (fs_tb_at 1597 tw_1597 rfl) hM.1 rfl (fs_tb_at 1599 tw_1599 rfl) (fs_tb_at 44 tw_44 rfl) (fs_tb_at 96 tw_96 rfl) (fs_tb_at 1600 tw_1600 rfl) (by decide) (show (parseMethodDescriptor y_MO_here.desc).map (fun d => d.parameters.length) = some 0 by decide +kernel) rfl d_MO_readReference_101 ⟨Nat.le_of_ble_eq_true rfl, Nat.le_of_ble_eq_true rfl, Nat.le_of_ble_eq_true rfl, Nat.le_of_ble_eq_true rfl⟩ (fun v_ h_ H locs hq hP hS => ?_) (fun C_ a_ h_ H locs hq => absurd hq.1 (fun h9 => by cases h9))
            obtain ⟨ev, hM, hf2⟩ := hq
            cases ev
            have hf := hf.trans hf2
            rw [ke_MO_here] at hM
            refine W.widen (k := 0) (n := 0) (Nat.le_of_ble_eq_true rfl) (Nat.le_of_ble_eq_true rfl) ?_
            refine W.eq (g2 := F0 m 104 ls (.int ((p_MO_here (mo_f (mo_f M 22 ((M.1 22) + 1)) 22 (((M.1 22) + 1) + 1))).1) :: [])) rfl ?_
            refine lv_bipush (v := 48) hx hb d_MO_readReference_104 (by decide) ?_
            refine lv_icmp_ne (tgt := 111) hx hb d_MO_readReference_106 (by decide) (fun c_77 => ?_) (fun c_77 => ?_)
            · refine lv_aload_n hx hb d_MO_readReference_111 rfl (lv_at hl 1 rfl) ?_
              refine fs_cV B hl.1 hP hS (k_MO_here hSt hM  (by have i32_97 : Int32.toInt 97 = 97 := (by decide); have i32_36 : Int32.toInt 36 = 36 := (by decide); have i32_104 : Int32.toInt 104 = 104 := (by decide);   have tt1 : Int32.toInt ((M.1 22) + 1) = (Int32.toInt (M.1 22)) + 1 := (by rw [i32_add (by rw [i32_1]; omega), i32_1]); have tt2 : Int32.toInt (((M.1 22) + 1) + 1) = ((Int32.toInt (M.1 22)) + 1) + 1 := (by rw [i32_add (by rw [tt1, i32_1]; omega), tt1, i32_1]); show 0 ≤ (Int32.toInt (((M.1 22) + 1) + 1)); omega) (by have i32_97 : Int32.toInt 97 = 97 := (by decide); have i32_36 : Int32.toInt 36 = 36 := (by decide); have i32_104 : Int32.toInt 104 = 104 := (by decide);    show (Int32.toInt (M.1 9)) ≤ 40; omega)) (fs_tb_at 1597 tw_1597 rfl) hM.1 rfl (fs_tb_at 1599 tw_1599 rfl) (fs_tb_at 44 tw_44 rfl) (fs_tb_at 96 tw_96 rfl) (fs_tb_at 1600 tw_1600 rfl) (by decide) (show (parseMethodDescriptor y_MO_here.desc).map (fun d => d.parameters.length) = some 0 by decide +kernel) rfl d_MO_readReference_112 ⟨Nat.le_of_ble_eq_true rfl, Nat.le_of_ble_eq_true rfl, Nat.le_of_ble_eq_true rfl, Nat.le_of_ble_eq_true rfl⟩ (fun v_ h_ H locs hq hP hS => ?_) (fun C_ a_ h_ H locs hq => absurd hq.1 (fun h9 => by cases h9))
              obtain ⟨ev, hM, hf2⟩ := hq
              cases ev
              have hf := hf.trans hf2
              rw [ke_MO_here] at hM
              refine W.widen (k := 0) (n := 0) (Nat.le_of_ble_eq_true rfl) (Nat.le_of_ble_eq_true rfl) ?_
              refine W.eq (g2 := F0 m 115 ls (.int ((p_MO_here (mo_f (mo_f M 22 ((M.1 22) + 1)) 22 (((M.1 22) + 1) + 1))).1) :: [])) rfl ?_
              refine lv_bipush (v := 49) hx hb d_MO_readReference_115 (by decide) ?_
              refine lv_isub hx hb d_MO_readReference_117 ?_
              refine lv_istore_n (lv' := [(2, .int (((p_MO_here (mo_f (mo_f M 22 ((M.1 22) + 1)) 22 (((M.1 22) + 1) + 1))).1) - 49)), (1, .int ((0 + (((p_MO_here M).1) - 97)) + 256)), (0, .ref a)]) hx hb d_MO_readReference_118 rfl hl (by decide) rfl (fun ls hl => ?_)
              refine lv_aload_n hx hb d_MO_readReference_119 rfl (lv_at hl 2 rfl) ?_
              refine lv_dup hx hb d_MO_readReference_120 rfl ?_
              refine fs_get (v := .int (((M.1 22) + 1) + 1)) hx hb hts hown hK c_MO hP hM.1 22 (by decide) (hts _ (fs_tb_at 1478 tw_1478 rfl)) (fun _ h9 => h9) rfl d_MO_readReference_121 ?_
              refine lv_iconst (v := 1) hx hb d_MO_readReference_124 (by decide) ?_
              refine lv_iadd hx hb d_MO_readReference_125 ?_
              refine fs_put hx hb hts hown hK c_MO hP hS hM.1 22 (by decide) (hts _ (fs_tb_at 1478 tw_1478 rfl)) (fun _ h9 => h9) rfl rfl rfl (Nat.le_of_ble_eq_true rfl) d_MO_readReference_126 (fun H locs hP hS => ?_)
              obtain ⟨h78, hP, hM, hf⟩ : ∃ x, fs_P G.1 fs_cl (fs_A s00) x H ∧ mo_at G x a ad (mo_f (mo_f (mo_f M 22 ((M.1 22) + 1)) 22 (((M.1 22) + 1) + 1)) 22 ((((M.1 22) + 1) + 1) + 1)) ∧ mo_fr a ad h x := ⟨_, hP, hM.F (mo_F22 ad (mo_f (mo_f M 22 ((M.1 22) + 1)) 22 (((M.1 22) + 1) + 1)) ((((M.1 22) + 1) + 1) + 1)), hf.self⟩
              refine lv_iload_n hx hb d_MO_readReference_129 rfl (lv_at hl 0 rfl) ?_
              refine lv_if_ne (tgt := 155) hx hb d_MO_readReference_130 (by decide) (fun c_79 => ?_) (fun c_79 => ?_)
              · refine lv_iload_n hx hb d_MO_readReference_155 rfl (lv_at hl 1 rfl) ?_
                refine lv_bipush (v := 8) hx hb d_MO_readReference_156 (by decide) ?_
                refine lv_iload_n hx hb d_MO_readReference_158 rfl (lv_at hl 0 rfl) ?_
                refine lv_imul hx hb d_MO_readReference_159 ?_
                refine lv_iadd hx hb d_MO_readReference_160 ?_
                have e_ : p_MO_readReference M = (((0 + (((p_MO_here M).1) - 97)) + 256) + (8 * (((p_MO_here (mo_f (mo_f M 22 ((M.1 22) + 1)) 22 (((M.1 22) + 1) + 1))).1) - 49)), (mo_f (mo_f (mo_f M 22 ((M.1 22) + 1)) 22 (((M.1 22) + 1) + 1)) 22 ((((M.1 22) + 1) + 1) + 1))) := by rw [p_MO_readReference, if_neg c_64, if_neg c_65, if_pos c_66, if_pos c_68, if_neg c_76, if_neg c_77, if_neg c_79]
                exact fs_iret hx hb hr hlocks hw hP hS (by first | rfl | exact vp_nar_int _) (by omega) (by omega) (⟨by rw [e_], by rw [e_]; exact hM, hf⟩) d_MO_readReference_161
              · refine lv_aload_n hx hb d_MO_readReference_133 rfl (lv_at hl 2 rfl) ?_
                refine fs_cV B hl.1 hP hS (k_MO_here hSt hM  (by have i32_97 : Int32.toInt 97 = 97 := (by decide); have i32_36 : Int32.toInt 36 = 36 := (by decide); have i32_104 : Int32.toInt 104 = 104 := (by decide);   have tt1 : Int32.toInt ((M.1 22) + 1) = (Int32.toInt (M.1 22)) + 1 := (by rw [i32_add (by rw [i32_1]; omega), i32_1]); have tt2 : Int32.toInt (((M.1 22) + 1) + 1) = ((Int32.toInt (M.1 22)) + 1) + 1 := (by rw [i32_add (by rw [tt1, i32_1]; omega), tt1, i32_1]); have tt3 : Int32.toInt ((((M.1 22) + 1) + 1) + 1) = (((Int32.toInt (M.1 22)) + 1) + 1) + 1 := (by rw [i32_add (by rw [tt2, i32_1]; omega), tt2, i32_1]); show 0 ≤ (Int32.toInt ((((M.1 22) + 1) + 1) + 1)); omega) (by have i32_97 : Int32.toInt 97 = 97 := (by decide); have i32_36 : Int32.toInt 36 = 36 := (by decide); have i32_104 : Int32.toInt 104 = 104 := (by decide);    show (Int32.toInt (M.1 9)) ≤ 40; omega)) (fs_tb_at 1597 tw_1597 rfl) hM.1 rfl (fs_tb_at 1599 tw_1599 rfl) (fs_tb_at 44 tw_44 rfl) (fs_tb_at 96 tw_96 rfl) (fs_tb_at 1600 tw_1600 rfl) (by decide) (show (parseMethodDescriptor y_MO_here.desc).map (fun d => d.parameters.length) = some 0 by decide +kernel) rfl d_MO_readReference_134 ⟨Nat.le_of_ble_eq_true rfl, Nat.le_of_ble_eq_true rfl, Nat.le_of_ble_eq_true rfl, Nat.le_of_ble_eq_true rfl⟩ (fun v_ h_ H locs hq hP hS => ?_) (fun C_ a_ h_ H locs hq => absurd hq.1 (fun h9 => by cases h9))
                obtain ⟨ev, hM, hf2⟩ := hq
                cases ev
                have hf := hf.trans hf2
                rw [ke_MO_here] at hM
                refine W.widen (k := 0) (n := 0) (Nat.le_of_ble_eq_true rfl) (Nat.le_of_ble_eq_true rfl) ?_
                refine W.eq (g2 := F0 m 137 ls (.int ((p_MO_here (mo_f (mo_f (mo_f M 22 ((M.1 22) + 1)) 22 (((M.1 22) + 1) + 1)) 22 ((((M.1 22) + 1) + 1) + 1))).1) :: [])) rfl ?_
                refine lv_bipush (v := 48) hx hb d_MO_readReference_137 (by decide) ?_
                refine lv_icmp_ne (tgt := 155) hx hb d_MO_readReference_139 (by decide) (fun c_80 => ?_) (fun c_80 => ?_)
                · refine lv_iload_n hx hb d_MO_readReference_155 rfl (lv_at hl 1 rfl) ?_
                  refine lv_bipush (v := 8) hx hb d_MO_readReference_156 (by decide) ?_
                  refine lv_iload_n hx hb d_MO_readReference_158 rfl (lv_at hl 0 rfl) ?_
                  refine lv_imul hx hb d_MO_readReference_159 ?_
                  refine lv_iadd hx hb d_MO_readReference_160 ?_
                  have e_ : p_MO_readReference M = (((0 + (((p_MO_here M).1) - 97)) + 256) + (8 * (((p_MO_here (mo_f (mo_f M 22 ((M.1 22) + 1)) 22 (((M.1 22) + 1) + 1))).1) - 49)), (mo_f (mo_f (mo_f M 22 ((M.1 22) + 1)) 22 (((M.1 22) + 1) + 1)) 22 ((((M.1 22) + 1) + 1) + 1))) := by rw [p_MO_readReference, if_neg c_64, if_neg c_65, if_pos c_66, if_pos c_68, if_neg c_76, if_neg c_77, if_pos c_79, if_neg c_80]
                  exact fs_iret hx hb hr hlocks hw hP hS (by first | rfl | exact vp_nar_int _) (by omega) (by omega) (⟨by rw [e_], by rw [e_]; exact hM, hf⟩) d_MO_readReference_161
                · refine lv_bipush (v := 9) hx hb d_MO_readReference_142 (by decide) ?_
                  refine lv_istore_n (lv' := [(2, .int 9), (1, .int ((0 + (((p_MO_here M).1) - 97)) + 256)), (0, .ref a)]) hx hb d_MO_readReference_144 rfl hl (by decide) rfl (fun ls hl => ?_)
                  refine lv_aload_n hx hb d_MO_readReference_145 rfl (lv_at hl 2 rfl) ?_
                  refine lv_dup hx hb d_MO_readReference_146 rfl ?_
                  refine fs_get (v := .int ((((M.1 22) + 1) + 1) + 1)) hx hb hts hown hK c_MO hP hM.1 22 (by decide) (hts _ (fs_tb_at 1478 tw_1478 rfl)) (fun _ h9 => h9) rfl d_MO_readReference_147 ?_
                  refine lv_iconst (v := 1) hx hb d_MO_readReference_150 (by decide) ?_
                  refine lv_iadd hx hb d_MO_readReference_151 ?_
                  refine fs_put hx hb hts hown hK c_MO hP hS hM.1 22 (by decide) (hts _ (fs_tb_at 1478 tw_1478 rfl)) (fun _ h9 => h9) rfl rfl rfl (Nat.le_of_ble_eq_true rfl) d_MO_readReference_152 (fun H locs hP hS => ?_)
                  obtain ⟨h81, hP, hM, hf⟩ : ∃ x, fs_P G.1 fs_cl (fs_A s00) x H ∧ mo_at G x a ad (mo_f (mo_f (mo_f (mo_f M 22 ((M.1 22) + 1)) 22 (((M.1 22) + 1) + 1)) 22 ((((M.1 22) + 1) + 1) + 1)) 22 (((((M.1 22) + 1) + 1) + 1) + 1)) ∧ mo_fr a ad h x := ⟨_, hP, hM.F (mo_F22 ad (mo_f (mo_f (mo_f M 22 ((M.1 22) + 1)) 22 (((M.1 22) + 1) + 1)) 22 ((((M.1 22) + 1) + 1) + 1)) (((((M.1 22) + 1) + 1) + 1) + 1)), hf.self⟩
                  refine lv_iload_n hx hb d_MO_readReference_155 rfl (lv_at hl 1 rfl) ?_
                  refine lv_bipush (v := 8) hx hb d_MO_readReference_156 (by decide) ?_
                  refine lv_iload_n hx hb d_MO_readReference_158 rfl (lv_at hl 0 rfl) ?_
                  refine lv_imul hx hb d_MO_readReference_159 ?_
                  refine lv_iadd hx hb d_MO_readReference_160 ?_
                  have e_ : p_MO_readReference M = (((0 + (((p_MO_here M).1) - 97)) + 256) + (8 * 9), (mo_f (mo_f (mo_f (mo_f M 22 ((M.1 22) + 1)) 22 (((M.1 22) + 1) + 1)) 22 ((((M.1 22) + 1) + 1) + 1)) 22 (((((M.1 22) + 1) + 1) + 1) + 1))) := by rw [p_MO_readReference, if_neg c_64, if_neg c_65, if_pos c_66, if_pos c_68, if_neg c_76, if_neg c_77, if_pos c_79, if_pos c_80]
                  exact fs_iret hx hb hr hlocks hw hP hS (by first | rfl | exact vp_nar_int _) (by omega) (by omega) (⟨by rw [e_], by rw [e_]; exact hM, hf⟩) d_MO_readReference_161
            · refine lv_iconst (v := (-1)) hx hb d_MO_readReference_109 (by decide) ?_
              have e_ : p_MO_readReference M = ((-1), (mo_f (mo_f M 22 ((M.1 22) + 1)) 22 (((M.1 22) + 1) + 1))) := by rw [p_MO_readReference, if_neg c_64, if_neg c_65, if_pos c_66, if_pos c_68, if_neg c_76, if_pos c_77]
              exact fs_iret hx hb hr hlocks hw hP hS (by first | rfl | exact vp_nar_int _) (by omega) (by omega) (⟨by rw [e_], by rw [e_]; exact hM, hf⟩) d_MO_readReference_110
      · refine lv_iconst (v := (-1)) hx hb d_MO_readReference_43 (by decide) ?_
        have e_ : p_MO_readReference M = ((-1), M) := by rw [p_MO_readReference, if_neg c_64, if_neg c_65, if_neg c_66]
        exact fs_iret hx hb hr hlocks hw hP hS (by first | rfl | exact vp_nar_int _) (by omega) (by omega) (⟨by rw [e_], by rw [e_]; exact hM, hf⟩) d_MO_readReference_44
  · refine lv_sipush (v := 128) hx hb d_MO_readReference_11 (by decide) ?_
    refine lv_istore_n (lv' := [(1, .int 128), (0, .ref a)]) hx hb d_MO_readReference_14 rfl hl (by decide) rfl (fun ls hl => ?_)
    refine lv_aload_n hx hb d_MO_readReference_15 rfl (lv_at hl 1 rfl) ?_
    refine lv_dup hx hb d_MO_readReference_16 rfl ?_
    refine fs_get (v := .int (M.1 22)) hx hb hts hown hK c_MO hP hM.1 22 (by decide) (hts _ (fs_tb_at 1478 tw_1478 rfl)) (fun _ h9 => h9) rfl d_MO_readReference_17 ?_
    refine lv_iconst (v := 1) hx hb d_MO_readReference_20 (by decide) ?_
    refine lv_iadd hx hb d_MO_readReference_21 ?_
    refine fs_put hx hb hts hown hK c_MO hP hS hM.1 22 (by decide) (hts _ (fs_tb_at 1478 tw_1478 rfl)) (fun _ h9 => h9) rfl rfl rfl (Nat.le_of_ble_eq_true rfl) d_MO_readReference_22 (fun H locs hP hS => ?_)
    obtain ⟨h82, hP, hM, hf⟩ : ∃ x, fs_P G.1 fs_cl (fs_A s00) x H ∧ mo_at G x a ad (mo_f M 22 ((M.1 22) + 1)) ∧ mo_fr a ad h x := ⟨_, hP, hM.F (mo_F22 ad M ((M.1 22) + 1)), hf.self⟩
    refine lv_aload_n hx hb d_MO_readReference_25 rfl (lv_at hl 1 rfl) ?_
    refine fs_cV B hl.1 hP hS (k_MO_here hSt hM  (by have i32_36 : Int32.toInt 36 = 36 := (by decide);   have tt1 : Int32.toInt ((M.1 22) + 1) = (Int32.toInt (M.1 22)) + 1 := (by rw [i32_add (by rw [i32_1]; omega), i32_1]); show 0 ≤ (Int32.toInt ((M.1 22) + 1)); omega) (by have i32_36 : Int32.toInt 36 = 36 := (by decide);    show (Int32.toInt (M.1 9)) ≤ 40; omega)) (fs_tb_at 1597 tw_1597 rfl) hM.1 rfl (fs_tb_at 1599 tw_1599 rfl) (fs_tb_at 44 tw_44 rfl) (fs_tb_at 96 tw_96 rfl) (fs_tb_at 1600 tw_1600 rfl) (by decide) (show (parseMethodDescriptor y_MO_here.desc).map (fun d => d.parameters.length) = some 0 by decide +kernel) rfl d_MO_readReference_26 ⟨Nat.le_of_ble_eq_true rfl, Nat.le_of_ble_eq_true rfl, Nat.le_of_ble_eq_true rfl, Nat.le_of_ble_eq_true rfl⟩ (fun v_ h_ H locs hq hP hS => ?_) (fun C_ a_ h_ H locs hq => absurd hq.1 (fun h9 => by cases h9))
    obtain ⟨ev, hM, hf2⟩ := hq
    cases ev
    have hf := hf.trans hf2
    rw [ke_MO_here] at hM
    refine W.widen (k := 0) (n := 0) (Nat.le_of_ble_eq_true rfl) (Nat.le_of_ble_eq_true rfl) ?_
    refine W.eq (g2 := F0 m 29 ls (.int ((p_MO_here (mo_f M 22 ((M.1 22) + 1))).1) :: [])) rfl ?_
    refine lv_bipush (v := 97) hx hb d_MO_readReference_29 (by decide) ?_
    refine lv_icmp_lt (tgt := 43) hx hb d_MO_readReference_31 (by decide) (fun c_83 => ?_) (fun c_83 => ?_)
    · refine lv_iconst (v := (-1)) hx hb d_MO_readReference_43 (by decide) ?_
      have e_ : p_MO_readReference M = ((-1), (mo_f M 22 ((M.1 22) + 1))) := by rw [p_MO_readReference, if_pos c_64, if_pos c_83]
      exact fs_iret hx hb hr hlocks hw hP hS (by first | rfl | exact vp_nar_int _) (by omega) (by omega) (⟨by rw [e_], by rw [e_]; exact hM, hf⟩) d_MO_readReference_44
    · refine lv_aload_n hx hb d_MO_readReference_34 rfl (lv_at hl 1 rfl) ?_
      refine fs_cV B hl.1 hP hS (k_MO_here hSt hM  (by have i32_97 : Int32.toInt 97 = 97 := (by decide); have i32_36 : Int32.toInt 36 = 36 := (by decide);   have tt1 : Int32.toInt ((M.1 22) + 1) = (Int32.toInt (M.1 22)) + 1 := (by rw [i32_add (by rw [i32_1]; omega), i32_1]); show 0 ≤ (Int32.toInt ((M.1 22) + 1)); omega) (by have i32_97 : Int32.toInt 97 = 97 := (by decide); have i32_36 : Int32.toInt 36 = 36 := (by decide);    show (Int32.toInt (M.1 9)) ≤ 40; omega)) (fs_tb_at 1597 tw_1597 rfl) hM.1 rfl (fs_tb_at 1599 tw_1599 rfl) (fs_tb_at 44 tw_44 rfl) (fs_tb_at 96 tw_96 rfl) (fs_tb_at 1600 tw_1600 rfl) (by decide) (show (parseMethodDescriptor y_MO_here.desc).map (fun d => d.parameters.length) = some 0 by decide +kernel) rfl d_MO_readReference_35 ⟨Nat.le_of_ble_eq_true rfl, Nat.le_of_ble_eq_true rfl, Nat.le_of_ble_eq_true rfl, Nat.le_of_ble_eq_true rfl⟩ (fun v_ h_ H locs hq hP hS => ?_) (fun C_ a_ h_ H locs hq => absurd hq.1 (fun h9 => by cases h9))
      obtain ⟨ev, hM, hf2⟩ := hq
      cases ev
      have hf := hf.trans hf2
      rw [ke_MO_here] at hM
      refine W.widen (k := 0) (n := 0) (Nat.le_of_ble_eq_true rfl) (Nat.le_of_ble_eq_true rfl) ?_
      refine W.eq (g2 := F0 m 38 ls (.int ((p_MO_here (mo_f M 22 ((M.1 22) + 1))).1) :: [])) rfl ?_
      refine lv_bipush (v := 104) hx hb d_MO_readReference_38 (by decide) ?_
      refine lv_icmp_le (tgt := 45) hx hb d_MO_readReference_40 (by decide) (fun c_84 => ?_) (fun c_84 => ?_)
      · refine lv_iload_n hx hb d_MO_readReference_45 rfl (lv_at hl 0 rfl) ?_
        refine lv_aload_n hx hb d_MO_readReference_46 rfl (lv_at hl 1 rfl) ?_
        refine fs_cV B hl.1 hP hS (k_MO_here hSt hM  (by have i32_104 : Int32.toInt 104 = 104 := (by decide); have i32_97 : Int32.toInt 97 = 97 := (by decide); have i32_36 : Int32.toInt 36 = 36 := (by decide);   have tt1 : Int32.toInt ((M.1 22) + 1) = (Int32.toInt (M.1 22)) + 1 := (by rw [i32_add (by rw [i32_1]; omega), i32_1]); show 0 ≤ (Int32.toInt ((M.1 22) + 1)); omega) (by have i32_104 : Int32.toInt 104 = 104 := (by decide); have i32_97 : Int32.toInt 97 = 97 := (by decide); have i32_36 : Int32.toInt 36 = 36 := (by decide);    show (Int32.toInt (M.1 9)) ≤ 40; omega)) (fs_tb_at 1597 tw_1597 rfl) hM.1 rfl (fs_tb_at 1599 tw_1599 rfl) (fs_tb_at 44 tw_44 rfl) (fs_tb_at 96 tw_96 rfl) (fs_tb_at 1600 tw_1600 rfl) (by decide) (show (parseMethodDescriptor y_MO_here.desc).map (fun d => d.parameters.length) = some 0 by decide +kernel) rfl d_MO_readReference_47 ⟨Nat.le_of_ble_eq_true rfl, Nat.le_of_ble_eq_true rfl, Nat.le_of_ble_eq_true rfl, Nat.le_of_ble_eq_true rfl⟩ (fun v_ h_ H locs hq hP hS => ?_) (fun C_ a_ h_ H locs hq => absurd hq.1 (fun h9 => by cases h9))
        obtain ⟨ev, hM, hf2⟩ := hq
        cases ev
        have hf := hf.trans hf2
        rw [ke_MO_here] at hM
        refine W.widen (k := 0) (n := 0) (Nat.le_of_ble_eq_true rfl) (Nat.le_of_ble_eq_true rfl) ?_
        refine W.eq (g2 := F0 m 50 ls (.int ((p_MO_here (mo_f M 22 ((M.1 22) + 1))).1) :: .int 128 :: [])) rfl ?_
        refine lv_bipush (v := 97) hx hb d_MO_readReference_50 (by decide) ?_
        refine lv_isub hx hb d_MO_readReference_52 ?_
        refine lv_iadd hx hb d_MO_readReference_53 ?_
        refine lv_istore_n (lv' := [(1, .int (128 + (((p_MO_here (mo_f M 22 ((M.1 22) + 1))).1) - 97))), (0, .ref a)]) hx hb d_MO_readReference_54 rfl hl (by decide) rfl (fun ls hl => ?_)
        refine lv_aload_n hx hb d_MO_readReference_55 rfl (lv_at hl 1 rfl) ?_
        refine lv_dup hx hb d_MO_readReference_56 rfl ?_
        refine fs_get (v := .int ((M.1 22) + 1)) hx hb hts hown hK c_MO hP hM.1 22 (by decide) (hts _ (fs_tb_at 1478 tw_1478 rfl)) (fun _ h9 => h9) rfl d_MO_readReference_57 ?_
        refine lv_iconst (v := 1) hx hb d_MO_readReference_60 (by decide) ?_
        refine lv_iadd hx hb d_MO_readReference_61 ?_
        refine fs_put hx hb hts hown hK c_MO hP hS hM.1 22 (by decide) (hts _ (fs_tb_at 1478 tw_1478 rfl)) (fun _ h9 => h9) rfl rfl rfl (Nat.le_of_ble_eq_true rfl) d_MO_readReference_62 (fun H locs hP hS => ?_)
        obtain ⟨h85, hP, hM, hf⟩ : ∃ x, fs_P G.1 fs_cl (fs_A s00) x H ∧ mo_at G x a ad (mo_f (mo_f M 22 ((M.1 22) + 1)) 22 (((M.1 22) + 1) + 1)) ∧ mo_fr a ad h x := ⟨_, hP, hM.F (mo_F22 ad (mo_f M 22 ((M.1 22) + 1)) (((M.1 22) + 1) + 1)), hf.self⟩
        refine lv_aload_n hx hb d_MO_readReference_65 rfl (lv_at hl 1 rfl) ?_
        refine fs_cV B hl.1 hP hS (k_MO_here hSt hM  (by have i32_104 : Int32.toInt 104 = 104 := (by decide); have i32_97 : Int32.toInt 97 = 97 := (by decide); have i32_36 : Int32.toInt 36 = 36 := (by decide);   have tt1 : Int32.toInt ((M.1 22) + 1) = (Int32.toInt (M.1 22)) + 1 := (by rw [i32_add (by rw [i32_1]; omega), i32_1]); have tt2 : Int32.toInt (((M.1 22) + 1) + 1) = ((Int32.toInt (M.1 22)) + 1) + 1 := (by rw [i32_add (by rw [tt1, i32_1]; omega), tt1, i32_1]); show 0 ≤ (Int32.toInt (((M.1 22) + 1) + 1)); omega) (by have i32_104 : Int32.toInt 104 = 104 := (by decide); have i32_97 : Int32.toInt 97 = 97 := (by decide); have i32_36 : Int32.toInt 36 = 36 := (by decide);    show (Int32.toInt (M.1 9)) ≤ 40; omega)) (fs_tb_at 1597 tw_1597 rfl) hM.1 rfl (fs_tb_at 1599 tw_1599 rfl) (fs_tb_at 44 tw_44 rfl) (fs_tb_at 96 tw_96 rfl) (fs_tb_at 1600 tw_1600 rfl) (by decide) (show (parseMethodDescriptor y_MO_here.desc).map (fun d => d.parameters.length) = some 0 by decide +kernel) rfl d_MO_readReference_66 ⟨Nat.le_of_ble_eq_true rfl, Nat.le_of_ble_eq_true rfl, Nat.le_of_ble_eq_true rfl, Nat.le_of_ble_eq_true rfl⟩ (fun v_ h_ H locs hq hP hS => ?_) (fun C_ a_ h_ H locs hq => absurd hq.1 (fun h9 => by cases h9))
        obtain ⟨ev, hM, hf2⟩ := hq
        cases ev
        have hf := hf.trans hf2
        rw [ke_MO_here] at hM
        refine W.widen (k := 0) (n := 0) (Nat.le_of_ble_eq_true rfl) (Nat.le_of_ble_eq_true rfl) ?_
        refine W.eq (g2 := F0 m 69 ls (.int ((p_MO_here (mo_f (mo_f M 22 ((M.1 22) + 1)) 22 (((M.1 22) + 1) + 1))).1) :: [])) rfl ?_
        refine lv_bipush (v := 36) hx hb d_MO_readReference_69 (by decide) ?_
        refine lv_icmp_ne (tgt := 90) hx hb d_MO_readReference_71 (by decide) (fun c_86 => ?_) (fun c_86 => ?_)
        · refine lv_aload_n hx hb d_MO_readReference_90 rfl (lv_at hl 1 rfl) ?_
          refine fs_cV B hl.1 hP hS (k_MO_here hSt hM  (by have i32_104 : Int32.toInt 104 = 104 := (by decide); have i32_97 : Int32.toInt 97 = 97 := (by decide); have i32_36 : Int32.toInt 36 = 36 := (by decide);   have tt1 : Int32.toInt ((M.1 22) + 1) = (Int32.toInt (M.1 22)) + 1 := (by rw [i32_add (by rw [i32_1]; omega), i32_1]); have tt2 : Int32.toInt (((M.1 22) + 1) + 1) = ((Int32.toInt (M.1 22)) + 1) + 1 := (by rw [i32_add (by rw [tt1, i32_1]; omega), tt1, i32_1]); show 0 ≤ (Int32.toInt (((M.1 22) + 1) + 1)); omega) (by have i32_104 : Int32.toInt 104 = 104 := (by decide); have i32_97 : Int32.toInt 97 = 97 := (by decide); have i32_36 : Int32.toInt 36 = 36 := (by decide);    show (Int32.toInt (M.1 9)) ≤ 40; omega)) (fs_tb_at 1597 tw_1597 rfl) hM.1 rfl (fs_tb_at 1599 tw_1599 rfl) (fs_tb_at 44 tw_44 rfl) (fs_tb_at 96 tw_96 rfl) (fs_tb_at 1600 tw_1600 rfl) (by decide) (show (parseMethodDescriptor y_MO_here.desc).map (fun d => d.parameters.length) = some 0 by decide +kernel) rfl d_MO_readReference_91 ⟨Nat.le_of_ble_eq_true rfl, Nat.le_of_ble_eq_true rfl, Nat.le_of_ble_eq_true rfl, Nat.le_of_ble_eq_true rfl⟩ (fun v_ h_ H locs hq hP hS => ?_) (fun C_ a_ h_ H locs hq => absurd hq.1 (fun h9 => by cases h9))
          obtain ⟨ev, hM, hf2⟩ := hq
          cases ev
          have hf := hf.trans hf2
          rw [ke_MO_here] at hM
          refine W.widen (k := 0) (n := 0) (Nat.le_of_ble_eq_true rfl) (Nat.le_of_ble_eq_true rfl) ?_
          refine W.eq (g2 := F0 m 94 ls (.int ((p_MO_here (mo_f (mo_f M 22 ((M.1 22) + 1)) 22 (((M.1 22) + 1) + 1))).1) :: [])) rfl ?_
          refine fs_cS B hl.1 hP hS (k_MO_digit hSt ((p_MO_here (mo_f (mo_f M 22 ((M.1 22) + 1)) 22 (((M.1 22) + 1) + 1))).1) ) (fs_tb_at 1624 tw_1624 rfl) (fs_tb_at 1625 tw_1625 rfl) (fs_tb_at 96 tw_96 rfl) (fs_tb_at 1626 tw_1626 rfl) (by decide) (show (parseMethodDescriptor y_MO_digit.desc).map (fun d => d.parameters.length) = some 1 by decide +kernel) rfl d_MO_readReference_94 ⟨Nat.le_of_ble_eq_true rfl, Nat.le_of_ble_eq_true rfl, Nat.le_of_ble_eq_true rfl, Nat.le_of_ble_eq_true rfl⟩ (fun v_ h_ H locs hq hP hS => ?_) (fun C_ a_ h_ H locs hq => absurd hq.1 (fun h9 => by cases h9))
          obtain ⟨ev, eh⟩ := hq
          cases ev
          rw [eh] at hP
          refine W.widen (k := 0) (n := 0) (Nat.le_of_ble_eq_true rfl) (Nat.le_of_ble_eq_true rfl) ?_
          refine W.eq (g2 := F0 m 97 ls (.int (p_MO_digit ((p_MO_here (mo_f (mo_f M 22 ((M.1 22) + 1)) 22 (((M.1 22) + 1) + 1))).1)) :: [])) rfl ?_
          refine lv_if_eq (tgt := 109) hx hb d_MO_readReference_97 (by decide) (fun c_87 => ?_) (fun c_87 => ?_)
          · refine lv_iconst (v := (-1)) hx hb d_MO_readReference_109 (by decide) ?_
            have e_ : p_MO_readReference M = ((-1), (mo_f (mo_f M 22 ((M.1 22) + 1)) 22 (((M.1 22) + 1) + 1))) := by rw [p_MO_readReference, if_pos c_64, if_neg c_83, if_pos c_84, if_neg c_86, if_pos c_87]
            exact fs_iret hx hb hr hlocks hw hP hS (by first | rfl | exact vp_nar_int _) (by omega) (by omega) (⟨by rw [e_], by rw [e_]; exact hM, hf⟩) d_MO_readReference_110
          · refine lv_aload_n hx hb d_MO_readReference_100 rfl (lv_at hl 1 rfl) ?_
            refine fs_cV B hl.1 hP hS (k_MO_here hSt hM  (by have i32_97 : Int32.toInt 97 = 97 := (by decide); have i32_36 : Int32.toInt 36 = 36 := (by decide); have i32_104 : Int32.toInt 104 = 104 := (by decide);   have tt1 : Int32.toInt ((M.1 22) + 1) = (Int32.toInt (M.1 22)) + 1 := (by rw [i32_add (by rw [i32_1]; omega), i32_1]); have tt2 : Int32.toInt (((M.1 22) + 1) + 1) = ((Int32.toInt (M.1 22)) + 1) + 1 := (by rw [i32_add (by rw [tt1, i32_1]; omega), tt1, i32_1]); show 0 ≤ (Int32.toInt (((M.1 22) + 1) + 1)); omega) (by have i32_104 : Int32.toInt 104 = 104 := (by decide); have i32_97 : Int32.toInt 97 = 97 := (by decide); have i32_36 : Int32.toInt 36 = 36 := (by decide);    show (Int32.toInt (M.1 9)) ≤ 40; omega)) (fs_tb_at 1597 tw_1597 rfl) hM.1 rfl (fs_tb_at 1599 tw_1599 rfl) (fs_tb_at 44 tw_44 rfl) (fs_tb_at 96 tw_96 rfl) (fs_tb_at 1600 tw_1600 rfl) (by decide) (show (parseMethodDescriptor y_MO_here.desc).map (fun d => d.parameters.length) = some 0 by decide +kernel) rfl d_MO_readReference_101 ⟨Nat.le_of_ble_eq_true rfl, Nat.le_of_ble_eq_true rfl, Nat.le_of_ble_eq_true rfl, Nat.le_of_ble_eq_true rfl⟩ (fun v_ h_ H locs hq hP hS => ?_) (fun C_ a_ h_ H locs hq => absurd hq.1 (fun h9 => by cases h9))
            obtain ⟨ev, hM, hf2⟩ := hq
            cases ev
            have hf := hf.trans hf2
            rw [ke_MO_here] at hM
            refine W.widen (k := 0) (n := 0) (Nat.le_of_ble_eq_true rfl) (Nat.le_of_ble_eq_true rfl) ?_
            refine W.eq (g2 := F0 m 104 ls (.int ((p_MO_here (mo_f (mo_f M 22 ((M.1 22) + 1)) 22 (((M.1 22) + 1) + 1))).1) :: [])) rfl ?_
            refine lv_bipush (v := 48) hx hb d_MO_readReference_104 (by decide) ?_
            refine lv_icmp_ne (tgt := 111) hx hb d_MO_readReference_106 (by decide) (fun c_88 => ?_) (fun c_88 => ?_)
            · refine lv_aload_n hx hb d_MO_readReference_111 rfl (lv_at hl 1 rfl) ?_
              refine fs_cV B hl.1 hP hS (k_MO_here hSt hM  (by have i32_97 : Int32.toInt 97 = 97 := (by decide); have i32_36 : Int32.toInt 36 = 36 := (by decide); have i32_104 : Int32.toInt 104 = 104 := (by decide);   have tt1 : Int32.toInt ((M.1 22) + 1) = (Int32.toInt (M.1 22)) + 1 := (by rw [i32_add (by rw [i32_1]; omega), i32_1]); have tt2 : Int32.toInt (((M.1 22) + 1) + 1) = ((Int32.toInt (M.1 22)) + 1) + 1 := (by rw [i32_add (by rw [tt1, i32_1]; omega), tt1, i32_1]); show 0 ≤ (Int32.toInt (((M.1 22) + 1) + 1)); omega) (by have i32_97 : Int32.toInt 97 = 97 := (by decide); have i32_36 : Int32.toInt 36 = 36 := (by decide); have i32_104 : Int32.toInt 104 = 104 := (by decide);    show (Int32.toInt (M.1 9)) ≤ 40; omega)) (fs_tb_at 1597 tw_1597 rfl) hM.1 rfl (fs_tb_at 1599 tw_1599 rfl) (fs_tb_at 44 tw_44 rfl) (fs_tb_at 96 tw_96 rfl) (fs_tb_at 1600 tw_1600 rfl) (by decide) (show (parseMethodDescriptor y_MO_here.desc).map (fun d => d.parameters.length) = some 0 by decide +kernel) rfl d_MO_readReference_112 ⟨Nat.le_of_ble_eq_true rfl, Nat.le_of_ble_eq_true rfl, Nat.le_of_ble_eq_true rfl, Nat.le_of_ble_eq_true rfl⟩ (fun v_ h_ H locs hq hP hS => ?_) (fun C_ a_ h_ H locs hq => absurd hq.1 (fun h9 => by cases h9))
              obtain ⟨ev, hM, hf2⟩ := hq
              cases ev
              have hf := hf.trans hf2
              rw [ke_MO_here] at hM
              refine W.widen (k := 0) (n := 0) (Nat.le_of_ble_eq_true rfl) (Nat.le_of_ble_eq_true rfl) ?_
              refine W.eq (g2 := F0 m 115 ls (.int ((p_MO_here (mo_f (mo_f M 22 ((M.1 22) + 1)) 22 (((M.1 22) + 1) + 1))).1) :: [])) rfl ?_
              refine lv_bipush (v := 49) hx hb d_MO_readReference_115 (by decide) ?_
              refine lv_isub hx hb d_MO_readReference_117 ?_
              refine lv_istore_n (lv' := [(2, .int (((p_MO_here (mo_f (mo_f M 22 ((M.1 22) + 1)) 22 (((M.1 22) + 1) + 1))).1) - 49)), (1, .int (128 + (((p_MO_here (mo_f M 22 ((M.1 22) + 1))).1) - 97))), (0, .ref a)]) hx hb d_MO_readReference_118 rfl hl (by decide) rfl (fun ls hl => ?_)
              refine lv_aload_n hx hb d_MO_readReference_119 rfl (lv_at hl 2 rfl) ?_
              refine lv_dup hx hb d_MO_readReference_120 rfl ?_
              refine fs_get (v := .int (((M.1 22) + 1) + 1)) hx hb hts hown hK c_MO hP hM.1 22 (by decide) (hts _ (fs_tb_at 1478 tw_1478 rfl)) (fun _ h9 => h9) rfl d_MO_readReference_121 ?_
              refine lv_iconst (v := 1) hx hb d_MO_readReference_124 (by decide) ?_
              refine lv_iadd hx hb d_MO_readReference_125 ?_
              refine fs_put hx hb hts hown hK c_MO hP hS hM.1 22 (by decide) (hts _ (fs_tb_at 1478 tw_1478 rfl)) (fun _ h9 => h9) rfl rfl rfl (Nat.le_of_ble_eq_true rfl) d_MO_readReference_126 (fun H locs hP hS => ?_)
              obtain ⟨h89, hP, hM, hf⟩ : ∃ x, fs_P G.1 fs_cl (fs_A s00) x H ∧ mo_at G x a ad (mo_f (mo_f (mo_f M 22 ((M.1 22) + 1)) 22 (((M.1 22) + 1) + 1)) 22 ((((M.1 22) + 1) + 1) + 1)) ∧ mo_fr a ad h x := ⟨_, hP, hM.F (mo_F22 ad (mo_f (mo_f M 22 ((M.1 22) + 1)) 22 (((M.1 22) + 1) + 1)) ((((M.1 22) + 1) + 1) + 1)), hf.self⟩
              refine lv_iload_n hx hb d_MO_readReference_129 rfl (lv_at hl 0 rfl) ?_
              refine lv_if_ne (tgt := 155) hx hb d_MO_readReference_130 (by decide) (fun c_90 => ?_) (fun c_90 => ?_)
              · refine lv_iload_n hx hb d_MO_readReference_155 rfl (lv_at hl 1 rfl) ?_
                refine lv_bipush (v := 8) hx hb d_MO_readReference_156 (by decide) ?_
                refine lv_iload_n hx hb d_MO_readReference_158 rfl (lv_at hl 0 rfl) ?_
                refine lv_imul hx hb d_MO_readReference_159 ?_
                refine lv_iadd hx hb d_MO_readReference_160 ?_
                have e_ : p_MO_readReference M = ((128 + (((p_MO_here (mo_f M 22 ((M.1 22) + 1))).1) - 97)) + (8 * (((p_MO_here (mo_f (mo_f M 22 ((M.1 22) + 1)) 22 (((M.1 22) + 1) + 1))).1) - 49)), (mo_f (mo_f (mo_f M 22 ((M.1 22) + 1)) 22 (((M.1 22) + 1) + 1)) 22 ((((M.1 22) + 1) + 1) + 1))) := by rw [p_MO_readReference, if_pos c_64, if_neg c_83, if_pos c_84, if_neg c_86, if_neg c_87, if_neg c_88, if_neg c_90]
                exact fs_iret hx hb hr hlocks hw hP hS (by first | rfl | exact vp_nar_int _) (by omega) (by omega) (⟨by rw [e_], by rw [e_]; exact hM, hf⟩) d_MO_readReference_161
              · refine lv_aload_n hx hb d_MO_readReference_133 rfl (lv_at hl 2 rfl) ?_
                refine fs_cV B hl.1 hP hS (k_MO_here hSt hM  (by have i32_97 : Int32.toInt 97 = 97 := (by decide); have i32_36 : Int32.toInt 36 = 36 := (by decide); have i32_104 : Int32.toInt 104 = 104 := (by decide);   have tt1 : Int32.toInt ((M.1 22) + 1) = (Int32.toInt (M.1 22)) + 1 := (by rw [i32_add (by rw [i32_1]; omega), i32_1]); have tt2 : Int32.toInt (((M.1 22) + 1) + 1) = ((Int32.toInt (M.1 22)) + 1) + 1 := (by rw [i32_add (by rw [tt1, i32_1]; omega), tt1, i32_1]); have tt3 : Int32.toInt ((((M.1 22) + 1) + 1) + 1) = (((Int32.toInt (M.1 22)) + 1) + 1) + 1 := (by rw [i32_add (by rw [tt2, i32_1]; omega), tt2, i32_1]); show 0 ≤ (Int32.toInt ((((M.1 22) + 1) + 1) + 1)); omega) (by have i32_97 : Int32.toInt 97 = 97 := (by decide); have i32_36 : Int32.toInt 36 = 36 := (by decide); have i32_104 : Int32.toInt 104 = 104 := (by decide);    show (Int32.toInt (M.1 9)) ≤ 40; omega)) (fs_tb_at 1597 tw_1597 rfl) hM.1 rfl (fs_tb_at 1599 tw_1599 rfl) (fs_tb_at 44 tw_44 rfl) (fs_tb_at 96 tw_96 rfl) (fs_tb_at 1600 tw_1600 rfl) (by decide) (show (parseMethodDescriptor y_MO_here.desc).map (fun d => d.parameters.length) = some 0 by decide +kernel) rfl d_MO_readReference_134 ⟨Nat.le_of_ble_eq_true rfl, Nat.le_of_ble_eq_true rfl, Nat.le_of_ble_eq_true rfl, Nat.le_of_ble_eq_true rfl⟩ (fun v_ h_ H locs hq hP hS => ?_) (fun C_ a_ h_ H locs hq => absurd hq.1 (fun h9 => by cases h9))
                obtain ⟨ev, hM, hf2⟩ := hq
                cases ev
                have hf := hf.trans hf2
                rw [ke_MO_here] at hM
                refine W.widen (k := 0) (n := 0) (Nat.le_of_ble_eq_true rfl) (Nat.le_of_ble_eq_true rfl) ?_
                refine W.eq (g2 := F0 m 137 ls (.int ((p_MO_here (mo_f (mo_f (mo_f M 22 ((M.1 22) + 1)) 22 (((M.1 22) + 1) + 1)) 22 ((((M.1 22) + 1) + 1) + 1))).1) :: [])) rfl ?_
                refine lv_bipush (v := 48) hx hb d_MO_readReference_137 (by decide) ?_
                refine lv_icmp_ne (tgt := 155) hx hb d_MO_readReference_139 (by decide) (fun c_91 => ?_) (fun c_91 => ?_)
                · refine lv_iload_n hx hb d_MO_readReference_155 rfl (lv_at hl 1 rfl) ?_
                  refine lv_bipush (v := 8) hx hb d_MO_readReference_156 (by decide) ?_
                  refine lv_iload_n hx hb d_MO_readReference_158 rfl (lv_at hl 0 rfl) ?_
                  refine lv_imul hx hb d_MO_readReference_159 ?_
                  refine lv_iadd hx hb d_MO_readReference_160 ?_
                  have e_ : p_MO_readReference M = ((128 + (((p_MO_here (mo_f M 22 ((M.1 22) + 1))).1) - 97)) + (8 * (((p_MO_here (mo_f (mo_f M 22 ((M.1 22) + 1)) 22 (((M.1 22) + 1) + 1))).1) - 49)), (mo_f (mo_f (mo_f M 22 ((M.1 22) + 1)) 22 (((M.1 22) + 1) + 1)) 22 ((((M.1 22) + 1) + 1) + 1))) := by rw [p_MO_readReference, if_pos c_64, if_neg c_83, if_pos c_84, if_neg c_86, if_neg c_87, if_neg c_88, if_pos c_90, if_neg c_91]
                  exact fs_iret hx hb hr hlocks hw hP hS (by first | rfl | exact vp_nar_int _) (by omega) (by omega) (⟨by rw [e_], by rw [e_]; exact hM, hf⟩) d_MO_readReference_161
                · refine lv_bipush (v := 9) hx hb d_MO_readReference_142 (by decide) ?_
                  refine lv_istore_n (lv' := [(2, .int 9), (1, .int (128 + (((p_MO_here (mo_f M 22 ((M.1 22) + 1))).1) - 97))), (0, .ref a)]) hx hb d_MO_readReference_144 rfl hl (by decide) rfl (fun ls hl => ?_)
                  refine lv_aload_n hx hb d_MO_readReference_145 rfl (lv_at hl 2 rfl) ?_
                  refine lv_dup hx hb d_MO_readReference_146 rfl ?_
                  refine fs_get (v := .int ((((M.1 22) + 1) + 1) + 1)) hx hb hts hown hK c_MO hP hM.1 22 (by decide) (hts _ (fs_tb_at 1478 tw_1478 rfl)) (fun _ h9 => h9) rfl d_MO_readReference_147 ?_
                  refine lv_iconst (v := 1) hx hb d_MO_readReference_150 (by decide) ?_
                  refine lv_iadd hx hb d_MO_readReference_151 ?_
                  refine fs_put hx hb hts hown hK c_MO hP hS hM.1 22 (by decide) (hts _ (fs_tb_at 1478 tw_1478 rfl)) (fun _ h9 => h9) rfl rfl rfl (Nat.le_of_ble_eq_true rfl) d_MO_readReference_152 (fun H locs hP hS => ?_)
                  obtain ⟨h92, hP, hM, hf⟩ : ∃ x, fs_P G.1 fs_cl (fs_A s00) x H ∧ mo_at G x a ad (mo_f (mo_f (mo_f (mo_f M 22 ((M.1 22) + 1)) 22 (((M.1 22) + 1) + 1)) 22 ((((M.1 22) + 1) + 1) + 1)) 22 (((((M.1 22) + 1) + 1) + 1) + 1)) ∧ mo_fr a ad h x := ⟨_, hP, hM.F (mo_F22 ad (mo_f (mo_f (mo_f M 22 ((M.1 22) + 1)) 22 (((M.1 22) + 1) + 1)) 22 ((((M.1 22) + 1) + 1) + 1)) (((((M.1 22) + 1) + 1) + 1) + 1)), hf.self⟩
                  refine lv_iload_n hx hb d_MO_readReference_155 rfl (lv_at hl 1 rfl) ?_
                  refine lv_bipush (v := 8) hx hb d_MO_readReference_156 (by decide) ?_
                  refine lv_iload_n hx hb d_MO_readReference_158 rfl (lv_at hl 0 rfl) ?_
                  refine lv_imul hx hb d_MO_readReference_159 ?_
                  refine lv_iadd hx hb d_MO_readReference_160 ?_
                  have e_ : p_MO_readReference M = ((128 + (((p_MO_here (mo_f M 22 ((M.1 22) + 1))).1) - 97)) + (8 * 9), (mo_f (mo_f (mo_f (mo_f M 22 ((M.1 22) + 1)) 22 (((M.1 22) + 1) + 1)) 22 ((((M.1 22) + 1) + 1) + 1)) 22 (((((M.1 22) + 1) + 1) + 1) + 1))) := by rw [p_MO_readReference, if_pos c_64, if_neg c_83, if_pos c_84, if_neg c_86, if_neg c_87, if_neg c_88, if_pos c_90, if_pos c_91]
                  exact fs_iret hx hb hr hlocks hw hP hS (by first | rfl | exact vp_nar_int _) (by omega) (by omega) (⟨by rw [e_], by rw [e_]; exact hM, hf⟩) d_MO_readReference_161
            · refine lv_iconst (v := (-1)) hx hb d_MO_readReference_109 (by decide) ?_
              have e_ : p_MO_readReference M = ((-1), (mo_f (mo_f M 22 ((M.1 22) + 1)) 22 (((M.1 22) + 1) + 1))) := by rw [p_MO_readReference, if_pos c_64, if_neg c_83, if_pos c_84, if_neg c_86, if_neg c_87, if_pos c_88]
              exact fs_iret hx hb hr hlocks hw hP hS (by first | rfl | exact vp_nar_int _) (by omega) (by omega) (⟨by rw [e_], by rw [e_]; exact hM, hf⟩) d_MO_readReference_110
        · refine lv_iincW (v := (128 + (((p_MO_here (mo_f M 22 ((M.1 22) + 1))).1) - 97)) + 256) (lv' := [(1, .int ((128 + (((p_MO_here (mo_f M 22 ((M.1 22) + 1))).1) - 97)) + 256)), (0, .ref a)]) hx hb d_MO_readReference_74 hl (k := 0) rfl rfl (by decide) rfl (fun ls hl => ?_)
          refine lv_aload_n hx hb d_MO_readReference_80 rfl (lv_at hl 1 rfl) ?_
          refine lv_dup hx hb d_MO_readReference_81 rfl ?_
          refine fs_get (v := .int (((M.1 22) + 1) + 1)) hx hb hts hown hK c_MO hP hM.1 22 (by decide) (hts _ (fs_tb_at 1478 tw_1478 rfl)) (fun _ h9 => h9) rfl d_MO_readReference_82 ?_
          refine lv_iconst (v := 1) hx hb d_MO_readReference_85 (by decide) ?_
          refine lv_iadd hx hb d_MO_readReference_86 ?_
          refine fs_put hx hb hts hown hK c_MO hP hS hM.1 22 (by decide) (hts _ (fs_tb_at 1478 tw_1478 rfl)) (fun _ h9 => h9) rfl rfl rfl (Nat.le_of_ble_eq_true rfl) d_MO_readReference_87 (fun H locs hP hS => ?_)
          obtain ⟨h93, hP, hM, hf⟩ : ∃ x, fs_P G.1 fs_cl (fs_A s00) x H ∧ mo_at G x a ad (mo_f (mo_f (mo_f M 22 ((M.1 22) + 1)) 22 (((M.1 22) + 1) + 1)) 22 ((((M.1 22) + 1) + 1) + 1)) ∧ mo_fr a ad h x := ⟨_, hP, hM.F (mo_F22 ad (mo_f (mo_f M 22 ((M.1 22) + 1)) 22 (((M.1 22) + 1) + 1)) ((((M.1 22) + 1) + 1) + 1)), hf.self⟩
          refine lv_aload_n hx hb d_MO_readReference_90 rfl (lv_at hl 1 rfl) ?_
          refine fs_cV B hl.1 hP hS (k_MO_here hSt hM  (by have i32_104 : Int32.toInt 104 = 104 := (by decide); have i32_97 : Int32.toInt 97 = 97 := (by decide); have i32_36 : Int32.toInt 36 = 36 := (by decide);   have tt1 : Int32.toInt ((M.1 22) + 1) = (Int32.toInt (M.1 22)) + 1 := (by rw [i32_add (by rw [i32_1]; omega), i32_1]); have tt2 : Int32.toInt (((M.1 22) + 1) + 1) = ((Int32.toInt (M.1 22)) + 1) + 1 := (by rw [i32_add (by rw [tt1, i32_1]; omega), tt1, i32_1]); have tt3 : Int32.toInt ((((M.1 22) + 1) + 1) + 1) = (((Int32.toInt (M.1 22)) + 1) + 1) + 1 := (by rw [i32_add (by rw [tt2, i32_1]; omega), tt2, i32_1]); show 0 ≤ (Int32.toInt ((((M.1 22) + 1) + 1) + 1)); omega) (by have i32_104 : Int32.toInt 104 = 104 := (by decide); have i32_97 : Int32.toInt 97 = 97 := (by decide); have i32_36 : Int32.toInt 36 = 36 := (by decide);    show (Int32.toInt (M.1 9)) ≤ 40; omega)) (fs_tb_at 1597 tw_1597 rfl) hM.1 rfl (fs_tb_at 1599 tw_1599 rfl) (fs_tb_at 44 tw_44 rfl) (fs_tb_at 96 tw_96 rfl) (fs_tb_at 1600 tw_1600 rfl) (by decide) (show (parseMethodDescriptor y_MO_here.desc).map (fun d => d.parameters.length) = some 0 by decide +kernel) rfl d_MO_readReference_91 ⟨Nat.le_of_ble_eq_true rfl, Nat.le_of_ble_eq_true rfl, Nat.le_of_ble_eq_true rfl, Nat.le_of_ble_eq_true rfl⟩ (fun v_ h_ H locs hq hP hS => ?_) (fun C_ a_ h_ H locs hq => absurd hq.1 (fun h9 => by cases h9))
          obtain ⟨ev, hM, hf2⟩ := hq
          cases ev
          have hf := hf.trans hf2
          rw [ke_MO_here] at hM
          refine W.widen (k := 0) (n := 0) (Nat.le_of_ble_eq_true rfl) (Nat.le_of_ble_eq_true rfl) ?_
          refine W.eq (g2 := F0 m 94 ls (.int ((p_MO_here (mo_f (mo_f (mo_f M 22 ((M.1 22) + 1)) 22 (((M.1 22) + 1) + 1)) 22 ((((M.1 22) + 1) + 1) + 1))).1) :: [])) rfl ?_
          refine fs_cS B hl.1 hP hS (k_MO_digit hSt ((p_MO_here (mo_f (mo_f (mo_f M 22 ((M.1 22) + 1)) 22 (((M.1 22) + 1) + 1)) 22 ((((M.1 22) + 1) + 1) + 1))).1) ) (fs_tb_at 1624 tw_1624 rfl) (fs_tb_at 1625 tw_1625 rfl) (fs_tb_at 96 tw_96 rfl) (fs_tb_at 1626 tw_1626 rfl) (by decide) (show (parseMethodDescriptor y_MO_digit.desc).map (fun d => d.parameters.length) = some 1 by decide +kernel) rfl d_MO_readReference_94 ⟨Nat.le_of_ble_eq_true rfl, Nat.le_of_ble_eq_true rfl, Nat.le_of_ble_eq_true rfl, Nat.le_of_ble_eq_true rfl⟩ (fun v_ h_ H locs hq hP hS => ?_) (fun C_ a_ h_ H locs hq => absurd hq.1 (fun h9 => by cases h9))
          obtain ⟨ev, eh⟩ := hq
          cases ev
          rw [eh] at hP
          refine W.widen (k := 0) (n := 0) (Nat.le_of_ble_eq_true rfl) (Nat.le_of_ble_eq_true rfl) ?_
          refine W.eq (g2 := F0 m 97 ls (.int (p_MO_digit ((p_MO_here (mo_f (mo_f (mo_f M 22 ((M.1 22) + 1)) 22 (((M.1 22) + 1) + 1)) 22 ((((M.1 22) + 1) + 1) + 1))).1)) :: [])) rfl ?_
          refine lv_if_eq (tgt := 109) hx hb d_MO_readReference_97 (by decide) (fun c_94 => ?_) (fun c_94 => ?_)
          · refine lv_iconst (v := (-1)) hx hb d_MO_readReference_109 (by decide) ?_
            have e_ : p_MO_readReference M = ((-1), (mo_f (mo_f (mo_f M 22 ((M.1 22) + 1)) 22 (((M.1 22) + 1) + 1)) 22 ((((M.1 22) + 1) + 1) + 1))) := by rw [p_MO_readReference, if_pos c_64, if_neg c_83, if_pos c_84, if_pos c_86, if_pos c_94]
            exact fs_iret hx hb hr hlocks hw hP hS (by first | rfl | exact vp_nar_int _) (by omega) (by omega) (⟨by rw [e_], by rw [e_]; exact hM, hf⟩) d_MO_readReference_110
          · refine lv_aload_n hx hb d_MO_readReference_100 rfl (lv_at hl 1 rfl) ?_
            refine fs_cV B hl.1 hP hS (k_MO_here hSt hM  (by have i32_97 : Int32.toInt 97 = 97 := (by decide); have i32_36 : Int32.toInt 36 = 36 := (by decide); have i32_104 : Int32.toInt 104 = 104 := (by decide);   have tt1 : Int32.toInt ((M.1 22) + 1) = (Int32.toInt (M.1 22)) + 1 := (by rw [i32_add (by rw [i32_1]; omega), i32_1]); have tt2 : Int32.toInt (((M.1 22) + 1) + 1) = ((Int32.toInt (M.1 22)) + 1) + 1 := (by rw [i32_add (by rw [tt1, i32_1]; omega), tt1, i32_1]); have tt3 : Int32.toInt ((((M.1 22) + 1) + 1) + 1) = (((Int32.toInt (M.1 22)) + 1) + 1) + 1 := (by rw [i32_add (by rw [tt2, i32_1]; omega), tt2, i32_1]); show 0 ≤ (Int32.toInt ((((M.1 22) + 1) + 1) + 1)); omega) (by have i32_104 : Int32.toInt 104 = 104 := (by decide); have i32_97 : Int32.toInt 97 = 97 := (by decide); have i32_36 : Int32.toInt 36 = 36 := (by decide);    show (Int32.toInt (M.1 9)) ≤ 40; omega)) (fs_tb_at 1597 tw_1597 rfl) hM.1 rfl (fs_tb_at 1599 tw_1599 rfl) (fs_tb_at 44 tw_44 rfl) (fs_tb_at 96 tw_96 rfl) (fs_tb_at 1600 tw_1600 rfl) (by decide) (show (parseMethodDescriptor y_MO_here.desc).map (fun d => d.parameters.length) = some 0 by decide +kernel) rfl d_MO_readReference_101 ⟨Nat.le_of_ble_eq_true rfl, Nat.le_of_ble_eq_true rfl, Nat.le_of_ble_eq_true rfl, Nat.le_of_ble_eq_true rfl⟩ (fun v_ h_ H locs hq hP hS => ?_) (fun C_ a_ h_ H locs hq => absurd hq.1 (fun h9 => by cases h9))
            obtain ⟨ev, hM, hf2⟩ := hq
            cases ev
            have hf := hf.trans hf2
            rw [ke_MO_here] at hM
            refine W.widen (k := 0) (n := 0) (Nat.le_of_ble_eq_true rfl) (Nat.le_of_ble_eq_true rfl) ?_
            refine W.eq (g2 := F0 m 104 ls (.int ((p_MO_here (mo_f (mo_f (mo_f M 22 ((M.1 22) + 1)) 22 (((M.1 22) + 1) + 1)) 22 ((((M.1 22) + 1) + 1) + 1))).1) :: [])) rfl ?_
            refine lv_bipush (v := 48) hx hb d_MO_readReference_104 (by decide) ?_
            refine lv_icmp_ne (tgt := 111) hx hb d_MO_readReference_106 (by decide) (fun c_95 => ?_) (fun c_95 => ?_)
            · refine lv_aload_n hx hb d_MO_readReference_111 rfl (lv_at hl 1 rfl) ?_
              refine fs_cV B hl.1 hP hS (k_MO_here hSt hM  (by have i32_97 : Int32.toInt 97 = 97 := (by decide); have i32_36 : Int32.toInt 36 = 36 := (by decide); have i32_104 : Int32.toInt 104 = 104 := (by decide);   have tt1 : Int32.toInt ((M.1 22) + 1) = (Int32.toInt (M.1 22)) + 1 := (by rw [i32_add (by rw [i32_1]; omega), i32_1]); have tt2 : Int32.toInt (((M.1 22) + 1) + 1) = ((Int32.toInt (M.1 22)) + 1) + 1 := (by rw [i32_add (by rw [tt1, i32_1]; omega), tt1, i32_1]); have tt3 : Int32.toInt ((((M.1 22) + 1) + 1) + 1) = (((Int32.toInt (M.1 22)) + 1) + 1) + 1 := (by rw [i32_add (by rw [tt2, i32_1]; omega), tt2, i32_1]); show 0 ≤ (Int32.toInt ((((M.1 22) + 1) + 1) + 1)); omega) (by have i32_97 : Int32.toInt 97 = 97 := (by decide); have i32_36 : Int32.toInt 36 = 36 := (by decide); have i32_104 : Int32.toInt 104 = 104 := (by decide);    show (Int32.toInt (M.1 9)) ≤ 40; omega)) (fs_tb_at 1597 tw_1597 rfl) hM.1 rfl (fs_tb_at 1599 tw_1599 rfl) (fs_tb_at 44 tw_44 rfl) (fs_tb_at 96 tw_96 rfl) (fs_tb_at 1600 tw_1600 rfl) (by decide) (show (parseMethodDescriptor y_MO_here.desc).map (fun d => d.parameters.length) = some 0 by decide +kernel) rfl d_MO_readReference_112 ⟨Nat.le_of_ble_eq_true rfl, Nat.le_of_ble_eq_true rfl, Nat.le_of_ble_eq_true rfl, Nat.le_of_ble_eq_true rfl⟩ (fun v_ h_ H locs hq hP hS => ?_) (fun C_ a_ h_ H locs hq => absurd hq.1 (fun h9 => by cases h9))
              obtain ⟨ev, hM, hf2⟩ := hq
              cases ev
              have hf := hf.trans hf2
              rw [ke_MO_here] at hM
              refine W.widen (k := 0) (n := 0) (Nat.le_of_ble_eq_true rfl) (Nat.le_of_ble_eq_true rfl) ?_
              refine W.eq (g2 := F0 m 115 ls (.int ((p_MO_here (mo_f (mo_f (mo_f M 22 ((M.1 22) + 1)) 22 (((M.1 22) + 1) + 1)) 22 ((((M.1 22) + 1) + 1) + 1))).1) :: [])) rfl ?_
              refine lv_bipush (v := 49) hx hb d_MO_readReference_115 (by decide) ?_
              refine lv_isub hx hb d_MO_readReference_117 ?_
              refine lv_istore_n (lv' := [(2, .int (((p_MO_here (mo_f (mo_f (mo_f M 22 ((M.1 22) + 1)) 22 (((M.1 22) + 1) + 1)) 22 ((((M.1 22) + 1) + 1) + 1))).1) - 49)), (1, .int ((128 + (((p_MO_here (mo_f M 22 ((M.1 22) + 1))).1) - 97)) + 256)), (0, .ref a)]) hx hb d_MO_readReference_118 rfl hl (by decide) rfl (fun ls hl => ?_)
              refine lv_aload_n hx hb d_MO_readReference_119 rfl (lv_at hl 2 rfl) ?_
              refine lv_dup hx hb d_MO_readReference_120 rfl ?_
              refine fs_get (v := .int ((((M.1 22) + 1) + 1) + 1)) hx hb hts hown hK c_MO hP hM.1 22 (by decide) (hts _ (fs_tb_at 1478 tw_1478 rfl)) (fun _ h9 => h9) rfl d_MO_readReference_121 ?_
              refine lv_iconst (v := 1) hx hb d_MO_readReference_124 (by decide) ?_
              refine lv_iadd hx hb d_MO_readReference_125 ?_
              refine fs_put hx hb hts hown hK c_MO hP hS hM.1 22 (by decide) (hts _ (fs_tb_at 1478 tw_1478 rfl)) (fun _ h9 => h9) rfl rfl rfl (Nat.le_of_ble_eq_true rfl) d_MO_readReference_126 (fun H locs hP hS => ?_)
              obtain ⟨h96, hP, hM, hf⟩ : ∃ x, fs_P G.1 fs_cl (fs_A s00) x H ∧ mo_at G x a ad (mo_f (mo_f (mo_f (mo_f M 22 ((M.1 22) + 1)) 22 (((M.1 22) + 1) + 1)) 22 ((((M.1 22) + 1) + 1) + 1)) 22 (((((M.1 22) + 1) + 1) + 1) + 1)) ∧ mo_fr a ad h x := ⟨_, hP, hM.F (mo_F22 ad (mo_f (mo_f (mo_f M 22 ((M.1 22) + 1)) 22 (((M.1 22) + 1) + 1)) 22 ((((M.1 22) + 1) + 1) + 1)) (((((M.1 22) + 1) + 1) + 1) + 1)), hf.self⟩
              refine lv_iload_n hx hb d_MO_readReference_129 rfl (lv_at hl 0 rfl) ?_
              refine lv_if_ne (tgt := 155) hx hb d_MO_readReference_130 (by decide) (fun c_97 => ?_) (fun c_97 => ?_)
              · refine lv_iload_n hx hb d_MO_readReference_155 rfl (lv_at hl 1 rfl) ?_
                refine lv_bipush (v := 8) hx hb d_MO_readReference_156 (by decide) ?_
                refine lv_iload_n hx hb d_MO_readReference_158 rfl (lv_at hl 0 rfl) ?_
                refine lv_imul hx hb d_MO_readReference_159 ?_
                refine lv_iadd hx hb d_MO_readReference_160 ?_
                have e_ : p_MO_readReference M = (((128 + (((p_MO_here (mo_f M 22 ((M.1 22) + 1))).1) - 97)) + 256) + (8 * (((p_MO_here (mo_f (mo_f (mo_f M 22 ((M.1 22) + 1)) 22 (((M.1 22) + 1) + 1)) 22 ((((M.1 22) + 1) + 1) + 1))).1) - 49)), (mo_f (mo_f (mo_f (mo_f M 22 ((M.1 22) + 1)) 22 (((M.1 22) + 1) + 1)) 22 ((((M.1 22) + 1) + 1) + 1)) 22 (((((M.1 22) + 1) + 1) + 1) + 1))) := by rw [p_MO_readReference, if_pos c_64, if_neg c_83, if_pos c_84, if_pos c_86, if_neg c_94, if_neg c_95, if_neg c_97]
                exact fs_iret hx hb hr hlocks hw hP hS (by first | rfl | exact vp_nar_int _) (by omega) (by omega) (⟨by rw [e_], by rw [e_]; exact hM, hf⟩) d_MO_readReference_161
              · refine lv_aload_n hx hb d_MO_readReference_133 rfl (lv_at hl 2 rfl) ?_
                refine fs_cV B hl.1 hP hS (k_MO_here hSt hM  (by have i32_97 : Int32.toInt 97 = 97 := (by decide); have i32_36 : Int32.toInt 36 = 36 := (by decide); have i32_104 : Int32.toInt 104 = 104 := (by decide);   have tt1 : Int32.toInt ((M.1 22) + 1) = (Int32.toInt (M.1 22)) + 1 := (by rw [i32_add (by rw [i32_1]; omega), i32_1]); have tt2 : Int32.toInt (((M.1 22) + 1) + 1) = ((Int32.toInt (M.1 22)) + 1) + 1 := (by rw [i32_add (by rw [tt1, i32_1]; omega), tt1, i32_1]); have tt3 : Int32.toInt ((((M.1 22) + 1) + 1) + 1) = (((Int32.toInt (M.1 22)) + 1) + 1) + 1 := (by rw [i32_add (by rw [tt2, i32_1]; omega), tt2, i32_1]); have tt4 : Int32.toInt (((((M.1 22) + 1) + 1) + 1) + 1) = ((((Int32.toInt (M.1 22)) + 1) + 1) + 1) + 1 := (by rw [i32_add (by rw [tt3, i32_1]; omega), tt3, i32_1]); show 0 ≤ (Int32.toInt (((((M.1 22) + 1) + 1) + 1) + 1)); omega) (by have i32_97 : Int32.toInt 97 = 97 := (by decide); have i32_36 : Int32.toInt 36 = 36 := (by decide); have i32_104 : Int32.toInt 104 = 104 := (by decide);    show (Int32.toInt (M.1 9)) ≤ 40; omega)) (fs_tb_at 1597 tw_1597 rfl) hM.1 rfl (fs_tb_at 1599 tw_1599 rfl) (fs_tb_at 44 tw_44 rfl) (fs_tb_at 96 tw_96 rfl) (fs_tb_at 1600 tw_1600 rfl) (by decide) (show (parseMethodDescriptor y_MO_here.desc).map (fun d => d.parameters.length) = some 0 by decide +kernel) rfl d_MO_readReference_134 ⟨Nat.le_of_ble_eq_true rfl, Nat.le_of_ble_eq_true rfl, Nat.le_of_ble_eq_true rfl, Nat.le_of_ble_eq_true rfl⟩ (fun v_ h_ H locs hq hP hS => ?_) (fun C_ a_ h_ H locs hq => absurd hq.1 (fun h9 => by cases h9))
                obtain ⟨ev, hM, hf2⟩ := hq
                cases ev
                have hf := hf.trans hf2
                rw [ke_MO_here] at hM
                refine W.widen (k := 0) (n := 0) (Nat.le_of_ble_eq_true rfl) (Nat.le_of_ble_eq_true rfl) ?_
                refine W.eq (g2 := F0 m 137 ls (.int ((p_MO_here (mo_f (mo_f (mo_f (mo_f M 22 ((M.1 22) + 1)) 22 (((M.1 22) + 1) + 1)) 22 ((((M.1 22) + 1) + 1) + 1)) 22 (((((M.1 22) + 1) + 1) + 1) + 1))).1) :: [])) rfl ?_
                refine lv_bipush (v := 48) hx hb d_MO_readReference_137 (by decide) ?_
                refine lv_icmp_ne (tgt := 155) hx hb d_MO_readReference_139 (by decide) (fun c_98 => ?_) (fun c_98 => ?_)
                · refine lv_iload_n hx hb d_MO_readReference_155 rfl (lv_at hl 1 rfl) ?_
                  refine lv_bipush (v := 8) hx hb d_MO_readReference_156 (by decide) ?_
                  refine lv_iload_n hx hb d_MO_readReference_158 rfl (lv_at hl 0 rfl) ?_
                  refine lv_imul hx hb d_MO_readReference_159 ?_
                  refine lv_iadd hx hb d_MO_readReference_160 ?_
                  have e_ : p_MO_readReference M = (((128 + (((p_MO_here (mo_f M 22 ((M.1 22) + 1))).1) - 97)) + 256) + (8 * (((p_MO_here (mo_f (mo_f (mo_f M 22 ((M.1 22) + 1)) 22 (((M.1 22) + 1) + 1)) 22 ((((M.1 22) + 1) + 1) + 1))).1) - 49)), (mo_f (mo_f (mo_f (mo_f M 22 ((M.1 22) + 1)) 22 (((M.1 22) + 1) + 1)) 22 ((((M.1 22) + 1) + 1) + 1)) 22 (((((M.1 22) + 1) + 1) + 1) + 1))) := by rw [p_MO_readReference, if_pos c_64, if_neg c_83, if_pos c_84, if_pos c_86, if_neg c_94, if_neg c_95, if_pos c_97, if_neg c_98]
                  exact fs_iret hx hb hr hlocks hw hP hS (by first | rfl | exact vp_nar_int _) (by omega) (by omega) (⟨by rw [e_], by rw [e_]; exact hM, hf⟩) d_MO_readReference_161
                · refine lv_bipush (v := 9) hx hb d_MO_readReference_142 (by decide) ?_
                  refine lv_istore_n (lv' := [(2, .int 9), (1, .int ((128 + (((p_MO_here (mo_f M 22 ((M.1 22) + 1))).1) - 97)) + 256)), (0, .ref a)]) hx hb d_MO_readReference_144 rfl hl (by decide) rfl (fun ls hl => ?_)
                  refine lv_aload_n hx hb d_MO_readReference_145 rfl (lv_at hl 2 rfl) ?_
                  refine lv_dup hx hb d_MO_readReference_146 rfl ?_
                  refine fs_get (v := .int (((((M.1 22) + 1) + 1) + 1) + 1)) hx hb hts hown hK c_MO hP hM.1 22 (by decide) (hts _ (fs_tb_at 1478 tw_1478 rfl)) (fun _ h9 => h9) rfl d_MO_readReference_147 ?_
                  refine lv_iconst (v := 1) hx hb d_MO_readReference_150 (by decide) ?_
                  refine lv_iadd hx hb d_MO_readReference_151 ?_
                  refine fs_put hx hb hts hown hK c_MO hP hS hM.1 22 (by decide) (hts _ (fs_tb_at 1478 tw_1478 rfl)) (fun _ h9 => h9) rfl rfl rfl (Nat.le_of_ble_eq_true rfl) d_MO_readReference_152 (fun H locs hP hS => ?_)
                  obtain ⟨h99, hP, hM, hf⟩ : ∃ x, fs_P G.1 fs_cl (fs_A s00) x H ∧ mo_at G x a ad (mo_f (mo_f (mo_f (mo_f (mo_f M 22 ((M.1 22) + 1)) 22 (((M.1 22) + 1) + 1)) 22 ((((M.1 22) + 1) + 1) + 1)) 22 (((((M.1 22) + 1) + 1) + 1) + 1)) 22 ((((((M.1 22) + 1) + 1) + 1) + 1) + 1)) ∧ mo_fr a ad h x := ⟨_, hP, hM.F (mo_F22 ad (mo_f (mo_f (mo_f (mo_f M 22 ((M.1 22) + 1)) 22 (((M.1 22) + 1) + 1)) 22 ((((M.1 22) + 1) + 1) + 1)) 22 (((((M.1 22) + 1) + 1) + 1) + 1)) ((((((M.1 22) + 1) + 1) + 1) + 1) + 1)), hf.self⟩
                  refine lv_iload_n hx hb d_MO_readReference_155 rfl (lv_at hl 1 rfl) ?_
                  refine lv_bipush (v := 8) hx hb d_MO_readReference_156 (by decide) ?_
                  refine lv_iload_n hx hb d_MO_readReference_158 rfl (lv_at hl 0 rfl) ?_
                  refine lv_imul hx hb d_MO_readReference_159 ?_
                  refine lv_iadd hx hb d_MO_readReference_160 ?_
                  have e_ : p_MO_readReference M = (((128 + (((p_MO_here (mo_f M 22 ((M.1 22) + 1))).1) - 97)) + 256) + (8 * 9), (mo_f (mo_f (mo_f (mo_f (mo_f M 22 ((M.1 22) + 1)) 22 (((M.1 22) + 1) + 1)) 22 ((((M.1 22) + 1) + 1) + 1)) 22 (((((M.1 22) + 1) + 1) + 1) + 1)) 22 ((((((M.1 22) + 1) + 1) + 1) + 1) + 1))) := by rw [p_MO_readReference, if_pos c_64, if_neg c_83, if_pos c_84, if_pos c_86, if_neg c_94, if_neg c_95, if_pos c_97, if_pos c_98]
                  exact fs_iret hx hb hr hlocks hw hP hS (by first | rfl | exact vp_nar_int _) (by omega) (by omega) (⟨by rw [e_], by rw [e_]; exact hM, hf⟩) d_MO_readReference_161
            · refine lv_iconst (v := (-1)) hx hb d_MO_readReference_109 (by decide) ?_
              have e_ : p_MO_readReference M = ((-1), (mo_f (mo_f (mo_f M 22 ((M.1 22) + 1)) 22 (((M.1 22) + 1) + 1)) 22 ((((M.1 22) + 1) + 1) + 1))) := by rw [p_MO_readReference, if_pos c_64, if_neg c_83, if_pos c_84, if_pos c_86, if_neg c_94, if_pos c_95]
              exact fs_iret hx hb hr hlocks hw hP hS (by first | rfl | exact vp_nar_int _) (by omega) (by omega) (⟨by rw [e_], by rw [e_]; exact hM, hf⟩) d_MO_readReference_110
      · refine lv_iconst (v := (-1)) hx hb d_MO_readReference_43 (by decide) ?_
        have e_ : p_MO_readReference M = ((-1), (mo_f M 22 ((M.1 22) + 1))) := by rw [p_MO_readReference, if_pos c_64, if_neg c_83, if_neg c_84]
        exact fs_iret hx hb hr hlocks hw hP hS (by first | rfl | exact vp_nar_int _) (by omega) (by omega) (⟨by rw [e_], by rw [e_]; exact hM, hf⟩) d_MO_readReference_44
