/-! The reference: references, ranges, brackets. -/
abbrev b_MO_readSingle : ByteArray := prog_14_method_13_code
def y_MO_readSingle : MethodName := ⟨"FormulaSheetModel", "readSingle", "()Z"⟩
theorem d_MO_readSingle_0 : decode b_MO_readSingle 0 = .ok (.aload_n 0, 1) := by decide +kernel
theorem d_MO_readSingle_1 : decode b_MO_readSingle 1 = .ok (.invokevirtual 132, 3) := by decide +kernel
theorem d_MO_readSingle_4 : decode b_MO_readSingle 4 = .ok (.istore_n 1, 1) := by decide +kernel
theorem d_MO_readSingle_5 : decode b_MO_readSingle 5 = .ok (.aload_n 0, 1) := by decide +kernel
theorem d_MO_readSingle_6 : decode b_MO_readSingle 6 = .ok (.getfield 23, 3) := by decide +kernel
theorem d_MO_readSingle_9 : decode b_MO_readSingle 9 = .ok (.sipush 3200, 3) := by decide +kernel
theorem d_MO_readSingle_12 : decode b_MO_readSingle 12 = .ok (.aload_n 0, 1) := by decide +kernel
theorem d_MO_readSingle_13 : decode b_MO_readSingle 13 = .ok (.getfield 109, 3) := by decide +kernel
theorem d_MO_readSingle_16 : decode b_MO_readSingle 16 = .ok (.iadd, 1) := by decide +kernel
theorem d_MO_readSingle_17 : decode b_MO_readSingle 17 = .ok (.iload_n 1, 1) := by decide +kernel
theorem d_MO_readSingle_18 : decode b_MO_readSingle 18 = .ok (.iastore, 1) := by decide +kernel
theorem d_MO_readSingle_19 : decode b_MO_readSingle 19 = .ok (.iload_n 1, 1) := by decide +kernel
theorem d_MO_readSingle_20 : decode b_MO_readSingle 20 = .ok (.ifCond .lt 8, 3) := by decide +kernel
theorem d_MO_readSingle_23 : decode b_MO_readSingle 23 = .ok (.aload_n 0, 1) := by decide +kernel
theorem d_MO_readSingle_24 : decode b_MO_readSingle 24 = .ok (.iconst 1, 1) := by decide +kernel
theorem d_MO_readSingle_25 : decode b_MO_readSingle 25 = .ok (.invokevirtual 124, 3) := by decide +kernel
theorem d_MO_readSingle_28 : decode b_MO_readSingle 28 = .ok (.iload_n 1, 1) := by decide +kernel
theorem d_MO_readSingle_29 : decode b_MO_readSingle 29 = .ok (.ifCond .lt 7, 3) := by decide +kernel
theorem d_MO_readSingle_32 : decode b_MO_readSingle 32 = .ok (.iconst 1, 1) := by decide +kernel
theorem d_MO_readSingle_33 : decode b_MO_readSingle 33 = .ok (.goto 4, 3) := by decide +kernel
theorem d_MO_readSingle_36 : decode b_MO_readSingle 36 = .ok (.iconst 0, 1) := by decide +kernel
theorem d_MO_readSingle_37 : decode b_MO_readSingle 37 = .ok (.ireturn, 1) := by decide +kernel
abbrev b_MO_readRange : ByteArray := prog_14_method_14_code
def y_MO_readRange : MethodName := ⟨"FormulaSheetModel", "readRange", "(I)Z"⟩
theorem d_MO_readRange_0 : decode b_MO_readRange 0 = .ok (.aload_n 0, 1) := by decide +kernel
theorem d_MO_readRange_1 : decode b_MO_readRange 1 = .ok (.invokevirtual 132, 3) := by decide +kernel
theorem d_MO_readRange_4 : decode b_MO_readRange 4 = .ok (.istore_n 2, 1) := by decide +kernel
theorem d_MO_readRange_5 : decode b_MO_readRange 5 = .ok (.iload_n 2, 1) := by decide +kernel
theorem d_MO_readRange_6 : decode b_MO_readRange 6 = .ok (.ifCond .lt 12, 3) := by decide +kernel
theorem d_MO_readRange_9 : decode b_MO_readRange 9 = .ok (.aload_n 0, 1) := by decide +kernel
theorem d_MO_readRange_10 : decode b_MO_readRange 10 = .ok (.invokevirtual 112, 3) := by decide +kernel
theorem d_MO_readRange_13 : decode b_MO_readRange 13 = .ok (.bipush 58, 2) := by decide +kernel
theorem d_MO_readRange_15 : decode b_MO_readRange 15 = .ok (.if_icmp .eq 5, 3) := by decide +kernel
theorem d_MO_readRange_18 : decode b_MO_readRange 18 = .ok (.iconst 0, 1) := by decide +kernel
theorem d_MO_readRange_19 : decode b_MO_readRange 19 = .ok (.ireturn, 1) := by decide +kernel
theorem d_MO_readRange_20 : decode b_MO_readRange 20 = .ok (.aload_n 0, 1) := by decide +kernel
theorem d_MO_readRange_21 : decode b_MO_readRange 21 = .ok (.dup, 1) := by decide +kernel
theorem d_MO_readRange_22 : decode b_MO_readRange 22 = .ok (.getfield 106, 3) := by decide +kernel
theorem d_MO_readRange_25 : decode b_MO_readRange 25 = .ok (.iconst 1, 1) := by decide +kernel
theorem d_MO_readRange_26 : decode b_MO_readRange 26 = .ok (.iadd, 1) := by decide +kernel
theorem d_MO_readRange_27 : decode b_MO_readRange 27 = .ok (.putfield 106, 3) := by decide +kernel
theorem d_MO_readRange_30 : decode b_MO_readRange 30 = .ok (.aload_n 0, 1) := by decide +kernel
theorem d_MO_readRange_31 : decode b_MO_readRange 31 = .ok (.invokevirtual 132, 3) := by decide +kernel
theorem d_MO_readRange_34 : decode b_MO_readRange 34 = .ok (.istore_n 3, 1) := by decide +kernel
theorem d_MO_readRange_35 : decode b_MO_readRange 35 = .ok (.iload_n 3, 1) := by decide +kernel
theorem d_MO_readRange_36 : decode b_MO_readRange 36 = .ok (.ifCond .lt 12, 3) := by decide +kernel
theorem d_MO_readRange_39 : decode b_MO_readRange 39 = .ok (.aload_n 0, 1) := by decide +kernel
theorem d_MO_readRange_40 : decode b_MO_readRange 40 = .ok (.invokevirtual 112, 3) := by decide +kernel
theorem d_MO_readRange_43 : decode b_MO_readRange 43 = .ok (.bipush 41, 2) := by decide +kernel
theorem d_MO_readRange_45 : decode b_MO_readRange 45 = .ok (.if_icmp .eq 5, 3) := by decide +kernel
theorem d_MO_readRange_48 : decode b_MO_readRange 48 = .ok (.iconst 0, 1) := by decide +kernel
theorem d_MO_readRange_49 : decode b_MO_readRange 49 = .ok (.ireturn, 1) := by decide +kernel
theorem d_MO_readRange_50 : decode b_MO_readRange 50 = .ok (.aload_n 0, 1) := by decide +kernel
theorem d_MO_readRange_51 : decode b_MO_readRange 51 = .ok (.dup, 1) := by decide +kernel
theorem d_MO_readRange_52 : decode b_MO_readRange 52 = .ok (.getfield 106, 3) := by decide +kernel
theorem d_MO_readRange_55 : decode b_MO_readRange 55 = .ok (.iconst 1, 1) := by decide +kernel
theorem d_MO_readRange_56 : decode b_MO_readRange 56 = .ok (.iadd, 1) := by decide +kernel
theorem d_MO_readRange_57 : decode b_MO_readRange 57 = .ok (.putfield 106, 3) := by decide +kernel
theorem d_MO_readRange_60 : decode b_MO_readRange 60 = .ok (.aload_n 0, 1) := by decide +kernel
theorem d_MO_readRange_61 : decode b_MO_readRange 61 = .ok (.getfield 23, 3) := by decide +kernel
theorem d_MO_readRange_64 : decode b_MO_readRange 64 = .ok (.sipush 3200, 3) := by decide +kernel
theorem d_MO_readRange_67 : decode b_MO_readRange 67 = .ok (.aload_n 0, 1) := by decide +kernel
theorem d_MO_readRange_68 : decode b_MO_readRange 68 = .ok (.getfield 109, 3) := by decide +kernel
theorem d_MO_readRange_71 : decode b_MO_readRange 71 = .ok (.iadd, 1) := by decide +kernel
theorem d_MO_readRange_72 : decode b_MO_readRange 72 = .ok (.iload_n 2, 1) := by decide +kernel
theorem d_MO_readRange_73 : decode b_MO_readRange 73 = .ok (.iastore, 1) := by decide +kernel
theorem d_MO_readRange_74 : decode b_MO_readRange 74 = .ok (.aload_n 0, 1) := by decide +kernel
theorem d_MO_readRange_75 : decode b_MO_readRange 75 = .ok (.getfield 26, 3) := by decide +kernel
theorem d_MO_readRange_78 : decode b_MO_readRange 78 = .ok (.sipush 3200, 3) := by decide +kernel
theorem d_MO_readRange_81 : decode b_MO_readRange 81 = .ok (.aload_n 0, 1) := by decide +kernel
theorem d_MO_readRange_82 : decode b_MO_readRange 82 = .ok (.getfield 109, 3) := by decide +kernel
theorem d_MO_readRange_85 : decode b_MO_readRange 85 = .ok (.iadd, 1) := by decide +kernel
theorem d_MO_readRange_86 : decode b_MO_readRange 86 = .ok (.iload_n 3, 1) := by decide +kernel
theorem d_MO_readRange_87 : decode b_MO_readRange 87 = .ok (.iastore, 1) := by decide +kernel
theorem d_MO_readRange_88 : decode b_MO_readRange 88 = .ok (.aload_n 0, 1) := by decide +kernel
theorem d_MO_readRange_89 : decode b_MO_readRange 89 = .ok (.iload_n 1, 1) := by decide +kernel
theorem d_MO_readRange_90 : decode b_MO_readRange 90 = .ok (.invokevirtual 124, 3) := by decide +kernel
theorem d_MO_readRange_93 : decode b_MO_readRange 93 = .ok (.iconst 1, 1) := by decide +kernel
theorem d_MO_readRange_94 : decode b_MO_readRange 94 = .ok (.ireturn, 1) := by decide +kernel
abbrev b_MO_openOne : ByteArray := prog_14_method_15_code
def y_MO_openOne : MethodName := ⟨"FormulaSheetModel", "openOne", "(I)Z"⟩
theorem d_MO_openOne_0 : decode b_MO_openOne 0 = .ok (.aload_n 0, 1) := by decide +kernel
theorem d_MO_openOne_1 : decode b_MO_openOne 1 = .ok (.dup, 1) := by decide +kernel
theorem d_MO_openOne_2 : decode b_MO_openOne 2 = .ok (.getfield 135, 3) := by decide +kernel
theorem d_MO_openOne_5 : decode b_MO_openOne 5 = .ok (.iconst 1, 1) := by decide +kernel
theorem d_MO_openOne_6 : decode b_MO_openOne 6 = .ok (.iadd, 1) := by decide +kernel
theorem d_MO_openOne_7 : decode b_MO_openOne 7 = .ok (.putfield 135, 3) := by decide +kernel
theorem d_MO_openOne_10 : decode b_MO_openOne 10 = .ok (.aload_n 0, 1) := by decide +kernel
theorem d_MO_openOne_11 : decode b_MO_openOne 11 = .ok (.getfield 75, 3) := by decide +kernel
theorem d_MO_openOne_14 : decode b_MO_openOne 14 = .ok (.aload_n 0, 1) := by decide +kernel
theorem d_MO_openOne_15 : decode b_MO_openOne 15 = .ok (.getfield 135, 3) := by decide +kernel
theorem d_MO_openOne_18 : decode b_MO_openOne 18 = .ok (.iload_n 1, 1) := by decide +kernel
theorem d_MO_openOne_19 : decode b_MO_openOne 19 = .ok (.iastore, 1) := by decide +kernel
theorem d_MO_openOne_20 : decode b_MO_openOne 20 = .ok (.aload_n 0, 1) := by decide +kernel
theorem d_MO_openOne_21 : decode b_MO_openOne 21 = .ok (.getfield 78, 3) := by decide +kernel
theorem d_MO_openOne_24 : decode b_MO_openOne 24 = .ok (.aload_n 0, 1) := by decide +kernel
theorem d_MO_openOne_25 : decode b_MO_openOne 25 = .ok (.getfield 135, 3) := by decide +kernel
theorem d_MO_openOne_28 : decode b_MO_openOne 28 = .ok (.iconst 0, 1) := by decide +kernel
theorem d_MO_openOne_29 : decode b_MO_openOne 29 = .ok (.iastore, 1) := by decide +kernel
theorem d_MO_openOne_30 : decode b_MO_openOne 30 = .ok (.aload_n 0, 1) := by decide +kernel
theorem d_MO_openOne_31 : decode b_MO_openOne 31 = .ok (.getfield 81, 3) := by decide +kernel
theorem d_MO_openOne_34 : decode b_MO_openOne 34 = .ok (.aload_n 0, 1) := by decide +kernel
theorem d_MO_openOne_35 : decode b_MO_openOne 35 = .ok (.getfield 135, 3) := by decide +kernel
theorem d_MO_openOne_38 : decode b_MO_openOne 38 = .ok (.iconst 0, 1) := by decide +kernel
theorem d_MO_openOne_39 : decode b_MO_openOne 39 = .ok (.bastore, 1) := by decide +kernel
theorem d_MO_openOne_40 : decode b_MO_openOne 40 = .ok (.aload_n 0, 1) := by decide +kernel
theorem d_MO_openOne_41 : decode b_MO_openOne 41 = .ok (.bipush 100, 2) := by decide +kernel
theorem d_MO_openOne_43 : decode b_MO_openOne 43 = .ok (.iload_n 1, 1) := by decide +kernel
theorem d_MO_openOne_44 : decode b_MO_openOne 44 = .ok (.iadd, 1) := by decide +kernel
theorem d_MO_openOne_45 : decode b_MO_openOne 45 = .ok (.invokevirtual 138, 3) := by decide +kernel
theorem d_MO_openOne_48 : decode b_MO_openOne 48 = .ok (.aload_n 0, 1) := by decide +kernel
theorem d_MO_openOne_49 : decode b_MO_openOne 49 = .ok (.iconst 0, 1) := by decide +kernel
theorem d_MO_openOne_50 : decode b_MO_openOne 50 = .ok (.putfield 141, 3) := by decide +kernel
theorem d_MO_openOne_53 : decode b_MO_openOne 53 = .ok (.iconst 1, 1) := by decide +kernel
theorem d_MO_openOne_54 : decode b_MO_openOne 54 = .ok (.ireturn, 1) := by decide +kernel
theorem tw_48 : lw_tbl[48]? = some (Cond.selects "FormulaSheetModel" ⟨"FormulaSheetModel", "pushSign", "(I)V"⟩ ⟨"FormulaSheetModel", "pushSign", "(I)V"⟩) := by decide +kernel
theorem tw_52 : lw_tbl[52]? = some (Cond.selects "FormulaSheetModel" ⟨"FormulaSheetModel", "readReference", "()I"⟩ ⟨"FormulaSheetModel", "readReference", "()I"⟩) := by decide +kernel
theorem tw_1460 : lw_tbl[1460]? = some (Jvm.Cond.fieldLink "FormulaSheetModel" (23 : Nat) "FormulaSheetModel" "one" "[I") := by decide +kernel
theorem tw_1461 : lw_tbl[1461]? = some (Jvm.Cond.fieldLink "FormulaSheetModel" (26 : Nat) "FormulaSheetModel" "two" "[I") := by decide +kernel
theorem tw_1479 : lw_tbl[1479]? = some (Jvm.Cond.fieldLink "FormulaSheetModel" (135 : Nat) "FormulaSheetModel" "open" "I") := by decide +kernel
theorem tw_1480 : lw_tbl[1480]? = some (Jvm.Cond.fieldLink "FormulaSheetModel" (141 : Nat) "FormulaSheetModel" "reading" "I") := by decide +kernel
theorem tw_1481 : lw_tbl[1481]? = some (Jvm.Cond.fieldLink "FormulaSheetModel" (75 : Nat) "FormulaSheetModel" "around" "[I") := by decide +kernel
theorem tw_1482 : lw_tbl[1482]? = some (Jvm.Cond.fieldLink "FormulaSheetModel" (78 : Nat) "FormulaSheetModel" "argument" "[I") := by decide +kernel
theorem tw_1483 : lw_tbl[1483]? = some (Jvm.Cond.fieldLink "FormulaSheetModel" (81 : Nat) "FormulaSheetModel" "single" "[Z") := by decide +kernel
theorem tw_1616 : lw_tbl[1616]? = some (Jvm.Cond.methodLink "FormulaSheetModel" (138 : Nat) ({ cls := "FormulaSheetModel", name := "pushSign", desc := "(I)V" } : Jvm.MethodName)) := by decide +kernel
theorem tw_1618 : lw_tbl[1618]? = some (Jvm.Cond.instanceMethod ({ cls := "FormulaSheetModel", name := "pushSign", desc := "(I)V" } : Jvm.MethodName)) := by decide +kernel
theorem tw_1619 : lw_tbl[1619]? = some (Jvm.Cond.code ({ cls := "FormulaSheetModel", name := "pushSign", desc := "(I)V" } : Jvm.MethodName) prog_14_method_19_code (2 : Nat) (Option.none : Option Jvm.ClassFile.FieldType)) := by decide +kernel
theorem tw_1637 : lw_tbl[1637]? = some (Jvm.Cond.methodLink "FormulaSheetModel" (132 : Nat) ({ cls := "FormulaSheetModel", name := "readReference", desc := "()I" } : Jvm.MethodName)) := by decide +kernel
theorem tw_1639 : lw_tbl[1639]? = some (Jvm.Cond.instanceMethod ({ cls := "FormulaSheetModel", name := "readReference", desc := "()I" } : Jvm.MethodName)) := by decide +kernel
theorem tw_1640 : lw_tbl[1640]? = some (Jvm.Cond.code ({ cls := "FormulaSheetModel", name := "readReference", desc := "()I" } : Jvm.MethodName) prog_14_method_10_code (3 : Nat) (Option.some Jvm.ClassFile.FieldType.int)) := by decide +kernel
def p_MO_readSingle (M : mo_S)  : Int32 × mo_S := (if (p_MO_readReference M).1 < 0 then (if (p_MO_readReference M).1 < 0 then (0, (mo_i (p_MO_readReference M).2 4 (Int32.toNatClampNeg (3200 + ((p_MO_readReference M).2.1 30))) (p_MO_readReference M).1)) else (1, (mo_i (p_MO_readReference M).2 4 (Int32.toNatClampNeg (3200 + ((p_MO_readReference M).2.1 30))) (p_MO_readReference M).1))) else (if (p_MO_readReference M).1 < 0 then (0, (p_MO_add (mo_i (p_MO_readReference M).2 4 (Int32.toNatClampNeg (3200 + ((p_MO_readReference M).2.1 30))) (p_MO_readReference M).1) 1)) else (1, (p_MO_add (mo_i (p_MO_readReference M).2 4 (Int32.toNatClampNeg (3200 + ((p_MO_readReference M).2.1 30))) (p_MO_readReference M).1) 1))))
theorem bo_MO_readSingle (M : mo_S)  : (p_MO_readSingle M).1 = 0 ∨ (p_MO_readSingle M).1 = 1 := by unfold p_MO_readSingle; ((repeat' split) <;> simp)
set_option maxHeartbeats 4000000 in
set_option maxRecDepth 100000 in
theorem k_MO_readSingle {l : Launch} {s00 : State} {G : fs_G} (hSt : fs_St l s00 G) {h : fs_Hp} {a : Nat} {ad : Nat → Nat} {M : mo_S} (hM : mo_at G h a ad M)  (b1 : 0 ≤ (Int32.toInt (M.1 22))) (b2 : (Int32.toInt (M.1 22)) ≤ 100) (b3 : (Int32.toInt (M.1 9)) ≤ 40) (b4 : 0 ≤ (Int32.toInt (M.1 30))) (b5 : (Int32.toInt (M.1 30)) < 40)  : fs_Ct l s00 G y_MO_readSingle (.code y_MO_readSingle b_MO_readSingle 2 (some .boolean)) { frames := 2, cells := 0, slots := 0, locals := 27 } [.ref a] h (fun o h' => o = .inl (some (.int (p_MO_readSingle M).1)) ∧ mo_at G h' a ad (p_MO_readSingle M).2 ∧ mo_fr a ad h h') := by
  refine fs_Ct.ofW hSt (by decide) ?_
  intro p e s m below meth c B hout hP
  obtain ⟨hx, hb, hr, hml, hown, hts, hlocks, hname, hK, hw, htr⟩ := id B
  have hown : s.vm.findClass "FormulaSheetModel" = some m.cls := hown
  have hS := hw.S
  have hA : ∀ q : Nat, s00.heap.size ≤ q → fs_A s00 q := fun _ h9 => h9
  generalize hH : s.heap = H at hP hS ⊢
  have hH0 : s.heap.size ≤ H.size := by rw [hH]; exact Nat.le_refl _
  have hl := lv_entry ([.ref a]) (n := 2) (Nat.le_of_ble_eq_true rfl)
  rw [lg_entry_eq]
  generalize (lg_sl ([.ref a]) ++ List.replicate (2 - (lg_sl ([.ref a])).length) Slot.unset).toArray = ls at hl ⊢
  have hl : lv_has ls 2 [(0, .ref a)] := hl
  have hf : mo_fr a ad h h := mo_fr.rf
  refine lv_aload_n hx hb d_MO_readSingle_0 rfl (lv_at hl 0 rfl) ?_
  refine fs_cV B hl.1 hP hS (k_MO_readReference hSt hM  (by     show 0 ≤ (Int32.toInt (M.1 22)); omega) (by     show (Int32.toInt (M.1 22)) ≤ 100; omega) (by     show (Int32.toInt (M.1 9)) ≤ 40; omega)) (fs_tb_at 1637 tw_1637 rfl) hM.1 rfl (fs_tb_at 1639 tw_1639 rfl) (fs_tb_at 52 tw_52 rfl) (fs_tb_at 96 tw_96 rfl) (fs_tb_at 1640 tw_1640 rfl) (by decide) (show (parseMethodDescriptor y_MO_readReference.desc).map (fun d => d.parameters.length) = some 0 by decide +kernel) rfl d_MO_readSingle_1 ⟨Nat.le_of_ble_eq_true rfl, Nat.le_of_ble_eq_true rfl, Nat.le_of_ble_eq_true rfl, Nat.le_of_ble_eq_true rfl⟩ (fun v_ h_ H locs hq hP hS => ?_) (fun C_ a_ h_ H locs hq => absurd hq.1 (fun h9 => by cases h9))
  obtain ⟨ev, hM, hf2⟩ := hq
  cases ev
  have hf := hf.trans hf2
  obtain ⟨R100, eR100⟩ : ∃ x, x = p_MO_readReference M := ⟨_, rfl⟩
  rw [← eR100] at hM
  have pf101 : ((Int32.toInt (R100.2.1 9)) = (Int32.toInt (M.1 9))) ∧ ((Int32.toInt (R100.2.1 10)) = (Int32.toInt (M.1 10))) ∧ ((Int32.toInt (R100.2.1 11)) = (Int32.toInt (M.1 11))) ∧ ((Int32.toInt (R100.2.1 12)) = (Int32.toInt (M.1 12))) ∧ ((Int32.toInt (R100.2.1 23)) = (Int32.toInt (M.1 23))) ∧ ((Int32.toInt (R100.2.1 24)) = (Int32.toInt (M.1 24))) ∧ ((Int32.toInt (R100.2.1 29)) = (Int32.toInt (M.1 29))) ∧ ((Int32.toInt (R100.2.1 30)) = (Int32.toInt (M.1 30))) ∧ ((Int32.toInt (R100.2.1 34)) = (Int32.toInt (M.1 34))) ∧ ((Int32.toInt (R100.2.1 35)) = (Int32.toInt (M.1 35))) ∧ ((Int32.toInt (M.1 22)) ≤ (Int32.toInt (R100.2.1 22))) ∧ ((Int32.toInt (R100.2.1 22)) ≤ (Int32.toInt (M.1 22)) + 5) ∧ ((Int32.toInt R100.1) = -1 ∨ (Int32.toInt (M.1 22)) + 2 ≤ (Int32.toInt (R100.2.1 22))) := by rw [eR100]; exact po_MO_readReference M  (by     show 0 ≤ (Int32.toInt (M.1 22)); omega) (by     show (Int32.toInt (M.1 22)) ≤ 100; omega) (by     show (Int32.toInt (M.1 9)) ≤ 40; omega)
  refine W.widen (k := 0) (n := 0) (Nat.le_of_ble_eq_true rfl) (Nat.le_of_ble_eq_true rfl) ?_
  refine W.eq (g2 := F0 m 4 ls (.int R100.1 :: [])) (by rw [eR100]; rfl) ?_
  refine lv_istore_n (lv' := [(1, .int R100.1), (0, .ref a)]) hx hb d_MO_readSingle_4 rfl hl (by decide) rfl (fun ls hl => ?_)
  refine lv_aload_n hx hb d_MO_readSingle_5 rfl (lv_at hl 1 rfl) ?_
  refine fs_get (v := .ref (ad 4)) hx hb hts hown hK c_MO hP hM.1 4 (by decide) (hts _ (fs_tb_at 1460 tw_1460 rfl)) (fun _ h9 => h9) rfl d_MO_readSingle_6 ?_
  refine lv_sipush (v := 3200) hx hb d_MO_readSingle_9 (by decide) ?_
  refine lv_aload_n hx hb d_MO_readSingle_12 rfl (lv_at hl 1 rfl) ?_
  refine fs_get (v := .int (R100.2.1 30)) hx hb hts hown hK c_MO hP hM.1 30 (by decide) (hts _ (fs_tb_at 1486 tw_1486 rfl)) (fun _ h9 => h9) rfl d_MO_readSingle_13 ?_
  refine lv_iadd hx hb d_MO_readSingle_16 ?_
  refine lv_iload_n hx hb d_MO_readSingle_17 rfl (lv_at hl 0 rfl) ?_
  have hi_ : vp_in (3200 + (R100.2.1 30)) 3240 := (by    have tt1 : Int32.toInt (3200 + (R100.2.1 30)) = 3200 + (Int32.toInt (R100.2.1 30)) := (by rw [i32_add (by rw [i32_3200]; omega), i32_3200]); rw [vp_in_iff]; omega)
  refine fs_iast hx hb hK hP hS 0 (hM.2.1 4 0 3240 rfl) rfl hi_ d_MO_readSingle_18 (fun H locs hP hS => ?_)
  obtain ⟨h102, hP, hM, hf⟩ : ∃ x, fs_P G.1 fs_cl (fs_A s00) x H ∧ mo_at G x a ad (mo_i R100.2 4 (Int32.toNatClampNeg (3200 + (R100.2.1 30))) R100.1) ∧ mo_fr a ad h x := ⟨_, hP, hM.I (j := 4) (k := (Int32.toNatClampNeg (3200 + (R100.2.1 30)))) (x := R100.1) rfl (fun _ => rfl), hf.arr (j := 4) (by decide)⟩
  refine lv_iload_n hx hb d_MO_readSingle_19 rfl (lv_at hl 0 rfl) ?_
  refine lv_if_lt (tgt := 28) hx hb d_MO_readSingle_20 (by decide) (fun c_103 => ?_) (fun c_103 => ?_)
  · refine lv_iload_n hx hb d_MO_readSingle_28 rfl (lv_at hl 0 rfl) ?_
    refine lv_if_lt (tgt := 36) hx hb d_MO_readSingle_29 (by decide) (fun c_104 => ?_) (fun c_104 => ?_)
    · refine lv_iconst (v := 0) hx hb d_MO_readSingle_36 (by decide) ?_
      have e_ : p_MO_readSingle M = (0, (mo_i R100.2 4 (Int32.toNatClampNeg (3200 + (R100.2.1 30))) R100.1)) := by rw [p_MO_readSingle, ← eR100, if_pos c_103, if_pos c_104]
      exact fs_iret hx hb hr hlocks hw hP hS (by first | rfl | exact vp_nar_int _) (by omega) (by omega) (⟨by rw [e_], by rw [e_]; exact hM, hf⟩) d_MO_readSingle_37
    · refine lv_iconst (v := 1) hx hb d_MO_readSingle_32 (by decide) ?_
      refine lv_goto (tgt := 37) hx hb d_MO_readSingle_33 (by decide) ?_
      have e_ : p_MO_readSingle M = (1, (mo_i R100.2 4 (Int32.toNatClampNeg (3200 + (R100.2.1 30))) R100.1)) := by rw [p_MO_readSingle, ← eR100, if_pos c_103, if_neg c_104]
      exact fs_iret hx hb hr hlocks hw hP hS (by first | rfl | exact vp_nar_int _) (by omega) (by omega) (⟨by rw [e_], by rw [e_]; exact hM, hf⟩) d_MO_readSingle_37
  · refine lv_aload_n hx hb d_MO_readSingle_23 rfl (lv_at hl 1 rfl) ?_
    refine lv_iconst (v := 1) hx hb d_MO_readSingle_24 (by decide) ?_
    refine fs_cV B hl.1 hP hS (k_MO_add hSt hM 1 (by   have k0 := c_103; (try simp only [Int32.lt_iff_toInt_lt, Int32.le_iff_toInt_le, ← Int32.toInt_inj, i32_0, i32_1, i32_2, i32_3, i32_4, i32_5, i32_6, i32_7, i32_8, i32_9, i32_10, i32_11, i32_12, i32_16, i32_24, i32_39, i32_40, i32_41, i32_43, i32_44, i32_48, i32_49, i32_57, i32_64, i32_80, i32_81, i32_100, i32_101, i32_121, i32_127, i32_128, i32_256, i32_384, i32_400, i32_512, i32_3199, i32_3200, i32_3239, i32_3240, i32_m1] at k0);  show 0 ≤ (Int32.toInt (R100.2.1 30)); omega) (by   have k0 := c_103; (try simp only [Int32.lt_iff_toInt_lt, Int32.le_iff_toInt_le, ← Int32.toInt_inj, i32_0, i32_1, i32_2, i32_3, i32_4, i32_5, i32_6, i32_7, i32_8, i32_9, i32_10, i32_11, i32_12, i32_16, i32_24, i32_39, i32_40, i32_41, i32_43, i32_44, i32_48, i32_49, i32_57, i32_64, i32_80, i32_81, i32_100, i32_101, i32_121, i32_127, i32_128, i32_256, i32_384, i32_400, i32_512, i32_3199, i32_3200, i32_3239, i32_3240, i32_m1] at k0);  show (Int32.toInt (R100.2.1 30)) < 40; omega)) (fs_tb_at 1612 tw_1612 rfl) hM.1 rfl (fs_tb_at 1614 tw_1614 rfl) (fs_tb_at 47 tw_47 rfl) (fs_tb_at 96 tw_96 rfl) (fs_tb_at 1615 tw_1615 rfl) (by decide) (show (parseMethodDescriptor y_MO_add.desc).map (fun d => d.parameters.length) = some 1 by decide +kernel) rfl d_MO_readSingle_25 ⟨Nat.le_of_ble_eq_true rfl, Nat.le_of_ble_eq_true rfl, Nat.le_of_ble_eq_true rfl, Nat.le_of_ble_eq_true rfl⟩ (fun v_ h_ H locs hq hP hS => ?_) (fun C_ a_ h_ H locs hq => absurd hq.1 (fun h9 => by cases h9))
    obtain ⟨ev, hM, hf2⟩ := hq
    cases ev
    have hf := hf.trans hf2
    obtain ⟨R105, eR105⟩ : ∃ x, x = p_MO_add (mo_i R100.2 4 (Int32.toNatClampNeg (3200 + (R100.2.1 30))) R100.1) 1 := ⟨_, rfl⟩
    rw [← eR105] at hM
    have pf106 : ((Int32.toInt (R105.1 9)) = (Int32.toInt (R100.2.1 9))) ∧ ((Int32.toInt (R105.1 10)) = (Int32.toInt (R100.2.1 10))) ∧ ((Int32.toInt (R105.1 11)) = (Int32.toInt (R100.2.1 11))) ∧ ((Int32.toInt (R105.1 12)) = (Int32.toInt (R100.2.1 12))) ∧ ((Int32.toInt (R105.1 22)) = (Int32.toInt (R100.2.1 22))) ∧ ((Int32.toInt (R105.1 23)) = (Int32.toInt (R100.2.1 23))) ∧ ((Int32.toInt (R105.1 24)) = (Int32.toInt (R100.2.1 24))) ∧ ((Int32.toInt (R105.1 29)) = (Int32.toInt (R100.2.1 29))) ∧ ((Int32.toInt (R105.1 34)) = (Int32.toInt (R100.2.1 34))) ∧ ((Int32.toInt (R105.1 35)) = (Int32.toInt (R100.2.1 35))) ∧ ((Int32.toInt (R105.1 30)) = (Int32.toInt (R100.2.1 30)) + 1) := by rw [eR105]; exact po_MO_add (mo_i R100.2 4 (Int32.toNatClampNeg (3200 + (R100.2.1 30))) R100.1) 1 (by   have k0 := c_103; (try simp only [Int32.lt_iff_toInt_lt, Int32.le_iff_toInt_le, ← Int32.toInt_inj, i32_0, i32_1, i32_2, i32_3, i32_4, i32_5, i32_6, i32_7, i32_8, i32_9, i32_10, i32_11, i32_12, i32_16, i32_24, i32_39, i32_40, i32_41, i32_43, i32_44, i32_48, i32_49, i32_57, i32_64, i32_80, i32_81, i32_100, i32_101, i32_121, i32_127, i32_128, i32_256, i32_384, i32_400, i32_512, i32_3199, i32_3200, i32_3239, i32_3240, i32_m1] at k0);  show 0 ≤ (Int32.toInt (R100.2.1 30)); omega) (by   have k0 := c_103; (try simp only [Int32.lt_iff_toInt_lt, Int32.le_iff_toInt_le, ← Int32.toInt_inj, i32_0, i32_1, i32_2, i32_3, i32_4, i32_5, i32_6, i32_7, i32_8, i32_9, i32_10, i32_11, i32_12, i32_16, i32_24, i32_39, i32_40, i32_41, i32_43, i32_44, i32_48, i32_49, i32_57, i32_64, i32_80, i32_81, i32_100, i32_101, i32_121, i32_127, i32_128, i32_256, i32_384, i32_400, i32_512, i32_3199, i32_3200, i32_3239, i32_3240, i32_m1] at k0);  show (Int32.toInt (R100.2.1 30)) < 40; omega)
    refine W.widen (k := 0) (n := 0) (Nat.le_of_ble_eq_true rfl) (Nat.le_of_ble_eq_true rfl) ?_
    refine W.eq (g2 := F0 m 28 ls ([])) rfl ?_
    refine lv_iload_n hx hb d_MO_readSingle_28 rfl (lv_at hl 0 rfl) ?_
    refine lv_if_lt (tgt := 36) hx hb d_MO_readSingle_29 (by decide) (fun c_107 => ?_) (fun c_107 => ?_)
    · refine lv_iconst (v := 0) hx hb d_MO_readSingle_36 (by decide) ?_
      have e_ : p_MO_readSingle M = (0, R105) := by rw [p_MO_readSingle, ← eR100, if_neg c_103, ← eR105, if_pos c_107]
      exact fs_iret hx hb hr hlocks hw hP hS (by first | rfl | exact vp_nar_int _) (by omega) (by omega) (⟨by rw [e_], by rw [e_]; exact hM, hf⟩) d_MO_readSingle_37
    · refine lv_iconst (v := 1) hx hb d_MO_readSingle_32 (by decide) ?_
      refine lv_goto (tgt := 37) hx hb d_MO_readSingle_33 (by decide) ?_
      have e_ : p_MO_readSingle M = (1, R105) := by rw [p_MO_readSingle, ← eR100, if_neg c_103, ← eR105, if_neg c_107]
      exact fs_iret hx hb hr hlocks hw hP hS (by first | rfl | exact vp_nar_int _) (by omega) (by omega) (⟨by rw [e_], by rw [e_]; exact hM, hf⟩) d_MO_readSingle_37
def p_MO_readRange (M : mo_S) (x1 : Int32) : Int32 × mo_S := (if (p_MO_readReference M).1 < 0 then (0, (p_MO_readReference M).2) else (if ((p_MO_here (p_MO_readReference M).2).1) = 58 then (if (p_MO_readReference (mo_f (p_MO_readReference M).2 22 (((p_MO_readReference M).2.1 22) + 1))).1 < 0 then (0, (p_MO_readReference (mo_f (p_MO_readReference M).2 22 (((p_MO_readReference M).2.1 22) + 1))).2) else (if ((p_MO_here (p_MO_readReference (mo_f (p_MO_readReference M).2 22 (((p_MO_readReference M).2.1 22) + 1))).2).1) = 41 then (1, (p_MO_add (mo_i (mo_i (mo_f (p_MO_readReference (mo_f (p_MO_readReference M).2 22 (((p_MO_readReference M).2.1 22) + 1))).2 22 (((p_MO_readReference (mo_f (p_MO_readReference M).2 22 (((p_MO_readReference M).2.1 22) + 1))).2.1 22) + 1)) 4 (Int32.toNatClampNeg (3200 + ((p_MO_readReference (mo_f (p_MO_readReference M).2 22 (((p_MO_readReference M).2.1 22) + 1))).2.1 30))) (p_MO_readReference M).1) 5 (Int32.toNatClampNeg (3200 + ((p_MO_readReference (mo_f (p_MO_readReference M).2 22 (((p_MO_readReference M).2.1 22) + 1))).2.1 30))) (p_MO_readReference (mo_f (p_MO_readReference M).2 22 (((p_MO_readReference M).2.1 22) + 1))).1) x1)) else (0, (p_MO_readReference (mo_f (p_MO_readReference M).2 22 (((p_MO_readReference M).2.1 22) + 1))).2))) else (0, (p_MO_readReference M).2)))
theorem bo_MO_readRange (M : mo_S) (x1 : Int32) : (p_MO_readRange M x1).1 = 0 ∨ (p_MO_readRange M x1).1 = 1 := by unfold p_MO_readRange; ((repeat' split) <;> simp)
set_option maxHeartbeats 4000000 in
set_option maxRecDepth 100000 in
theorem k_MO_readRange {l : Launch} {s00 : State} {G : fs_G} (hSt : fs_St l s00 G) {h : fs_Hp} {a : Nat} {ad : Nat → Nat} {M : mo_S} (hM : mo_at G h a ad M) (x1 : Int32) (b1 : 0 ≤ (Int32.toInt (M.1 22))) (b2 : (Int32.toInt (M.1 22)) ≤ 90) (b3 : (Int32.toInt (M.1 9)) ≤ 40) (b4 : 0 ≤ (Int32.toInt (M.1 30))) (b5 : (Int32.toInt (M.1 30)) < 40)  : fs_Ct l s00 G y_MO_readRange (.code y_MO_readRange b_MO_readRange 4 (some .boolean)) { frames := 2, cells := 0, slots := 0, locals := 27 } [.ref a, .int x1] h (fun o h' => o = .inl (some (.int (p_MO_readRange M x1).1)) ∧ mo_at G h' a ad (p_MO_readRange M x1).2 ∧ mo_fr a ad h h') := by
  refine fs_Ct.ofW hSt (by decide) ?_
  intro p e s m below meth c B hout hP
  obtain ⟨hx, hb, hr, hml, hown, hts, hlocks, hname, hK, hw, htr⟩ := id B
  have hown : s.vm.findClass "FormulaSheetModel" = some m.cls := hown
  have hS := hw.S
  have hA : ∀ q : Nat, s00.heap.size ≤ q → fs_A s00 q := fun _ h9 => h9
  generalize hH : s.heap = H at hP hS ⊢
  have hH0 : s.heap.size ≤ H.size := by rw [hH]; exact Nat.le_refl _
  have hl := lv_entry ([.ref a, .int x1]) (n := 4) (Nat.le_of_ble_eq_true rfl)
  rw [lg_entry_eq]
  generalize (lg_sl ([.ref a, .int x1]) ++ List.replicate (4 - (lg_sl ([.ref a, .int x1])).length) Slot.unset).toArray = ls at hl ⊢
  have hl : lv_has ls 4 [(0, .ref a), (1, .int x1)] := hl
  have hf : mo_fr a ad h h := mo_fr.rf
  refine lv_aload_n hx hb d_MO_readRange_0 rfl (lv_at hl 0 rfl) ?_
  refine fs_cV B hl.1 hP hS (k_MO_readReference hSt hM  (by     show 0 ≤ (Int32.toInt (M.1 22)); omega) (by     show (Int32.toInt (M.1 22)) ≤ 100; omega) (by     show (Int32.toInt (M.1 9)) ≤ 40; omega)) (fs_tb_at 1637 tw_1637 rfl) hM.1 rfl (fs_tb_at 1639 tw_1639 rfl) (fs_tb_at 52 tw_52 rfl) (fs_tb_at 96 tw_96 rfl) (fs_tb_at 1640 tw_1640 rfl) (by decide) (show (parseMethodDescriptor y_MO_readReference.desc).map (fun d => d.parameters.length) = some 0 by decide +kernel) rfl d_MO_readRange_1 ⟨Nat.le_of_ble_eq_true rfl, Nat.le_of_ble_eq_true rfl, Nat.le_of_ble_eq_true rfl, Nat.le_of_ble_eq_true rfl⟩ (fun v_ h_ H locs hq hP hS => ?_) (fun C_ a_ h_ H locs hq => absurd hq.1 (fun h9 => by cases h9))
  obtain ⟨ev, hM, hf2⟩ := hq
  cases ev
  have hf := hf.trans hf2
  obtain ⟨R108, eR108⟩ : ∃ x, x = p_MO_readReference M := ⟨_, rfl⟩
  rw [← eR108] at hM
  have pf109 : ((Int32.toInt (R108.2.1 9)) = (Int32.toInt (M.1 9))) ∧ ((Int32.toInt (R108.2.1 10)) = (Int32.toInt (M.1 10))) ∧ ((Int32.toInt (R108.2.1 11)) = (Int32.toInt (M.1 11))) ∧ ((Int32.toInt (R108.2.1 12)) = (Int32.toInt (M.1 12))) ∧ ((Int32.toInt (R108.2.1 23)) = (Int32.toInt (M.1 23))) ∧ ((Int32.toInt (R108.2.1 24)) = (Int32.toInt (M.1 24))) ∧ ((Int32.toInt (R108.2.1 29)) = (Int32.toInt (M.1 29))) ∧ ((Int32.toInt (R108.2.1 30)) = (Int32.toInt (M.1 30))) ∧ ((Int32.toInt (R108.2.1 34)) = (Int32.toInt (M.1 34))) ∧ ((Int32.toInt (R108.2.1 35)) = (Int32.toInt (M.1 35))) ∧ ((Int32.toInt (M.1 22)) ≤ (Int32.toInt (R108.2.1 22))) ∧ ((Int32.toInt (R108.2.1 22)) ≤ (Int32.toInt (M.1 22)) + 5) ∧ ((Int32.toInt R108.1) = -1 ∨ (Int32.toInt (M.1 22)) + 2 ≤ (Int32.toInt (R108.2.1 22))) := by rw [eR108]; exact po_MO_readReference M  (by     show 0 ≤ (Int32.toInt (M.1 22)); omega) (by     show (Int32.toInt (M.1 22)) ≤ 100; omega) (by     show (Int32.toInt (M.1 9)) ≤ 40; omega)
  refine W.widen (k := 0) (n := 0) (Nat.le_of_ble_eq_true rfl) (Nat.le_of_ble_eq_true rfl) ?_
  refine W.eq (g2 := F0 m 4 ls (.int R108.1 :: [])) (by rw [eR108]; rfl) ?_
  refine lv_istore_n (lv' := [(2, .int R108.1), (0, .ref a), (1, .int x1)]) hx hb d_MO_readRange_4 rfl hl (by decide) rfl (fun ls hl => ?_)
  refine lv_iload_n hx hb d_MO_readRange_5 rfl (lv_at hl 0 rfl) ?_
  refine lv_if_lt (tgt := 18) hx hb d_MO_readRange_6 (by decide) (fun c_110 => ?_) (fun c_110 => ?_)
  · refine lv_iconst (v := 0) hx hb d_MO_readRange_18 (by decide) ?_
    have e_ : p_MO_readRange M x1 = (0, R108.2) := by rw [p_MO_readRange, ← eR108, if_pos c_110]
    exact fs_iret hx hb hr hlocks hw hP hS (by first | rfl | exact vp_nar_int _) (by omega) (by omega) (⟨by rw [e_], by rw [e_]; exact hM, hf⟩) d_MO_readRange_19
  · refine lv_aload_n hx hb d_MO_readRange_9 rfl (lv_at hl 1 rfl) ?_
    refine fs_cV B hl.1 hP hS (k_MO_here hSt hM  (by   have k0 := c_110; (try simp only [Int32.lt_iff_toInt_lt, Int32.le_iff_toInt_le, ← Int32.toInt_inj, i32_0, i32_1, i32_2, i32_3, i32_4, i32_5, i32_6, i32_7, i32_8, i32_9, i32_10, i32_11, i32_12, i32_16, i32_24, i32_39, i32_40, i32_41, i32_43, i32_44, i32_48, i32_49, i32_57, i32_64, i32_80, i32_81, i32_100, i32_101, i32_121, i32_127, i32_128, i32_256, i32_384, i32_400, i32_512, i32_3199, i32_3200, i32_3239, i32_3240, i32_m1] at k0);  show 0 ≤ (Int32.toInt (R108.2.1 22)); omega) (by   have k0 := c_110; (try simp only [Int32.lt_iff_toInt_lt, Int32.le_iff_toInt_le, ← Int32.toInt_inj, i32_0, i32_1, i32_2, i32_3, i32_4, i32_5, i32_6, i32_7, i32_8, i32_9, i32_10, i32_11, i32_12, i32_16, i32_24, i32_39, i32_40, i32_41, i32_43, i32_44, i32_48, i32_49, i32_57, i32_64, i32_80, i32_81, i32_100, i32_101, i32_121, i32_127, i32_128, i32_256, i32_384, i32_400, i32_512, i32_3199, i32_3200, i32_3239, i32_3240, i32_m1] at k0);  show (Int32.toInt (R108.2.1 9)) ≤ 40; omega)) (fs_tb_at 1597 tw_1597 rfl) hM.1 rfl (fs_tb_at 1599 tw_1599 rfl) (fs_tb_at 44 tw_44 rfl) (fs_tb_at 96 tw_96 rfl) (fs_tb_at 1600 tw_1600 rfl) (by decide) (show (parseMethodDescriptor y_MO_here.desc).map (fun d => d.parameters.length) = some 0 by decide +kernel) rfl d_MO_readRange_10 ⟨Nat.le_of_ble_eq_true rfl, Nat.le_of_ble_eq_true rfl, Nat.le_of_ble_eq_true rfl, Nat.le_of_ble_eq_true rfl⟩ (fun v_ h_ H locs hq hP hS => ?_) (fun C_ a_ h_ H locs hq => absurd hq.1 (fun h9 => by cases h9))
    obtain ⟨ev, hM, hf2⟩ := hq
    cases ev
    have hf := hf.trans hf2
    rw [ke_MO_here] at hM
    refine W.widen (k := 0) (n := 0) (Nat.le_of_ble_eq_true rfl) (Nat.le_of_ble_eq_true rfl) ?_
    refine W.eq (g2 := F0 m 13 ls (.int ((p_MO_here R108.2).1) :: [])) rfl ?_
    refine lv_bipush (v := 58) hx hb d_MO_readRange_13 (by decide) ?_
    refine lv_icmp_eq (tgt := 20) hx hb d_MO_readRange_15 (by decide) (fun c_111 => ?_) (fun c_111 => ?_)
    · refine lv_aload_n hx hb d_MO_readRange_20 rfl (lv_at hl 1 rfl) ?_
      refine lv_dup hx hb d_MO_readRange_21 rfl ?_
      refine fs_get (v := .int (R108.2.1 22)) hx hb hts hown hK c_MO hP hM.1 22 (by decide) (hts _ (fs_tb_at 1478 tw_1478 rfl)) (fun _ h9 => h9) rfl d_MO_readRange_22 ?_
      refine lv_iconst (v := 1) hx hb d_MO_readRange_25 (by decide) ?_
      refine lv_iadd hx hb d_MO_readRange_26 ?_
      refine fs_put hx hb hts hown hK c_MO hP hS hM.1 22 (by decide) (hts _ (fs_tb_at 1478 tw_1478 rfl)) (fun _ h9 => h9) rfl rfl rfl (Nat.le_of_ble_eq_true rfl) d_MO_readRange_27 (fun H locs hP hS => ?_)
      obtain ⟨h112, hP, hM, hf⟩ : ∃ x, fs_P G.1 fs_cl (fs_A s00) x H ∧ mo_at G x a ad (mo_f R108.2 22 ((R108.2.1 22) + 1)) ∧ mo_fr a ad h x := ⟨_, hP, hM.F (mo_F22 ad R108.2 ((R108.2.1 22) + 1)), hf.self⟩
      refine lv_aload_n hx hb d_MO_readRange_30 rfl (lv_at hl 1 rfl) ?_
      refine fs_cV B hl.1 hP hS (k_MO_readReference hSt hM  (by have i32_58 : Int32.toInt 58 = 58 := (by decide);  have k0 := c_110; (try simp only [Int32.lt_iff_toInt_lt, Int32.le_iff_toInt_le, ← Int32.toInt_inj, i32_0, i32_1, i32_2, i32_3, i32_4, i32_5, i32_6, i32_7, i32_8, i32_9, i32_10, i32_11, i32_12, i32_16, i32_24, i32_39, i32_40, i32_41, i32_43, i32_44, i32_48, i32_49, i32_57, i32_64, i32_80, i32_81, i32_100, i32_101, i32_121, i32_127, i32_128, i32_256, i32_384, i32_400, i32_512, i32_3199, i32_3200, i32_3239, i32_3240, i32_m1] at k0); have tt1 : Int32.toInt ((R108.2.1 22) + 1) = (Int32.toInt (R108.2.1 22)) + 1 := (by rw [i32_add (by rw [i32_1]; omega), i32_1]); show 0 ≤ (Int32.toInt ((R108.2.1 22) + 1)); omega) (by have i32_58 : Int32.toInt 58 = 58 := (by decide);  have k0 := c_110; (try simp only [Int32.lt_iff_toInt_lt, Int32.le_iff_toInt_le, ← Int32.toInt_inj, i32_0, i32_1, i32_2, i32_3, i32_4, i32_5, i32_6, i32_7, i32_8, i32_9, i32_10, i32_11, i32_12, i32_16, i32_24, i32_39, i32_40, i32_41, i32_43, i32_44, i32_48, i32_49, i32_57, i32_64, i32_80, i32_81, i32_100, i32_101, i32_121, i32_127, i32_128, i32_256, i32_384, i32_400, i32_512, i32_3199, i32_3200, i32_3239, i32_3240, i32_m1] at k0); have tt1 : Int32.toInt ((R108.2.1 22) + 1) = (Int32.toInt (R108.2.1 22)) + 1 := (by rw [i32_add (by rw [i32_1]; omega), i32_1]); show (Int32.toInt ((R108.2.1 22) + 1)) ≤ 100; omega) (by have i32_58 : Int32.toInt 58 = 58 := (by decide);  have k0 := c_110; (try simp only [Int32.lt_iff_toInt_lt, Int32.le_iff_toInt_le, ← Int32.toInt_inj, i32_0, i32_1, i32_2, i32_3, i32_4, i32_5, i32_6, i32_7, i32_8, i32_9, i32_10, i32_11, i32_12, i32_16, i32_24, i32_39, i32_40, i32_41, i32_43, i32_44, i32_48, i32_49, i32_57, i32_64, i32_80, i32_81, i32_100, i32_101, i32_121, i32_127, i32_128, i32_256, i32_384, i32_400, i32_512, i32_3199, i32_3200, i32_3239, i32_3240, i32_m1] at k0);  show (Int32.toInt (R108.2.1 9)) ≤ 40; omega)) (fs_tb_at 1637 tw_1637 rfl) hM.1 rfl (fs_tb_at 1639 tw_1639 rfl) (fs_tb_at 52 tw_52 rfl) (fs_tb_at 96 tw_96 rfl) (fs_tb_at 1640 tw_1640 rfl) (by decide) (show (parseMethodDescriptor y_MO_readReference.desc).map (fun d => d.parameters.length) = some 0 by decide +kernel) rfl d_MO_readRange_31 ⟨Nat.le_of_ble_eq_true rfl, Nat.le_of_ble_eq_true rfl, Nat.le_of_ble_eq_true rfl, Nat.le_of_ble_eq_true rfl⟩ (fun v_ h_ H locs hq hP hS => ?_) (fun C_ a_ h_ H locs hq => absurd hq.1 (fun h9 => by cases h9))
      obtain ⟨ev, hM, hf2⟩ := hq
      cases ev
      have hf := hf.trans hf2
      obtain ⟨R113, eR113⟩ : ∃ x, x = p_MO_readReference (mo_f R108.2 22 ((R108.2.1 22) + 1)) := ⟨_, rfl⟩
      rw [← eR113] at hM
      have pf114 : ((Int32.toInt (R113.2.1 9)) = (Int32.toInt (R108.2.1 9))) ∧ ((Int32.toInt (R113.2.1 10)) = (Int32.toInt (R108.2.1 10))) ∧ ((Int32.toInt (R113.2.1 11)) = (Int32.toInt (R108.2.1 11))) ∧ ((Int32.toInt (R113.2.1 12)) = (Int32.toInt (R108.2.1 12))) ∧ ((Int32.toInt (R113.2.1 23)) = (Int32.toInt (R108.2.1 23))) ∧ ((Int32.toInt (R113.2.1 24)) = (Int32.toInt (R108.2.1 24))) ∧ ((Int32.toInt (R113.2.1 29)) = (Int32.toInt (R108.2.1 29))) ∧ ((Int32.toInt (R113.2.1 30)) = (Int32.toInt (R108.2.1 30))) ∧ ((Int32.toInt (R113.2.1 34)) = (Int32.toInt (R108.2.1 34))) ∧ ((Int32.toInt (R113.2.1 35)) = (Int32.toInt (R108.2.1 35))) ∧ ((Int32.toInt ((R108.2.1 22) + 1)) ≤ (Int32.toInt (R113.2.1 22))) ∧ ((Int32.toInt (R113.2.1 22)) ≤ (Int32.toInt ((R108.2.1 22) + 1)) + 5) ∧ ((Int32.toInt R113.1) = -1 ∨ (Int32.toInt ((R108.2.1 22) + 1)) + 2 ≤ (Int32.toInt (R113.2.1 22))) := by rw [eR113]; exact po_MO_readReference (mo_f R108.2 22 ((R108.2.1 22) + 1))  (by have i32_58 : Int32.toInt 58 = 58 := (by decide);  have k0 := c_110; (try simp only [Int32.lt_iff_toInt_lt, Int32.le_iff_toInt_le, ← Int32.toInt_inj, i32_0, i32_1, i32_2, i32_3, i32_4, i32_5, i32_6, i32_7, i32_8, i32_9, i32_10, i32_11, i32_12, i32_16, i32_24, i32_39, i32_40, i32_41, i32_43, i32_44, i32_48, i32_49, i32_57, i32_64, i32_80, i32_81, i32_100, i32_101, i32_121, i32_127, i32_128, i32_256, i32_384, i32_400, i32_512, i32_3199, i32_3200, i32_3239, i32_3240, i32_m1] at k0); have tt1 : Int32.toInt ((R108.2.1 22) + 1) = (Int32.toInt (R108.2.1 22)) + 1 := (by rw [i32_add (by rw [i32_1]; omega), i32_1]); show 0 ≤ (Int32.toInt ((R108.2.1 22) + 1)); omega) (by have i32_58 : Int32.toInt 58 = 58 := (by decide);  have k0 := c_110; (try simp only [Int32.lt_iff_toInt_lt, Int32.le_iff_toInt_le, ← Int32.toInt_inj, i32_0, i32_1, i32_2, i32_3, i32_4, i32_5, i32_6, i32_7, i32_8, i32_9, i32_10, i32_11, i32_12, i32_16, i32_24, i32_39, i32_40, i32_41, i32_43, i32_44, i32_48, i32_49, i32_57, i32_64, i32_80, i32_81, i32_100, i32_101, i32_121, i32_127, i32_128, i32_256, i32_384, i32_400, i32_512, i32_3199, i32_3200, i32_3239, i32_3240, i32_m1] at k0); have tt1 : Int32.toInt ((R108.2.1 22) + 1) = (Int32.toInt (R108.2.1 22)) + 1 := (by rw [i32_add (by rw [i32_1]; omega), i32_1]); show (Int32.toInt ((R108.2.1 22) + 1)) ≤ 100; omega) (by have i32_58 : Int32.toInt 58 = 58 := (by decide);  have k0 := c_110; (try simp only [Int32.lt_iff_toInt_lt, Int32.le_iff_toInt_le, ← Int32.toInt_inj, i32_0, i32_1, i32_2, i32_3, i32_4, i32_5, i32_6, i32_7, i32_8, i32_9, i32_10, i32_11, i32_12, i32_16, i32_24, i32_39, i32_40, i32_41, i32_43, i32_44, i32_48, i32_49, i32_57, i32_64, i32_80, i32_81, i32_100, i32_101, i32_121, i32_127, i32_128, i32_256, i32_384, i32_400, i32_512, i32_3199, i32_3200, i32_3239, i32_3240, i32_m1] at k0);  show (Int32.toInt (R108.2.1 9)) ≤ 40; omega)
      refine W.widen (k := 0) (n := 0) (Nat.le_of_ble_eq_true rfl) (Nat.le_of_ble_eq_true rfl) ?_
      refine W.eq (g2 := F0 m 34 ls (.int R113.1 :: [])) (by rw [eR113]; rfl) ?_
      refine lv_istore_n (lv' := [(3, .int R113.1), (2, .int R108.1), (0, .ref a), (1, .int x1)]) hx hb d_MO_readRange_34 rfl hl (by decide) rfl (fun ls hl => ?_)
      refine lv_iload_n hx hb d_MO_readRange_35 rfl (lv_at hl 0 rfl) ?_
      refine lv_if_lt (tgt := 48) hx hb d_MO_readRange_36 (by decide) (fun c_115 => ?_) (fun c_115 => ?_)
      · refine lv_iconst (v := 0) hx hb d_MO_readRange_48 (by decide) ?_
        have e_ : p_MO_readRange M x1 = (0, R113.2) := by rw [p_MO_readRange, ← eR108, if_neg c_110, if_pos c_111, ← eR113, if_pos c_115]
        exact fs_iret hx hb hr hlocks hw hP hS (by first | rfl | exact vp_nar_int _) (by omega) (by omega) (⟨by rw [e_], by rw [e_]; exact hM, hf⟩) d_MO_readRange_49
      · refine lv_aload_n hx hb d_MO_readRange_39 rfl (lv_at hl 2 rfl) ?_
        refine fs_cV B hl.1 hP hS (k_MO_here hSt hM  (by have i32_58 : Int32.toInt 58 = 58 := (by decide);  have k0 := c_110; (try simp only [Int32.lt_iff_toInt_lt, Int32.le_iff_toInt_le, ← Int32.toInt_inj, i32_0, i32_1, i32_2, i32_3, i32_4, i32_5, i32_6, i32_7, i32_8, i32_9, i32_10, i32_11, i32_12, i32_16, i32_24, i32_39, i32_40, i32_41, i32_43, i32_44, i32_48, i32_49, i32_57, i32_64, i32_80, i32_81, i32_100, i32_101, i32_121, i32_127, i32_128, i32_256, i32_384, i32_400, i32_512, i32_3199, i32_3200, i32_3239, i32_3240, i32_m1] at k0); have k2 := c_115; (try simp only [Int32.lt_iff_toInt_lt, Int32.le_iff_toInt_le, ← Int32.toInt_inj, i32_0, i32_1, i32_2, i32_3, i32_4, i32_5, i32_6, i32_7, i32_8, i32_9, i32_10, i32_11, i32_12, i32_16, i32_24, i32_39, i32_40, i32_41, i32_43, i32_44, i32_48, i32_49, i32_57, i32_64, i32_80, i32_81, i32_100, i32_101, i32_121, i32_127, i32_128, i32_256, i32_384, i32_400, i32_512, i32_3199, i32_3200, i32_3239, i32_3240, i32_m1] at k2); have tt1 : Int32.toInt ((R108.2.1 22) + 1) = (Int32.toInt (R108.2.1 22)) + 1 := (by rw [i32_add (by rw [i32_1]; omega), i32_1]); show 0 ≤ (Int32.toInt (R113.2.1 22)); omega) (by have i32_58 : Int32.toInt 58 = 58 := (by decide);  have k0 := c_110; (try simp only [Int32.lt_iff_toInt_lt, Int32.le_iff_toInt_le, ← Int32.toInt_inj, i32_0, i32_1, i32_2, i32_3, i32_4, i32_5, i32_6, i32_7, i32_8, i32_9, i32_10, i32_11, i32_12, i32_16, i32_24, i32_39, i32_40, i32_41, i32_43, i32_44, i32_48, i32_49, i32_57, i32_64, i32_80, i32_81, i32_100, i32_101, i32_121, i32_127, i32_128, i32_256, i32_384, i32_400, i32_512, i32_3199, i32_3200, i32_3239, i32_3240, i32_m1] at k0); have k2 := c_115; (try simp only [Int32.lt_iff_toInt_lt, Int32.le_iff_toInt_le, ← Int32.toInt_inj, i32_0, i32_1, i32_2, i32_3, i32_4, i32_5, i32_6, i32_7, i32_8, i32_9, i32_10, i32_11, i32_12, i32_16, i32_24, i32_39, i32_40, i32_41, i32_43, i32_44, i32_48, i32_49, i32_57, i32_64, i32_80, i32_81, i32_100, i32_101, i32_121, i32_127, i32_128, i32_256, i32_384, i32_400, i32_512, i32_3199, i32_3200, i32_3239, i32_3240, i32_m1] at k2); have tt1 : Int32.toInt ((R108.2.1 22) + 1) = (Int32.toInt (R108.2.1 22)) + 1 := (by rw [i32_add (by rw [i32_1]; omega), i32_1]); show (Int32.toInt (R113.2.1 9)) ≤ 40; omega)) (fs_tb_at 1597 tw_1597 rfl) hM.1 rfl (fs_tb_at 1599 tw_1599 rfl) (fs_tb_at 44 tw_44 rfl) (fs_tb_at 96 tw_96 rfl) (fs_tb_at 1600 tw_1600 rfl) (by decide) (show (parseMethodDescriptor y_MO_here.desc).map (fun d => d.parameters.length) = some 0 by decide +kernel) rfl d_MO_readRange_40 ⟨Nat.le_of_ble_eq_true rfl, Nat.le_of_ble_eq_true rfl, Nat.le_of_ble_eq_true rfl, Nat.le_of_ble_eq_true rfl⟩ (fun v_ h_ H locs hq hP hS => ?_) (fun C_ a_ h_ H locs hq => absurd hq.1 (fun h9 => by cases h9))
        obtain ⟨ev, hM, hf2⟩ := hq
        cases ev
        have hf := hf.trans hf2
        rw [ke_MO_here] at hM
        refine W.widen (k := 0) (n := 0) (Nat.le_of_ble_eq_true rfl) (Nat.le_of_ble_eq_true rfl) ?_
        refine W.eq (g2 := F0 m 43 ls (.int ((p_MO_here R113.2).1) :: [])) rfl ?_
        refine lv_bipush (v := 41) hx hb d_MO_readRange_43 (by decide) ?_
        refine lv_icmp_eq (tgt := 50) hx hb d_MO_readRange_45 (by decide) (fun c_116 => ?_) (fun c_116 => ?_)
        · refine lv_aload_n hx hb d_MO_readRange_50 rfl (lv_at hl 2 rfl) ?_
          refine lv_dup hx hb d_MO_readRange_51 rfl ?_
          refine fs_get (v := .int (R113.2.1 22)) hx hb hts hown hK c_MO hP hM.1 22 (by decide) (hts _ (fs_tb_at 1478 tw_1478 rfl)) (fun _ h9 => h9) rfl d_MO_readRange_52 ?_
          refine lv_iconst (v := 1) hx hb d_MO_readRange_55 (by decide) ?_
          refine lv_iadd hx hb d_MO_readRange_56 ?_
          refine fs_put hx hb hts hown hK c_MO hP hS hM.1 22 (by decide) (hts _ (fs_tb_at 1478 tw_1478 rfl)) (fun _ h9 => h9) rfl rfl rfl (Nat.le_of_ble_eq_true rfl) d_MO_readRange_57 (fun H locs hP hS => ?_)
          obtain ⟨h117, hP, hM, hf⟩ : ∃ x, fs_P G.1 fs_cl (fs_A s00) x H ∧ mo_at G x a ad (mo_f R113.2 22 ((R113.2.1 22) + 1)) ∧ mo_fr a ad h x := ⟨_, hP, hM.F (mo_F22 ad R113.2 ((R113.2.1 22) + 1)), hf.self⟩
          refine lv_aload_n hx hb d_MO_readRange_60 rfl (lv_at hl 2 rfl) ?_
          refine fs_get (v := .ref (ad 4)) hx hb hts hown hK c_MO hP hM.1 4 (by decide) (hts _ (fs_tb_at 1460 tw_1460 rfl)) (fun _ h9 => h9) rfl d_MO_readRange_61 ?_
          refine lv_sipush (v := 3200) hx hb d_MO_readRange_64 (by decide) ?_
          refine lv_aload_n hx hb d_MO_readRange_67 rfl (lv_at hl 2 rfl) ?_
          refine fs_get (v := .int (R113.2.1 30)) hx hb hts hown hK c_MO hP hM.1 30 (by decide) (hts _ (fs_tb_at 1486 tw_1486 rfl)) (fun _ h9 => h9) rfl d_MO_readRange_68 ?_
          refine lv_iadd hx hb d_MO_readRange_71 ?_
          refine lv_iload_n hx hb d_MO_readRange_72 rfl (lv_at hl 1 rfl) ?_
          have hi_ : vp_in (3200 + (R113.2.1 30)) 3240 := (by have i32_58 : Int32.toInt 58 = 58 := (by decide);  have k0 := c_110; (try simp only [Int32.lt_iff_toInt_lt, Int32.le_iff_toInt_le, ← Int32.toInt_inj, i32_0, i32_1, i32_2, i32_3, i32_4, i32_5, i32_6, i32_7, i32_8, i32_9, i32_10, i32_11, i32_12, i32_16, i32_24, i32_39, i32_40, i32_41, i32_43, i32_44, i32_48, i32_49, i32_57, i32_64, i32_80, i32_81, i32_100, i32_101, i32_121, i32_127, i32_128, i32_256, i32_384, i32_400, i32_512, i32_3199, i32_3200, i32_3239, i32_3240, i32_m1] at k0); have k2 := c_115; (try simp only [Int32.lt_iff_toInt_lt, Int32.le_iff_toInt_le, ← Int32.toInt_inj, i32_0, i32_1, i32_2, i32_3, i32_4, i32_5, i32_6, i32_7, i32_8, i32_9, i32_10, i32_11, i32_12, i32_16, i32_24, i32_39, i32_40, i32_41, i32_43, i32_44, i32_48, i32_49, i32_57, i32_64, i32_80, i32_81, i32_100, i32_101, i32_121, i32_127, i32_128, i32_256, i32_384, i32_400, i32_512, i32_3199, i32_3200, i32_3239, i32_3240, i32_m1] at k2); have tt1 : Int32.toInt ((R108.2.1 22) + 1) = (Int32.toInt (R108.2.1 22)) + 1 := (by rw [i32_add (by rw [i32_1]; omega), i32_1]); have tt2 : Int32.toInt (3200 + (R113.2.1 30)) = 3200 + (Int32.toInt (R113.2.1 30)) := (by rw [i32_add (by rw [i32_3200]; omega), i32_3200]); rw [vp_in_iff]; omega)
          refine fs_iast hx hb hK hP hS 0 (hM.2.1 4 0 3240 rfl) rfl hi_ d_MO_readRange_73 (fun H locs hP hS => ?_)
          obtain ⟨h118, hP, hM, hf⟩ : ∃ x, fs_P G.1 fs_cl (fs_A s00) x H ∧ mo_at G x a ad (mo_i (mo_f R113.2 22 ((R113.2.1 22) + 1)) 4 (Int32.toNatClampNeg (3200 + (R113.2.1 30))) R108.1) ∧ mo_fr a ad h x := ⟨_, hP, hM.I (j := 4) (k := (Int32.toNatClampNeg (3200 + (R113.2.1 30)))) (x := R108.1) rfl (fun _ => rfl), hf.arr (j := 4) (by decide)⟩
          refine lv_aload_n hx hb d_MO_readRange_74 rfl (lv_at hl 2 rfl) ?_
          refine fs_get (v := .ref (ad 5)) hx hb hts hown hK c_MO hP hM.1 5 (by decide) (hts _ (fs_tb_at 1461 tw_1461 rfl)) (fun _ h9 => h9) rfl d_MO_readRange_75 ?_
          refine lv_sipush (v := 3200) hx hb d_MO_readRange_78 (by decide) ?_
          refine lv_aload_n hx hb d_MO_readRange_81 rfl (lv_at hl 2 rfl) ?_
          refine fs_get (v := .int (R113.2.1 30)) hx hb hts hown hK c_MO hP hM.1 30 (by decide) (hts _ (fs_tb_at 1486 tw_1486 rfl)) (fun _ h9 => h9) rfl d_MO_readRange_82 ?_
          refine lv_iadd hx hb d_MO_readRange_85 ?_
          refine lv_iload_n hx hb d_MO_readRange_86 rfl (lv_at hl 0 rfl) ?_
          have hi_ : vp_in (3200 + (R113.2.1 30)) 3240 := (by have i32_58 : Int32.toInt 58 = 58 := (by decide);  have k0 := c_110; (try simp only [Int32.lt_iff_toInt_lt, Int32.le_iff_toInt_le, ← Int32.toInt_inj, i32_0, i32_1, i32_2, i32_3, i32_4, i32_5, i32_6, i32_7, i32_8, i32_9, i32_10, i32_11, i32_12, i32_16, i32_24, i32_39, i32_40, i32_41, i32_43, i32_44, i32_48, i32_49, i32_57, i32_64, i32_80, i32_81, i32_100, i32_101, i32_121, i32_127, i32_128, i32_256, i32_384, i32_400, i32_512, i32_3199, i32_3200, i32_3239, i32_3240, i32_m1] at k0); have k2 := c_115; (try simp only [Int32.lt_iff_toInt_lt, Int32.le_iff_toInt_le, ← Int32.toInt_inj, i32_0, i32_1, i32_2, i32_3, i32_4, i32_5, i32_6, i32_7, i32_8, i32_9, i32_10, i32_11, i32_12, i32_16, i32_24, i32_39, i32_40, i32_41, i32_43, i32_44, i32_48, i32_49, i32_57, i32_64, i32_80, i32_81, i32_100, i32_101, i32_121, i32_127, i32_128, i32_256, i32_384, i32_400, i32_512, i32_3199, i32_3200, i32_3239, i32_3240, i32_m1] at k2); have tt1 : Int32.toInt ((R108.2.1 22) + 1) = (Int32.toInt (R108.2.1 22)) + 1 := (by rw [i32_add (by rw [i32_1]; omega), i32_1]); have tt2 : Int32.toInt (3200 + (R113.2.1 30)) = 3200 + (Int32.toInt (R113.2.1 30)) := (by rw [i32_add (by rw [i32_3200]; omega), i32_3200]); rw [vp_in_iff]; omega)
          refine fs_iast hx hb hK hP hS 0 (hM.2.1 5 0 3240 rfl) rfl hi_ d_MO_readRange_87 (fun H locs hP hS => ?_)
          obtain ⟨h119, hP, hM, hf⟩ : ∃ x, fs_P G.1 fs_cl (fs_A s00) x H ∧ mo_at G x a ad (mo_i (mo_i (mo_f R113.2 22 ((R113.2.1 22) + 1)) 4 (Int32.toNatClampNeg (3200 + (R113.2.1 30))) R108.1) 5 (Int32.toNatClampNeg (3200 + (R113.2.1 30))) R113.1) ∧ mo_fr a ad h x := ⟨_, hP, hM.I (j := 5) (k := (Int32.toNatClampNeg (3200 + (R113.2.1 30)))) (x := R113.1) rfl (fun _ => rfl), hf.arr (j := 5) (by decide)⟩
          refine lv_aload_n hx hb d_MO_readRange_88 rfl (lv_at hl 2 rfl) ?_
          refine lv_iload_n hx hb d_MO_readRange_89 rfl (lv_at hl 3 rfl) ?_
          refine fs_cV B hl.1 hP hS (k_MO_add hSt hM x1 (by have i32_58 : Int32.toInt 58 = 58 := (by decide);  have k0 := c_110; (try simp only [Int32.lt_iff_toInt_lt, Int32.le_iff_toInt_le, ← Int32.toInt_inj, i32_0, i32_1, i32_2, i32_3, i32_4, i32_5, i32_6, i32_7, i32_8, i32_9, i32_10, i32_11, i32_12, i32_16, i32_24, i32_39, i32_40, i32_41, i32_43, i32_44, i32_48, i32_49, i32_57, i32_64, i32_80, i32_81, i32_100, i32_101, i32_121, i32_127, i32_128, i32_256, i32_384, i32_400, i32_512, i32_3199, i32_3200, i32_3239, i32_3240, i32_m1] at k0); have k2 := c_115; (try simp only [Int32.lt_iff_toInt_lt, Int32.le_iff_toInt_le, ← Int32.toInt_inj, i32_0, i32_1, i32_2, i32_3, i32_4, i32_5, i32_6, i32_7, i32_8, i32_9, i32_10, i32_11, i32_12, i32_16, i32_24, i32_39, i32_40, i32_41, i32_43, i32_44, i32_48, i32_49, i32_57, i32_64, i32_80, i32_81, i32_100, i32_101, i32_121, i32_127, i32_128, i32_256, i32_384, i32_400, i32_512, i32_3199, i32_3200, i32_3239, i32_3240, i32_m1] at k2); have tt1 : Int32.toInt ((R108.2.1 22) + 1) = (Int32.toInt (R108.2.1 22)) + 1 := (by rw [i32_add (by rw [i32_1]; omega), i32_1]); show 0 ≤ (Int32.toInt (R113.2.1 30)); omega) (by have i32_58 : Int32.toInt 58 = 58 := (by decide);  have k0 := c_110; (try simp only [Int32.lt_iff_toInt_lt, Int32.le_iff_toInt_le, ← Int32.toInt_inj, i32_0, i32_1, i32_2, i32_3, i32_4, i32_5, i32_6, i32_7, i32_8, i32_9, i32_10, i32_11, i32_12, i32_16, i32_24, i32_39, i32_40, i32_41, i32_43, i32_44, i32_48, i32_49, i32_57, i32_64, i32_80, i32_81, i32_100, i32_101, i32_121, i32_127, i32_128, i32_256, i32_384, i32_400, i32_512, i32_3199, i32_3200, i32_3239, i32_3240, i32_m1] at k0); have k2 := c_115; (try simp only [Int32.lt_iff_toInt_lt, Int32.le_iff_toInt_le, ← Int32.toInt_inj, i32_0, i32_1, i32_2, i32_3, i32_4, i32_5, i32_6, i32_7, i32_8, i32_9, i32_10, i32_11, i32_12, i32_16, i32_24, i32_39, i32_40, i32_41, i32_43, i32_44, i32_48, i32_49, i32_57, i32_64, i32_80, i32_81, i32_100, i32_101, i32_121, i32_127, i32_128, i32_256, i32_384, i32_400, i32_512, i32_3199, i32_3200, i32_3239, i32_3240, i32_m1] at k2); have tt1 : Int32.toInt ((R108.2.1 22) + 1) = (Int32.toInt (R108.2.1 22)) + 1 := (by rw [i32_add (by rw [i32_1]; omega), i32_1]); show (Int32.toInt (R113.2.1 30)) < 40; omega)) (fs_tb_at 1612 tw_1612 rfl) hM.1 rfl (fs_tb_at 1614 tw_1614 rfl) (fs_tb_at 47 tw_47 rfl) (fs_tb_at 96 tw_96 rfl) (fs_tb_at 1615 tw_1615 rfl) (by decide) (show (parseMethodDescriptor y_MO_add.desc).map (fun d => d.parameters.length) = some 1 by decide +kernel) rfl d_MO_readRange_90 ⟨Nat.le_of_ble_eq_true rfl, Nat.le_of_ble_eq_true rfl, Nat.le_of_ble_eq_true rfl, Nat.le_of_ble_eq_true rfl⟩ (fun v_ h_ H locs hq hP hS => ?_) (fun C_ a_ h_ H locs hq => absurd hq.1 (fun h9 => by cases h9))
          obtain ⟨ev, hM, hf2⟩ := hq
          cases ev
          have hf := hf.trans hf2
          obtain ⟨R120, eR120⟩ : ∃ x, x = p_MO_add (mo_i (mo_i (mo_f R113.2 22 ((R113.2.1 22) + 1)) 4 (Int32.toNatClampNeg (3200 + (R113.2.1 30))) R108.1) 5 (Int32.toNatClampNeg (3200 + (R113.2.1 30))) R113.1) x1 := ⟨_, rfl⟩
          rw [← eR120] at hM
          have pf121 : ((Int32.toInt (R120.1 9)) = (Int32.toInt (R113.2.1 9))) ∧ ((Int32.toInt (R120.1 10)) = (Int32.toInt (R113.2.1 10))) ∧ ((Int32.toInt (R120.1 11)) = (Int32.toInt (R113.2.1 11))) ∧ ((Int32.toInt (R120.1 12)) = (Int32.toInt (R113.2.1 12))) ∧ ((Int32.toInt (R120.1 22)) = (Int32.toInt ((R113.2.1 22) + 1))) ∧ ((Int32.toInt (R120.1 23)) = (Int32.toInt (R113.2.1 23))) ∧ ((Int32.toInt (R120.1 24)) = (Int32.toInt (R113.2.1 24))) ∧ ((Int32.toInt (R120.1 29)) = (Int32.toInt (R113.2.1 29))) ∧ ((Int32.toInt (R120.1 34)) = (Int32.toInt (R113.2.1 34))) ∧ ((Int32.toInt (R120.1 35)) = (Int32.toInt (R113.2.1 35))) ∧ ((Int32.toInt (R120.1 30)) = (Int32.toInt (R113.2.1 30)) + 1) := by rw [eR120]; exact po_MO_add (mo_i (mo_i (mo_f R113.2 22 ((R113.2.1 22) + 1)) 4 (Int32.toNatClampNeg (3200 + (R113.2.1 30))) R108.1) 5 (Int32.toNatClampNeg (3200 + (R113.2.1 30))) R113.1) x1 (by have i32_58 : Int32.toInt 58 = 58 := (by decide);  have k0 := c_110; (try simp only [Int32.lt_iff_toInt_lt, Int32.le_iff_toInt_le, ← Int32.toInt_inj, i32_0, i32_1, i32_2, i32_3, i32_4, i32_5, i32_6, i32_7, i32_8, i32_9, i32_10, i32_11, i32_12, i32_16, i32_24, i32_39, i32_40, i32_41, i32_43, i32_44, i32_48, i32_49, i32_57, i32_64, i32_80, i32_81, i32_100, i32_101, i32_121, i32_127, i32_128, i32_256, i32_384, i32_400, i32_512, i32_3199, i32_3200, i32_3239, i32_3240, i32_m1] at k0); have k2 := c_115; (try simp only [Int32.lt_iff_toInt_lt, Int32.le_iff_toInt_le, ← Int32.toInt_inj, i32_0, i32_1, i32_2, i32_3, i32_4, i32_5, i32_6, i32_7, i32_8, i32_9, i32_10, i32_11, i32_12, i32_16, i32_24, i32_39, i32_40, i32_41, i32_43, i32_44, i32_48, i32_49, i32_57, i32_64, i32_80, i32_81, i32_100, i32_101, i32_121, i32_127, i32_128, i32_256, i32_384, i32_400, i32_512, i32_3199, i32_3200, i32_3239, i32_3240, i32_m1] at k2); have tt1 : Int32.toInt ((R108.2.1 22) + 1) = (Int32.toInt (R108.2.1 22)) + 1 := (by rw [i32_add (by rw [i32_1]; omega), i32_1]); show 0 ≤ (Int32.toInt (R113.2.1 30)); omega) (by have i32_58 : Int32.toInt 58 = 58 := (by decide);  have k0 := c_110; (try simp only [Int32.lt_iff_toInt_lt, Int32.le_iff_toInt_le, ← Int32.toInt_inj, i32_0, i32_1, i32_2, i32_3, i32_4, i32_5, i32_6, i32_7, i32_8, i32_9, i32_10, i32_11, i32_12, i32_16, i32_24, i32_39, i32_40, i32_41, i32_43, i32_44, i32_48, i32_49, i32_57, i32_64, i32_80, i32_81, i32_100, i32_101, i32_121, i32_127, i32_128, i32_256, i32_384, i32_400, i32_512, i32_3199, i32_3200, i32_3239, i32_3240, i32_m1] at k0); have k2 := c_115; (try simp only [Int32.lt_iff_toInt_lt, Int32.le_iff_toInt_le, ← Int32.toInt_inj, i32_0, i32_1, i32_2, i32_3, i32_4, i32_5, i32_6, i32_7, i32_8, i32_9, i32_10, i32_11, i32_12, i32_16, i32_24, i32_39, i32_40, i32_41, i32_43, i32_44, i32_48, i32_49, i32_57, i32_64, i32_80, i32_81, i32_100, i32_101, i32_121, i32_127, i32_128, i32_256, i32_384, i32_400, i32_512, i32_3199, i32_3200, i32_3239, i32_3240, i32_m1] at k2); have tt1 : Int32.toInt ((R108.2.1 22) + 1) = (Int32.toInt (R108.2.1 22)) + 1 := (by rw [i32_add (by rw [i32_1]; omega), i32_1]); show (Int32.toInt (R113.2.1 30)) < 40; omega)
          refine W.widen (k := 0) (n := 0) (Nat.le_of_ble_eq_true rfl) (Nat.le_of_ble_eq_true rfl) ?_
          refine W.eq (g2 := F0 m 93 ls ([])) rfl ?_
          refine lv_iconst (v := 1) hx hb d_MO_readRange_93 (by decide) ?_
          have e_ : p_MO_readRange M x1 = (1, R120) := by rw [p_MO_readRange, ← eR108, if_neg c_110, if_pos c_111, ← eR113, if_neg c_115, if_pos c_116, ← eR120]
          exact fs_iret hx hb hr hlocks hw hP hS (by first | rfl | exact vp_nar_int _) (by omega) (by omega) (⟨by rw [e_], by rw [e_]; exact hM, hf⟩) d_MO_readRange_94
        · refine lv_iconst (v := 0) hx hb d_MO_readRange_48 (by decide) ?_
          have e_ : p_MO_readRange M x1 = (0, R113.2) := by rw [p_MO_readRange, ← eR108, if_neg c_110, if_pos c_111, ← eR113, if_neg c_115, if_neg c_116]
          exact fs_iret hx hb hr hlocks hw hP hS (by first | rfl | exact vp_nar_int _) (by omega) (by omega) (⟨by rw [e_], by rw [e_]; exact hM, hf⟩) d_MO_readRange_49
    · refine lv_iconst (v := 0) hx hb d_MO_readRange_18 (by decide) ?_
      have e_ : p_MO_readRange M x1 = (0, R108.2) := by rw [p_MO_readRange, ← eR108, if_neg c_110, if_neg c_111]
      exact fs_iret hx hb hr hlocks hw hP hS (by first | rfl | exact vp_nar_int _) (by omega) (by omega) (⟨by rw [e_], by rw [e_]; exact hM, hf⟩) d_MO_readRange_19
def p_MO_openOne (M : mo_S) (x1 : Int32) : Int32 × mo_S := (1, (mo_f (p_MO_pushSign (mo_i (mo_i (mo_i (mo_f M 23 ((M.1 23) + 1)) 25 (Int32.toNatClampNeg ((M.1 23) + 1)) x1) 26 (Int32.toNatClampNeg ((M.1 23) + 1)) 0) 27 (Int32.toNatClampNeg ((M.1 23) + 1)) (vp_nar .boolean 0)) (100 + x1)) 24 0))
theorem bo_MO_openOne (M : mo_S) (x1 : Int32) : (p_MO_openOne M x1).1 = 0 ∨ (p_MO_openOne M x1).1 = 1 := by unfold p_MO_openOne; ((repeat' split) <;> simp)
set_option maxHeartbeats 4000000 in
set_option maxRecDepth 100000 in
theorem k_MO_openOne {l : Launch} {s00 : State} {G : fs_G} (hSt : fs_St l s00 G) {h : fs_Hp} {a : Nat} {ad : Nat → Nat} {M : mo_S} (hM : mo_at G h a ad M) (x1 : Int32) (b1 : 0 ≤ (Int32.toInt (M.1 23))) (b2 : (Int32.toInt (M.1 23)) ≤ 6) (b3 : 0 ≤ (Int32.toInt (M.1 29))) (b4 : (Int32.toInt (M.1 29)) < 44)  : fs_Ct l s00 G y_MO_openOne (.code y_MO_openOne b_MO_openOne 2 (some .boolean)) { frames := 1, cells := 0, slots := 0, locals := 13 } [.ref a, .int x1] h (fun o h' => o = .inl (some (.int (p_MO_openOne M x1).1)) ∧ mo_at G h' a ad (p_MO_openOne M x1).2 ∧ mo_fr a ad h h') := by
  refine fs_Ct.ofW hSt (by decide) ?_
  intro p e s m below meth c B hout hP
  obtain ⟨hx, hb, hr, hml, hown, hts, hlocks, hname, hK, hw, htr⟩ := id B
  have hown : s.vm.findClass "FormulaSheetModel" = some m.cls := hown
  have hS := hw.S
  have hA : ∀ q : Nat, s00.heap.size ≤ q → fs_A s00 q := fun _ h9 => h9
  generalize hH : s.heap = H at hP hS ⊢
  have hH0 : s.heap.size ≤ H.size := by rw [hH]; exact Nat.le_refl _
  have hl := lv_entry ([.ref a, .int x1]) (n := 2) (Nat.le_of_ble_eq_true rfl)
  rw [lg_entry_eq]
  generalize (lg_sl ([.ref a, .int x1]) ++ List.replicate (2 - (lg_sl ([.ref a, .int x1])).length) Slot.unset).toArray = ls at hl ⊢
  have hl : lv_has ls 2 [(0, .ref a), (1, .int x1)] := hl
  have hf : mo_fr a ad h h := mo_fr.rf
  refine lv_aload_n hx hb d_MO_openOne_0 rfl (lv_at hl 0 rfl) ?_
  refine lv_dup hx hb d_MO_openOne_1 rfl ?_
  refine fs_get (v := .int (M.1 23)) hx hb hts hown hK c_MO hP hM.1 23 (by decide) (hts _ (fs_tb_at 1479 tw_1479 rfl)) (fun _ h9 => h9) rfl d_MO_openOne_2 ?_
  refine lv_iconst (v := 1) hx hb d_MO_openOne_5 (by decide) ?_
  refine lv_iadd hx hb d_MO_openOne_6 ?_
  refine fs_put hx hb hts hown hK c_MO hP hS hM.1 23 (by decide) (hts _ (fs_tb_at 1479 tw_1479 rfl)) (fun _ h9 => h9) rfl rfl rfl (Nat.le_of_ble_eq_true rfl) d_MO_openOne_7 (fun H locs hP hS => ?_)
  obtain ⟨h122, hP, hM, hf⟩ : ∃ x, fs_P G.1 fs_cl (fs_A s00) x H ∧ mo_at G x a ad (mo_f M 23 ((M.1 23) + 1)) ∧ mo_fr a ad h x := ⟨_, hP, hM.F (mo_F23 ad M ((M.1 23) + 1)), hf.self⟩
  refine lv_aload_n hx hb d_MO_openOne_10 rfl (lv_at hl 0 rfl) ?_
  refine fs_get (v := .ref (ad 25)) hx hb hts hown hK c_MO hP hM.1 25 (by decide) (hts _ (fs_tb_at 1481 tw_1481 rfl)) (fun _ h9 => h9) rfl d_MO_openOne_11 ?_
  refine lv_aload_n hx hb d_MO_openOne_14 rfl (lv_at hl 0 rfl) ?_
  refine fs_get (v := .int ((M.1 23) + 1)) hx hb hts hown hK c_MO hP hM.1 23 (by decide) (hts _ (fs_tb_at 1479 tw_1479 rfl)) (fun _ h9 => h9) rfl d_MO_openOne_15 ?_
  refine lv_iload_n hx hb d_MO_openOne_18 rfl (lv_at hl 1 rfl) ?_
  have hi_ : vp_in ((M.1 23) + 1) 8 := (by    have tt1 : Int32.toInt ((M.1 23) + 1) = (Int32.toInt (M.1 23)) + 1 := (by rw [i32_add (by rw [i32_1]; omega), i32_1]); rw [vp_in_iff]; omega)
  refine fs_iast hx hb hK hP hS 0 (hM.2.1 25 0 8 rfl) rfl hi_ d_MO_openOne_19 (fun H locs hP hS => ?_)
  obtain ⟨h123, hP, hM, hf⟩ : ∃ x, fs_P G.1 fs_cl (fs_A s00) x H ∧ mo_at G x a ad (mo_i (mo_f M 23 ((M.1 23) + 1)) 25 (Int32.toNatClampNeg ((M.1 23) + 1)) x1) ∧ mo_fr a ad h x := ⟨_, hP, hM.I (j := 25) (k := (Int32.toNatClampNeg ((M.1 23) + 1))) (x := x1) rfl (fun _ => rfl), hf.arr (j := 25) (by decide)⟩
  refine lv_aload_n hx hb d_MO_openOne_20 rfl (lv_at hl 0 rfl) ?_
  refine fs_get (v := .ref (ad 26)) hx hb hts hown hK c_MO hP hM.1 26 (by decide) (hts _ (fs_tb_at 1482 tw_1482 rfl)) (fun _ h9 => h9) rfl d_MO_openOne_21 ?_
  refine lv_aload_n hx hb d_MO_openOne_24 rfl (lv_at hl 0 rfl) ?_
  refine fs_get (v := .int ((M.1 23) + 1)) hx hb hts hown hK c_MO hP hM.1 23 (by decide) (hts _ (fs_tb_at 1479 tw_1479 rfl)) (fun _ h9 => h9) rfl d_MO_openOne_25 ?_
  refine lv_iconst (v := 0) hx hb d_MO_openOne_28 (by decide) ?_
  have hi_ : vp_in ((M.1 23) + 1) 8 := (by    have tt1 : Int32.toInt ((M.1 23) + 1) = (Int32.toInt (M.1 23)) + 1 := (by rw [i32_add (by rw [i32_1]; omega), i32_1]); rw [vp_in_iff]; omega)
  refine fs_iast hx hb hK hP hS 0 (hM.2.1 26 0 8 rfl) rfl hi_ d_MO_openOne_29 (fun H locs hP hS => ?_)
  obtain ⟨h124, hP, hM, hf⟩ : ∃ x, fs_P G.1 fs_cl (fs_A s00) x H ∧ mo_at G x a ad (mo_i (mo_i (mo_f M 23 ((M.1 23) + 1)) 25 (Int32.toNatClampNeg ((M.1 23) + 1)) x1) 26 (Int32.toNatClampNeg ((M.1 23) + 1)) 0) ∧ mo_fr a ad h x := ⟨_, hP, hM.I (j := 26) (k := (Int32.toNatClampNeg ((M.1 23) + 1))) (x := 0) rfl (fun _ => rfl), hf.arr (j := 26) (by decide)⟩
  refine lv_aload_n hx hb d_MO_openOne_30 rfl (lv_at hl 0 rfl) ?_
  refine fs_get (v := .ref (ad 27)) hx hb hts hown hK c_MO hP hM.1 27 (by decide) (hts _ (fs_tb_at 1483 tw_1483 rfl)) (fun _ h9 => h9) rfl d_MO_openOne_31 ?_
  refine lv_aload_n hx hb d_MO_openOne_34 rfl (lv_at hl 0 rfl) ?_
  refine fs_get (v := .int ((M.1 23) + 1)) hx hb hts hown hK c_MO hP hM.1 23 (by decide) (hts _ (fs_tb_at 1479 tw_1479 rfl)) (fun _ h9 => h9) rfl d_MO_openOne_35 ?_
  refine lv_iconst (v := 0) hx hb d_MO_openOne_38 (by decide) ?_
  have hi_ : vp_in ((M.1 23) + 1) 8 := (by    have tt1 : Int32.toInt ((M.1 23) + 1) = (Int32.toInt (M.1 23)) + 1 := (by rw [i32_add (by rw [i32_1]; omega), i32_1]); rw [vp_in_iff]; omega)
  refine fs_zast hx hb hK hP hS 3 (hM.2.1 27 3 8 rfl) rfl hi_ d_MO_openOne_39 (fun H locs hP hS => ?_)
  obtain ⟨h125, hP, hM, hf⟩ : ∃ x, fs_P G.1 fs_cl (fs_A s00) x H ∧ mo_at G x a ad (mo_i (mo_i (mo_i (mo_f M 23 ((M.1 23) + 1)) 25 (Int32.toNatClampNeg ((M.1 23) + 1)) x1) 26 (Int32.toNatClampNeg ((M.1 23) + 1)) 0) 27 (Int32.toNatClampNeg ((M.1 23) + 1)) (vp_nar .boolean 0)) ∧ mo_fr a ad h x := ⟨_, hP, hM.I (j := 27) (t := 3) (k := (Int32.toNatClampNeg ((M.1 23) + 1))) (x := (vp_nar .boolean 0)) rfl (fun _ => rfl), hf.arr (j := 27) (by decide)⟩
  refine lv_aload_n hx hb d_MO_openOne_40 rfl (lv_at hl 0 rfl) ?_
  refine lv_bipush (v := 100) hx hb d_MO_openOne_41 (by decide) ?_
  refine lv_iload_n hx hb d_MO_openOne_43 rfl (lv_at hl 1 rfl) ?_
  refine lv_iadd hx hb d_MO_openOne_44 ?_
  refine fs_cV B hl.1 hP hS (k_MO_pushSign hSt hM (100 + x1) (by     show 0 ≤ (Int32.toInt (M.1 29)); omega) (by     show (Int32.toInt (M.1 29)) < 44; omega)) (fs_tb_at 1616 tw_1616 rfl) hM.1 rfl (fs_tb_at 1618 tw_1618 rfl) (fs_tb_at 48 tw_48 rfl) (fs_tb_at 96 tw_96 rfl) (fs_tb_at 1619 tw_1619 rfl) (by decide) (show (parseMethodDescriptor y_MO_pushSign.desc).map (fun d => d.parameters.length) = some 1 by decide +kernel) rfl d_MO_openOne_45 ⟨Nat.le_of_ble_eq_true rfl, Nat.le_of_ble_eq_true rfl, Nat.le_of_ble_eq_true rfl, Nat.le_of_ble_eq_true rfl⟩ (fun v_ h_ H locs hq hP hS => ?_) (fun C_ a_ h_ H locs hq => absurd hq.1 (fun h9 => by cases h9))
  obtain ⟨ev, hM, hf2⟩ := hq
  cases ev
  have hf := hf.trans hf2
  obtain ⟨R126, eR126⟩ : ∃ x, x = p_MO_pushSign (mo_i (mo_i (mo_i (mo_f M 23 ((M.1 23) + 1)) 25 (Int32.toNatClampNeg ((M.1 23) + 1)) x1) 26 (Int32.toNatClampNeg ((M.1 23) + 1)) 0) 27 (Int32.toNatClampNeg ((M.1 23) + 1)) (vp_nar .boolean 0)) (100 + x1) := ⟨_, rfl⟩
  rw [← eR126] at hM
  have pf127 : ((Int32.toInt (R126.1 9)) = (Int32.toInt (M.1 9))) ∧ ((Int32.toInt (R126.1 10)) = (Int32.toInt (M.1 10))) ∧ ((Int32.toInt (R126.1 11)) = (Int32.toInt (M.1 11))) ∧ ((Int32.toInt (R126.1 12)) = (Int32.toInt (M.1 12))) ∧ ((Int32.toInt (R126.1 22)) = (Int32.toInt (M.1 22))) ∧ ((Int32.toInt (R126.1 23)) = (Int32.toInt ((M.1 23) + 1))) ∧ ((Int32.toInt (R126.1 24)) = (Int32.toInt (M.1 24))) ∧ ((Int32.toInt (R126.1 30)) = (Int32.toInt (M.1 30))) ∧ ((Int32.toInt (R126.1 34)) = (Int32.toInt (M.1 34))) ∧ ((Int32.toInt (R126.1 35)) = (Int32.toInt (M.1 35))) ∧ ((Int32.toInt (R126.1 29)) = (Int32.toInt (M.1 29)) + 1) := by rw [eR126]; exact po_MO_pushSign (mo_i (mo_i (mo_i (mo_f M 23 ((M.1 23) + 1)) 25 (Int32.toNatClampNeg ((M.1 23) + 1)) x1) 26 (Int32.toNatClampNeg ((M.1 23) + 1)) 0) 27 (Int32.toNatClampNeg ((M.1 23) + 1)) (vp_nar .boolean 0)) (100 + x1) (by     show 0 ≤ (Int32.toInt (M.1 29)); omega) (by     show (Int32.toInt (M.1 29)) < 44; omega)
  refine W.widen (k := 0) (n := 0) (Nat.le_of_ble_eq_true rfl) (Nat.le_of_ble_eq_true rfl) ?_
  refine W.eq (g2 := F0 m 48 ls ([])) rfl ?_
  refine lv_aload_n hx hb d_MO_openOne_48 rfl (lv_at hl 0 rfl) ?_
  refine lv_iconst (v := 0) hx hb d_MO_openOne_49 (by decide) ?_
  refine fs_put hx hb hts hown hK c_MO hP hS hM.1 24 (by decide) (hts _ (fs_tb_at 1480 tw_1480 rfl)) (fun _ h9 => h9) rfl rfl rfl (Nat.le_of_ble_eq_true rfl) d_MO_openOne_50 (fun H locs hP hS => ?_)
  obtain ⟨h128, hP, hM, hf⟩ : ∃ x, fs_P G.1 fs_cl (fs_A s00) x H ∧ mo_at G x a ad (mo_f R126 24 0) ∧ mo_fr a ad h x := ⟨_, hP, hM.F (mo_F24 ad R126 0), hf.self⟩
  refine lv_iconst (v := 1) hx hb d_MO_openOne_53 (by decide) ?_
  have e_ : p_MO_openOne M x1 = (1, (mo_f R126 24 0)) := by rw [p_MO_openOne, ← eR126]
  exact fs_iret hx hb hr hlocks hw hP hS (by first | rfl | exact vp_nar_int _) (by omega) (by omega) (⟨by rw [e_], by rw [e_]; exact hM, hf⟩) d_MO_openOne_54
