/-! The reference: its small methods. -/
theorem fs_nb0 : narrow .boolean (.int 0) = .int 0 := rfl
theorem fs_nb1 : narrow .boolean (.int 1) = .int 1 := rfl
theorem fs_nbo {v : Int32} (h : v = 0 ∨ v = 1) : narrow .boolean (.int v) = .int v := by rcases h with rfl | rfl <;> rfl
theorem fs_nbv {v : Int32} (h : v = 0 ∨ v = 1) : vp_nar .boolean v = v := by rcases h with rfl | rfl <;> rfl

abbrev b_MO_thrown : ByteArray := prog_14_method_2_code
def y_MO_thrown : MethodName := ⟨"FormulaSheetModel", "thrown", "()I"⟩
theorem d_MO_thrown_0 : decode b_MO_thrown 0 = .ok (.aload_n 0, 1) := by decide +kernel
theorem d_MO_thrown_1 : decode b_MO_thrown 1 = .ok (.getfield 96, 3) := by decide +kernel
theorem d_MO_thrown_4 : decode b_MO_thrown 4 = .ok (.ireturn, 1) := by decide +kernel
abbrev b_MO_fail : ByteArray := prog_14_method_3_code
def y_MO_fail : MethodName := ⟨"FormulaSheetModel", "fail", "(I)I"⟩
theorem d_MO_fail_0 : decode b_MO_fail 0 = .ok (.aload_n 0, 1) := by decide +kernel
theorem d_MO_fail_1 : decode b_MO_fail 1 = .ok (.iload_n 1, 1) := by decide +kernel
theorem d_MO_fail_2 : decode b_MO_fail 2 = .ok (.putfield 96, 3) := by decide +kernel
theorem d_MO_fail_5 : decode b_MO_fail 5 = .ok (.iconst 0, 1) := by decide +kernel
theorem d_MO_fail_6 : decode b_MO_fail 6 = .ok (.ireturn, 1) := by decide +kernel
abbrev b_MO_out : ByteArray := prog_14_method_4_code
def y_MO_out : MethodName := ⟨"FormulaSheetModel", "out", "(II)Z"⟩
theorem d_MO_out_0 : decode b_MO_out 0 = .ok (.iload_n 0, 1) := by decide +kernel
theorem d_MO_out_1 : decode b_MO_out 1 = .ok (.ifCond .lt 19, 3) := by decide +kernel
theorem d_MO_out_4 : decode b_MO_out 4 = .ok (.iload_n 0, 1) := by decide +kernel
theorem d_MO_out_5 : decode b_MO_out 5 = .ok (.bipush 7, 2) := by decide +kernel
theorem d_MO_out_7 : decode b_MO_out 7 = .ok (.if_icmp .gt 13, 3) := by decide +kernel
theorem d_MO_out_10 : decode b_MO_out 10 = .ok (.iload_n 1, 1) := by decide +kernel
theorem d_MO_out_11 : decode b_MO_out 11 = .ok (.ifCond .lt 9, 3) := by decide +kernel
theorem d_MO_out_14 : decode b_MO_out 14 = .ok (.iload_n 1, 1) := by decide +kernel
theorem d_MO_out_15 : decode b_MO_out 15 = .ok (.bipush 9, 2) := by decide +kernel
theorem d_MO_out_17 : decode b_MO_out 17 = .ok (.if_icmp .le 7, 3) := by decide +kernel
theorem d_MO_out_20 : decode b_MO_out 20 = .ok (.iconst 1, 1) := by decide +kernel
theorem d_MO_out_21 : decode b_MO_out 21 = .ok (.goto 4, 3) := by decide +kernel
theorem d_MO_out_24 : decode b_MO_out 24 = .ok (.iconst 0, 1) := by decide +kernel
theorem d_MO_out_25 : decode b_MO_out 25 = .ok (.ireturn, 1) := by decide +kernel
abbrev b_MO_digit : ByteArray := prog_14_method_7_code
def y_MO_digit : MethodName := ⟨"FormulaSheetModel", "digit", "(I)Z"⟩
theorem d_MO_digit_0 : decode b_MO_digit 0 = .ok (.iload_n 0, 1) := by decide +kernel
theorem d_MO_digit_1 : decode b_MO_digit 1 = .ok (.bipush 48, 2) := by decide +kernel
theorem d_MO_digit_3 : decode b_MO_digit 3 = .ok (.if_icmp .lt 13, 3) := by decide +kernel
theorem d_MO_digit_6 : decode b_MO_digit 6 = .ok (.iload_n 0, 1) := by decide +kernel
theorem d_MO_digit_7 : decode b_MO_digit 7 = .ok (.bipush 57, 2) := by decide +kernel
theorem d_MO_digit_9 : decode b_MO_digit 9 = .ok (.if_icmp .gt 7, 3) := by decide +kernel
theorem d_MO_digit_12 : decode b_MO_digit 12 = .ok (.iconst 1, 1) := by decide +kernel
theorem d_MO_digit_13 : decode b_MO_digit 13 = .ok (.goto 4, 3) := by decide +kernel
theorem d_MO_digit_16 : decode b_MO_digit 16 = .ok (.iconst 0, 1) := by decide +kernel
theorem d_MO_digit_17 : decode b_MO_digit 17 = .ok (.ireturn, 1) := by decide +kernel
abbrev b_MO_lost : ByteArray := prog_14_method_26_code
def y_MO_lost : MethodName := ⟨"FormulaSheetModel", "lost", "(I)Z"⟩
theorem d_MO_lost_0 : decode b_MO_lost 0 = .ok (.iload_n 0, 1) := by decide +kernel
theorem d_MO_lost_1 : decode b_MO_lost 1 = .ok (.sipush 512, 3) := by decide +kernel
theorem d_MO_lost_4 : decode b_MO_lost 4 = .ok (.if_icmp .lt 7, 3) := by decide +kernel
theorem d_MO_lost_7 : decode b_MO_lost 7 = .ok (.iconst 1, 1) := by decide +kernel
theorem d_MO_lost_8 : decode b_MO_lost 8 = .ok (.goto 4, 3) := by decide +kernel
theorem d_MO_lost_11 : decode b_MO_lost 11 = .ok (.iconst 0, 1) := by decide +kernel
theorem d_MO_lost_12 : decode b_MO_lost 12 = .ok (.ireturn, 1) := by decide +kernel
abbrev b_MO_column : ByteArray := prog_14_method_27_code
def y_MO_column : MethodName := ⟨"FormulaSheetModel", "column", "(I)I"⟩
theorem d_MO_column_0 : decode b_MO_column 0 = .ok (.iload_n 0, 1) := by decide +kernel
theorem d_MO_column_1 : decode b_MO_column 1 = .ok (.bipush 7, 2) := by decide +kernel
theorem d_MO_column_3 : decode b_MO_column 3 = .ok (.iand, 1) := by decide +kernel
theorem d_MO_column_4 : decode b_MO_column 4 = .ok (.ireturn, 1) := by decide +kernel
abbrev b_MO_row : ByteArray := prog_14_method_28_code
def y_MO_row : MethodName := ⟨"FormulaSheetModel", "row", "(I)I"⟩
theorem d_MO_row_0 : decode b_MO_row 0 = .ok (.iload_n 0, 1) := by decide +kernel
theorem d_MO_row_1 : decode b_MO_row 1 = .ok (.iconst 3, 1) := by decide +kernel
theorem d_MO_row_2 : decode b_MO_row 2 = .ok (.ishr, 1) := by decide +kernel
theorem d_MO_row_3 : decode b_MO_row 3 = .ok (.bipush 15, 2) := by decide +kernel
theorem d_MO_row_5 : decode b_MO_row 5 = .ok (.iand, 1) := by decide +kernel
theorem d_MO_row_6 : decode b_MO_row 6 = .ok (.ireturn, 1) := by decide +kernel
abbrev b_MO_isRange : ByteArray := prog_14_method_29_code
def y_MO_isRange : MethodName := ⟨"FormulaSheetModel", "isRange", "(I)Z"⟩
theorem d_MO_isRange_0 : decode b_MO_isRange 0 = .ok (.iload_n 0, 1) := by decide +kernel
theorem d_MO_isRange_1 : decode b_MO_isRange 1 = .ok (.iconst 2, 1) := by decide +kernel
theorem d_MO_isRange_2 : decode b_MO_isRange 2 = .ok (.if_icmp .lt 13, 3) := by decide +kernel
theorem d_MO_isRange_5 : decode b_MO_isRange 5 = .ok (.iload_n 0, 1) := by decide +kernel
theorem d_MO_isRange_6 : decode b_MO_isRange 6 = .ok (.bipush 6, 2) := by decide +kernel
theorem d_MO_isRange_8 : decode b_MO_isRange 8 = .ok (.if_icmp .gt 7, 3) := by decide +kernel
theorem d_MO_isRange_11 : decode b_MO_isRange 11 = .ok (.iconst 1, 1) := by decide +kernel
theorem d_MO_isRange_12 : decode b_MO_isRange 12 = .ok (.goto 4, 3) := by decide +kernel
theorem d_MO_isRange_15 : decode b_MO_isRange 15 = .ok (.iconst 0, 1) := by decide +kernel
theorem d_MO_isRange_16 : decode b_MO_isRange 16 = .ok (.ireturn, 1) := by decide +kernel
abbrev b_MO_in : ByteArray := prog_14_method_30_code
def y_MO_in : MethodName := ⟨"FormulaSheetModel", "in", "(JJI)Z"⟩
theorem d_MO_in_0 : decode b_MO_in 0 = .ok (.iload 4, 2) := by decide +kernel
theorem d_MO_in_2 : decode b_MO_in 2 = .ok (.bipush 40, 2) := by decide +kernel
theorem d_MO_in_4 : decode b_MO_in 4 = .ok (.if_icmp .ge 22, 3) := by decide +kernel
theorem d_MO_in_7 : decode b_MO_in 7 = .ok (.lload_n 0, 1) := by decide +kernel
theorem d_MO_in_8 : decode b_MO_in 8 = .ok (.iload 4, 2) := by decide +kernel
theorem d_MO_in_10 : decode b_MO_in 10 = .ok (.lshr, 1) := by decide +kernel
theorem d_MO_in_11 : decode b_MO_in 11 = .ok (.lconst 1, 1) := by decide +kernel
theorem d_MO_in_12 : decode b_MO_in 12 = .ok (.land, 1) := by decide +kernel
theorem d_MO_in_13 : decode b_MO_in 13 = .ok (.lconst 1, 1) := by decide +kernel
theorem d_MO_in_14 : decode b_MO_in 14 = .ok (.lcmp, 1) := by decide +kernel
theorem d_MO_in_15 : decode b_MO_in 15 = .ok (.ifCond .ne 7, 3) := by decide +kernel
theorem d_MO_in_18 : decode b_MO_in 18 = .ok (.iconst 1, 1) := by decide +kernel
theorem d_MO_in_19 : decode b_MO_in 19 = .ok (.goto 26, 3) := by decide +kernel
theorem d_MO_in_22 : decode b_MO_in 22 = .ok (.iconst 0, 1) := by decide +kernel
theorem d_MO_in_23 : decode b_MO_in 23 = .ok (.goto 22, 3) := by decide +kernel
theorem d_MO_in_26 : decode b_MO_in 26 = .ok (.lload_n 2, 1) := by decide +kernel
theorem d_MO_in_27 : decode b_MO_in 27 = .ok (.iload 4, 2) := by decide +kernel
theorem d_MO_in_29 : decode b_MO_in 29 = .ok (.bipush 40, 2) := by decide +kernel
theorem d_MO_in_31 : decode b_MO_in 31 = .ok (.isub, 1) := by decide +kernel
theorem d_MO_in_32 : decode b_MO_in 32 = .ok (.lshr, 1) := by decide +kernel
theorem d_MO_in_33 : decode b_MO_in 33 = .ok (.lconst 1, 1) := by decide +kernel
theorem d_MO_in_34 : decode b_MO_in 34 = .ok (.land, 1) := by decide +kernel
theorem d_MO_in_35 : decode b_MO_in 35 = .ok (.lconst 1, 1) := by decide +kernel
theorem d_MO_in_36 : decode b_MO_in 36 = .ok (.lcmp, 1) := by decide +kernel
theorem d_MO_in_37 : decode b_MO_in 37 = .ok (.ifCond .ne 7, 3) := by decide +kernel
theorem d_MO_in_40 : decode b_MO_in 40 = .ok (.iconst 1, 1) := by decide +kernel
theorem d_MO_in_41 : decode b_MO_in 41 = .ok (.goto 4, 3) := by decide +kernel
theorem d_MO_in_44 : decode b_MO_in 44 = .ok (.iconst 0, 1) := by decide +kernel
theorem d_MO_in_45 : decode b_MO_in 45 = .ok (.ireturn, 1) := by decide +kernel
abbrev b_MO_least : ByteArray := prog_14_method_32_code
def y_MO_least : MethodName := ⟨"FormulaSheetModel", "least", "(II)I"⟩
theorem d_MO_least_0 : decode b_MO_least 0 = .ok (.iload_n 0, 1) := by decide +kernel
theorem d_MO_least_1 : decode b_MO_least 1 = .ok (.iload_n 1, 1) := by decide +kernel
theorem d_MO_least_2 : decode b_MO_least 2 = .ok (.if_icmp .ge 7, 3) := by decide +kernel
theorem d_MO_least_5 : decode b_MO_least 5 = .ok (.iload_n 0, 1) := by decide +kernel
theorem d_MO_least_6 : decode b_MO_least 6 = .ok (.goto 4, 3) := by decide +kernel
theorem d_MO_least_9 : decode b_MO_least 9 = .ok (.iload_n 1, 1) := by decide +kernel
theorem d_MO_least_10 : decode b_MO_least 10 = .ok (.ireturn, 1) := by decide +kernel
abbrev b_MO_most : ByteArray := prog_14_method_33_code
def y_MO_most : MethodName := ⟨"FormulaSheetModel", "most", "(II)I"⟩
theorem d_MO_most_0 : decode b_MO_most 0 = .ok (.iload_n 0, 1) := by decide +kernel
theorem d_MO_most_1 : decode b_MO_most 1 = .ok (.iload_n 1, 1) := by decide +kernel
theorem d_MO_most_2 : decode b_MO_most 2 = .ok (.if_icmp .le 7, 3) := by decide +kernel
theorem d_MO_most_5 : decode b_MO_most 5 = .ok (.iload_n 0, 1) := by decide +kernel
theorem d_MO_most_6 : decode b_MO_most 6 = .ok (.goto 4, 3) := by decide +kernel
theorem d_MO_most_9 : decode b_MO_most 9 = .ok (.iload_n 1, 1) := by decide +kernel
theorem d_MO_most_10 : decode b_MO_most 10 = .ok (.ireturn, 1) := by decide +kernel
abbrev b_MO_tooGreat : ByteArray := prog_14_method_38_code
def y_MO_tooGreat : MethodName := ⟨"FormulaSheetModel", "tooGreat", "(D)Z"⟩
theorem d_MO_tooGreat_0 : decode b_MO_tooGreat 0 = .ok (.dload_n 0, 1) := by decide +kernel
theorem d_MO_tooGreat_1 : decode b_MO_tooGreat 1 = .ok (.ldc2_w 225, 3) := by decide +kernel
theorem d_MO_tooGreat_4 : decode b_MO_tooGreat 4 = .ok (.dcmp .l, 1) := by decide +kernel
theorem d_MO_tooGreat_5 : decode b_MO_tooGreat 5 = .ok (.ifCond .gt 11, 3) := by decide +kernel
theorem d_MO_tooGreat_8 : decode b_MO_tooGreat 8 = .ok (.dload_n 0, 1) := by decide +kernel
theorem d_MO_tooGreat_9 : decode b_MO_tooGreat 9 = .ok (.ldc2_w 227, 3) := by decide +kernel
theorem d_MO_tooGreat_12 : decode b_MO_tooGreat 12 = .ok (.dcmp .g, 1) := by decide +kernel
theorem d_MO_tooGreat_13 : decode b_MO_tooGreat 13 = .ok (.ifCond .ge 7, 3) := by decide +kernel
theorem d_MO_tooGreat_16 : decode b_MO_tooGreat 16 = .ok (.iconst 1, 1) := by decide +kernel
theorem d_MO_tooGreat_17 : decode b_MO_tooGreat 17 = .ok (.goto 4, 3) := by decide +kernel
theorem d_MO_tooGreat_20 : decode b_MO_tooGreat 20 = .ok (.iconst 0, 1) := by decide +kernel
theorem d_MO_tooGreat_21 : decode b_MO_tooGreat 21 = .ok (.ireturn, 1) := by decide +kernel
abbrev b_MO_truth : ByteArray := prog_14_method_42_code
def y_MO_truth : MethodName := ⟨"FormulaSheetModel", "truth", "(Z)D"⟩
theorem d_MO_truth_0 : decode b_MO_truth 0 = .ok (.iload_n 0, 1) := by decide +kernel
theorem d_MO_truth_1 : decode b_MO_truth 1 = .ok (.ifCond .eq 7, 3) := by decide +kernel
theorem d_MO_truth_4 : decode b_MO_truth 4 = .ok (.dconst 1, 1) := by decide +kernel
theorem d_MO_truth_5 : decode b_MO_truth 5 = .ok (.goto 4, 3) := by decide +kernel
theorem d_MO_truth_8 : decode b_MO_truth 8 = .ok (.dconst 0, 1) := by decide +kernel
theorem d_MO_truth_9 : decode b_MO_truth 9 = .ok (.dreturn, 1) := by decide +kernel
abbrev b_MO_atRow : ByteArray := prog_14_method_53_code
def y_MO_atRow : MethodName := ⟨"FormulaSheetModel", "atRow", "(II)I"⟩
theorem d_MO_atRow_0 : decode b_MO_atRow 0 = .ok (.iload_n 0, 1) := by decide +kernel
theorem d_MO_atRow_1 : decode b_MO_atRow 1 = .ok (.bipush (-121), 2) := by decide +kernel
theorem d_MO_atRow_3 : decode b_MO_atRow 3 = .ok (.iand, 1) := by decide +kernel
theorem d_MO_atRow_4 : decode b_MO_atRow 4 = .ok (.bipush 8, 2) := by decide +kernel
theorem d_MO_atRow_6 : decode b_MO_atRow 6 = .ok (.iload_n 1, 1) := by decide +kernel
theorem d_MO_atRow_7 : decode b_MO_atRow 7 = .ok (.imul, 1) := by decide +kernel
theorem d_MO_atRow_8 : decode b_MO_atRow 8 = .ok (.iadd, 1) := by decide +kernel
theorem d_MO_atRow_9 : decode b_MO_atRow 9 = .ok (.ireturn, 1) := by decide +kernel
theorem tw_1467 : lw_tbl[1467]? = some (Jvm.Cond.fieldLink "FormulaSheetModel" (96 : Nat) "FormulaSheetModel" "thrown" "I") := by decide +kernel
theorem tw_1726 : lw_tbl[1726]? = some (Jvm.Cond.constantDouble "FormulaSheetModel" (225 : Nat) (4832362400168542208 : UInt64)) := by decide +kernel
theorem tw_1727 : lw_tbl[1727]? = some (Jvm.Cond.constantDouble "FormulaSheetModel" (227 : Nat) (14055734437023318016 : UInt64)) := by decide +kernel
def p_MO_thrown (M : mo_S)  : Int32 × mo_S := (M.1 11, M)
theorem ke_MO_thrown (M : mo_S)  : (p_MO_thrown M).2 = M := by unfold p_MO_thrown; (repeat' split) <;> rfl
set_option maxHeartbeats 4000000 in
set_option maxRecDepth 100000 in
theorem k_MO_thrown {l : Launch} {s00 : State} {G : fs_G} (hSt : fs_St l s00 G) {h : fs_Hp} {a : Nat} {ad : Nat → Nat} {M : mo_S} (hM : mo_at G h a ad M)   : fs_Ct l s00 G y_MO_thrown (.code y_MO_thrown b_MO_thrown 1 (some .int)) { frames := 0, cells := 0, slots := 0, locals := 0 } [.ref a] h (fun o h' => o = .inl (some (.int (p_MO_thrown M).1)) ∧ mo_at G h' a ad (p_MO_thrown M).2 ∧ mo_fr a ad h h') := by
  refine fs_Ct.ofW hSt (by decide) ?_
  intro p e s m below meth c B hout hP
  obtain ⟨hx, hb, hr, hml, hown, hts, hlocks, hname, hK, hw, htr⟩ := id B
  have hown : s.vm.findClass "FormulaSheetModel" = some m.cls := hown
  have hS := hw.S
  have hA : ∀ q : Nat, s00.heap.size ≤ q → fs_A s00 q := fun _ h9 => h9
  generalize hH : s.heap = H at hP hS ⊢
  have hH0 : s.heap.size ≤ H.size := by rw [hH]; exact Nat.le_refl _
  have hl := lv_entry ([.ref a]) (n := 1) (Nat.le_of_ble_eq_true rfl)
  rw [lg_entry_eq]
  generalize (lg_sl ([.ref a]) ++ List.replicate (1 - (lg_sl ([.ref a])).length) Slot.unset).toArray = ls at hl ⊢
  have hl : lv_has ls 1 [(0, .ref a)] := hl
  have hf : mo_fr a ad h h := mo_fr.rf
  refine lv_aload_n hx hb d_MO_thrown_0 rfl (lv_at hl 0 rfl) ?_
  refine fs_get hx hb hts hown hK c_MO hP hM.1 11 (by decide) (hts _ (fs_tb_at 1467 tw_1467 rfl)) (fun _ h9 => h9) rfl d_MO_thrown_1 ?_
  have e_ : p_MO_thrown M = (M.1 11, M) := by rw [p_MO_thrown]
  exact fs_iret hx hb hr hlocks hw hP hS (by first | rfl | exact vp_nar_int _) (by omega) (by omega) (⟨by rw [e_], by rw [e_]; exact hM, hf⟩) d_MO_thrown_4
def p_MO_fail (M : mo_S) (x1 : Int32) : Int32 × mo_S := (0, (mo_f M 11 x1))
set_option maxHeartbeats 4000000 in
set_option maxRecDepth 100000 in
theorem k_MO_fail {l : Launch} {s00 : State} {G : fs_G} (hSt : fs_St l s00 G) {h : fs_Hp} {a : Nat} {ad : Nat → Nat} {M : mo_S} (hM : mo_at G h a ad M) (x1 : Int32)  : fs_Ct l s00 G y_MO_fail (.code y_MO_fail b_MO_fail 2 (some .int)) { frames := 0, cells := 0, slots := 0, locals := 0 } [.ref a, .int x1] h (fun o h' => o = .inl (some (.int (p_MO_fail M x1).1)) ∧ mo_at G h' a ad (p_MO_fail M x1).2 ∧ mo_fr a ad h h') := by
  refine fs_Ct.ofW hSt (by decide) ?_
  intro p e s m below meth c B hout hP
  obtain ⟨hx, hb, hr, hml, hown, hts, hlocks, hname, hK, hw, htr⟩ := id B
  have hown : s.vm.findClass "FormulaSheetModel" = some m.cls := hown
  have hS := hw.S
  have hA : ∀ q : Nat, s00.heap.size ≤ q → fs_A s00 q := fun _ h9 => h9
  generalize hH : s.heap = H at hP hS ⊢
  have hH0 : s.heap.size ≤ H.size := by rw [hH]; exact Nat.le_refl _
  have hl := lv_entry ([.ref a, .int x1]) (n := 2) (Nat.le_of_ble_eq_true rfl)
  rw [lg_entry_eq]
  generalize (lg_sl ([.ref a, .int x1]) ++ List.replicate (2 - (lg_sl ([.ref a, .int x1])).length) Slot.unset).toArray = ls at hl ⊢
  have hl : lv_has ls 2 [(0, .ref a), (1, .int x1)] := hl
  have hf : mo_fr a ad h h := mo_fr.rf
  refine lv_aload_n hx hb d_MO_fail_0 rfl (lv_at hl 0 rfl) ?_
  refine lv_iload_n hx hb d_MO_fail_1 rfl (lv_at hl 1 rfl) ?_
  refine fs_put hx hb hts hown hK c_MO hP hS hM.1 11 (by decide) (hts _ (fs_tb_at 1467 tw_1467 rfl)) (fun _ h9 => h9) rfl rfl rfl (Nat.le_of_ble_eq_true rfl) d_MO_fail_2 (fun H locs hP hS => ?_)
  obtain ⟨h1, hP, hM, hf⟩ : ∃ x, fs_P G.1 fs_cl (fs_A s00) x H ∧ mo_at G x a ad (mo_f M 11 x1) ∧ mo_fr a ad h x := ⟨_, hP, hM.F (mo_F11 ad M x1), hf.self⟩
  refine lv_iconst (v := 0) hx hb d_MO_fail_5 (by decide) ?_
  have e_ : p_MO_fail M x1 = (0, (mo_f M 11 x1)) := by rw [p_MO_fail]
  exact fs_iret hx hb hr hlocks hw hP hS (by first | rfl | exact vp_nar_int _) (by omega) (by omega) (⟨by rw [e_], by rw [e_]; exact hM, hf⟩) d_MO_fail_6
def p_MO_out (x1 : Int32) (x2 : Int32) : Int32 := (if x1 < 0 then 1 else (if 7 < x1 then 1 else (if x2 < 0 then 1 else (if x2 ≤ 9 then 0 else 1))))
theorem bo_MO_out (x1 : Int32) (x2 : Int32) : p_MO_out x1 x2 = 0 ∨ p_MO_out x1 x2 = 1 := by unfold p_MO_out; ((repeat' split) <;> simp)
set_option maxHeartbeats 4000000 in
set_option maxRecDepth 100000 in
theorem k_MO_out {l : Launch} {s00 : State} {G : fs_G} (hSt : fs_St l s00 G) {h : fs_Hp} (x1 : Int32) (x2 : Int32)  : fs_Ct l s00 G y_MO_out (.code y_MO_out b_MO_out 2 (some .boolean)) { frames := 0, cells := 0, slots := 0, locals := 0 } [.int x1, .int x2] h (fun o h' => o = .inl (some (.int (p_MO_out x1 x2))) ∧ h' = h) := by
  refine fs_Ct.ofW hSt (by decide) ?_
  intro p e s m below meth c B hout hP
  obtain ⟨hx, hb, hr, hml, hown, hts, hlocks, hname, hK, hw, htr⟩ := id B
  have hown : s.vm.findClass "FormulaSheetModel" = some m.cls := hown
  have hS := hw.S
  have hA : ∀ q : Nat, s00.heap.size ≤ q → fs_A s00 q := fun _ h9 => h9
  generalize hH : s.heap = H at hP hS ⊢
  have hH0 : s.heap.size ≤ H.size := by rw [hH]; exact Nat.le_refl _
  have hl := lv_entry ([.int x1, .int x2]) (n := 2) (Nat.le_of_ble_eq_true rfl)
  rw [lg_entry_eq]
  generalize (lg_sl ([.int x1, .int x2]) ++ List.replicate (2 - (lg_sl ([.int x1, .int x2])).length) Slot.unset).toArray = ls at hl ⊢
  have hl : lv_has ls 2 [(0, .int x1), (1, .int x2)] := hl
  refine lv_iload_n hx hb d_MO_out_0 rfl (lv_at hl 0 rfl) ?_
  refine lv_if_lt (tgt := 20) hx hb d_MO_out_1 (by decide) (fun c_2 => ?_) (fun c_2 => ?_)
  · refine lv_iconst (v := 1) hx hb d_MO_out_20 (by decide) ?_
    refine lv_goto (tgt := 25) hx hb d_MO_out_21 (by decide) ?_
    have e_ : p_MO_out x1 x2 = 1 := by rw [p_MO_out, if_pos c_2]
    exact fs_iret hx hb hr hlocks hw hP hS (by first | rfl | exact vp_nar_int _) (by omega) (by omega) (⟨by rw [e_], rfl⟩) d_MO_out_25
  · refine lv_iload_n hx hb d_MO_out_4 rfl (lv_at hl 0 rfl) ?_
    refine lv_bipush (v := 7) hx hb d_MO_out_5 (by decide) ?_
    refine lv_icmp_gt (tgt := 20) hx hb d_MO_out_7 (by decide) (fun c_3 => ?_) (fun c_3 => ?_)
    · refine lv_iconst (v := 1) hx hb d_MO_out_20 (by decide) ?_
      refine lv_goto (tgt := 25) hx hb d_MO_out_21 (by decide) ?_
      have e_ : p_MO_out x1 x2 = 1 := by rw [p_MO_out, if_neg c_2, if_pos c_3]
      exact fs_iret hx hb hr hlocks hw hP hS (by first | rfl | exact vp_nar_int _) (by omega) (by omega) (⟨by rw [e_], rfl⟩) d_MO_out_25
    · refine lv_iload_n hx hb d_MO_out_10 rfl (lv_at hl 1 rfl) ?_
      refine lv_if_lt (tgt := 20) hx hb d_MO_out_11 (by decide) (fun c_4 => ?_) (fun c_4 => ?_)
      · refine lv_iconst (v := 1) hx hb d_MO_out_20 (by decide) ?_
        refine lv_goto (tgt := 25) hx hb d_MO_out_21 (by decide) ?_
        have e_ : p_MO_out x1 x2 = 1 := by rw [p_MO_out, if_neg c_2, if_neg c_3, if_pos c_4]
        exact fs_iret hx hb hr hlocks hw hP hS (by first | rfl | exact vp_nar_int _) (by omega) (by omega) (⟨by rw [e_], rfl⟩) d_MO_out_25
      · refine lv_iload_n hx hb d_MO_out_14 rfl (lv_at hl 1 rfl) ?_
        refine lv_bipush (v := 9) hx hb d_MO_out_15 (by decide) ?_
        refine lv_icmp_le (tgt := 24) hx hb d_MO_out_17 (by decide) (fun c_5 => ?_) (fun c_5 => ?_)
        · refine lv_iconst (v := 0) hx hb d_MO_out_24 (by decide) ?_
          have e_ : p_MO_out x1 x2 = 0 := by rw [p_MO_out, if_neg c_2, if_neg c_3, if_neg c_4, if_pos c_5]
          exact fs_iret hx hb hr hlocks hw hP hS (by first | rfl | exact vp_nar_int _) (by omega) (by omega) (⟨by rw [e_], rfl⟩) d_MO_out_25
        · refine lv_iconst (v := 1) hx hb d_MO_out_20 (by decide) ?_
          refine lv_goto (tgt := 25) hx hb d_MO_out_21 (by decide) ?_
          have e_ : p_MO_out x1 x2 = 1 := by rw [p_MO_out, if_neg c_2, if_neg c_3, if_neg c_4, if_neg c_5]
          exact fs_iret hx hb hr hlocks hw hP hS (by first | rfl | exact vp_nar_int _) (by omega) (by omega) (⟨by rw [e_], rfl⟩) d_MO_out_25
def p_MO_digit (x1 : Int32) : Int32 := (if x1 < 48 then 0 else (if 57 < x1 then 0 else 1))
theorem bo_MO_digit (x1 : Int32) : p_MO_digit x1 = 0 ∨ p_MO_digit x1 = 1 := by unfold p_MO_digit; ((repeat' split) <;> simp)
set_option maxHeartbeats 4000000 in
set_option maxRecDepth 100000 in
theorem k_MO_digit {l : Launch} {s00 : State} {G : fs_G} (hSt : fs_St l s00 G) {h : fs_Hp} (x1 : Int32)  : fs_Ct l s00 G y_MO_digit (.code y_MO_digit b_MO_digit 1 (some .boolean)) { frames := 0, cells := 0, slots := 0, locals := 0 } [.int x1] h (fun o h' => o = .inl (some (.int (p_MO_digit x1))) ∧ h' = h) := by
  refine fs_Ct.ofW hSt (by decide) ?_
  intro p e s m below meth c B hout hP
  obtain ⟨hx, hb, hr, hml, hown, hts, hlocks, hname, hK, hw, htr⟩ := id B
  have hown : s.vm.findClass "FormulaSheetModel" = some m.cls := hown
  have hS := hw.S
  have hA : ∀ q : Nat, s00.heap.size ≤ q → fs_A s00 q := fun _ h9 => h9
  generalize hH : s.heap = H at hP hS ⊢
  have hH0 : s.heap.size ≤ H.size := by rw [hH]; exact Nat.le_refl _
  have hl := lv_entry ([.int x1]) (n := 1) (Nat.le_of_ble_eq_true rfl)
  rw [lg_entry_eq]
  generalize (lg_sl ([.int x1]) ++ List.replicate (1 - (lg_sl ([.int x1])).length) Slot.unset).toArray = ls at hl ⊢
  have hl : lv_has ls 1 [(0, .int x1)] := hl
  refine lv_iload_n hx hb d_MO_digit_0 rfl (lv_at hl 0 rfl) ?_
  refine lv_bipush (v := 48) hx hb d_MO_digit_1 (by decide) ?_
  refine lv_icmp_lt (tgt := 16) hx hb d_MO_digit_3 (by decide) (fun c_6 => ?_) (fun c_6 => ?_)
  · refine lv_iconst (v := 0) hx hb d_MO_digit_16 (by decide) ?_
    have e_ : p_MO_digit x1 = 0 := by rw [p_MO_digit, if_pos c_6]
    exact fs_iret hx hb hr hlocks hw hP hS (by first | rfl | exact vp_nar_int _) (by omega) (by omega) (⟨by rw [e_], rfl⟩) d_MO_digit_17
  · refine lv_iload_n hx hb d_MO_digit_6 rfl (lv_at hl 0 rfl) ?_
    refine lv_bipush (v := 57) hx hb d_MO_digit_7 (by decide) ?_
    refine lv_icmp_gt (tgt := 16) hx hb d_MO_digit_9 (by decide) (fun c_7 => ?_) (fun c_7 => ?_)
    · refine lv_iconst (v := 0) hx hb d_MO_digit_16 (by decide) ?_
      have e_ : p_MO_digit x1 = 0 := by rw [p_MO_digit, if_neg c_6, if_pos c_7]
      exact fs_iret hx hb hr hlocks hw hP hS (by first | rfl | exact vp_nar_int _) (by omega) (by omega) (⟨by rw [e_], rfl⟩) d_MO_digit_17
    · refine lv_iconst (v := 1) hx hb d_MO_digit_12 (by decide) ?_
      refine lv_goto (tgt := 17) hx hb d_MO_digit_13 (by decide) ?_
      have e_ : p_MO_digit x1 = 1 := by rw [p_MO_digit, if_neg c_6, if_neg c_7]
      exact fs_iret hx hb hr hlocks hw hP hS (by first | rfl | exact vp_nar_int _) (by omega) (by omega) (⟨by rw [e_], rfl⟩) d_MO_digit_17
def p_MO_lost (x1 : Int32) : Int32 := (if x1 < 512 then 0 else 1)
theorem bo_MO_lost (x1 : Int32) : p_MO_lost x1 = 0 ∨ p_MO_lost x1 = 1 := by unfold p_MO_lost; ((repeat' split) <;> simp)
set_option maxHeartbeats 4000000 in
set_option maxRecDepth 100000 in
theorem k_MO_lost {l : Launch} {s00 : State} {G : fs_G} (hSt : fs_St l s00 G) {h : fs_Hp} (x1 : Int32)  : fs_Ct l s00 G y_MO_lost (.code y_MO_lost b_MO_lost 1 (some .boolean)) { frames := 0, cells := 0, slots := 0, locals := 0 } [.int x1] h (fun o h' => o = .inl (some (.int (p_MO_lost x1))) ∧ h' = h) := by
  refine fs_Ct.ofW hSt (by decide) ?_
  intro p e s m below meth c B hout hP
  obtain ⟨hx, hb, hr, hml, hown, hts, hlocks, hname, hK, hw, htr⟩ := id B
  have hown : s.vm.findClass "FormulaSheetModel" = some m.cls := hown
  have hS := hw.S
  have hA : ∀ q : Nat, s00.heap.size ≤ q → fs_A s00 q := fun _ h9 => h9
  generalize hH : s.heap = H at hP hS ⊢
  have hH0 : s.heap.size ≤ H.size := by rw [hH]; exact Nat.le_refl _
  have hl := lv_entry ([.int x1]) (n := 1) (Nat.le_of_ble_eq_true rfl)
  rw [lg_entry_eq]
  generalize (lg_sl ([.int x1]) ++ List.replicate (1 - (lg_sl ([.int x1])).length) Slot.unset).toArray = ls at hl ⊢
  have hl : lv_has ls 1 [(0, .int x1)] := hl
  refine lv_iload_n hx hb d_MO_lost_0 rfl (lv_at hl 0 rfl) ?_
  refine lv_sipush (v := 512) hx hb d_MO_lost_1 (by decide) ?_
  refine lv_icmp_lt (tgt := 11) hx hb d_MO_lost_4 (by decide) (fun c_8 => ?_) (fun c_8 => ?_)
  · refine lv_iconst (v := 0) hx hb d_MO_lost_11 (by decide) ?_
    have e_ : p_MO_lost x1 = 0 := by rw [p_MO_lost, if_pos c_8]
    exact fs_iret hx hb hr hlocks hw hP hS (by first | rfl | exact vp_nar_int _) (by omega) (by omega) (⟨by rw [e_], rfl⟩) d_MO_lost_12
  · refine lv_iconst (v := 1) hx hb d_MO_lost_7 (by decide) ?_
    refine lv_goto (tgt := 12) hx hb d_MO_lost_8 (by decide) ?_
    have e_ : p_MO_lost x1 = 1 := by rw [p_MO_lost, if_neg c_8]
    exact fs_iret hx hb hr hlocks hw hP hS (by first | rfl | exact vp_nar_int _) (by omega) (by omega) (⟨by rw [e_], rfl⟩) d_MO_lost_12
def p_MO_column (x1 : Int32) : Int32 := x1 &&& (7 : Int32)
set_option maxHeartbeats 4000000 in
set_option maxRecDepth 100000 in
theorem k_MO_column {l : Launch} {s00 : State} {G : fs_G} (hSt : fs_St l s00 G) {h : fs_Hp} (x1 : Int32)  : fs_Ct l s00 G y_MO_column (.code y_MO_column b_MO_column 1 (some .int)) { frames := 0, cells := 0, slots := 0, locals := 0 } [.int x1] h (fun o h' => o = .inl (some (.int (p_MO_column x1))) ∧ h' = h) := by
  refine fs_Ct.ofW hSt (by decide) ?_
  intro p e s m below meth c B hout hP
  obtain ⟨hx, hb, hr, hml, hown, hts, hlocks, hname, hK, hw, htr⟩ := id B
  have hown : s.vm.findClass "FormulaSheetModel" = some m.cls := hown
  have hS := hw.S
  have hA : ∀ q : Nat, s00.heap.size ≤ q → fs_A s00 q := fun _ h9 => h9
  generalize hH : s.heap = H at hP hS ⊢
  have hH0 : s.heap.size ≤ H.size := by rw [hH]; exact Nat.le_refl _
  have hl := lv_entry ([.int x1]) (n := 1) (Nat.le_of_ble_eq_true rfl)
  rw [lg_entry_eq]
  generalize (lg_sl ([.int x1]) ++ List.replicate (1 - (lg_sl ([.int x1])).length) Slot.unset).toArray = ls at hl ⊢
  have hl : lv_has ls 1 [(0, .int x1)] := hl
  refine lv_iload_n hx hb d_MO_column_0 rfl (lv_at hl 0 rfl) ?_
  refine lv_bipush (v := 7) hx hb d_MO_column_1 (by decide) ?_
  refine lv_iand hx hb d_MO_column_3 ?_
  have e_ : p_MO_column x1 = x1 &&& (7 : Int32) := by rw [p_MO_column]
  exact fs_iret hx hb hr hlocks hw hP hS (by first | rfl | exact vp_nar_int _) (by omega) (by omega) (⟨by rw [e_], rfl⟩) d_MO_column_4
def p_MO_row (x1 : Int32) : Int32 := (x1 >>> (3 &&& 31)) &&& (15 : Int32)
set_option maxHeartbeats 4000000 in
set_option maxRecDepth 100000 in
theorem k_MO_row {l : Launch} {s00 : State} {G : fs_G} (hSt : fs_St l s00 G) {h : fs_Hp} (x1 : Int32)  : fs_Ct l s00 G y_MO_row (.code y_MO_row b_MO_row 1 (some .int)) { frames := 0, cells := 0, slots := 0, locals := 0 } [.int x1] h (fun o h' => o = .inl (some (.int (p_MO_row x1))) ∧ h' = h) := by
  refine fs_Ct.ofW hSt (by decide) ?_
  intro p e s m below meth c B hout hP
  obtain ⟨hx, hb, hr, hml, hown, hts, hlocks, hname, hK, hw, htr⟩ := id B
  have hown : s.vm.findClass "FormulaSheetModel" = some m.cls := hown
  have hS := hw.S
  have hA : ∀ q : Nat, s00.heap.size ≤ q → fs_A s00 q := fun _ h9 => h9
  generalize hH : s.heap = H at hP hS ⊢
  have hH0 : s.heap.size ≤ H.size := by rw [hH]; exact Nat.le_refl _
  have hl := lv_entry ([.int x1]) (n := 1) (Nat.le_of_ble_eq_true rfl)
  rw [lg_entry_eq]
  generalize (lg_sl ([.int x1]) ++ List.replicate (1 - (lg_sl ([.int x1])).length) Slot.unset).toArray = ls at hl ⊢
  have hl : lv_has ls 1 [(0, .int x1)] := hl
  refine lv_iload_n hx hb d_MO_row_0 rfl (lv_at hl 0 rfl) ?_
  refine lv_iconst (v := 3) hx hb d_MO_row_1 (by decide) ?_
  refine lv_ishr hx hb d_MO_row_2 ?_
  refine lv_bipush (v := 15) hx hb d_MO_row_3 (by decide) ?_
  refine lv_iand hx hb d_MO_row_5 ?_
  have e_ : p_MO_row x1 = (x1 >>> (3 &&& 31)) &&& (15 : Int32) := by rw [p_MO_row]
  exact fs_iret hx hb hr hlocks hw hP hS (by first | rfl | exact vp_nar_int _) (by omega) (by omega) (⟨by rw [e_], rfl⟩) d_MO_row_6
def p_MO_isRange (x1 : Int32) : Int32 := (if x1 < 2 then 0 else (if 6 < x1 then 0 else 1))
theorem bo_MO_isRange (x1 : Int32) : p_MO_isRange x1 = 0 ∨ p_MO_isRange x1 = 1 := by unfold p_MO_isRange; ((repeat' split) <;> simp)
set_option maxHeartbeats 4000000 in
set_option maxRecDepth 100000 in
theorem k_MO_isRange {l : Launch} {s00 : State} {G : fs_G} (hSt : fs_St l s00 G) {h : fs_Hp} (x1 : Int32)  : fs_Ct l s00 G y_MO_isRange (.code y_MO_isRange b_MO_isRange 1 (some .boolean)) { frames := 0, cells := 0, slots := 0, locals := 0 } [.int x1] h (fun o h' => o = .inl (some (.int (p_MO_isRange x1))) ∧ h' = h) := by
  refine fs_Ct.ofW hSt (by decide) ?_
  intro p e s m below meth c B hout hP
  obtain ⟨hx, hb, hr, hml, hown, hts, hlocks, hname, hK, hw, htr⟩ := id B
  have hown : s.vm.findClass "FormulaSheetModel" = some m.cls := hown
  have hS := hw.S
  have hA : ∀ q : Nat, s00.heap.size ≤ q → fs_A s00 q := fun _ h9 => h9
  generalize hH : s.heap = H at hP hS ⊢
  have hH0 : s.heap.size ≤ H.size := by rw [hH]; exact Nat.le_refl _
  have hl := lv_entry ([.int x1]) (n := 1) (Nat.le_of_ble_eq_true rfl)
  rw [lg_entry_eq]
  generalize (lg_sl ([.int x1]) ++ List.replicate (1 - (lg_sl ([.int x1])).length) Slot.unset).toArray = ls at hl ⊢
  have hl : lv_has ls 1 [(0, .int x1)] := hl
  refine lv_iload_n hx hb d_MO_isRange_0 rfl (lv_at hl 0 rfl) ?_
  refine lv_iconst (v := 2) hx hb d_MO_isRange_1 (by decide) ?_
  refine lv_icmp_lt (tgt := 15) hx hb d_MO_isRange_2 (by decide) (fun c_9 => ?_) (fun c_9 => ?_)
  · refine lv_iconst (v := 0) hx hb d_MO_isRange_15 (by decide) ?_
    have e_ : p_MO_isRange x1 = 0 := by rw [p_MO_isRange, if_pos c_9]
    exact fs_iret hx hb hr hlocks hw hP hS (by first | rfl | exact vp_nar_int _) (by omega) (by omega) (⟨by rw [e_], rfl⟩) d_MO_isRange_16
  · refine lv_iload_n hx hb d_MO_isRange_5 rfl (lv_at hl 0 rfl) ?_
    refine lv_bipush (v := 6) hx hb d_MO_isRange_6 (by decide) ?_
    refine lv_icmp_gt (tgt := 15) hx hb d_MO_isRange_8 (by decide) (fun c_10 => ?_) (fun c_10 => ?_)
    · refine lv_iconst (v := 0) hx hb d_MO_isRange_15 (by decide) ?_
      have e_ : p_MO_isRange x1 = 0 := by rw [p_MO_isRange, if_neg c_9, if_pos c_10]
      exact fs_iret hx hb hr hlocks hw hP hS (by first | rfl | exact vp_nar_int _) (by omega) (by omega) (⟨by rw [e_], rfl⟩) d_MO_isRange_16
    · refine lv_iconst (v := 1) hx hb d_MO_isRange_11 (by decide) ?_
      refine lv_goto (tgt := 16) hx hb d_MO_isRange_12 (by decide) ?_
      have e_ : p_MO_isRange x1 = 1 := by rw [p_MO_isRange, if_neg c_9, if_neg c_10]
      exact fs_iret hx hb hr hlocks hw hP hS (by first | rfl | exact vp_nar_int _) (by omega) (by omega) (⟨by rw [e_], rfl⟩) d_MO_isRange_16
def p_MO_in (x1 : Int64) (x2 : Int64) (x3 : Int32) : Int32 := (if 40 ≤ x3 then (if (lg_cmp ((x2 >>> (Int32.toInt64 (x3 - 40) &&& 63)) &&& (1 : Int64)) 1) = 0 then 1 else 0) else (if (lg_cmp ((x1 >>> (Int32.toInt64 x3 &&& 63)) &&& (1 : Int64)) 1) = 0 then 1 else 0))
theorem bo_MO_in (x1 : Int64) (x2 : Int64) (x3 : Int32) : p_MO_in x1 x2 x3 = 0 ∨ p_MO_in x1 x2 x3 = 1 := by unfold p_MO_in; ((repeat' split) <;> simp)
set_option maxHeartbeats 4000000 in
set_option maxRecDepth 100000 in
theorem k_MO_in {l : Launch} {s00 : State} {G : fs_G} (hSt : fs_St l s00 G) {h : fs_Hp} (x1 : Int64) (x2 : Int64) (x3 : Int32)  : fs_Ct l s00 G y_MO_in (.code y_MO_in b_MO_in 5 (some .boolean)) { frames := 0, cells := 0, slots := 0, locals := 0 } [.long x1, .long x2, .int x3] h (fun o h' => o = .inl (some (.int (p_MO_in x1 x2 x3))) ∧ h' = h) := by
  refine fs_Ct.ofW hSt (by decide) ?_
  intro p e s m below meth c B hout hP
  obtain ⟨hx, hb, hr, hml, hown, hts, hlocks, hname, hK, hw, htr⟩ := id B
  have hown : s.vm.findClass "FormulaSheetModel" = some m.cls := hown
  have hS := hw.S
  have hA : ∀ q : Nat, s00.heap.size ≤ q → fs_A s00 q := fun _ h9 => h9
  generalize hH : s.heap = H at hP hS ⊢
  have hH0 : s.heap.size ≤ H.size := by rw [hH]; exact Nat.le_refl _
  have hl := lv_entry ([.long x1, .long x2, .int x3]) (n := 5) (Nat.le_of_ble_eq_true rfl)
  rw [lg_entry_eq]
  generalize (lg_sl ([.long x1, .long x2, .int x3]) ++ List.replicate (5 - (lg_sl ([.long x1, .long x2, .int x3])).length) Slot.unset).toArray = ls at hl ⊢
  have hl : lv_has ls 5 [(0, .long x1), (2, .long x2), (4, .int x3)] := hl
  refine lv_iload hx hb d_MO_in_0 (lv_at hl 2 rfl) ?_
  refine lv_bipush (v := 40) hx hb d_MO_in_2 (by decide) ?_
  refine lv_icmp_ge (tgt := 26) hx hb d_MO_in_4 (by decide) (fun c_11 => ?_) (fun c_11 => ?_)
  · refine lv_lload_n hx hb d_MO_in_26 rfl (lv_at hl 1 rfl) ?_
    refine lv_iload hx hb d_MO_in_27 (lv_at hl 2 rfl) ?_
    refine lv_bipush (v := 40) hx hb d_MO_in_29 (by decide) ?_
    refine lv_isub hx hb d_MO_in_31 ?_
    refine lv_lshr hx hb d_MO_in_32 rfl ?_
    refine lv_lconst (v := 1) hx hb d_MO_in_33 (by decide) ?_
    refine lv_land hx hb d_MO_in_34 ?_
    refine lv_lconst (v := 1) hx hb d_MO_in_35 (by decide) ?_
    refine W.lcmp hx hb d_MO_in_36 ?_
    refine lv_if_ne (tgt := 44) hx hb d_MO_in_37 (by decide) (fun c_12 => ?_) (fun c_12 => ?_)
    · refine lv_iconst (v := 0) hx hb d_MO_in_44 (by decide) ?_
      have e_ : p_MO_in x1 x2 x3 = 0 := by rw [p_MO_in, if_pos c_11, if_neg c_12]
      exact fs_iret hx hb hr hlocks hw hP hS (by first | rfl | exact vp_nar_int _) (by omega) (by omega) (⟨by rw [e_], rfl⟩) d_MO_in_45
    · refine lv_iconst (v := 1) hx hb d_MO_in_40 (by decide) ?_
      refine lv_goto (tgt := 45) hx hb d_MO_in_41 (by decide) ?_
      have e_ : p_MO_in x1 x2 x3 = 1 := by rw [p_MO_in, if_pos c_11, if_pos c_12]
      exact fs_iret hx hb hr hlocks hw hP hS (by first | rfl | exact vp_nar_int _) (by omega) (by omega) (⟨by rw [e_], rfl⟩) d_MO_in_45
  · refine lv_lload_n hx hb d_MO_in_7 rfl (lv_at hl 0 rfl) ?_
    refine lv_iload hx hb d_MO_in_8 (lv_at hl 2 rfl) ?_
    refine lv_lshr hx hb d_MO_in_10 rfl ?_
    refine lv_lconst (v := 1) hx hb d_MO_in_11 (by decide) ?_
    refine lv_land hx hb d_MO_in_12 ?_
    refine lv_lconst (v := 1) hx hb d_MO_in_13 (by decide) ?_
    refine W.lcmp hx hb d_MO_in_14 ?_
    refine lv_if_ne (tgt := 22) hx hb d_MO_in_15 (by decide) (fun c_13 => ?_) (fun c_13 => ?_)
    · refine lv_iconst (v := 0) hx hb d_MO_in_22 (by decide) ?_
      refine lv_goto (tgt := 45) hx hb d_MO_in_23 (by decide) ?_
      have e_ : p_MO_in x1 x2 x3 = 0 := by rw [p_MO_in, if_neg c_11, if_neg c_13]
      exact fs_iret hx hb hr hlocks hw hP hS (by first | rfl | exact vp_nar_int _) (by omega) (by omega) (⟨by rw [e_], rfl⟩) d_MO_in_45
    · refine lv_iconst (v := 1) hx hb d_MO_in_18 (by decide) ?_
      refine lv_goto (tgt := 45) hx hb d_MO_in_19 (by decide) ?_
      have e_ : p_MO_in x1 x2 x3 = 1 := by rw [p_MO_in, if_neg c_11, if_pos c_13]
      exact fs_iret hx hb hr hlocks hw hP hS (by first | rfl | exact vp_nar_int _) (by omega) (by omega) (⟨by rw [e_], rfl⟩) d_MO_in_45
def p_MO_least (x1 : Int32) (x2 : Int32) : Int32 := (if x2 ≤ x1 then x2 else x1)
set_option maxHeartbeats 4000000 in
set_option maxRecDepth 100000 in
theorem k_MO_least {l : Launch} {s00 : State} {G : fs_G} (hSt : fs_St l s00 G) {h : fs_Hp} (x1 : Int32) (x2 : Int32)  : fs_Ct l s00 G y_MO_least (.code y_MO_least b_MO_least 2 (some .int)) { frames := 0, cells := 0, slots := 0, locals := 0 } [.int x1, .int x2] h (fun o h' => o = .inl (some (.int (p_MO_least x1 x2))) ∧ h' = h) := by
  refine fs_Ct.ofW hSt (by decide) ?_
  intro p e s m below meth c B hout hP
  obtain ⟨hx, hb, hr, hml, hown, hts, hlocks, hname, hK, hw, htr⟩ := id B
  have hown : s.vm.findClass "FormulaSheetModel" = some m.cls := hown
  have hS := hw.S
  have hA : ∀ q : Nat, s00.heap.size ≤ q → fs_A s00 q := fun _ h9 => h9
  generalize hH : s.heap = H at hP hS ⊢
  have hH0 : s.heap.size ≤ H.size := by rw [hH]; exact Nat.le_refl _
  have hl := lv_entry ([.int x1, .int x2]) (n := 2) (Nat.le_of_ble_eq_true rfl)
  rw [lg_entry_eq]
  generalize (lg_sl ([.int x1, .int x2]) ++ List.replicate (2 - (lg_sl ([.int x1, .int x2])).length) Slot.unset).toArray = ls at hl ⊢
  have hl : lv_has ls 2 [(0, .int x1), (1, .int x2)] := hl
  refine lv_iload_n hx hb d_MO_least_0 rfl (lv_at hl 0 rfl) ?_
  refine lv_iload_n hx hb d_MO_least_1 rfl (lv_at hl 1 rfl) ?_
  refine lv_icmp_ge (tgt := 9) hx hb d_MO_least_2 (by decide) (fun c_14 => ?_) (fun c_14 => ?_)
  · refine lv_iload_n hx hb d_MO_least_9 rfl (lv_at hl 1 rfl) ?_
    have e_ : p_MO_least x1 x2 = x2 := by rw [p_MO_least, if_pos c_14]
    exact fs_iret hx hb hr hlocks hw hP hS (by first | rfl | exact vp_nar_int _) (by omega) (by omega) (⟨by rw [e_], rfl⟩) d_MO_least_10
  · refine lv_iload_n hx hb d_MO_least_5 rfl (lv_at hl 0 rfl) ?_
    refine lv_goto (tgt := 10) hx hb d_MO_least_6 (by decide) ?_
    have e_ : p_MO_least x1 x2 = x1 := by rw [p_MO_least, if_neg c_14]
    exact fs_iret hx hb hr hlocks hw hP hS (by first | rfl | exact vp_nar_int _) (by omega) (by omega) (⟨by rw [e_], rfl⟩) d_MO_least_10
def p_MO_most (x1 : Int32) (x2 : Int32) : Int32 := (if x1 ≤ x2 then x2 else x1)
set_option maxHeartbeats 4000000 in
set_option maxRecDepth 100000 in
theorem k_MO_most {l : Launch} {s00 : State} {G : fs_G} (hSt : fs_St l s00 G) {h : fs_Hp} (x1 : Int32) (x2 : Int32)  : fs_Ct l s00 G y_MO_most (.code y_MO_most b_MO_most 2 (some .int)) { frames := 0, cells := 0, slots := 0, locals := 0 } [.int x1, .int x2] h (fun o h' => o = .inl (some (.int (p_MO_most x1 x2))) ∧ h' = h) := by
  refine fs_Ct.ofW hSt (by decide) ?_
  intro p e s m below meth c B hout hP
  obtain ⟨hx, hb, hr, hml, hown, hts, hlocks, hname, hK, hw, htr⟩ := id B
  have hown : s.vm.findClass "FormulaSheetModel" = some m.cls := hown
  have hS := hw.S
  have hA : ∀ q : Nat, s00.heap.size ≤ q → fs_A s00 q := fun _ h9 => h9
  generalize hH : s.heap = H at hP hS ⊢
  have hH0 : s.heap.size ≤ H.size := by rw [hH]; exact Nat.le_refl _
  have hl := lv_entry ([.int x1, .int x2]) (n := 2) (Nat.le_of_ble_eq_true rfl)
  rw [lg_entry_eq]
  generalize (lg_sl ([.int x1, .int x2]) ++ List.replicate (2 - (lg_sl ([.int x1, .int x2])).length) Slot.unset).toArray = ls at hl ⊢
  have hl : lv_has ls 2 [(0, .int x1), (1, .int x2)] := hl
  refine lv_iload_n hx hb d_MO_most_0 rfl (lv_at hl 0 rfl) ?_
  refine lv_iload_n hx hb d_MO_most_1 rfl (lv_at hl 1 rfl) ?_
  refine lv_icmp_le (tgt := 9) hx hb d_MO_most_2 (by decide) (fun c_15 => ?_) (fun c_15 => ?_)
  · refine lv_iload_n hx hb d_MO_most_9 rfl (lv_at hl 1 rfl) ?_
    have e_ : p_MO_most x1 x2 = x2 := by rw [p_MO_most, if_pos c_15]
    exact fs_iret hx hb hr hlocks hw hP hS (by first | rfl | exact vp_nar_int _) (by omega) (by omega) (⟨by rw [e_], rfl⟩) d_MO_most_10
  · refine lv_iload_n hx hb d_MO_most_5 rfl (lv_at hl 0 rfl) ?_
    refine lv_goto (tgt := 10) hx hb d_MO_most_6 (by decide) ?_
    have e_ : p_MO_most x1 x2 = x1 := by rw [p_MO_most, if_neg c_15]
    exact fs_iret hx hb hr hlocks hw hP hS (by first | rfl | exact vp_nar_int _) (by omega) (by omega) (⟨by rw [e_], rfl⟩) d_MO_most_10
def p_MO_tooGreat (x1 : UInt64) : Int32 := (if 0 < (Op.cmpValue (FP.dcmp x1 4832362400168542208) .l) then 1 else (if 0 ≤ (Op.cmpValue (FP.dcmp x1 14055734437023318016) .g) then 0 else 1))
theorem bo_MO_tooGreat (x1 : UInt64) : p_MO_tooGreat x1 = 0 ∨ p_MO_tooGreat x1 = 1 := by unfold p_MO_tooGreat; ((repeat' split) <;> simp)
set_option maxHeartbeats 4000000 in
set_option maxRecDepth 100000 in
theorem k_MO_tooGreat {l : Launch} {s00 : State} {G : fs_G} (hSt : fs_St l s00 G) {h : fs_Hp} (x1 : UInt64)  : fs_Ct l s00 G y_MO_tooGreat (.code y_MO_tooGreat b_MO_tooGreat 2 (some .boolean)) { frames := 0, cells := 0, slots := 0, locals := 0 } [.double x1] h (fun o h' => o = .inl (some (.int (p_MO_tooGreat x1))) ∧ h' = h) := by
  refine fs_Ct.ofW hSt (by decide) ?_
  intro p e s m below meth c B hout hP
  obtain ⟨hx, hb, hr, hml, hown, hts, hlocks, hname, hK, hw, htr⟩ := id B
  have hown : s.vm.findClass "FormulaSheetModel" = some m.cls := hown
  have hS := hw.S
  have hA : ∀ q : Nat, s00.heap.size ≤ q → fs_A s00 q := fun _ h9 => h9
  generalize hH : s.heap = H at hP hS ⊢
  have hH0 : s.heap.size ≤ H.size := by rw [hH]; exact Nat.le_refl _
  have hl := lv_entry ([.double x1]) (n := 2) (Nat.le_of_ble_eq_true rfl)
  rw [lg_entry_eq]
  generalize (lg_sl ([.double x1]) ++ List.replicate (2 - (lg_sl ([.double x1])).length) Slot.unset).toArray = ls at hl ⊢
  have hl : lv_has ls 2 [(0, .double x1)] := hl
  refine lv_dload_n hx hb d_MO_tooGreat_0 rfl (lv_at hl 0 rfl) ?_
  refine lv_ldc2d (v := 4832362400168542208) hx hb hown (hts _ (fs_tb_at 1726 tw_1726 rfl)) d_MO_tooGreat_1 ?_
  refine lv_dcmp hx hb d_MO_tooGreat_4 ?_
  refine lv_if_gt (tgt := 16) hx hb d_MO_tooGreat_5 (by decide) (fun c_16 => ?_) (fun c_16 => ?_)
  · refine lv_iconst (v := 1) hx hb d_MO_tooGreat_16 (by decide) ?_
    refine lv_goto (tgt := 21) hx hb d_MO_tooGreat_17 (by decide) ?_
    have e_ : p_MO_tooGreat x1 = 1 := by rw [p_MO_tooGreat, if_pos c_16]
    exact fs_iret hx hb hr hlocks hw hP hS (by first | rfl | exact vp_nar_int _) (by omega) (by omega) (⟨by rw [e_], rfl⟩) d_MO_tooGreat_21
  · refine lv_dload_n hx hb d_MO_tooGreat_8 rfl (lv_at hl 0 rfl) ?_
    refine lv_ldc2d (v := 14055734437023318016) hx hb hown (hts _ (fs_tb_at 1727 tw_1727 rfl)) d_MO_tooGreat_9 ?_
    refine lv_dcmp hx hb d_MO_tooGreat_12 ?_
    refine lv_if_ge (tgt := 20) hx hb d_MO_tooGreat_13 (by decide) (fun c_17 => ?_) (fun c_17 => ?_)
    · refine lv_iconst (v := 0) hx hb d_MO_tooGreat_20 (by decide) ?_
      have e_ : p_MO_tooGreat x1 = 0 := by rw [p_MO_tooGreat, if_neg c_16, if_pos c_17]
      exact fs_iret hx hb hr hlocks hw hP hS (by first | rfl | exact vp_nar_int _) (by omega) (by omega) (⟨by rw [e_], rfl⟩) d_MO_tooGreat_21
    · refine lv_iconst (v := 1) hx hb d_MO_tooGreat_16 (by decide) ?_
      refine lv_goto (tgt := 21) hx hb d_MO_tooGreat_17 (by decide) ?_
      have e_ : p_MO_tooGreat x1 = 1 := by rw [p_MO_tooGreat, if_neg c_16, if_neg c_17]
      exact fs_iret hx hb hr hlocks hw hP hS (by first | rfl | exact vp_nar_int _) (by omega) (by omega) (⟨by rw [e_], rfl⟩) d_MO_tooGreat_21
def p_MO_truth (x1 : Int32) : UInt64 := (if x1 = 0 then FP.dconst0 else FP.dconst1)
set_option maxHeartbeats 4000000 in
set_option maxRecDepth 100000 in
theorem k_MO_truth {l : Launch} {s00 : State} {G : fs_G} (hSt : fs_St l s00 G) {h : fs_Hp} (x1 : Int32)  : fs_Ct l s00 G y_MO_truth (.code y_MO_truth b_MO_truth 1 (some .double)) { frames := 0, cells := 0, slots := 0, locals := 0 } [.int x1] h (fun o h' => o = .inl (some (.double (p_MO_truth x1))) ∧ h' = h) := by
  refine fs_Ct.ofW hSt (by decide) ?_
  intro p e s m below meth c B hout hP
  obtain ⟨hx, hb, hr, hml, hown, hts, hlocks, hname, hK, hw, htr⟩ := id B
  have hown : s.vm.findClass "FormulaSheetModel" = some m.cls := hown
  have hS := hw.S
  have hA : ∀ q : Nat, s00.heap.size ≤ q → fs_A s00 q := fun _ h9 => h9
  generalize hH : s.heap = H at hP hS ⊢
  have hH0 : s.heap.size ≤ H.size := by rw [hH]; exact Nat.le_refl _
  have hl := lv_entry ([.int x1]) (n := 1) (Nat.le_of_ble_eq_true rfl)
  rw [lg_entry_eq]
  generalize (lg_sl ([.int x1]) ++ List.replicate (1 - (lg_sl ([.int x1])).length) Slot.unset).toArray = ls at hl ⊢
  have hl : lv_has ls 1 [(0, .int x1)] := hl
  refine lv_iload_n hx hb d_MO_truth_0 rfl (lv_at hl 0 rfl) ?_
  refine lv_if_eq (tgt := 8) hx hb d_MO_truth_1 (by decide) (fun c_18 => ?_) (fun c_18 => ?_)
  · refine lv_dconst0 hx hb d_MO_truth_8 ?_
    have e_ : p_MO_truth x1 = FP.dconst0 := by rw [p_MO_truth, if_pos c_18]
    exact fs_dret hx hb hr hlocks hw hP hS  (by omega) (by omega) (⟨by rw [e_], rfl⟩) d_MO_truth_9
  · refine lv_dconst1 hx hb d_MO_truth_4 ?_
    refine lv_goto (tgt := 9) hx hb d_MO_truth_5 (by decide) ?_
    have e_ : p_MO_truth x1 = FP.dconst1 := by rw [p_MO_truth, if_neg c_18]
    exact fs_dret hx hb hr hlocks hw hP hS  (by omega) (by omega) (⟨by rw [e_], rfl⟩) d_MO_truth_9
def p_MO_atRow (x1 : Int32) (x2 : Int32) : Int32 := (x1 &&& (-121 : Int32)) + (8 * x2)
set_option maxHeartbeats 4000000 in
set_option maxRecDepth 100000 in
theorem k_MO_atRow {l : Launch} {s00 : State} {G : fs_G} (hSt : fs_St l s00 G) {h : fs_Hp} (x1 : Int32) (x2 : Int32)  : fs_Ct l s00 G y_MO_atRow (.code y_MO_atRow b_MO_atRow 2 (some .int)) { frames := 0, cells := 0, slots := 0, locals := 0 } [.int x1, .int x2] h (fun o h' => o = .inl (some (.int (p_MO_atRow x1 x2))) ∧ h' = h) := by
  refine fs_Ct.ofW hSt (by decide) ?_
  intro p e s m below meth c B hout hP
  obtain ⟨hx, hb, hr, hml, hown, hts, hlocks, hname, hK, hw, htr⟩ := id B
  have hown : s.vm.findClass "FormulaSheetModel" = some m.cls := hown
  have hS := hw.S
  have hA : ∀ q : Nat, s00.heap.size ≤ q → fs_A s00 q := fun _ h9 => h9
  generalize hH : s.heap = H at hP hS ⊢
  have hH0 : s.heap.size ≤ H.size := by rw [hH]; exact Nat.le_refl _
  have hl := lv_entry ([.int x1, .int x2]) (n := 2) (Nat.le_of_ble_eq_true rfl)
  rw [lg_entry_eq]
  generalize (lg_sl ([.int x1, .int x2]) ++ List.replicate (2 - (lg_sl ([.int x1, .int x2])).length) Slot.unset).toArray = ls at hl ⊢
  have hl : lv_has ls 2 [(0, .int x1), (1, .int x2)] := hl
  refine lv_iload_n hx hb d_MO_atRow_0 rfl (lv_at hl 0 rfl) ?_
  refine lv_bipush (v := (-121)) hx hb d_MO_atRow_1 (by decide) ?_
  refine lv_iand hx hb d_MO_atRow_3 ?_
  refine lv_bipush (v := 8) hx hb d_MO_atRow_4 (by decide) ?_
  refine lv_iload_n hx hb d_MO_atRow_6 rfl (lv_at hl 1 rfl) ?_
  refine lv_imul hx hb d_MO_atRow_7 ?_
  refine lv_iadd hx hb d_MO_atRow_8 ?_
  have e_ : p_MO_atRow x1 x2 = (x1 &&& (-121 : Int32)) + (8 * x2) := by rw [p_MO_atRow]
  exact fs_iret hx hb hr hlocks hw hP hS (by first | rfl | exact vp_nar_int _) (by omega) (by omega) (⟨by rw [e_], rfl⟩) d_MO_atRow_9
