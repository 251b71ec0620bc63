/-! The reference: its reading of THE LINE. -/
/-- bounds while a line is read: at, length, made, signCount, open -/
def mo_rdf (at_ len made sc op : Int32) : Prop := 0 ≤ at_.toInt ∧ at_.toInt ≤ len.toInt ∧ len.toInt ≤ 40 ∧ 0 ≤ made.toInt ∧ 0 ≤ sc.toInt ∧ made.toInt + sc.toInt ≤ at_.toInt ∧ 0 ≤ op.toInt ∧ op.toInt ≤ 6
def mo_rd (M : mo_S) : Prop := mo_rdf (M.1 22) (M.1 9) (M.1 30) (M.1 29) (M.1 23)

abbrev b_MO_settle : ByteArray := prog_14_method_18_code
def y_MO_settle : MethodName := ⟨"FormulaSheetModel", "settle", "(I)V"⟩
theorem d_MO_settle_0 : decode b_MO_settle 0 = .ok (.aload_n 0, 1) := by decide +kernel
theorem d_MO_settle_1 : decode b_MO_settle 1 = .ok (.getfield 160, 3) := by decide +kernel
theorem d_MO_settle_4 : decode b_MO_settle 4 = .ok (.ifCond .le 47, 3) := by decide +kernel
theorem d_MO_settle_7 : decode b_MO_settle 7 = .ok (.aload_n 0, 1) := by decide +kernel
theorem d_MO_settle_8 : decode b_MO_settle 8 = .ok (.getfield 84, 3) := by decide +kernel
theorem d_MO_settle_11 : decode b_MO_settle 11 = .ok (.aload_n 0, 1) := by decide +kernel
theorem d_MO_settle_12 : decode b_MO_settle 12 = .ok (.getfield 160, 3) := by decide +kernel
theorem d_MO_settle_15 : decode b_MO_settle 15 = .ok (.iconst 1, 1) := by decide +kernel
theorem d_MO_settle_16 : decode b_MO_settle 16 = .ok (.isub, 1) := by decide +kernel
theorem d_MO_settle_17 : decode b_MO_settle 17 = .ok (.iaload, 1) := by decide +kernel
theorem d_MO_settle_18 : decode b_MO_settle 18 = .ok (.invokestatic 163, 3) := by decide +kernel
theorem d_MO_settle_21 : decode b_MO_settle 21 = .ok (.iload_n 1, 1) := by decide +kernel
theorem d_MO_settle_22 : decode b_MO_settle 22 = .ok (.if_icmp .lt 29, 3) := by decide +kernel
theorem d_MO_settle_25 : decode b_MO_settle 25 = .ok (.aload_n 0, 1) := by decide +kernel
theorem d_MO_settle_26 : decode b_MO_settle 26 = .ok (.dup, 1) := by decide +kernel
theorem d_MO_settle_27 : decode b_MO_settle 27 = .ok (.getfield 160, 3) := by decide +kernel
theorem d_MO_settle_30 : decode b_MO_settle 30 = .ok (.iconst 1, 1) := by decide +kernel
theorem d_MO_settle_31 : decode b_MO_settle 31 = .ok (.isub, 1) := by decide +kernel
theorem d_MO_settle_32 : decode b_MO_settle 32 = .ok (.putfield 160, 3) := by decide +kernel
theorem d_MO_settle_35 : decode b_MO_settle 35 = .ok (.aload_n 0, 1) := by decide +kernel
theorem d_MO_settle_36 : decode b_MO_settle 36 = .ok (.aload_n 0, 1) := by decide +kernel
theorem d_MO_settle_37 : decode b_MO_settle 37 = .ok (.getfield 84, 3) := by decide +kernel
theorem d_MO_settle_40 : decode b_MO_settle 40 = .ok (.aload_n 0, 1) := by decide +kernel
theorem d_MO_settle_41 : decode b_MO_settle 41 = .ok (.getfield 160, 3) := by decide +kernel
theorem d_MO_settle_44 : decode b_MO_settle 44 = .ok (.iaload, 1) := by decide +kernel
theorem d_MO_settle_45 : decode b_MO_settle 45 = .ok (.invokevirtual 124, 3) := by decide +kernel
theorem d_MO_settle_48 : decode b_MO_settle 48 = .ok (.goto (-48), 3) := by decide +kernel
theorem d_MO_settle_51 : decode b_MO_settle 51 = .ok (.return_, 1) := by decide +kernel
theorem tw_47 : lw_tbl[47]? = some (Cond.selects "FormulaSheetModel" ⟨"FormulaSheetModel", "add", "(I)V"⟩ ⟨"FormulaSheetModel", "add", "(I)V"⟩) := by decide +kernel
theorem tw_1594 : lw_tbl[1594]? = some (Jvm.Cond.methodLink "FormulaSheetModel" (163 : Nat) ({ cls := "FormulaSheetModel", name := "strength", desc := "(I)I" } : Jvm.MethodName)) := by decide +kernel
theorem tw_1595 : lw_tbl[1595]? = some (Jvm.Cond.static ({ cls := "FormulaSheetModel", name := "strength", desc := "(I)I" } : Jvm.MethodName)) := by decide +kernel
theorem tw_1596 : lw_tbl[1596]? = some (Jvm.Cond.code ({ cls := "FormulaSheetModel", name := "strength", desc := "(I)I" } : Jvm.MethodName) prog_14_method_17_code (1 : Nat) (Option.some Jvm.ClassFile.FieldType.int)) := by decide +kernel
theorem tw_1605 : lw_tbl[1605]? = some (Jvm.Cond.methodLink "FormulaSheetModel" (124 : Nat) ({ cls := "FormulaSheetModel", name := "add", desc := "(I)V" } : Jvm.MethodName)) := by decide +kernel
theorem tw_1607 : lw_tbl[1607]? = some (Jvm.Cond.instanceMethod ({ cls := "FormulaSheetModel", name := "add", desc := "(I)V" } : Jvm.MethodName)) := by decide +kernel
theorem tw_1608 : lw_tbl[1608]? = some (Jvm.Cond.code ({ cls := "FormulaSheetModel", name := "add", desc := "(I)V" } : Jvm.MethodName) prog_14_method_8_code (2 : Nat) (Option.none : Option Jvm.ClassFile.FieldType)) := by decide +kernel
def p_MO_settle_L0 : Nat → Int32 → mo_S → Int32 × mo_S
  | 0, z1, M1 => (z1, M1)
  | n + 1, z1, M1 => (if (M1.1 29) ≤ 0 then (z1, M1) else (if (p_MO_strength (M1.2.1 28 (Int32.toNatClampNeg ((M1.1 29) - 1)))) < z1 then (z1, M1) else p_MO_settle_L0 n z1 (p_MO_add (mo_f M1 29 ((M1.1 29) - 1)) ((mo_f M1 29 ((M1.1 29) - 1)).2.1 28 (Int32.toNatClampNeg ((mo_f M1 29 ((M1.1 29) - 1)).1 29))))))
def p_MO_settle (M : mo_S) (x1 : Int32) : mo_S := (match p_MO_settle_L0 (45) x1 M with | (y61, M62) => M62)
set_option maxHeartbeats 4000000 in
set_option maxRecDepth 100000 in
theorem l_MO_settle_0 {p : Program} {l : Launch} {e : Env} {R : Room} {s : State} {m : MethodId} {args : Array Value} {below : List Frame} {meth : Method} {c : Code} {Q : State → Prop} {s00 : State} {G : fs_G} (hSt : fs_St l s00 G) (B : fs_B p l e s m args meth c s00 G y_MO_settle b_MO_settle 2 none) {h : fs_Hp} {a : Nat} {ad : Nat → Nat} (hR : 1 ≤ R.frames ∧ 13 ≤ R.locals) : ∀ (n : Nat) (z1 : Int32) (M1 : mo_S) (h1 : fs_Hp) (H : Heap) (locs : List Loc) (ls : Array Slot), (M1.1 29).toInt.toNat < n → mo_rd M1 → fs_P G.1 fs_cl (fs_A s00) h1 H → va_S (fs_A s00) s00.heap H locs → mo_at G h1 a ad M1 → mo_fr a ad h h1 → lv_has ls 2 [(0, .ref a), (1, .int z1)] → (∀ (z1' : Int32) (M' : mo_S) (h' : fs_Hp) (H : Heap) (locs : List Loc) (ls : Array Slot), p_MO_settle_L0 n z1 M1 = (z1', M') → mo_rd M' → fs_P G.1 fs_cl (fs_A s00) h' H → va_S (fs_A s00) s00.heap H locs → mo_at G h' a ad M' → mo_fr a ad h h' → lv_has ls 2 [(0, .ref a), (1, .int z1')] → W p l e R s m args below meth c H locs 0 0 Q (F0 m 51 ls [])) → W p l e R s m args below meth c H locs 0 0 Q (F0 m 0 ls []) := by
  obtain ⟨hx, hb, hr, hml, hown, hts, hlocks, hname, hK, hw, htr⟩ := id B
  have hown : s.vm.findClass "FormulaSheetModel" = some m.cls := hown
  intro n
  induction n with
  | zero => intro z1 M1 h1 H locs ls hn; exact absurd hn (Nat.not_lt_zero _)
  | succ n ih =>
    intro z1 M1 h1 H locs ls hn hI hP hS hM hf hl kk
    refine lv_aload_n hx hb d_MO_settle_0 rfl (lv_at hl 0 rfl) ?_
    refine fs_get hx hb hts hown hK c_MO hP hM.1 29 (by decide) (hts _ (fs_tb_at 1478 tw_1478 rfl)) (fun _ h9 => h9) rfl d_MO_settle_1 ?_
    refine lv_if_le (tgt := 51) hx hb d_MO_settle_4 (by decide) (fun c_58 => ?_) (fun c_58 => ?_)
    · have e_ : p_MO_settle_L0 (n + 1) z1 M1 = (z1, M1) := by rw [p_MO_settle_L0, if_pos c_58]
      exact kk _ _ _ _ _ _ e_ (hI) hP hS hM hf (lv_sub hl [0, 1] rfl)
    · refine lv_aload_n hx hb d_MO_settle_7 rfl (lv_at hl 0 rfl) ?_
      refine fs_get hx hb hts hown hK c_MO hP hM.1 28 (by decide) (hts _ (fs_tb_at 1477 tw_1477 rfl)) (fun _ h9 => h9) rfl d_MO_settle_8 ?_
      refine lv_aload_n hx hb d_MO_settle_11 rfl (lv_at hl 0 rfl) ?_
      refine fs_get hx hb hts hown hK c_MO hP hM.1 29 (by decide) (hts _ (fs_tb_at 1478 tw_1478 rfl)) (fun _ h9 => h9) rfl d_MO_settle_12 ?_
      refine lv_iconst (v := 1) hx hb d_MO_settle_15 (by decide) ?_
      refine lv_isub hx hb d_MO_settle_16 ?_
      have hi_ : vp_in ((M1.1 29) - 1) 44 := (by obtain ⟨r1, r2, r3, r4, r5, r6, r7, r8⟩ := id hI; have k0 := c_58; (try simp only [Int32.lt_iff_toInt_lt, Int32.le_iff_toInt_le, ← Int32.toInt_inj, i32_0, i32_1, i32_2, i32_3, i32_4, i32_5, i32_6, i32_7, i32_8, i32_9, i32_10, i32_11, i32_12, i32_16, i32_24, i32_39, i32_40, i32_41, i32_43, i32_44, i32_48, i32_49, i32_57, i32_64, i32_80, i32_81, i32_100, i32_101, i32_121, i32_127, i32_128, i32_256, i32_384, i32_400, i32_512, i32_3199, i32_3200, i32_3239, i32_3240, i32_m1] at k0); have e1 : (M1.1 29 - 1).toInt = (M1.1 29).toInt - 1 := (by rw [i32_sub (by rw [i32_1]; omega), i32_1]); show vp_in (M1.1 29 - 1) 44; rw [vp_in_iff]; omega)
      refine fs_iald hx hb hK hP 0 (hM.2.1 28 0 44 rfl) rfl hi_ d_MO_settle_17 ?_
      refine fs_cS B hl.1 hP hS (k_MO_strength hSt (M1.2.1 28 (Int32.toNatClampNeg ((M1.1 29) - 1))) ) (fs_tb_at 1594 tw_1594 rfl) (fs_tb_at 1595 tw_1595 rfl) (fs_tb_at 96 tw_96 rfl) (fs_tb_at 1596 tw_1596 rfl) (by decide) (show (parseMethodDescriptor y_MO_strength.desc).map (fun d => d.parameters.length) = some 1 by decide +kernel) rfl d_MO_settle_18 ⟨Nat.le_trans (Nat.le_of_ble_eq_true rfl) hR.1, Nat.le_trans (Nat.le_of_ble_eq_true rfl) hR.2, Nat.zero_le _, Nat.zero_le _⟩ (fun v_ h_ H locs hq hP hS => ?_) (fun C_ a_ h_ H locs hq => absurd hq.1 (fun h9 => by cases h9))
      obtain ⟨ev, eh⟩ := hq
      cases ev
      rw [eh] at hP
      refine W.widen (k := 0) (n := 0) (Nat.le_of_ble_eq_true rfl) (Nat.le_of_ble_eq_true rfl) ?_
      refine W.eq (g2 := F0 m 21 ls (.int (p_MO_strength (M1.2.1 28 (Int32.toNatClampNeg ((M1.1 29) - 1)))) :: [])) rfl ?_
      refine lv_iload_n hx hb d_MO_settle_21 rfl (lv_at hl 1 rfl) ?_
      refine lv_icmp_lt (tgt := 51) hx hb d_MO_settle_22 (by decide) (fun c_59 => ?_) (fun c_59 => ?_)
      · have e_ : p_MO_settle_L0 (n + 1) z1 M1 = (z1, M1) := by rw [p_MO_settle_L0, if_neg c_58, if_pos c_59]
        exact kk _ _ _ _ _ _ e_ (hI) hP hS hM hf (lv_sub hl [0, 1] rfl)
      · refine lv_aload_n hx hb d_MO_settle_25 rfl (lv_at hl 0 rfl) ?_
        refine lv_dup hx hb d_MO_settle_26 rfl ?_
        refine fs_get hx hb hts hown hK c_MO hP hM.1 29 (by decide) (hts _ (fs_tb_at 1478 tw_1478 rfl)) (fun _ h9 => h9) rfl d_MO_settle_27 ?_
        refine lv_iconst (v := 1) hx hb d_MO_settle_30 (by decide) ?_
        refine lv_isub hx hb d_MO_settle_31 ?_
        refine fs_put hx hb hts hown hK c_MO hP hS hM.1 29 (by decide) (hts _ (fs_tb_at 1478 tw_1478 rfl)) (fun _ h9 => h9) rfl rfl rfl (Nat.le_of_ble_eq_true rfl) d_MO_settle_32 (fun H locs hP hS => ?_)
        obtain ⟨h60, hP, hM, hf⟩ : ∃ x, fs_P G.1 fs_cl (fs_A s00) x H ∧ mo_at G x a ad (mo_f M1 29 ((M1.1 29) - 1)) ∧ mo_fr a ad h x := ⟨_, hP, hM.F (mo_F29 ad M1 ((M1.1 29) - 1)), hf.self⟩
        refine lv_aload_n hx hb d_MO_settle_35 rfl (lv_at hl 0 rfl) ?_
        refine lv_aload_n hx hb d_MO_settle_36 rfl (lv_at hl 0 rfl) ?_
        refine fs_get hx hb hts hown hK c_MO hP hM.1 28 (by decide) (hts _ (fs_tb_at 1477 tw_1477 rfl)) (fun _ h9 => h9) rfl d_MO_settle_37 ?_
        refine lv_aload_n hx hb d_MO_settle_40 rfl (lv_at hl 0 rfl) ?_
        refine fs_get hx hb hts hown hK c_MO hP hM.1 29 (by decide) (hts _ (fs_tb_at 1478 tw_1478 rfl)) (fun _ h9 => h9) rfl d_MO_settle_41 ?_
        have hi_ : vp_in ((mo_f M1 29 ((M1.1 29) - 1)).1 29) 44 := (by obtain ⟨r1, r2, r3, r4, r5, r6, r7, r8⟩ := id hI; have k0 := c_58; (try simp only [Int32.lt_iff_toInt_lt, Int32.le_iff_toInt_le, ← Int32.toInt_inj, i32_0, i32_1, i32_2, i32_3, i32_4, i32_5, i32_6, i32_7, i32_8, i32_9, i32_10, i32_11, i32_12, i32_16, i32_24, i32_39, i32_40, i32_41, i32_43, i32_44, i32_48, i32_49, i32_57, i32_64, i32_80, i32_81, i32_100, i32_101, i32_121, i32_127, i32_128, i32_256, i32_384, i32_400, i32_512, i32_3199, i32_3200, i32_3239, i32_3240, i32_m1] at k0); have e1 : (M1.1 29 - 1).toInt = (M1.1 29).toInt - 1 := (by rw [i32_sub (by rw [i32_1]; omega), i32_1]); show vp_in (M1.1 29 - 1) 44; rw [vp_in_iff]; omega)
        refine fs_iald hx hb hK hP 0 (hM.2.1 28 0 44 rfl) rfl hi_ d_MO_settle_44 ?_
        refine fs_cV B hl.1 hP hS (k_MO_add hSt hM ((mo_f M1 29 ((M1.1 29) - 1)).2.1 28 (Int32.toNatClampNeg ((mo_f M1 29 ((M1.1 29) - 1)).1 29))) (by obtain ⟨r1, r2, r3, r4, r5, r6, r7, r8⟩ := id hI; show 0 ≤ (M1.1 30).toInt; omega) (by obtain ⟨r1, r2, r3, r4, r5, r6, r7, r8⟩ := id hI; have k0 := c_58; (try simp only [Int32.lt_iff_toInt_lt, Int32.le_iff_toInt_le, ← Int32.toInt_inj, i32_0, i32_1, i32_2, i32_3, i32_4, i32_5, i32_6, i32_7, i32_8, i32_9, i32_10, i32_11, i32_12, i32_16, i32_24, i32_39, i32_40, i32_41, i32_43, i32_44, i32_48, i32_49, i32_57, i32_64, i32_80, i32_81, i32_100, i32_101, i32_121, i32_127, i32_128, i32_256, i32_384, i32_400, i32_512, i32_3199, i32_3200, i32_3239, i32_3240, i32_m1] at k0); have k1 := c_59; (try simp only [Int32.lt_iff_toInt_lt, Int32.le_iff_toInt_le, ← Int32.toInt_inj, i32_0, i32_1, i32_2, i32_3, i32_4, i32_5, i32_6, i32_7, i32_8, i32_9, i32_10, i32_11, i32_12, i32_16, i32_24, i32_39, i32_40, i32_41, i32_43, i32_44, i32_48, i32_49, i32_57, i32_64, i32_80, i32_81, i32_100, i32_101, i32_121, i32_127, i32_128, i32_256, i32_384, i32_400, i32_512, i32_3199, i32_3200, i32_3239, i32_3240, i32_m1] at k1); show (M1.1 30).toInt < 40; omega)) (fs_tb_at 1605 tw_1605 rfl) hM.1 rfl (fs_tb_at 1607 tw_1607 rfl) (fs_tb_at 47 tw_47 rfl) (fs_tb_at 96 tw_96 rfl) (fs_tb_at 1608 tw_1608 rfl) (by decide) (show (parseMethodDescriptor y_MO_add.desc).map (fun d => d.parameters.length) = some 1 by decide +kernel) rfl d_MO_settle_45 ⟨Nat.le_trans (Nat.le_of_ble_eq_true rfl) hR.1, Nat.le_trans (Nat.le_of_ble_eq_true rfl) hR.2, Nat.zero_le _, Nat.zero_le _⟩ (fun v_ h_ H locs hq hP hS => ?_) (fun C_ a_ h_ H locs hq => absurd hq.1 (fun h9 => by cases h9))
        obtain ⟨ev, hM, hf2⟩ := hq
        cases ev
        have hf := hf.trans hf2
        refine W.widen (k := 0) (n := 0) (Nat.le_of_ble_eq_true rfl) (Nat.le_of_ble_eq_true rfl) ?_
        refine W.eq (g2 := F0 m 48 ls ([])) rfl ?_
        refine lv_goto (tgt := 0) hx hb d_MO_settle_48 (by decide) ?_
        have e_ : p_MO_settle_L0 (n + 1) z1 M1 = p_MO_settle_L0 n z1 (p_MO_add (mo_f M1 29 ((M1.1 29) - 1)) ((mo_f M1 29 ((M1.1 29) - 1)).2.1 28 (Int32.toNatClampNeg ((mo_f M1 29 ((M1.1 29) - 1)).1 29)))) := by rw [p_MO_settle_L0, if_neg c_58, if_neg c_59]
        exact ih z1 (p_MO_add (mo_f M1 29 ((M1.1 29) - 1)) ((mo_f M1 29 ((M1.1 29) - 1)).2.1 28 (Int32.toNatClampNeg ((mo_f M1 29 ((M1.1 29) - 1)).1 29)))) _ _ _ _ (by obtain ⟨r1, r2, r3, r4, r5, r6, r7, r8⟩ := id hI; have k0 := c_58; (try simp only [Int32.lt_iff_toInt_lt, Int32.le_iff_toInt_le, ← Int32.toInt_inj, i32_0, i32_1, i32_2, i32_3, i32_4, i32_5, i32_6, i32_7, i32_8, i32_9, i32_10, i32_11, i32_12, i32_16, i32_24, i32_39, i32_40, i32_41, i32_43, i32_44, i32_48, i32_49, i32_57, i32_64, i32_80, i32_81, i32_100, i32_101, i32_121, i32_127, i32_128, i32_256, i32_384, i32_400, i32_512, i32_3199, i32_3200, i32_3239, i32_3240, i32_m1] at k0); have e1 : (M1.1 29 - 1).toInt = (M1.1 29).toInt - 1 := (by rw [i32_sub (by rw [i32_1]; omega), i32_1]); show (M1.1 29 - 1).toInt.toNat < n; omega) (by obtain ⟨r1, r2, r3, r4, r5, r6, r7, r8⟩ := id hI; have k0 := c_58; (try simp only [Int32.lt_iff_toInt_lt, Int32.le_iff_toInt_le, ← Int32.toInt_inj, i32_0, i32_1, i32_2, i32_3, i32_4, i32_5, i32_6, i32_7, i32_8, i32_9, i32_10, i32_11, i32_12, i32_16, i32_24, i32_39, i32_40, i32_41, i32_43, i32_44, i32_48, i32_49, i32_57, i32_64, i32_80, i32_81, i32_100, i32_101, i32_121, i32_127, i32_128, i32_256, i32_384, i32_400, i32_512, i32_3199, i32_3200, i32_3239, i32_3240, i32_m1] at k0); have e1 : (M1.1 29 - 1).toInt = (M1.1 29).toInt - 1 := (by rw [i32_sub (by rw [i32_1]; omega), i32_1]); have e2 : (M1.1 30 + 1).toInt = (M1.1 30).toInt + 1 := (by rw [i32_add (by rw [i32_1]; omega), i32_1]); show mo_rdf (M1.1 22) (M1.1 9) (M1.1 30 + 1) (M1.1 29 - 1) (M1.1 23); unfold mo_rdf; omega) hP hS hM hf (lv_sub hl [0, 1] rfl) (fun y0_ M_ h_ H locs ls h9 => kk y0_ M_ h_ H locs ls (e_.trans h9))
set_option maxHeartbeats 4000000 in
set_option maxRecDepth 100000 in
theorem k_MO_settle {l : Launch} {s00 : State} {G : fs_G} (hSt : fs_St l s00 G) {h : fs_Hp} {a : Nat} {ad : Nat → Nat} {M : mo_S} (hM : mo_at G h a ad M) (x1 : Int32) (hrd : mo_rd M) : fs_Ct l s00 G y_MO_settle (.code y_MO_settle b_MO_settle 2 none) { frames := 1, cells := 0, slots := 0, locals := 13 } [.ref a, .int x1] h (fun o h' => o = .inl none ∧ mo_at G h' a ad (p_MO_settle M x1) ∧ mo_fr a ad h h') := by
  refine fs_Ct.ofW hSt (by decide) ?_
  intro p e s m below meth c B hout hP
  obtain ⟨hx, hb, hr, hml, hown, hts, hlocks, hname, hK, hw, htr⟩ := id B
  have hown : s.vm.findClass "FormulaSheetModel" = some m.cls := hown
  have hS := hw.S
  have hA : ∀ q : Nat, s00.heap.size ≤ q → fs_A s00 q := fun _ h9 => h9
  generalize hH : s.heap = H at hP hS ⊢
  have hH0 : s.heap.size ≤ H.size := by rw [hH]; exact Nat.le_refl _
  have hl := lv_entry ([.ref a, .int x1]) (n := 2) (Nat.le_of_ble_eq_true rfl)
  rw [lg_entry_eq]
  generalize (lg_sl ([.ref a, .int x1]) ++ List.replicate (2 - (lg_sl ([.ref a, .int x1])).length) Slot.unset).toArray = ls at hl ⊢
  have hl : lv_has ls 2 [(0, .ref a), (1, .int x1)] := hl
  have hf : mo_fr a ad h h := mo_fr.rf
  refine l_MO_settle_0 hSt B (by exact ⟨Nat.le_of_ble_eq_true rfl, Nat.le_of_ble_eq_true rfl⟩) (45) x1 M _ _ _ _ (by obtain ⟨r1, r2, r3, r4, r5, r6, r7, r8⟩ := id hrd; omega) (hrd) hP hS hM hf (lv_sub hl [0, 1] rfl) (fun y61 M62 h_ H locs ls he_63 hI hP hS hM hf hl => ?_)
  have e_ : p_MO_settle M x1 = M62 := by rw [p_MO_settle, he_63]
  exact fs_vret hx hb hr hlocks hw hP hS  (by omega) (by omega) (⟨rfl, by rw [e_]; exact hM, hf⟩) d_MO_settle_51
