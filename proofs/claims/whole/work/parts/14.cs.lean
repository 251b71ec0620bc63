/-! CellSet: codes, what its methods do to a set's two words, contracts. -/
theorem fs_uu {h : fs_Hp} {a : Nat} {e1 e2 : va_E} : fs_up (fs_up h a e1) a e2 = fs_up h a e2 := by
  funext q
  by_cases hq : q = a <;> simp [fs_up, hq]
theorem fs_uid {h : fs_Hp} {a : Nat} {e1 : va_E} (ha : h a = some e1) : fs_up h a e1 = h := by
  funext q
  by_cases hq : q = a
  · rw [hq, ha]; exact fs_up_self
  · exact fs_up_ne hq
def cs_addL (lo : Int64) (i : Int32) : Int64 := if (64 : Int32) ≤ i then lo else lo ||| (1 <<< (Int32.toInt64 i &&& 63))
def cs_addH (hi : Int64) (i : Int32) : Int64 := if (64 : Int32) ≤ i then hi ||| (1 <<< (Int32.toInt64 (i - 64) &&& 63)) else hi
def cs_bit (lo hi : Int64) (i : Int32) : Int64 := if (64 : Int32) ≤ i then (Int64.toUInt64 hi >>> ((Int32.toInt64 (i - 64)).toUInt64 &&& Int64.toUInt64 63)).toInt64 else (Int64.toUInt64 lo >>> ((Int32.toInt64 i).toUInt64 &&& Int64.toUInt64 63)).toInt64
def cs_has (lo hi : Int64) (i : Int32) : Int32 := if lg_cmp (cs_bit lo hi i &&& 1) 0 = 0 then 0 else 1
abbrev b_CS_init : ByteArray := prog_3_method_1_code
def y_CS_init : MethodName := ⟨"FormulaSheet$CellSet", "<init>", "()V"⟩
theorem d_CS_init_0 : decode b_CS_init 0 = .ok (.aload_n 0, 1) := by decide +kernel
theorem d_CS_init_1 : decode b_CS_init 1 = .ok (.invokespecial 3, 3) := by decide +kernel
theorem d_CS_init_4 : decode b_CS_init 4 = .ok (.return_, 1) := by decide +kernel
abbrev b_CS_clear : ByteArray := prog_3_method_2_code
def y_CS_clear : MethodName := ⟨"FormulaSheet$CellSet", "clear", "()V"⟩
theorem d_CS_clear_0 : decode b_CS_clear 0 = .ok (.aload_n 0, 1) := by decide +kernel
theorem d_CS_clear_1 : decode b_CS_clear 1 = .ok (.lconst 0, 1) := by decide +kernel
theorem d_CS_clear_2 : decode b_CS_clear 2 = .ok (.putfield 9, 3) := by decide +kernel
theorem d_CS_clear_5 : decode b_CS_clear 5 = .ok (.aload_n 0, 1) := by decide +kernel
theorem d_CS_clear_6 : decode b_CS_clear 6 = .ok (.lconst 0, 1) := by decide +kernel
theorem d_CS_clear_7 : decode b_CS_clear 7 = .ok (.putfield 15, 3) := by decide +kernel
theorem d_CS_clear_10 : decode b_CS_clear 10 = .ok (.return_, 1) := by decide +kernel
abbrev b_CS_add : ByteArray := prog_3_method_3_code
def y_CS_add : MethodName := ⟨"FormulaSheet$CellSet", "add", "(I)V"⟩
theorem d_CS_add_0 : decode b_CS_add 0 = .ok (.iload_n 1, 1) := by decide +kernel
theorem d_CS_add_1 : decode b_CS_add 1 = .ok (.bipush 64, 2) := by decide +kernel
theorem d_CS_add_3 : decode b_CS_add 3 = .ok (.if_icmp .ge 18, 3) := by decide +kernel
theorem d_CS_add_6 : decode b_CS_add 6 = .ok (.aload_n 0, 1) := by decide +kernel
theorem d_CS_add_7 : decode b_CS_add 7 = .ok (.dup, 1) := by decide +kernel
theorem d_CS_add_8 : decode b_CS_add 8 = .ok (.getfield 9, 3) := by decide +kernel
theorem d_CS_add_11 : decode b_CS_add 11 = .ok (.lconst 1, 1) := by decide +kernel
theorem d_CS_add_12 : decode b_CS_add 12 = .ok (.iload_n 1, 1) := by decide +kernel
theorem d_CS_add_13 : decode b_CS_add 13 = .ok (.lshl, 1) := by decide +kernel
theorem d_CS_add_14 : decode b_CS_add 14 = .ok (.lor, 1) := by decide +kernel
theorem d_CS_add_15 : decode b_CS_add 15 = .ok (.putfield 9, 3) := by decide +kernel
theorem d_CS_add_18 : decode b_CS_add 18 = .ok (.goto 18, 3) := by decide +kernel
theorem d_CS_add_21 : decode b_CS_add 21 = .ok (.aload_n 0, 1) := by decide +kernel
theorem d_CS_add_22 : decode b_CS_add 22 = .ok (.dup, 1) := by decide +kernel
theorem d_CS_add_23 : decode b_CS_add 23 = .ok (.getfield 15, 3) := by decide +kernel
theorem d_CS_add_26 : decode b_CS_add 26 = .ok (.lconst 1, 1) := by decide +kernel
theorem d_CS_add_27 : decode b_CS_add 27 = .ok (.iload_n 1, 1) := by decide +kernel
theorem d_CS_add_28 : decode b_CS_add 28 = .ok (.bipush 64, 2) := by decide +kernel
theorem d_CS_add_30 : decode b_CS_add 30 = .ok (.isub, 1) := by decide +kernel
theorem d_CS_add_31 : decode b_CS_add 31 = .ok (.lshl, 1) := by decide +kernel
theorem d_CS_add_32 : decode b_CS_add 32 = .ok (.lor, 1) := by decide +kernel
theorem d_CS_add_33 : decode b_CS_add 33 = .ok (.putfield 15, 3) := by decide +kernel
theorem d_CS_add_36 : decode b_CS_add 36 = .ok (.return_, 1) := by decide +kernel
abbrev b_CS_has : ByteArray := prog_3_method_5_code
def y_CS_has : MethodName := ⟨"FormulaSheet$CellSet", "has", "(I)Z"⟩
theorem d_CS_has_0 : decode b_CS_has 0 = .ok (.iload_n 1, 1) := by decide +kernel
theorem d_CS_has_1 : decode b_CS_has 1 = .ok (.bipush 64, 2) := by decide +kernel
theorem d_CS_has_3 : decode b_CS_has 3 = .ok (.if_icmp .ge 12, 3) := by decide +kernel
theorem d_CS_has_6 : decode b_CS_has 6 = .ok (.aload_n 0, 1) := by decide +kernel
theorem d_CS_has_7 : decode b_CS_has 7 = .ok (.getfield 9, 3) := by decide +kernel
theorem d_CS_has_10 : decode b_CS_has 10 = .ok (.iload_n 1, 1) := by decide +kernel
theorem d_CS_has_11 : decode b_CS_has 11 = .ok (.lushr, 1) := by decide +kernel
theorem d_CS_has_12 : decode b_CS_has 12 = .ok (.goto 12, 3) := by decide +kernel
theorem d_CS_has_15 : decode b_CS_has 15 = .ok (.aload_n 0, 1) := by decide +kernel
theorem d_CS_has_16 : decode b_CS_has 16 = .ok (.getfield 15, 3) := by decide +kernel
theorem d_CS_has_19 : decode b_CS_has 19 = .ok (.iload_n 1, 1) := by decide +kernel
theorem d_CS_has_20 : decode b_CS_has 20 = .ok (.bipush 64, 2) := by decide +kernel
theorem d_CS_has_22 : decode b_CS_has 22 = .ok (.isub, 1) := by decide +kernel
theorem d_CS_has_23 : decode b_CS_has 23 = .ok (.lushr, 1) := by decide +kernel
theorem d_CS_has_24 : decode b_CS_has 24 = .ok (.lstore_n 2, 1) := by decide +kernel
theorem d_CS_has_25 : decode b_CS_has 25 = .ok (.lload_n 2, 1) := by decide +kernel
theorem d_CS_has_26 : decode b_CS_has 26 = .ok (.lconst 1, 1) := by decide +kernel
theorem d_CS_has_27 : decode b_CS_has 27 = .ok (.land, 1) := by decide +kernel
theorem d_CS_has_28 : decode b_CS_has 28 = .ok (.lconst 0, 1) := by decide +kernel
theorem d_CS_has_29 : decode b_CS_has 29 = .ok (.lcmp, 1) := by decide +kernel
theorem d_CS_has_30 : decode b_CS_has 30 = .ok (.ifCond .eq 7, 3) := by decide +kernel
theorem d_CS_has_33 : decode b_CS_has 33 = .ok (.iconst 1, 1) := by decide +kernel
theorem d_CS_has_34 : decode b_CS_has 34 = .ok (.goto 4, 3) := by decide +kernel
theorem d_CS_has_37 : decode b_CS_has 37 = .ok (.iconst 0, 1) := by decide +kernel
theorem d_CS_has_38 : decode b_CS_has 38 = .ok (.ireturn, 1) := by decide +kernel
abbrev b_CS_addAll : ByteArray := prog_3_method_4_code
def y_CS_addAll : MethodName := ⟨"FormulaSheet$CellSet", "addAll", "(LFormulaSheet$CellSet;)V"⟩
theorem d_CS_addAll_0 : decode b_CS_addAll 0 = .ok (.aload_n 0, 1) := by decide +kernel
theorem d_CS_addAll_1 : decode b_CS_addAll 1 = .ok (.dup, 1) := by decide +kernel
theorem d_CS_addAll_2 : decode b_CS_addAll 2 = .ok (.getfield 9, 3) := by decide +kernel
theorem d_CS_addAll_5 : decode b_CS_addAll 5 = .ok (.aload_n 1, 1) := by decide +kernel
theorem d_CS_addAll_6 : decode b_CS_addAll 6 = .ok (.getfield 9, 3) := by decide +kernel
theorem d_CS_addAll_9 : decode b_CS_addAll 9 = .ok (.lor, 1) := by decide +kernel
theorem d_CS_addAll_10 : decode b_CS_addAll 10 = .ok (.putfield 9, 3) := by decide +kernel
theorem d_CS_addAll_13 : decode b_CS_addAll 13 = .ok (.aload_n 0, 1) := by decide +kernel
theorem d_CS_addAll_14 : decode b_CS_addAll 14 = .ok (.dup, 1) := by decide +kernel
theorem d_CS_addAll_15 : decode b_CS_addAll 15 = .ok (.getfield 15, 3) := by decide +kernel
theorem d_CS_addAll_18 : decode b_CS_addAll 18 = .ok (.aload_n 1, 1) := by decide +kernel
theorem d_CS_addAll_19 : decode b_CS_addAll 19 = .ok (.getfield 15, 3) := by decide +kernel
theorem d_CS_addAll_22 : decode b_CS_addAll 22 = .ok (.lor, 1) := by decide +kernel
theorem d_CS_addAll_23 : decode b_CS_addAll 23 = .ok (.putfield 15, 3) := by decide +kernel
theorem d_CS_addAll_26 : decode b_CS_addAll 26 = .ok (.return_, 1) := by decide +kernel
abbrev b_CS_size : ByteArray := prog_3_method_6_code
def y_CS_size : MethodName := ⟨"FormulaSheet$CellSet", "size", "()I"⟩
theorem d_CS_size_0 : decode b_CS_size 0 = .ok (.aload_n 0, 1) := by decide +kernel
theorem d_CS_size_1 : decode b_CS_size 1 = .ok (.getfield 9, 3) := by decide +kernel
theorem d_CS_size_4 : decode b_CS_size 4 = .ok (.invokestatic 18, 3) := by decide +kernel
theorem d_CS_size_7 : decode b_CS_size 7 = .ok (.aload_n 0, 1) := by decide +kernel
theorem d_CS_size_8 : decode b_CS_size 8 = .ok (.getfield 15, 3) := by decide +kernel
theorem d_CS_size_11 : decode b_CS_size 11 = .ok (.invokestatic 18, 3) := by decide +kernel
theorem d_CS_size_14 : decode b_CS_size 14 = .ok (.iadd, 1) := by decide +kernel
theorem d_CS_size_15 : decode b_CS_size 15 = .ok (.ireturn, 1) := by decide +kernel
theorem tw_131 : lw_tbl[131]? = some (Jvm.Cond.instanceMethod ({ cls := "java/lang/Object", name := "<init>", desc := "()V" } : Jvm.MethodName)) := by decide +kernel
theorem tw_132 : lw_tbl[132]? = some (Jvm.Cond.code ({ cls := "java/lang/Object", name := "<init>", desc := "()V" } : Jvm.MethodName) object_method_1_code (1 : Nat) (Option.none : Option Jvm.ClassFile.FieldType)) := by decide +kernel
theorem tw_169 : lw_tbl[169]? = some (Jvm.Cond.methodLink "FormulaSheet$CellSet" (3 : Nat) ({ cls := "java/lang/Object", name := "<init>", desc := "()V" } : Jvm.MethodName)) := by decide +kernel
theorem tw_170 : lw_tbl[170]? = some (Jvm.Cond.fieldLink "FormulaSheet$CellSet" (9 : Nat) "FormulaSheet$CellSet" "low" "J") := by decide +kernel
theorem tw_171 : lw_tbl[171]? = some (Jvm.Cond.fieldLink "FormulaSheet$CellSet" (15 : Nat) "FormulaSheet$CellSet" "high" "J") := by decide +kernel
set_option maxHeartbeats 4000000 in
set_option maxRecDepth 100000 in
/-- CellSet(): nothing changes -/
theorem k_CS_init {l : Launch} {s00 : State} {G : fs_G} (hSt : fs_St l s00 G) {h : fs_Hp} {a : Nat} {lo hi : Int64} (ha : h a = some (.inr (3, [.long lo, .long hi]))) : fs_Ct l s00 G y_CS_init (.code y_CS_init b_CS_init 1 none) { frames := 1, cells := 0, slots := 0, locals := 12 } [.ref a] h (fun o h' => o = .inl none ∧ h' = h) := by
  refine fs_Ct.ofW hSt (by decide) ?_
  intro p e s m below meth c B hout hP
  obtain ⟨hx, hb, hr, hml, hown, hts, hlocks, hname, hK, hw, htr⟩ := id B
  have hown : s.vm.findClass "FormulaSheet$CellSet" = some m.cls := hown
  have hS := hw.S
  have hA : ∀ q : Nat, s00.heap.size ≤ q → fs_A s00 q := fun _ h9 => h9
  generalize hH : s.heap = H at hP hS ⊢
  have hH0 : s.heap.size ≤ H.size := by rw [hH]; exact Nat.le_refl _
  have hl := lv_entry ([.ref a]) (n := 1) (Nat.le_of_ble_eq_true rfl)
  rw [lg_entry_eq]
  generalize (lg_sl ([.ref a]) ++ List.replicate (1 - (lg_sl ([.ref a])).length) Slot.unset).toArray = ls at hl ⊢
  have hl : lv_has ls 1 [(0, .ref a)] := hl
  refine lv_aload_n hx hb d_CS_init_0 rfl (lv_at hl 0 rfl) ?_
  refine W.objInit hx hb hown (hts _ (fs_tb_at 169 tw_169 rfl)) (hts _ (fs_tb_at 131 tw_131 rfl)) (hts _ (fs_tb_at 132 tw_132 rfl)) rfl (by rw [hml]; exact hl.1) rfl d_CS_init_1 (Nat.le_of_ble_eq_true rfl) (Nat.le_of_ble_eq_true rfl) ?_
  refine W.eq (g2 := F0 m 4 ls ([])) rfl ?_
  exact fs_vret hx hb hr hlocks hw hP hS (by omega) (by omega) (⟨rfl, rfl⟩) d_CS_init_4
set_option maxHeartbeats 4000000 in
set_option maxRecDepth 100000 in
/-- clear: the empty set -/
theorem k_CS_clear {l : Launch} {s00 : State} {G : fs_G} (hSt : fs_St l s00 G) {h : fs_Hp} {a : Nat} {lo hi : Int64} (ha : h a = some (.inr (3, [.long lo, .long hi]))) : fs_Ct l s00 G y_CS_clear (.code y_CS_clear b_CS_clear 1 none) { frames := 0, cells := 0, slots := 0, locals := 0 } [.ref a] h (fun o h' => o = .inl none ∧ h' = fs_up h a (.inr (3, [.long 0, .long 0]))) := by
  refine fs_Ct.ofW hSt (by decide) ?_
  intro p e s m below meth c B hout hP
  obtain ⟨hx, hb, hr, hml, hown, hts, hlocks, hname, hK, hw, htr⟩ := id B
  have hown : s.vm.findClass "FormulaSheet$CellSet" = some m.cls := hown
  have hS := hw.S
  have hA : ∀ q : Nat, s00.heap.size ≤ q → fs_A s00 q := fun _ h9 => h9
  generalize hH : s.heap = H at hP hS ⊢
  have hH0 : s.heap.size ≤ H.size := by rw [hH]; exact Nat.le_refl _
  have hl := lv_entry ([.ref a]) (n := 1) (Nat.le_of_ble_eq_true rfl)
  rw [lg_entry_eq]
  generalize (lg_sl ([.ref a]) ++ List.replicate (1 - (lg_sl ([.ref a])).length) Slot.unset).toArray = ls at hl ⊢
  have hl : lv_has ls 1 [(0, .ref a)] := hl
  refine lv_aload_n hx hb d_CS_clear_0 rfl (lv_at hl 0 rfl) ?_
  refine lv_lconst (v := 0) hx hb d_CS_clear_1 (by decide) ?_
  refine fs_put hx hb hts hown hK c_CS hP hS ha 0 (by decide) (hts _ (fs_tb_at 170 tw_170 rfl)) (fun _ h9 => h9) rfl rfl rfl (Nat.le_of_ble_eq_true rfl) d_CS_clear_2 (fun H locs hP hS => ?_)
  obtain ⟨h1, eh2⟩ : ∃ x, x = fs_up h a (.inr (3, [.long 0, .long hi])) := ⟨_, rfl⟩
  have hP : fs_P G.1 fs_cl (fs_A s00) h1 H := by rw [eh2]; exact hP
  have q_3 : h1 a = some (.inr (3, [.long 0, .long hi])) := by rw [eh2]; exact fs_up_self
  refine lv_aload_n hx hb d_CS_clear_5 rfl (lv_at hl 0 rfl) ?_
  refine lv_lconst (v := 0) hx hb d_CS_clear_6 (by decide) ?_
  refine fs_put hx hb hts hown hK c_CS hP hS q_3 1 (by decide) (hts _ (fs_tb_at 171 tw_171 rfl)) (fun _ h9 => h9) rfl rfl rfl (Nat.le_of_ble_eq_true rfl) d_CS_clear_7 (fun H locs hP hS => ?_)
  obtain ⟨h4, eh5⟩ : ∃ x, x = fs_up h1 a (.inr (3, [.long 0, .long 0])) := ⟨_, rfl⟩
  have hP : fs_P G.1 fs_cl (fs_A s00) h4 H := by rw [eh5]; exact hP
  have q_6 : h4 a = some (.inr (3, [.long 0, .long 0])) := by rw [eh5]; exact fs_up_self
  exact fs_vret hx hb hr hlocks hw hP hS (by omega) (by omega) (⟨rfl, by rw [eh5, eh2]; exact fs_uu⟩) d_CS_clear_10
set_option maxHeartbeats 4000000 in
set_option maxRecDepth 100000 in
/-- add -/
theorem k_CS_add {l : Launch} {s00 : State} {G : fs_G} (hSt : fs_St l s00 G) {h : fs_Hp} {a : Nat} {lo hi : Int64} (ha : h a = some (.inr (3, [.long lo, .long hi]))) (i : Int32) : fs_Ct l s00 G y_CS_add (.code y_CS_add b_CS_add 2 none) { frames := 0, cells := 0, slots := 0, locals := 0 } [.ref a, .int i] h (fun o h' => o = .inl none ∧ h' = fs_up h a (.inr (3, [.long (cs_addL lo i), .long (cs_addH hi i)]))) := by
  refine fs_Ct.ofW hSt (by decide) ?_
  intro p e s m below meth c B hout hP
  obtain ⟨hx, hb, hr, hml, hown, hts, hlocks, hname, hK, hw, htr⟩ := id B
  have hown : s.vm.findClass "FormulaSheet$CellSet" = some m.cls := hown
  have hS := hw.S
  have hA : ∀ q : Nat, s00.heap.size ≤ q → fs_A s00 q := fun _ h9 => h9
  generalize hH : s.heap = H at hP hS ⊢
  have hH0 : s.heap.size ≤ H.size := by rw [hH]; exact Nat.le_refl _
  have hl := lv_entry ([.ref a, .int i]) (n := 2) (Nat.le_of_ble_eq_true rfl)
  rw [lg_entry_eq]
  generalize (lg_sl ([.ref a, .int i]) ++ List.replicate (2 - (lg_sl ([.ref a, .int i])).length) Slot.unset).toArray = ls at hl ⊢
  have hl : lv_has ls 2 [(0, .ref a), (1, .int i)] := hl
  refine lv_iload_n hx hb d_CS_add_0 rfl (lv_at hl 1 rfl) ?_
  refine lv_bipush (v := 64) hx hb d_CS_add_1 (by decide) ?_
  refine lv_icmp_ge (tgt := 21) hx hb d_CS_add_3 (by decide) (fun c_7 => ?_) (fun c_7 => ?_)
  · refine lv_aload_n hx hb d_CS_add_21 rfl (lv_at hl 0 rfl) ?_
    refine lv_dup hx hb d_CS_add_22 rfl ?_
    refine fs_get hx hb hts hown hK c_CS hP ha 1 (by decide) (hts _ (fs_tb_at 171 tw_171 rfl)) (fun _ h9 => h9) rfl d_CS_add_23 ?_
    refine lv_lconst (v := 1) hx hb d_CS_add_26 (by decide) ?_
    refine lv_iload_n hx hb d_CS_add_27 rfl (lv_at hl 1 rfl) ?_
    refine lv_bipush (v := 64) hx hb d_CS_add_28 (by decide) ?_
    refine lv_isub hx hb d_CS_add_30 ?_
    refine lv_lshl hx hb d_CS_add_31 rfl ?_
    refine lv_lor hx hb d_CS_add_32 ?_
    refine fs_put hx hb hts hown hK c_CS hP hS ha 1 (by decide) (hts _ (fs_tb_at 171 tw_171 rfl)) (fun _ h9 => h9) rfl rfl rfl (Nat.le_of_ble_eq_true rfl) d_CS_add_33 (fun H locs hP hS => ?_)
    obtain ⟨h8, eh9⟩ : ∃ x, x = fs_up h a (.inr (3, [.long lo, .long (hi ||| (1 <<< (Int32.toInt64 (i - 64) &&& 63)))])) := ⟨_, rfl⟩
    have hP : fs_P G.1 fs_cl (fs_A s00) h8 H := by rw [eh9]; exact hP
    have q_10 : h8 a = some (.inr (3, [.long lo, .long (hi ||| (1 <<< (Int32.toInt64 (i - 64) &&& 63)))])) := by rw [eh9]; exact fs_up_self
    exact fs_vret hx hb hr hlocks hw hP hS (by omega) (by omega) (⟨rfl, by rw [eh9]; simp only [cs_addL, cs_addH, c_7, if_true, if_false]⟩) d_CS_add_36
  · refine lv_aload_n hx hb d_CS_add_6 rfl (lv_at hl 0 rfl) ?_
    refine lv_dup hx hb d_CS_add_7 rfl ?_
    refine fs_get hx hb hts hown hK c_CS hP ha 0 (by decide) (hts _ (fs_tb_at 170 tw_170 rfl)) (fun _ h9 => h9) rfl d_CS_add_8 ?_
    refine lv_lconst (v := 1) hx hb d_CS_add_11 (by decide) ?_
    refine lv_iload_n hx hb d_CS_add_12 rfl (lv_at hl 1 rfl) ?_
    refine lv_lshl hx hb d_CS_add_13 rfl ?_
    refine lv_lor hx hb d_CS_add_14 ?_
    refine fs_put hx hb hts hown hK c_CS hP hS ha 0 (by decide) (hts _ (fs_tb_at 170 tw_170 rfl)) (fun _ h9 => h9) rfl rfl rfl (Nat.le_of_ble_eq_true rfl) d_CS_add_15 (fun H locs hP hS => ?_)
    obtain ⟨h11, eh12⟩ : ∃ x, x = fs_up h a (.inr (3, [.long (lo ||| (1 <<< (Int32.toInt64 i &&& 63))), .long hi])) := ⟨_, rfl⟩
    have hP : fs_P G.1 fs_cl (fs_A s00) h11 H := by rw [eh12]; exact hP
    have q_13 : h11 a = some (.inr (3, [.long (lo ||| (1 <<< (Int32.toInt64 i &&& 63))), .long hi])) := by rw [eh12]; exact fs_up_self
    refine lv_goto (tgt := 36) hx hb d_CS_add_18 (by decide) ?_
    exact fs_vret hx hb hr hlocks hw hP hS (by omega) (by omega) (⟨rfl, by rw [eh12]; simp only [cs_addL, cs_addH, c_7, if_true, if_false]⟩) d_CS_add_36
set_option maxHeartbeats 4000000 in
set_option maxRecDepth 100000 in
/-- has: 1 or 0 -/
theorem k_CS_has {l : Launch} {s00 : State} {G : fs_G} (hSt : fs_St l s00 G) {h : fs_Hp} {a : Nat} {lo hi : Int64} (ha : h a = some (.inr (3, [.long lo, .long hi]))) (i : Int32) : fs_Ct l s00 G y_CS_has (.code y_CS_has b_CS_has 4 (some .boolean)) { frames := 0, cells := 0, slots := 0, locals := 0 } [.ref a, .int i] h (fun o h' => o = .inl (some (.int (cs_has lo hi i))) ∧ h' = h) := by
  refine fs_Ct.ofW hSt (by decide) ?_
  intro p e s m below meth c B hout hP
  obtain ⟨hx, hb, hr, hml, hown, hts, hlocks, hname, hK, hw, htr⟩ := id B
  have hown : s.vm.findClass "FormulaSheet$CellSet" = some m.cls := hown
  have hS := hw.S
  have hA : ∀ q : Nat, s00.heap.size ≤ q → fs_A s00 q := fun _ h9 => h9
  generalize hH : s.heap = H at hP hS ⊢
  have hH0 : s.heap.size ≤ H.size := by rw [hH]; exact Nat.le_refl _
  have hl := lv_entry ([.ref a, .int i]) (n := 4) (Nat.le_of_ble_eq_true rfl)
  rw [lg_entry_eq]
  generalize (lg_sl ([.ref a, .int i]) ++ List.replicate (4 - (lg_sl ([.ref a, .int i])).length) Slot.unset).toArray = ls at hl ⊢
  have hl : lv_has ls 4 [(0, .ref a), (1, .int i)] := hl
  refine lv_iload_n hx hb d_CS_has_0 rfl (lv_at hl 1 rfl) ?_
  refine lv_bipush (v := 64) hx hb d_CS_has_1 (by decide) ?_
  refine lv_icmp_ge (tgt := 15) hx hb d_CS_has_3 (by decide) (fun c_14 => ?_) (fun c_14 => ?_)
  · refine lv_aload_n hx hb d_CS_has_15 rfl (lv_at hl 0 rfl) ?_
    refine fs_get hx hb hts hown hK c_CS hP ha 1 (by decide) (hts _ (fs_tb_at 171 tw_171 rfl)) (fun _ h9 => h9) rfl d_CS_has_16 ?_
    refine lv_iload_n hx hb d_CS_has_19 rfl (lv_at hl 1 rfl) ?_
    refine lv_bipush (v := 64) hx hb d_CS_has_20 (by decide) ?_
    refine lv_isub hx hb d_CS_has_22 ?_
    refine lv_lushr hx hb d_CS_has_23 rfl ?_
    refine lv_lstore_n (lv' := [(2, .long ((Int64.toUInt64 hi >>> ((Int32.toInt64 (i - 64)).toUInt64 &&& Int64.toUInt64 63)).toInt64)), (0, .ref a), (1, .int i)]) hx hb d_CS_has_24 rfl hl (by decide) rfl (fun ls hl => ?_)
    refine lv_lload_n hx hb d_CS_has_25 rfl (lv_at hl 0 rfl) ?_
    refine lv_lconst (v := 1) hx hb d_CS_has_26 (by decide) ?_
    refine lv_land hx hb d_CS_has_27 ?_
    refine lv_lconst (v := 0) hx hb d_CS_has_28 (by decide) ?_
    refine W.lcmp hx hb d_CS_has_29 ?_
    refine lv_if_eq (tgt := 37) hx hb d_CS_has_30 (by decide) (fun c_15 => ?_) (fun c_15 => ?_)
    · refine lv_iconst (v := 0) hx hb d_CS_has_37 (by decide) ?_
      exact fs_iret hx hb hr hlocks hw hP hS rfl (by omega) (by omega) (⟨by simp only [cs_has, cs_bit, c_14, c_15, if_true, if_false], rfl⟩) d_CS_has_38
    · refine lv_iconst (v := 1) hx hb d_CS_has_33 (by decide) ?_
      refine lv_goto (tgt := 38) hx hb d_CS_has_34 (by decide) ?_
      exact fs_iret hx hb hr hlocks hw hP hS rfl (by omega) (by omega) (⟨by simp only [cs_has, cs_bit, c_14, c_15, if_true, if_false], rfl⟩) d_CS_has_38
  · refine lv_aload_n hx hb d_CS_has_6 rfl (lv_at hl 0 rfl) ?_
    refine fs_get hx hb hts hown hK c_CS hP ha 0 (by decide) (hts _ (fs_tb_at 170 tw_170 rfl)) (fun _ h9 => h9) rfl d_CS_has_7 ?_
    refine lv_iload_n hx hb d_CS_has_10 rfl (lv_at hl 1 rfl) ?_
    refine lv_lushr hx hb d_CS_has_11 rfl ?_
    refine lv_goto (tgt := 24) hx hb d_CS_has_12 (by decide) ?_
    refine lv_lstore_n (lv' := [(2, .long ((Int64.toUInt64 lo >>> ((Int32.toInt64 i).toUInt64 &&& Int64.toUInt64 63)).toInt64)), (0, .ref a), (1, .int i)]) hx hb d_CS_has_24 rfl hl (by decide) rfl (fun ls hl => ?_)
    refine lv_lload_n hx hb d_CS_has_25 rfl (lv_at hl 0 rfl) ?_
    refine lv_lconst (v := 1) hx hb d_CS_has_26 (by decide) ?_
    refine lv_land hx hb d_CS_has_27 ?_
    refine lv_lconst (v := 0) hx hb d_CS_has_28 (by decide) ?_
    refine W.lcmp hx hb d_CS_has_29 ?_
    refine lv_if_eq (tgt := 37) hx hb d_CS_has_30 (by decide) (fun c_16 => ?_) (fun c_16 => ?_)
    · refine lv_iconst (v := 0) hx hb d_CS_has_37 (by decide) ?_
      exact fs_iret hx hb hr hlocks hw hP hS rfl (by omega) (by omega) (⟨by simp only [cs_has, cs_bit, c_14, c_16, if_true, if_false], rfl⟩) d_CS_has_38
    · refine lv_iconst (v := 1) hx hb d_CS_has_33 (by decide) ?_
      refine lv_goto (tgt := 38) hx hb d_CS_has_34 (by decide) ?_
      exact fs_iret hx hb hr hlocks hw hP hS rfl (by omega) (by omega) (⟨by simp only [cs_has, cs_bit, c_14, c_16, if_true, if_false], rfl⟩) d_CS_has_38
set_option maxHeartbeats 4000000 in
set_option maxRecDepth 100000 in
/-- addAll of another set -/
theorem k_CS_addAll {l : Launch} {s00 : State} {G : fs_G} (hSt : fs_St l s00 G) {h : fs_Hp} {a : Nat} {lo hi : Int64} (ha : h a = some (.inr (3, [.long lo, .long hi]))) {b : Nat} {lo2 hi2 : Int64} (hb1 : h b = some (.inr (3, [.long lo2, .long hi2]))) (hne : b ≠ a) : fs_Ct l s00 G y_CS_addAll (.code y_CS_addAll b_CS_addAll 2 none) { frames := 0, cells := 0, slots := 0, locals := 0 } [.ref a, .ref b] h (fun o h' => o = .inl none ∧ h' = fs_up h a (.inr (3, [.long (lo ||| lo2), .long (hi ||| hi2)]))) := by
  refine fs_Ct.ofW hSt (by decide) ?_
  intro p e s m below meth c B hout hP
  obtain ⟨hx, hb, hr, hml, hown, hts, hlocks, hname, hK, hw, htr⟩ := id B
  have hown : s.vm.findClass "FormulaSheet$CellSet" = some m.cls := hown
  have hS := hw.S
  have hA : ∀ q : Nat, s00.heap.size ≤ q → fs_A s00 q := fun _ h9 => h9
  generalize hH : s.heap = H at hP hS ⊢
  have hH0 : s.heap.size ≤ H.size := by rw [hH]; exact Nat.le_refl _
  have hl := lv_entry ([.ref a, .ref b]) (n := 2) (Nat.le_of_ble_eq_true rfl)
  rw [lg_entry_eq]
  generalize (lg_sl ([.ref a, .ref b]) ++ List.replicate (2 - (lg_sl ([.ref a, .ref b])).length) Slot.unset).toArray = ls at hl ⊢
  have hl : lv_has ls 2 [(0, .ref a), (1, .ref b)] := hl
  refine lv_aload_n hx hb d_CS_addAll_0 rfl (lv_at hl 0 rfl) ?_
  refine lv_dup hx hb d_CS_addAll_1 rfl ?_
  refine fs_get hx hb hts hown hK c_CS hP ha 0 (by decide) (hts _ (fs_tb_at 170 tw_170 rfl)) (fun _ h9 => h9) rfl d_CS_addAll_2 ?_
  refine lv_aload_n hx hb d_CS_addAll_5 rfl (lv_at hl 1 rfl) ?_
  refine fs_get hx hb hts hown hK c_CS hP hb1 0 (by decide) (hts _ (fs_tb_at 170 tw_170 rfl)) (fun _ h9 => h9) rfl d_CS_addAll_6 ?_
  refine lv_lor hx hb d_CS_addAll_9 ?_
  refine fs_put hx hb hts hown hK c_CS hP hS ha 0 (by decide) (hts _ (fs_tb_at 170 tw_170 rfl)) (fun _ h9 => h9) rfl rfl rfl (Nat.le_of_ble_eq_true rfl) d_CS_addAll_10 (fun H locs hP hS => ?_)
  obtain ⟨h17, eh18⟩ : ∃ x, x = fs_up h a (.inr (3, [.long (lo ||| lo2), .long hi])) := ⟨_, rfl⟩
  have hP : fs_P G.1 fs_cl (fs_A s00) h17 H := by rw [eh18]; exact hP
  have q_19 : h17 a = some (.inr (3, [.long (lo ||| lo2), .long hi])) := by rw [eh18]; exact fs_up_self
  have q_20 : h17 b = some (.inr (3, [.long lo2, .long hi2])) := by rw [eh18, fs_up_ne (hne)]; exact hb1
  refine lv_aload_n hx hb d_CS_addAll_13 rfl (lv_at hl 0 rfl) ?_
  refine lv_dup hx hb d_CS_addAll_14 rfl ?_
  refine fs_get hx hb hts hown hK c_CS hP q_19 1 (by decide) (hts _ (fs_tb_at 171 tw_171 rfl)) (fun _ h9 => h9) rfl d_CS_addAll_15 ?_
  refine lv_aload_n hx hb d_CS_addAll_18 rfl (lv_at hl 1 rfl) ?_
  refine fs_get hx hb hts hown hK c_CS hP q_20 1 (by decide) (hts _ (fs_tb_at 171 tw_171 rfl)) (fun _ h9 => h9) rfl d_CS_addAll_19 ?_
  refine lv_lor hx hb d_CS_addAll_22 ?_
  refine fs_put hx hb hts hown hK c_CS hP hS q_19 1 (by decide) (hts _ (fs_tb_at 171 tw_171 rfl)) (fun _ h9 => h9) rfl rfl rfl (Nat.le_of_ble_eq_true rfl) d_CS_addAll_23 (fun H locs hP hS => ?_)
  obtain ⟨h21, eh22⟩ : ∃ x, x = fs_up h17 a (.inr (3, [.long (lo ||| lo2), .long (hi ||| hi2)])) := ⟨_, rfl⟩
  have hP : fs_P G.1 fs_cl (fs_A s00) h21 H := by rw [eh22]; exact hP
  have q_23 : h21 a = some (.inr (3, [.long (lo ||| lo2), .long (hi ||| hi2)])) := by rw [eh22]; exact fs_up_self
  have q_24 : h21 b = some (.inr (3, [.long lo2, .long hi2])) := by rw [eh22, fs_up_ne (hne)]; exact q_20
  exact fs_vret hx hb hr hlocks hw hP hS (by omega) (by omega) (⟨rfl, by rw [eh22, eh18]; exact fs_uu⟩) d_CS_addAll_26
set_option maxHeartbeats 4000000 in
set_option maxRecDepth 100000 in
/-- addAll of itself -/
theorem k_CS_addSelf {l : Launch} {s00 : State} {G : fs_G} (hSt : fs_St l s00 G) {h : fs_Hp} {a : Nat} {lo hi : Int64} (ha : h a = some (.inr (3, [.long lo, .long hi]))) : fs_Ct l s00 G y_CS_addAll (.code y_CS_addAll b_CS_addAll 2 none) { frames := 0, cells := 0, slots := 0, locals := 0 } [.ref a, .ref a] h (fun o h' => o = .inl none ∧ h' = fs_up h a (.inr (3, [.long (lo ||| lo), .long (hi ||| hi)]))) := by
  refine fs_Ct.ofW hSt (by decide) ?_
  intro p e s m below meth c B hout hP
  obtain ⟨hx, hb, hr, hml, hown, hts, hlocks, hname, hK, hw, htr⟩ := id B
  have hown : s.vm.findClass "FormulaSheet$CellSet" = some m.cls := hown
  have hS := hw.S
  have hA : ∀ q : Nat, s00.heap.size ≤ q → fs_A s00 q := fun _ h9 => h9
  generalize hH : s.heap = H at hP hS ⊢
  have hH0 : s.heap.size ≤ H.size := by rw [hH]; exact Nat.le_refl _
  have hl := lv_entry ([.ref a, .ref a]) (n := 2) (Nat.le_of_ble_eq_true rfl)
  rw [lg_entry_eq]
  generalize (lg_sl ([.ref a, .ref a]) ++ List.replicate (2 - (lg_sl ([.ref a, .ref a])).length) Slot.unset).toArray = ls at hl ⊢
  have hl : lv_has ls 2 [(0, .ref a), (1, .ref a)] := hl
  refine lv_aload_n hx hb d_CS_addAll_0 rfl (lv_at hl 0 rfl) ?_
  refine lv_dup hx hb d_CS_addAll_1 rfl ?_
  refine fs_get hx hb hts hown hK c_CS hP ha 0 (by decide) (hts _ (fs_tb_at 170 tw_170 rfl)) (fun _ h9 => h9) rfl d_CS_addAll_2 ?_
  refine lv_aload_n hx hb d_CS_addAll_5 rfl (lv_at hl 1 rfl) ?_
  refine fs_get hx hb hts hown hK c_CS hP ha 0 (by decide) (hts _ (fs_tb_at 170 tw_170 rfl)) (fun _ h9 => h9) rfl d_CS_addAll_6 ?_
  refine lv_lor hx hb d_CS_addAll_9 ?_
  refine fs_put hx hb hts hown hK c_CS hP hS ha 0 (by decide) (hts _ (fs_tb_at 170 tw_170 rfl)) (fun _ h9 => h9) rfl rfl rfl (Nat.le_of_ble_eq_true rfl) d_CS_addAll_10 (fun H locs hP hS => ?_)
  obtain ⟨h25, eh26⟩ : ∃ x, x = fs_up h a (.inr (3, [.long (lo ||| lo), .long hi])) := ⟨_, rfl⟩
  have hP : fs_P G.1 fs_cl (fs_A s00) h25 H := by rw [eh26]; exact hP
  have q_27 : h25 a = some (.inr (3, [.long (lo ||| lo), .long hi])) := by rw [eh26]; exact fs_up_self
  refine lv_aload_n hx hb d_CS_addAll_13 rfl (lv_at hl 0 rfl) ?_
  refine lv_dup hx hb d_CS_addAll_14 rfl ?_
  refine fs_get hx hb hts hown hK c_CS hP q_27 1 (by decide) (hts _ (fs_tb_at 171 tw_171 rfl)) (fun _ h9 => h9) rfl d_CS_addAll_15 ?_
  refine lv_aload_n hx hb d_CS_addAll_18 rfl (lv_at hl 1 rfl) ?_
  refine fs_get hx hb hts hown hK c_CS hP q_27 1 (by decide) (hts _ (fs_tb_at 171 tw_171 rfl)) (fun _ h9 => h9) rfl d_CS_addAll_19 ?_
  refine lv_lor hx hb d_CS_addAll_22 ?_
  refine fs_put hx hb hts hown hK c_CS hP hS q_27 1 (by decide) (hts _ (fs_tb_at 171 tw_171 rfl)) (fun _ h9 => h9) rfl rfl rfl (Nat.le_of_ble_eq_true rfl) d_CS_addAll_23 (fun H locs hP hS => ?_)
  obtain ⟨h28, eh29⟩ : ∃ x, x = fs_up h25 a (.inr (3, [.long (lo ||| lo), .long (hi ||| hi)])) := ⟨_, rfl⟩
  have hP : fs_P G.1 fs_cl (fs_A s00) h28 H := by rw [eh29]; exact hP
  have q_30 : h28 a = some (.inr (3, [.long (lo ||| lo), .long (hi ||| hi)])) := by rw [eh29]; exact fs_up_self
  exact fs_vret hx hb hr hlocks hw hP hS (by omega) (by omega) (⟨rfl, by rw [eh29, eh26]; exact fs_uu⟩) d_CS_addAll_26
