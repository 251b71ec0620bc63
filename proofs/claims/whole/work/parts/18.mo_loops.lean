/-! The reference: loops. -/
abbrev b_MO_strength : ByteArray := prog_14_method_17_code
def y_MO_strength : MethodName := ⟨"FormulaSheetModel", "strength", "(I)I"⟩
theorem d_MO_strength_0 : decode b_MO_strength 0 = .ok (.iload_n 0, 1) := by decide +kernel
theorem d_MO_strength_1 : decode b_MO_strength 1 = .ok (.lookupswitch 107 #[(33, 101), (35, 101), (38, 99), (42, 105), (43, 103), (45, 103), (47, 105), (60, 101), (61, 101), (62, 101), (124, 99)], 99) := by decide +kernel
theorem d_MO_strength_100 : decode b_MO_strength 100 = .ok (.iconst 1, 1) := by decide +kernel
theorem d_MO_strength_101 : decode b_MO_strength 101 = .ok (.ireturn, 1) := by decide +kernel
theorem d_MO_strength_102 : decode b_MO_strength 102 = .ok (.iconst 2, 1) := by decide +kernel
theorem d_MO_strength_103 : decode b_MO_strength 103 = .ok (.ireturn, 1) := by decide +kernel
theorem d_MO_strength_104 : decode b_MO_strength 104 = .ok (.iconst 3, 1) := by decide +kernel
theorem d_MO_strength_105 : decode b_MO_strength 105 = .ok (.ireturn, 1) := by decide +kernel
theorem d_MO_strength_106 : decode b_MO_strength 106 = .ok (.iconst 4, 1) := by decide +kernel
theorem d_MO_strength_107 : decode b_MO_strength 107 = .ok (.ireturn, 1) := by decide +kernel
theorem d_MO_strength_108 : decode b_MO_strength 108 = .ok (.iload_n 0, 1) := by decide +kernel
theorem d_MO_strength_109 : decode b_MO_strength 109 = .ok (.bipush 10, 2) := by decide +kernel
theorem d_MO_strength_111 : decode b_MO_strength 111 = .ok (.if_icmp .ne 7, 3) := by decide +kernel
theorem d_MO_strength_114 : decode b_MO_strength 114 = .ok (.iconst 5, 1) := by decide +kernel
theorem d_MO_strength_115 : decode b_MO_strength 115 = .ok (.goto 4, 3) := by decide +kernel
theorem d_MO_strength_118 : decode b_MO_strength 118 = .ok (.iconst 0, 1) := by decide +kernel
theorem d_MO_strength_119 : decode b_MO_strength 119 = .ok (.ireturn, 1) := by decide +kernel
abbrev b_MO_filled : ByteArray := prog_14_method_57_code
def y_MO_filled : MethodName := ⟨"FormulaSheetModel", "filled", "(I)I"⟩
theorem d_MO_filled_0 : decode b_MO_filled 0 = .ok (.iconst 0, 1) := by decide +kernel
theorem d_MO_filled_1 : decode b_MO_filled 1 = .ok (.istore_n 2, 1) := by decide +kernel
theorem d_MO_filled_2 : decode b_MO_filled 2 = .ok (.iconst 0, 1) := by decide +kernel
theorem d_MO_filled_3 : decode b_MO_filled 3 = .ok (.istore_n 3, 1) := by decide +kernel
theorem d_MO_filled_4 : decode b_MO_filled 4 = .ok (.iload_n 3, 1) := by decide +kernel
theorem d_MO_filled_5 : decode b_MO_filled 5 = .ok (.bipush 8, 2) := by decide +kernel
theorem d_MO_filled_7 : decode b_MO_filled 7 = .ok (.if_icmp .ge 26, 3) := by decide +kernel
theorem d_MO_filled_10 : decode b_MO_filled 10 = .ok (.aload_n 0, 1) := by decide +kernel
theorem d_MO_filled_11 : decode b_MO_filled 11 = .ok (.getfield 7, 3) := by decide +kernel
theorem d_MO_filled_14 : decode b_MO_filled 14 = .ok (.bipush 10, 2) := by decide +kernel
theorem d_MO_filled_16 : decode b_MO_filled 16 = .ok (.iload_n 3, 1) := by decide +kernel
theorem d_MO_filled_17 : decode b_MO_filled 17 = .ok (.imul, 1) := by decide +kernel
theorem d_MO_filled_18 : decode b_MO_filled 18 = .ok (.iload_n 1, 1) := by decide +kernel
theorem d_MO_filled_19 : decode b_MO_filled 19 = .ok (.iadd, 1) := by decide +kernel
theorem d_MO_filled_20 : decode b_MO_filled 20 = .ok (.iaload, 1) := by decide +kernel
theorem d_MO_filled_21 : decode b_MO_filled 21 = .ok (.ifCond .le 6, 3) := by decide +kernel
theorem d_MO_filled_24 : decode b_MO_filled 24 = .ok (.iinc 2 1, 3) := by decide +kernel
theorem d_MO_filled_27 : decode b_MO_filled 27 = .ok (.iinc 3 1, 3) := by decide +kernel
theorem d_MO_filled_30 : decode b_MO_filled 30 = .ok (.goto (-26), 3) := by decide +kernel
theorem d_MO_filled_33 : decode b_MO_filled 33 = .ok (.iload_n 2, 1) := by decide +kernel
theorem d_MO_filled_34 : decode b_MO_filled 34 = .ok (.ireturn, 1) := by decide +kernel
theorem tw_1456 : lw_tbl[1456]? = some (Jvm.Cond.fieldLink "FormulaSheetModel" (7 : Nat) "FormulaSheetModel" "state" "[I") := by decide +kernel
def p_MO_strength (x1 : Int32) : Int32 := (if x1 = 33 then 2 else (if x1 = 35 then 2 else (if x1 = 38 then 1 else (if x1 = 42 then 4 else (if x1 = 43 then 3 else (if x1 = 45 then 3 else (if x1 = 47 then 4 else (if x1 = 60 then 2 else (if x1 = 61 then 2 else (if x1 = 62 then 2 else (if x1 = 124 then 1 else (if x1 = 10 then 5 else 0))))))))))))
set_option maxHeartbeats 4000000 in
set_option maxRecDepth 100000 in
theorem k_MO_strength {l : Launch} {s00 : State} {G : fs_G} (hSt : fs_St l s00 G) {h : fs_Hp} (x1 : Int32)  : fs_Ct l s00 G y_MO_strength (.code y_MO_strength b_MO_strength 1 (some .int)) { frames := 0, cells := 0, slots := 0, locals := 0 } [.int x1] h (fun o h' => o = .inl (some (.int (p_MO_strength x1))) ∧ h' = h) := by
  refine fs_Ct.ofW hSt (by decide) ?_
  intro p e s m below meth c B hout hP
  obtain ⟨hx, hb, hr, hml, hown, hts, hlocks, hname, hK, hw, htr⟩ := id B
  have hown : s.vm.findClass "FormulaSheetModel" = some m.cls := hown
  have hS := hw.S
  have hA : ∀ q : Nat, s00.heap.size ≤ q → fs_A s00 q := fun _ h9 => h9
  generalize hH : s.heap = H at hP hS ⊢
  have hH0 : s.heap.size ≤ H.size := by rw [hH]; exact Nat.le_refl _
  have hl := lv_entry ([.int x1]) (n := 1) (Nat.le_of_ble_eq_true rfl)
  rw [lg_entry_eq]
  generalize (lg_sl ([.int x1]) ++ List.replicate (1 - (lg_sl ([.int x1])).length) Slot.unset).toArray = ls at hl ⊢
  have hl : lv_has ls 1 [(0, .int x1)] := hl
  refine lv_iload_n hx hb d_MO_strength_0 rfl (lv_at hl 0 rfl) ?_
  by_cases c_39 : x1 = 33
  · refine lv_lookup (off := 101) (tgt := 102) hx hb d_MO_strength_1 (by decide) (by rw [c_39]; decide) (by decide) ?_
    refine lv_iconst (v := 2) hx hb d_MO_strength_102 (by decide) ?_
    have e_ : p_MO_strength x1 = 2 := by rw [p_MO_strength, if_pos c_39]
    exact fs_iret hx hb hr hlocks hw hP hS (by first | rfl | exact vp_nar_int _) (by omega) (by omega) (⟨by rw [e_], rfl⟩) d_MO_strength_103
  · by_cases c_40 : x1 = 35
    · refine lv_lookup (off := 101) (tgt := 102) hx hb d_MO_strength_1 (by decide) (by rw [c_40]; decide) (by decide) ?_
      refine lv_iconst (v := 2) hx hb d_MO_strength_102 (by decide) ?_
      have e_ : p_MO_strength x1 = 2 := by rw [p_MO_strength, if_neg c_39, if_pos c_40]
      exact fs_iret hx hb hr hlocks hw hP hS (by first | rfl | exact vp_nar_int _) (by omega) (by omega) (⟨by rw [e_], rfl⟩) d_MO_strength_103
    · by_cases c_41 : x1 = 38
      · refine lv_lookup (off := 99) (tgt := 100) hx hb d_MO_strength_1 (by decide) (by rw [c_41]; decide) (by decide) ?_
        refine lv_iconst (v := 1) hx hb d_MO_strength_100 (by decide) ?_
        have e_ : p_MO_strength x1 = 1 := by rw [p_MO_strength, if_neg c_39, if_neg c_40, if_pos c_41]
        exact fs_iret hx hb hr hlocks hw hP hS (by first | rfl | exact vp_nar_int _) (by omega) (by omega) (⟨by rw [e_], rfl⟩) d_MO_strength_101
      · by_cases c_42 : x1 = 42
        · refine lv_lookup (off := 105) (tgt := 106) hx hb d_MO_strength_1 (by decide) (by rw [c_42]; decide) (by decide) ?_
          refine lv_iconst (v := 4) hx hb d_MO_strength_106 (by decide) ?_
          have e_ : p_MO_strength x1 = 4 := by rw [p_MO_strength, if_neg c_39, if_neg c_40, if_neg c_41, if_pos c_42]
          exact fs_iret hx hb hr hlocks hw hP hS (by first | rfl | exact vp_nar_int _) (by omega) (by omega) (⟨by rw [e_], rfl⟩) d_MO_strength_107
        · by_cases c_43 : x1 = 43
          · refine lv_lookup (off := 103) (tgt := 104) hx hb d_MO_strength_1 (by decide) (by rw [c_43]; decide) (by decide) ?_
            refine lv_iconst (v := 3) hx hb d_MO_strength_104 (by decide) ?_
            have e_ : p_MO_strength x1 = 3 := by rw [p_MO_strength, if_neg c_39, if_neg c_40, if_neg c_41, if_neg c_42, if_pos c_43]
            exact fs_iret hx hb hr hlocks hw hP hS (by first | rfl | exact vp_nar_int _) (by omega) (by omega) (⟨by rw [e_], rfl⟩) d_MO_strength_105
          · by_cases c_44 : x1 = 45
            · refine lv_lookup (off := 103) (tgt := 104) hx hb d_MO_strength_1 (by decide) (by rw [c_44]; decide) (by decide) ?_
              refine lv_iconst (v := 3) hx hb d_MO_strength_104 (by decide) ?_
              have e_ : p_MO_strength x1 = 3 := by rw [p_MO_strength, if_neg c_39, if_neg c_40, if_neg c_41, if_neg c_42, if_neg c_43, if_pos c_44]
              exact fs_iret hx hb hr hlocks hw hP hS (by first | rfl | exact vp_nar_int _) (by omega) (by omega) (⟨by rw [e_], rfl⟩) d_MO_strength_105
            · by_cases c_45 : x1 = 47
              · refine lv_lookup (off := 105) (tgt := 106) hx hb d_MO_strength_1 (by decide) (by rw [c_45]; decide) (by decide) ?_
                refine lv_iconst (v := 4) hx hb d_MO_strength_106 (by decide) ?_
                have e_ : p_MO_strength x1 = 4 := by rw [p_MO_strength, if_neg c_39, if_neg c_40, if_neg c_41, if_neg c_42, if_neg c_43, if_neg c_44, if_pos c_45]
                exact fs_iret hx hb hr hlocks hw hP hS (by first | rfl | exact vp_nar_int _) (by omega) (by omega) (⟨by rw [e_], rfl⟩) d_MO_strength_107
              · by_cases c_46 : x1 = 60
                · refine lv_lookup (off := 101) (tgt := 102) hx hb d_MO_strength_1 (by decide) (by rw [c_46]; decide) (by decide) ?_
                  refine lv_iconst (v := 2) hx hb d_MO_strength_102 (by decide) ?_
                  have e_ : p_MO_strength x1 = 2 := by rw [p_MO_strength, if_neg c_39, if_neg c_40, if_neg c_41, if_neg c_42, if_neg c_43, if_neg c_44, if_neg c_45, if_pos c_46]
                  exact fs_iret hx hb hr hlocks hw hP hS (by first | rfl | exact vp_nar_int _) (by omega) (by omega) (⟨by rw [e_], rfl⟩) d_MO_strength_103
                · by_cases c_47 : x1 = 61
                  · refine lv_lookup (off := 101) (tgt := 102) hx hb d_MO_strength_1 (by decide) (by rw [c_47]; decide) (by decide) ?_
                    refine lv_iconst (v := 2) hx hb d_MO_strength_102 (by decide) ?_
                    have e_ : p_MO_strength x1 = 2 := by rw [p_MO_strength, if_neg c_39, if_neg c_40, if_neg c_41, if_neg c_42, if_neg c_43, if_neg c_44, if_neg c_45, if_neg c_46, if_pos c_47]
                    exact fs_iret hx hb hr hlocks hw hP hS (by first | rfl | exact vp_nar_int _) (by omega) (by omega) (⟨by rw [e_], rfl⟩) d_MO_strength_103
                  · by_cases c_48 : x1 = 62
                    · refine lv_lookup (off := 101) (tgt := 102) hx hb d_MO_strength_1 (by decide) (by rw [c_48]; decide) (by decide) ?_
                      refine lv_iconst (v := 2) hx hb d_MO_strength_102 (by decide) ?_
                      have e_ : p_MO_strength x1 = 2 := by rw [p_MO_strength, if_neg c_39, if_neg c_40, if_neg c_41, if_neg c_42, if_neg c_43, if_neg c_44, if_neg c_45, if_neg c_46, if_neg c_47, if_pos c_48]
                      exact fs_iret hx hb hr hlocks hw hP hS (by first | rfl | exact vp_nar_int _) (by omega) (by omega) (⟨by rw [e_], rfl⟩) d_MO_strength_103
                    · by_cases c_49 : x1 = 124
                      · refine lv_lookup (off := 99) (tgt := 100) hx hb d_MO_strength_1 (by decide) (by rw [c_49]; decide) (by decide) ?_
                        refine lv_iconst (v := 1) hx hb d_MO_strength_100 (by decide) ?_
                        have e_ : p_MO_strength x1 = 1 := by rw [p_MO_strength, if_neg c_39, if_neg c_40, if_neg c_41, if_neg c_42, if_neg c_43, if_neg c_44, if_neg c_45, if_neg c_46, if_neg c_47, if_neg c_48, if_pos c_49]
                        exact fs_iret hx hb hr hlocks hw hP hS (by first | rfl | exact vp_nar_int _) (by omega) (by omega) (⟨by rw [e_], rfl⟩) d_MO_strength_101
                      · refine lv_lookup (off := 107) (tgt := 108) hx hb d_MO_strength_1 (by decide) ((lv_osw (a := 33) c_39 (by decide)).trans ((lv_osw (a := 35) c_40 (by decide)).trans ((lv_osw (a := 38) c_41 (by decide)).trans ((lv_osw (a := 42) c_42 (by decide)).trans ((lv_osw (a := 43) c_43 (by decide)).trans ((lv_osw (a := 45) c_44 (by decide)).trans ((lv_osw (a := 47) c_45 (by decide)).trans ((lv_osw (a := 60) c_46 (by decide)).trans ((lv_osw (a := 61) c_47 (by decide)).trans ((lv_osw (a := 62) c_48 (by decide)).trans ((lv_osw (a := 124) c_49 (by decide)).trans rfl))))))))))) (by decide) ?_
                        refine lv_iload_n hx hb d_MO_strength_108 rfl (lv_at hl 0 rfl) ?_
                        refine lv_bipush (v := 10) hx hb d_MO_strength_109 (by decide) ?_
                        refine lv_icmp_ne (tgt := 118) hx hb d_MO_strength_111 (by decide) (fun c_50 => ?_) (fun c_50 => ?_)
                        · refine lv_iconst (v := 0) hx hb d_MO_strength_118 (by decide) ?_
                          have e_ : p_MO_strength x1 = 0 := by rw [p_MO_strength, if_neg c_39, if_neg c_40, if_neg c_41, if_neg c_42, if_neg c_43, if_neg c_44, if_neg c_45, if_neg c_46, if_neg c_47, if_neg c_48, if_neg c_49, if_neg c_50]
                          exact fs_iret hx hb hr hlocks hw hP hS (by first | rfl | exact vp_nar_int _) (by omega) (by omega) (⟨by rw [e_], rfl⟩) d_MO_strength_119
                        · refine lv_iconst (v := 5) hx hb d_MO_strength_114 (by decide) ?_
                          refine lv_goto (tgt := 119) hx hb d_MO_strength_115 (by decide) ?_
                          have e_ : p_MO_strength x1 = 5 := by rw [p_MO_strength, if_neg c_39, if_neg c_40, if_neg c_41, if_neg c_42, if_neg c_43, if_neg c_44, if_neg c_45, if_neg c_46, if_neg c_47, if_neg c_48, if_neg c_49, if_pos c_50]
                          exact fs_iret hx hb hr hlocks hw hP hS (by first | rfl | exact vp_nar_int _) (by omega) (by omega) (⟨by rw [e_], rfl⟩) d_MO_strength_119
def p_MO_filled_L4 : Nat → Int32 → Int32 → Int32 → mo_S → Int32 × Int32
  | 0, z1, z2, z3, M1 => (z2, z3)
  | n + 1, z1, z2, z3, M1 => (if 8 ≤ z3 then (z2, z3) else (if (M1.2.1 0 (Int32.toNatClampNeg ((10 * z3) + z1))) ≤ 0 then p_MO_filled_L4 n z1 z2 (z3 + 1) M1 else p_MO_filled_L4 n z1 (z2 + 1) (z3 + 1) M1))
def p_MO_filled (M : mo_S) (x1 : Int32) : Int32 × mo_S := (match p_MO_filled_L4 (9) x1 0 0 M with | (y53, y54) => (y53, M))
theorem ke_MO_filled (M : mo_S) (x1 : Int32) : (p_MO_filled M x1).2 = M := by unfold p_MO_filled; (repeat' split) <;> rfl
set_option maxHeartbeats 4000000 in
set_option maxRecDepth 100000 in
theorem l_MO_filled_4 {p : Program} {l : Launch} {e : Env} {R : Room} {s : State} {m : MethodId} {args : Array Value} {below : List Frame} {meth : Method} {c : Code} {Q : State → Prop} {s00 : State} {G : fs_G} (hSt : fs_St l s00 G) (B : fs_B p l e s m args meth c s00 G y_MO_filled b_MO_filled 4 (some .int)) {h : fs_Hp} {a : Nat} {ad : Nat → Nat} (hR : 0 ≤ R.frames ∧ 0 ≤ R.locals) : ∀ (n : Nat) (z1 : Int32) (z2 : Int32) (z3 : Int32) (M1 : mo_S) (h1 : fs_Hp) (H : Heap) (locs : List Loc) (ls : Array Slot), (8 - z3.toInt).toNat < n → 0 ≤ z3.toInt ∧ z3.toInt ≤ 8 ∧ 0 ≤ z1.toInt ∧ z1.toInt < 10 → fs_P G.1 fs_cl (fs_A s00) h1 H → va_S (fs_A s00) s00.heap H locs → mo_at G h1 a ad M1 → mo_fr a ad h h1 → lv_has ls 4 [(0, .ref a), (1, .int z1), (2, .int z2), (3, .int z3)] → (∀ (z2' : Int32) (z3' : Int32) (h' : fs_Hp) (H : Heap) (locs : List Loc) (ls : Array Slot), p_MO_filled_L4 n z1 z2 z3 M1 = (z2', z3') → 0 ≤ z3'.toInt ∧ z3'.toInt ≤ 8 ∧ 0 ≤ z1.toInt ∧ z1.toInt < 10 → fs_P G.1 fs_cl (fs_A s00) h' H → va_S (fs_A s00) s00.heap H locs → mo_at G h' a ad M1 → mo_fr a ad h h' → lv_has ls 4 [(0, .ref a), (1, .int z1), (2, .int z2'), (3, .int z3')] → W p l e R s m args below meth c H locs 0 0 Q (F0 m 33 ls [])) → W p l e R s m args below meth c H locs 0 0 Q (F0 m 4 ls []) := by
  obtain ⟨hx, hb, hr, hml, hown, hts, hlocks, hname, hK, hw, htr⟩ := id B
  have hown : s.vm.findClass "FormulaSheetModel" = some m.cls := hown
  intro n
  induction n with
  | zero => intro z1 z2 z3 M1 h1 H locs ls hn; exact absurd hn (Nat.not_lt_zero _)
  | succ n ih =>
    intro z1 z2 z3 M1 h1 H locs ls hn hI hP hS hM hf hl kk
    refine lv_iload_n hx hb d_MO_filled_4 rfl (lv_at hl 3 rfl) ?_
    refine lv_bipush (v := 8) hx hb d_MO_filled_5 (by decide) ?_
    refine lv_icmp_ge (tgt := 33) hx hb d_MO_filled_7 (by decide) (fun c_51 => ?_) (fun c_51 => ?_)
    · have e_ : p_MO_filled_L4 (n + 1) z1 z2 z3 M1 = (z2, z3) := by rw [p_MO_filled_L4, if_pos c_51]
      exact kk _ _ _ _ _ _ e_ (hI) hP hS hM hf (lv_sub hl [0, 1, 2, 3] rfl)
    · refine lv_aload_n hx hb d_MO_filled_10 rfl (lv_at hl 0 rfl) ?_
      refine fs_get hx hb hts hown hK c_MO hP hM.1 0 (by decide) (hts _ (fs_tb_at 1456 tw_1456 rfl)) (fun _ h9 => h9) rfl d_MO_filled_11 ?_
      refine lv_bipush (v := 10) hx hb d_MO_filled_14 (by decide) ?_
      refine lv_iload_n hx hb d_MO_filled_16 rfl (lv_at hl 3 rfl) ?_
      refine lv_imul hx hb d_MO_filled_17 ?_
      refine lv_iload_n hx hb d_MO_filled_18 rfl (lv_at hl 1 rfl) ?_
      refine lv_iadd hx hb d_MO_filled_19 ?_
      have hi_ : vp_in ((10 * z3) + z1) 81 := (by have c9 := c_51; simp only [Int32.lt_iff_toInt_lt, Int32.le_iff_toInt_le, ← Int32.toInt_inj, i32_0, i32_1, i32_2, i32_3, i32_4, i32_5, i32_6, i32_7, i32_8, i32_9, i32_10, i32_11, i32_12, i32_16, i32_24, i32_39, i32_40, i32_41, i32_43, i32_44, i32_48, i32_49, i32_57, i32_64, i32_80, i32_81, i32_100, i32_101, i32_121, i32_127, i32_128, i32_256, i32_384, i32_400, i32_512, i32_3199, i32_3200, i32_3239, i32_3240, i32_m1] at c9; have e1 : (10 * z3).toInt = 10 * z3.toInt := (by rw [i32_mul (by rw [i32_10]; omega), i32_10]); rw [vp_in_iff, i32_add (by rw [e1]; omega), e1]; omega)
      refine fs_iald hx hb hK hP 0 (hM.2.1 0 0 81 rfl) rfl hi_ d_MO_filled_20 ?_
      refine lv_if_le (tgt := 27) hx hb d_MO_filled_21 (by decide) (fun c_52 => ?_) (fun c_52 => ?_)
      · refine lv_iinc (v := z3 + 1) (lv' := [(3, .int (z3 + 1)), (0, .ref a), (1, .int z1), (2, .int z2)]) hx hb d_MO_filled_27 hl (k := 3) rfl rfl (by decide) rfl (fun ls hl => ?_)
        refine lv_goto (tgt := 4) hx hb d_MO_filled_30 (by decide) ?_
        have e_ : p_MO_filled_L4 (n + 1) z1 z2 z3 M1 = p_MO_filled_L4 n z1 z2 (z3 + 1) M1 := by rw [p_MO_filled_L4, if_neg c_51, if_pos c_52]
        exact ih z1 z2 (z3 + 1) M1 _ _ _ _ (by have c9 := c_51; simp only [Int32.lt_iff_toInt_lt, Int32.le_iff_toInt_le, ← Int32.toInt_inj, i32_0, i32_1, i32_2, i32_3, i32_4, i32_5, i32_6, i32_7, i32_8, i32_9, i32_10, i32_11, i32_12, i32_16, i32_24, i32_39, i32_40, i32_41, i32_43, i32_44, i32_48, i32_49, i32_57, i32_64, i32_80, i32_81, i32_100, i32_101, i32_121, i32_127, i32_128, i32_256, i32_384, i32_400, i32_512, i32_3199, i32_3200, i32_3239, i32_3240, i32_m1] at c9; rw [i32_add (by rw [i32_1]; omega), i32_1]; omega) (by have c9 := c_51; simp only [Int32.lt_iff_toInt_lt, Int32.le_iff_toInt_le, ← Int32.toInt_inj, i32_0, i32_1, i32_2, i32_3, i32_4, i32_5, i32_6, i32_7, i32_8, i32_9, i32_10, i32_11, i32_12, i32_16, i32_24, i32_39, i32_40, i32_41, i32_43, i32_44, i32_48, i32_49, i32_57, i32_64, i32_80, i32_81, i32_100, i32_101, i32_121, i32_127, i32_128, i32_256, i32_384, i32_400, i32_512, i32_3199, i32_3200, i32_3239, i32_3240, i32_m1] at c9; rw [i32_add (by rw [i32_1]; omega), i32_1]; omega) hP hS hM hf (lv_sub hl [1, 2, 3, 0] rfl) (fun y0_ y1_ h_ H locs ls h9 => kk y0_ y1_ h_ H locs ls (e_.trans h9))
      · refine lv_iinc (v := z2 + 1) (lv' := [(2, .int (z2 + 1)), (0, .ref a), (1, .int z1), (3, .int z3)]) hx hb d_MO_filled_24 hl (k := 2) rfl rfl (by decide) rfl (fun ls hl => ?_)
        refine lv_iinc (v := z3 + 1) (lv' := [(3, .int (z3 + 1)), (2, .int (z2 + 1)), (0, .ref a), (1, .int z1)]) hx hb d_MO_filled_27 hl (k := 3) rfl rfl (by decide) rfl (fun ls hl => ?_)
        refine lv_goto (tgt := 4) hx hb d_MO_filled_30 (by decide) ?_
        have e_ : p_MO_filled_L4 (n + 1) z1 z2 z3 M1 = p_MO_filled_L4 n z1 (z2 + 1) (z3 + 1) M1 := by rw [p_MO_filled_L4, if_neg c_51, if_neg c_52]
        exact ih z1 (z2 + 1) (z3 + 1) M1 _ _ _ _ (by have c9 := c_51; simp only [Int32.lt_iff_toInt_lt, Int32.le_iff_toInt_le, ← Int32.toInt_inj, i32_0, i32_1, i32_2, i32_3, i32_4, i32_5, i32_6, i32_7, i32_8, i32_9, i32_10, i32_11, i32_12, i32_16, i32_24, i32_39, i32_40, i32_41, i32_43, i32_44, i32_48, i32_49, i32_57, i32_64, i32_80, i32_81, i32_100, i32_101, i32_121, i32_127, i32_128, i32_256, i32_384, i32_400, i32_512, i32_3199, i32_3200, i32_3239, i32_3240, i32_m1] at c9; rw [i32_add (by rw [i32_1]; omega), i32_1]; omega) (by have c9 := c_51; simp only [Int32.lt_iff_toInt_lt, Int32.le_iff_toInt_le, ← Int32.toInt_inj, i32_0, i32_1, i32_2, i32_3, i32_4, i32_5, i32_6, i32_7, i32_8, i32_9, i32_10, i32_11, i32_12, i32_16, i32_24, i32_39, i32_40, i32_41, i32_43, i32_44, i32_48, i32_49, i32_57, i32_64, i32_80, i32_81, i32_100, i32_101, i32_121, i32_127, i32_128, i32_256, i32_384, i32_400, i32_512, i32_3199, i32_3200, i32_3239, i32_3240, i32_m1] at c9; rw [i32_add (by rw [i32_1]; omega), i32_1]; omega) hP hS hM hf (lv_sub hl [2, 3, 1, 0] rfl) (fun y0_ y1_ h_ H locs ls h9 => kk y0_ y1_ h_ H locs ls (e_.trans h9))
set_option maxHeartbeats 4000000 in
set_option maxRecDepth 100000 in
theorem k_MO_filled {l : Launch} {s00 : State} {G : fs_G} (hSt : fs_St l s00 G) {h : fs_Hp} {a : Nat} {ad : Nat → Nat} {M : mo_S} (hM : mo_at G h a ad M) (x1 : Int32) (b1 : 0 ≤ x1.toInt) (b2 : x1.toInt < 10) : fs_Ct l s00 G y_MO_filled (.code y_MO_filled b_MO_filled 4 (some .int)) { frames := 0, cells := 0, slots := 0, locals := 0 } [.ref a, .int x1] h (fun o h' => o = .inl (some (.int (p_MO_filled M x1).1)) ∧ mo_at G h' a ad (p_MO_filled M x1).2 ∧ mo_fr a ad h h') := by
  refine fs_Ct.ofW hSt (by decide) ?_
  intro p e s m below meth c B hout hP
  obtain ⟨hx, hb, hr, hml, hown, hts, hlocks, hname, hK, hw, htr⟩ := id B
  have hown : s.vm.findClass "FormulaSheetModel" = some m.cls := hown
  have hS := hw.S
  have hA : ∀ q : Nat, s00.heap.size ≤ q → fs_A s00 q := fun _ h9 => h9
  generalize hH : s.heap = H at hP hS ⊢
  have hH0 : s.heap.size ≤ H.size := by rw [hH]; exact Nat.le_refl _
  have hl := lv_entry ([.ref a, .int x1]) (n := 4) (Nat.le_of_ble_eq_true rfl)
  rw [lg_entry_eq]
  generalize (lg_sl ([.ref a, .int x1]) ++ List.replicate (4 - (lg_sl ([.ref a, .int x1])).length) Slot.unset).toArray = ls at hl ⊢
  have hl : lv_has ls 4 [(0, .ref a), (1, .int x1)] := hl
  have hf : mo_fr a ad h h := mo_fr.rf
  refine lv_iconst (v := 0) hx hb d_MO_filled_0 (by decide) ?_
  refine lv_istore_n (lv' := [(2, .int 0), (0, .ref a), (1, .int x1)]) hx hb d_MO_filled_1 rfl hl (by decide) rfl (fun ls hl => ?_)
  refine lv_iconst (v := 0) hx hb d_MO_filled_2 (by decide) ?_
  refine lv_istore_n (lv' := [(3, .int 0), (2, .int 0), (0, .ref a), (1, .int x1)]) hx hb d_MO_filled_3 rfl hl (by decide) rfl (fun ls hl => ?_)
  refine l_MO_filled_4 hSt B (by exact ⟨Nat.le_of_ble_eq_true rfl, Nat.le_of_ble_eq_true rfl⟩) (9) x1 0 0 M _ _ _ _ (by decide) (by refine ⟨?_, ?_, b1, b2⟩ <;> decide) hP hS hM hf (lv_sub hl [2, 3, 1, 0] rfl) (fun y53 y54  h_ H locs ls he_56 hI hP hS hM hf hl => ?_)
  refine lv_iload_n hx hb d_MO_filled_33 rfl (lv_at hl 2 rfl) ?_
  have e_ : p_MO_filled M x1 = (y53, M) := by rw [p_MO_filled, he_56]
  exact fs_iret hx hb hr hlocks hw hP hS (by first | rfl | exact vp_nar_int _) (by omega) (by omega) (⟨by rw [e_], by rw [e_]; exact hM, hf⟩) d_MO_filled_34
