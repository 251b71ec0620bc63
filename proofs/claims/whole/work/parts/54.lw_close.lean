/-! The claim, out of the law's condition. -/
theorem na_3 : (fs_ands narrow_1)[3]? = some (Jvm.Cond.exactly (Jvm.Term.static "FormulaSheet$Name" "CNT" "LFormulaSheet$Name;") "FormulaSheet$Name") := by decide +kernel
theorem na_7 : (fs_ands narrow_1)[7]? = some (Jvm.Cond.exactly (Jvm.Term.static "FormulaSheet$Name" "MIN" "LFormulaSheet$Name;") "FormulaSheet$Name") := by decide +kernel
theorem na_12 : (fs_ands narrow_1)[12]? = some (Jvm.Cond.exactly (Jvm.Term.static "FormulaSheet$Name" "MAX" "LFormulaSheet$Name;") "FormulaSheet$Name") := by decide +kernel
theorem na_18 : (fs_ands narrow_1)[18]? = some (Jvm.Cond.exactly (Jvm.Term.static "FormulaSheet$Name" "SUM" "LFormulaSheet$Name;") "FormulaSheet$Name") := by decide +kernel
theorem na_25 : (fs_ands narrow_1)[25]? = some (Jvm.Cond.exactly (Jvm.Term.static "FormulaSheet$Name" "IF" "LFormulaSheet$Name;") "FormulaSheet$Name") := by decide +kernel
theorem na_33 : (fs_ands narrow_1)[33]? = some (Jvm.Cond.exactly (Jvm.Term.static "FormulaSheet$Name" "INT" "LFormulaSheet$Name;") "FormulaSheet$Name") := by decide +kernel
theorem na_267 : (fs_ands narrow_1)[267]? = some (Jvm.Cond.exactly (Jvm.Term.static "FormulaSheet$Name" "AVG" "LFormulaSheet$Name;") "FormulaSheet$Name") := by decide +kernel
theorem na_277 : (fs_ands narrow_1)[277]? = some (Jvm.Cond.exactly (Jvm.Term.static "FormulaSheet$Name" "ABS" "LFormulaSheet$Name;") "FormulaSheet$Name") := by decide +kernel
def R_law : String := "FormulaSheetLaw"
def lw_P (b : Addr) (xs : List Int32) (args : Array Value) (s : State) : Prop := args = #[.ref b] ∧ s.IntsAt b xs ∧ xs.length ≤ 2560 ∧ (Jvm.Cond.and given_1 narrow_1).before args s = true
def lw_Q (_ : Array Value) (s : State) (o : Outcome) (t : State) : Prop := o = .returned (some (.int 1)) ∧ Framed s o t [] 601024 7293034
def lw_Z (below : List Frame) (a : Array Value) (s : State) : State → Prop := fun t => ∃ o, t.status = .running ∧ Ended t below o ∧ lw_Q a s o t
def lw_At (p : Program) (s : State) (m : MethodId) (meth : Method) (c : Code) (b L : Nat) (xs : Nat → Int32) : Prop :=
  p.tables.exec = Jvm.exec ∧ c.code = code ∧ meth.sig.returnType = ret ∧ c.maxLocals = 9 ∧ s.vm.findClass R_law = some m.cls ∧ (∀ w ∈ lw_tbl, w.before #[Value.ref b] s = true) ∧ va_X b L xs s s.heap ∧ b < s.heap.size ∧ meth.locks = false ∧ (Jvm.Cond.and given_1 narrow_1).before #[Value.ref b] s = true
def fs_In (E : fs_E) : Prop := ∀ i j : Nat, i < 8 → j < 8 → E.2 i = E.2 j → i = j
/-- what is left: the law's condition, for every script -/
def fs_Claim : Prop := ∀ (E : fs_E), fs_In E → ∀ (L : Nat) (xs : Nat → Int32), L ≤ 2560 → w_LW_law L xs 601024 7293034 E (fun _ => none) (fun o _ => o = .inl (some (.int 1)))
theorem fs_ex {args : Array Value} {s : State} {t : Term} {C : String} (h : (Cond.exactly t C).before args s = true) : ∃ a : Nat, t.eval args s none [] s = some (.ref a) := by
  obtain ⟨a, c, cA, kA, q1, -⟩ := Cond.exactly_spec (args := args) (first := s) (o := none) (s := s) (idx := []) (t := t) (cls := C) h
  exact ⟨a, q1⟩
theorem fs_ln {args : Array Value} {s : State} {t : Term} {z : Int32} (h : (Cond.eq (.length t) (.int z)).before args s = true) : ∃ a : Nat, t.eval args s none [] s = some (.ref a) := by
  obtain ⟨a, cell, q1, -⟩ := Term.length_spec (va_eqt h)
  exact ⟨a, q1⟩
theorem fs_hasN {args : Array Value} {s : State} (h1 : ∀ w ∈ fs_ands narrow_1, w.before args s = true) : ∃ N : Nat → Nat, fs_Nm s N := by
  have key : ∀ i : Nat, ∃ a : Nat, ∀ t : Term, fs_nmT i = some t → ∀ args : Array Value, t.eval args s none [] s = some (.ref a) := by
    intro i
    by_cases h32 : i < 32
    · have h : i = 0 ∨ i = 1 ∨ i = 2 ∨ i = 3 ∨ i = 4 ∨ i = 5 ∨ i = 6 ∨ i = 7 ∨ i = 8 ∨ i = 9 ∨ i = 10 ∨ i = 11 ∨ i = 12 ∨ i = 13 ∨ i = 14 ∨ i = 15 ∨ i = 16 ∨ i = 17 ∨ i = 18 ∨ i = 19 ∨ i = 20 ∨ i = 21 ∨ i = 22 ∨ i = 23 ∨ i = 24 ∨ i = 25 ∨ i = 26 ∨ i = 27 ∨ i = 28 ∨ i = 29 ∨ i = 30 ∨ i = 31 := by omega
      rcases h with rfl | rfl | rfl | rfl | rfl | rfl | rfl | rfl | rfl | rfl | rfl | rfl | rfl | rfl | rfl | rfl | rfl | rfl | rfl | rfl | rfl | rfl | rfl | rfl | rfl | rfl | rfl | rfl | rfl | rfl | rfl | rfl
      · obtain ⟨a, ha⟩ := fs_ex (fs_na h1 18 na_18)
        exact ⟨a, fun t ht args => by cases ht; exact ha⟩
      · obtain ⟨a, ha⟩ := fs_ex (fs_na h1 7 na_7)
        exact ⟨a, fun t ht args => by cases ht; exact ha⟩
      · obtain ⟨a, ha⟩ := fs_ex (fs_na h1 12 na_12)
        exact ⟨a, fun t ht args => by cases ht; exact ha⟩
      · obtain ⟨a, ha⟩ := fs_ex (fs_na h1 3 na_3)
        exact ⟨a, fun t ht args => by cases ht; exact ha⟩
      · obtain ⟨a, ha⟩ := fs_ex (fs_na h1 267 na_267)
        exact ⟨a, fun t ht args => by cases ht; exact ha⟩
      · obtain ⟨a, ha⟩ := fs_ex (fs_na h1 277 na_277)
        exact ⟨a, fun t ht args => by cases ht; exact ha⟩
      · obtain ⟨a, ha⟩ := fs_ex (fs_na h1 33 na_33)
        exact ⟨a, fun t ht args => by cases ht; exact ha⟩
      · obtain ⟨a, ha⟩ := fs_ex (fs_na h1 25 na_25)
        exact ⟨a, fun t ht args => by cases ht; exact ha⟩
      · obtain ⟨a, ha⟩ := fs_ln (fs_na h1 47 na_47)
        exact ⟨a, fun t ht args => by cases ht; exact ha⟩
      · obtain ⟨a, ha⟩ := fs_ln (fs_na h1 166 na_166)
        exact ⟨a, fun t ht args => by cases ht; exact ha⟩
      · obtain ⟨a, ha⟩ := fs_ln (fs_na h1 63 na_63)
        exact ⟨a, fun t ht args => by cases ht; exact ha⟩
      · exact ⟨0, fun t ht => by cases ht⟩
      · exact ⟨0, fun t ht => by cases ht⟩
      · exact ⟨0, fun t ht => by cases ht⟩
      · exact ⟨0, fun t ht => by cases ht⟩
      · exact ⟨0, fun t ht => by cases ht⟩
      · obtain ⟨a, ha⟩ := fs_ex (fs_na h1 575 na_575)
        exact ⟨a, fun t ht args => by cases ht; exact ha⟩
      · obtain ⟨a, ha⟩ := fs_ex (fs_na h1 544 na_544)
        exact ⟨a, fun t ht args => by cases ht; exact ha⟩
      · obtain ⟨a, ha⟩ := fs_ex (fs_na h1 559 na_559)
        exact ⟨a, fun t ht args => by cases ht; exact ha⟩
      · obtain ⟨a, ha⟩ := fs_ex (fs_na h1 530 na_530)
        exact ⟨a, fun t ht args => by cases ht; exact ha⟩
      · obtain ⟨a, ha⟩ := fs_ex (fs_na h1 628 na_628)
        exact ⟨a, fun t ht args => by cases ht; exact ha⟩
      · obtain ⟨a, ha⟩ := fs_ex (fs_na h1 648 na_648)
        exact ⟨a, fun t ht args => by cases ht; exact ha⟩
      · obtain ⟨a, ha⟩ := fs_ex (fs_na h1 609 na_609)
        exact ⟨a, fun t ht args => by cases ht; exact ha⟩
      · obtain ⟨a, ha⟩ := fs_ex (fs_na h1 592 na_592)
        exact ⟨a, fun t ht args => by cases ht; exact ha⟩
      · obtain ⟨a, ha⟩ := fs_ln (fs_na h1 578 na_578)
        exact ⟨a, fun t ht args => by cases ht; exact ha⟩
      · obtain ⟨a, ha⟩ := fs_ln (fs_na h1 547 na_547)
        exact ⟨a, fun t ht args => by cases ht; exact ha⟩
      · obtain ⟨a, ha⟩ := fs_ln (fs_na h1 562 na_562)
        exact ⟨a, fun t ht args => by cases ht; exact ha⟩
      · obtain ⟨a, ha⟩ := fs_ln (fs_na h1 533 na_533)
        exact ⟨a, fun t ht args => by cases ht; exact ha⟩
      · obtain ⟨a, ha⟩ := fs_ln (fs_na h1 631 na_631)
        exact ⟨a, fun t ht args => by cases ht; exact ha⟩
      · obtain ⟨a, ha⟩ := fs_ln (fs_na h1 651 na_651)
        exact ⟨a, fun t ht args => by cases ht; exact ha⟩
      · obtain ⟨a, ha⟩ := fs_ln (fs_na h1 612 na_612)
        exact ⟨a, fun t ht args => by cases ht; exact ha⟩
      · obtain ⟨a, ha⟩ := fs_ln (fs_na h1 595 na_595)
        exact ⟨a, fun t ht args => by cases ht; exact ha⟩
    · refine ⟨0, fun t ht => ?_⟩
      unfold fs_nmT at ht
      split at ht <;> first | (exfalso; omega) | cases ht
  obtain ⟨N, hN⟩ := Classical.axiomOfChoice key
  exact ⟨N, hN⟩
theorem fs_hasG {args : Array Value} {s : State} (h0 : ∀ w ∈ lw_tbl, w.before args s = true) : ∃ G : fs_G, va_K G.1 fs_cl (fs_tys G) s := by
  have hts : ∀ w ∈ fs_tb, w.before args s = true := fun w hw => h0 w (List.mem_filter.mp hw).1
  have keyC : ∀ c : Nat, ∃ q : ClassId × (Nat → Nat), ∀ r : vw_C, fs_cl[c]? = some r → u_Kn s r.1 r.2.1 r.2.2 q.1 q.2 := by
    intro c
    by_cases h12 : c < 12
    · have h : c = 0 ∨ c = 1 ∨ c = 2 ∨ c = 3 ∨ c = 4 ∨ c = 5 ∨ c = 6 ∨ c = 7 ∨ c = 8 ∨ c = 9 ∨ c = 10 ∨ c = 11 := by omega
      rcases h with rfl | rfl | rfl | rfl | rfl | rfl | rfl | rfl | rfl | rfl | rfl | rfl
      · obtain ⟨cC, iS, hk⟩ := u_known hts c_SH.2.1 (h0 _ (List.mem_of_getElem? tw_126))
        exact ⟨(cC, iS), fun r hr => by cases hr; exact hk⟩
      · obtain ⟨cC, iS, hk⟩ := u_known hts c_LN.2.1 (h0 _ (List.mem_of_getElem? tw_134))
        exact ⟨(cC, iS), fun r hr => by cases hr; exact hk⟩
      · obtain ⟨cC, iS, hk⟩ := u_known hts c_CE.2.1 (h0 _ (List.mem_of_getElem? tw_156))
        exact ⟨(cC, iS), fun r hr => by cases hr; exact hk⟩
      · obtain ⟨cC, iS, hk⟩ := u_known hts c_CS.2.1 (h0 _ (List.mem_of_getElem? tw_165))
        exact ⟨(cC, iS), fun r hr => by cases hr; exact hk⟩
      · obtain ⟨cC, iS, hk⟩ := u_known hts c_NU.2.1 (h0 _ (List.mem_of_getElem? tw_388))
        exact ⟨(cC, iS), fun r hr => by cases hr; exact hk⟩
      · obtain ⟨cC, iS, hk⟩ := u_known hts c_RE.2.1 (h0 _ (List.mem_of_getElem? tw_335))
        exact ⟨(cC, iS), fun r hr => by cases hr; exact hk⟩
      · obtain ⟨cC, iS, hk⟩ := u_known hts c_SI.2.1 (h0 _ (List.mem_of_getElem? tw_828))
        exact ⟨(cC, iS), fun r hr => by cases hr; exact hk⟩
      · obtain ⟨cC, iS, hk⟩ := u_known hts c_PA.2.1 (h0 _ (List.mem_of_getElem? tw_448))
        exact ⟨(cC, iS), fun r hr => by cases hr; exact hk⟩
      · obtain ⟨cC, iS, hk⟩ := u_known hts c_CA.2.1 (h0 _ (List.mem_of_getElem? tw_814))
        exact ⟨(cC, iS), fun r hr => by cases hr; exact hk⟩
      · obtain ⟨cC, iS, hk⟩ := u_known hts c_OV.2.1 (h0 _ (List.mem_of_getElem? tw_300))
        exact ⟨(cC, iS), fun r hr => by cases hr; exact hk⟩
      · obtain ⟨cC, iS, hk⟩ := u_known hts c_MO.2.1 (h0 _ (List.mem_of_getElem? tw_1451))
        exact ⟨(cC, iS), fun r hr => by cases hr; exact hk⟩
      · obtain ⟨cC, iS, hk⟩ := u_known hts c_SB.2.1 (h0 _ (List.mem_of_getElem? tw_212))
        exact ⟨(cC, iS), fun r hr => by cases hr; exact hk⟩
    · exact ⟨(0, fun _ => 0), fun r hr => by
        have h9 := (List.getElem?_eq_some_iff.mp hr).1
        exact absurd h9 h12⟩
  have keyP : ∀ ty : FieldType, (Cond.arrayClass ty).before args s = true → (∀ C, ty ≠ .object C) → ∃ cA : ClassId, ArrOfT s cA ty ∧ va_RA s cA ty := by
    intro ty h hn
    obtain ⟨cA, kA, comp, g1, g2, g3⟩ := Cond.arrayClass_spec h
    refine ⟨cA, fun n z => ⟨fun k h => (by cases h), kA, g2, comp, g3⟩, ?_⟩
    revert hn g1
    cases ty <;> intro hn g1 <;> first | exact g1 | exact absurd rfl (hn _)
  have keyR : ∀ C : String, (Cond.arrayOver (.object C)).before args s = true → ∃ cA : ClassId, ArrOfT s cA (.object C) ∧ va_RA s cA (.object C) := by
    intro C h
    obtain ⟨comp, cA, kA, g1, g2, g3, g4, g5⟩ := Cond.arrayOver_spec h
    exact ⟨cA, fun n z => ⟨fun k h => (by cases h), kA, g3, comp, g4⟩, kA, comp, g3, g4, g1, g5⟩
  have keyA : ∀ k : Nat, ∃ cA : ClassId, k < 8 → ArrOfT s cA (fs_ty k) ∧ va_RA s cA (fs_ty k) := by
    intro k
    by_cases h8 : k < 8
    · have h : k = 0 ∨ k = 1 ∨ k = 2 ∨ k = 3 ∨ k = 4 ∨ k = 5 ∨ k = 6 ∨ k = 7 := by omega
      rcases h with rfl | rfl | rfl | rfl | rfl | rfl | rfl | rfl
      · obtain ⟨cA, hk⟩ := keyP .int (h0 _ (List.mem_of_getElem? tw_179)) (fun C h => by cases h)
        exact ⟨cA, fun _ => hk⟩
      · obtain ⟨cA, hk⟩ := keyP .long (h0 _ (List.mem_of_getElem? tw_1565)) (fun C h => by cases h)
        exact ⟨cA, fun _ => hk⟩
      · obtain ⟨cA, hk⟩ := keyP .double (h0 _ (List.mem_of_getElem? tw_178)) (fun C h => by cases h)
        exact ⟨cA, fun _ => hk⟩
      · obtain ⟨cA, hk⟩ := keyP .boolean (h0 _ (List.mem_of_getElem? tw_177)) (fun C h => by cases h)
        exact ⟨cA, fun _ => hk⟩
      · obtain ⟨cA, hk⟩ := keyP .char (h0 _ (List.mem_of_getElem? tw_154)) (fun C h => by cases h)
        exact ⟨cA, fun _ => hk⟩
      · obtain ⟨cA, hk⟩ := keyP .byte (h0 _ (List.mem_of_getElem? tw_243)) (fun C h => by cases h)
        exact ⟨cA, fun _ => hk⟩
      · obtain ⟨cA, hk⟩ := keyR "FormulaSheet$Part" (h0 _ (List.mem_of_getElem? tw_162))
        exact ⟨cA, fun _ => hk⟩
      · obtain ⟨cA, hk⟩ := keyR "FormulaSheet$CellSet" (h0 _ (List.mem_of_getElem? tw_164))
        exact ⟨cA, fun _ => hk⟩
    · exact ⟨0, fun h => absurd h h8⟩
  obtain ⟨f, hf⟩ := Classical.axiomOfChoice keyC
  obtain ⟨g, hg⟩ := Classical.axiomOfChoice keyA
  refine ⟨((fun c => (f c).1, fun c => (f c).2), g), fun c q hq => hf c q hq, fun k q hq => ?_⟩
  have h8 : k < 8 := (List.getElem?_eq_some_iff.mp hq).1
  have h : k = 0 ∨ k = 1 ∨ k = 2 ∨ k = 3 ∨ k = 4 ∨ k = 5 ∨ k = 6 ∨ k = 7 := by omega
  rcases h with rfl | rfl | rfl | rfl | rfl | rfl | rfl | rfl <;> (cases hq; exact hg _ h8)
theorem whole_start {p : Program} {e : Env} {s : State} {m : MethodId} {below : List Frame} {meth : Method} {c : Code} {l : Launch} {b L : Nat} {xs : Nat → Int32} (HC : fs_Claim) (hfl : l.flags = flags0) (hnm : meth.name = "law") (hout : ∀ pc, ∀ x ∈ c.exceptionTable.toList, covers x pc = false) (hL : L ≤ 2560) (C0 : lw_At p s m meth c b L xs) : W p l e room_1 s m #[Value.ref b] below meth c s.heap [] 0 0 (lw_Z below #[Value.ref b] s) (entryFrame m ([Value.ref b] : List Value).toArray 9) := by
  obtain ⟨h1, h2, h3, h4, h5, h6, h7, h8, h9, h10⟩ := C0
  have hnar : ∀ w ∈ fs_ands narrow_1, w.before #[Value.ref b] s = true := by
    have h11 := h10
    rw [Cond.before_and, Bool.and_eq_true] at h11
    exact fs_ands_ok _ h11.2
  obtain ⟨N, hN⟩ := fs_hasN hnar
  obtain ⟨G, hG⟩ := fs_hasG h6
  have hE : fs_SE l s (G, N) := ⟨⟨hfl, ⟨b, h6, h10⟩, hG⟩, hN⟩
  have hw := fs_W.rf s
  have B : fs_B p l e s m ([.ref b] : List Value).toArray meth c s G y_LW_law b_LW_law 9 (some (.boolean)) := ⟨h1, h2, h3, h4, h5, (hE.1.T hw).all _, h9, hnm, hG, hw, hE.1.tr⟩
  refine fx_mono (fun t ht => ?_) (kw_LW_law (E := (G, N)) (R := room_1) (h := fun _ => none) (mc := 601024) (ms := 7293034) hE h7 (Nat.le_of_ble_eq_true rfl) (Nat.le_of_ble_eq_true rfl) (Nat.le_refl _) (Nat.le_refl _) B hout fs_nil (HC (G, N) (fs_inj hE) L xs hL))
  obtain ⟨o, q1, q2, ⟨o', h', g1, g2, -⟩, Lq, hFE, hLq⟩ := ht
  subst g2
  have g3 : o = .returned (some (.int 1)) := g1
  refine ⟨o, q1, q2, g3, ⟨some (.int 1), g3⟩, hFE.1, hFE.2.weaken (fun y hy hlt => ?_) (Nat.le_refl _) (Nat.le_refl _)⟩
  exact absurd hlt (Nat.not_lt.mpr (hLq y hy))
set_option maxHeartbeats 4000000 in
theorem lw_walk (HC : fs_Claim) (l : Launch) (hfl : l.flags = flags0) (b : Addr) (xs : List Int32) : MetFree l x (headSpec (Jvm.Cond.code x code maxLocals ret :: tables_1) room_1) (lw_P b xs) (fun _ _ _ _ _ => True) lw_Q := by
  refine MetFree.of_bodyS (code := code) (maxLocals := maxLocals) (ret := ret) (by decide) ?_ ?_
  · intro args s m h hn
    obtain ⟨meth, c, h1, h2, h3, h4, h5, h6, -, -⟩ := Cond.code_spec hn (atoms_spec (ws := Jvm.Cond.code x code maxLocals ret :: tables_1) h _ List.mem_cons_self)
    exact ⟨meth, c, h1, h2, h3, h4, h5, h6⟩
  · intro p e s m args below meth c s₁ B hml0 hP _
    obtain ⟨rfl, hx, hbd, hgv⟩ := hP
    obtain ⟨scr, harrAt, hlist, hof, hsmall⟩ := hx
    obtain ⟨hcb, hkn, -, -⟩ := State.arrayAt?_spec harrAt
    have hown : s.vm.findClass R_law = some m.cls := findClass_of_methodNamed B.named
    have hts0 : ∀ c ∈ (Jvm.Cond.code x code maxLocals ret :: tables_1), c.before #[Value.ref b] s = true := atoms_spec (ws := Jvm.Cond.code x code maxLocals ret :: tables_1) B.pre
    have hts : ∀ w ∈ lw_tbl, w.before #[Value.ref b] s = true := k2_hts_sels lw_privs (fun w hw => hts0 w (List.mem_cons_of_mem _ hw)) lw_privs_ok
    have hml : c.maxLocals = 9 := B.maxLocals_eq (hts0 _ List.mem_cons_self)
    have X₀ : Stand p l e room_1 s m #[Value.ref b] below meth c s₁ [] 0 0 := Stand.of_body B
    have hh0 : s₁.heap = s.heap := by rw [B.state]; rfl
    have hsz : scr.slots.size = xs.length := by rw [← Array.length_toList, hlist, List.length_map]
    have hval : ∀ j : Nat, j < xs.length → scr.slots[j]? = some (.int (xs.getD j 0)) := fun j hj => by
      rw [← Array.getElem?_toList, hlist]
      simp [hj]
    have hbl : b < s.heap.size := (Array.getElem?_eq_some_iff.mp hcb).1
    have hX : va_X b xs.length (fun j => xs.getD j 0) s s.heap := ⟨scr, hcb, hof, hkn, hsz, hval⟩
    have K : W p l e room_1 s m #[Value.ref b] below meth c s₁.heap [] 0 0 (lw_Z below #[Value.ref b] s) (entryFrame m ([Value.ref b] : List Value).toArray 9) := by
      rw [hh0]
      exact whole_start HC hfl (name_of_methodNamed B.named B.method).1 (fx_none rfl B) hbd ⟨B.exec, B.bytes, B.returns, hml, hown, hts, hX, hbl, B.notSynchronized, hgv⟩
    obtain ⟨t, a1, o, b1, b2, b3⟩ := K s₁ rfl X₀
    exact ⟨t, o, a1, b1, b2, b3⟩
theorem lw_pre_spec {args : Array Value} {s : State} (h : (Jvm.Cond.and given_1 narrow_1).before args s = true) (hr : rest_1_c.before args s = true) : ∃ (b : Addr) (xs : List Int32), lw_P b xs args s := by
  have hs := flat_of_before _ h
  have hq := flat_of_before _ hr
  have hc : (Cond.count 1).before args s = true := hs _ (by decide +kernel)
  have harr : (Cond.arrayOf (.arg 0) .int).before args s = true := hs _ (by decide +kernel)
  have hle : (Cond.le (.length (.arg 0)) (.int 2560)).before args s = true := hs _ (by decide +kernel)
  have hlen : (Cond.isInt (.length (.arg 0))).before args s = true := hq _ (by decide +kernel)
  have hall : (Cond.all (.arg 0) (.isInt (.elem (.arg 0) (.index 0)))).before args s = true := hq _ (by decide +kernel)
  obtain ⟨b, xs, hb, hx⟩ := State.ints_of_pre rfl harr hlen hall
  have hsm : xs.length < 2 ^ 31 := hx.choose_spec.2.2.2
  have hev : (Term.length (.arg 0)).eval args s none [] s = some (.int xs.length.toInt32) := hx.length_eval hb
  have hv := Cond.le_ints hev (show (Term.int 2560).eval args s none [] s = some (.int 2560) from rfl)
  have hd : xs.length.toInt32 ≤ 2560 := by
    simpa [Cond.before, Cond.holds, hv] using hle
  have hN : xs.length ≤ 2560 := (Int32.ofNat_le_ofNat hsm (by decide)).mp (show Int32.ofNat xs.length ≤ Int32.ofNat 2560 from hd)
  exact ⟨b, xs, Cond.one_arg hc (show args[0]? = some (.ref b) from hb), hx, hN, h⟩
theorem lw_comes (HC : fs_Claim) (l : Launch) (hfl : l.flags = flags0) : Comes l x (Jvm.Cond.code x code maxLocals ret :: tables_1) room_1 (fun tb e args s => Calls_1 tb e args s ∧ rest_1 tb e args s ∧ Pre_1 tb e args s)
    (fun _ _ args s o t => lw_Q args s o t) := by
  intro p e ha hc hk s m args below hf hfit hheap happ hpre
  obtain ⟨b, xs, hP⟩ := lw_pre_spec hpre.2.2 hpre.2.1
  obtain ⟨k, o, h1, h2, h3, hQ⟩ := lw_walk HC l hfl b xs p e ha hc hk s m args below hf ((Spec.applies_iff_loose hf).mp happ).1 hP trivial
  exact ⟨k, o, h1, h2, h3, hQ⟩
theorem lw_frame {s t : State} {o : Outcome} {args : Array Value} (h : Framed s o t [] 601024 7293034) :
    Framed s o t (fieldLocs frame_1_writes args s ++ arrayLocs frame_1_arrays args s ++ staticLocs frame_1_statics s) 601024 7293034 := h
theorem lw_limb (HC : fs_Claim) (L : Cond) (hL : ∀ (args : Array Value) (s t : State), L.after args s (.returned (some (.int 1))) t = true) :
    ArmFor flags0 classFile x code maxLocals ret World_1 tables_1 room_1 Calls_1 rest_1 Pre_1
      (fun tb e a s o t => postC L tb e a s o t ∧ Framed s o t (fieldLocs frame_1_writes a s ++ arrayLocs frame_1_arrays a s ++ staticLocs frame_1_statics s) 601024 7293034) := by
  intro l hfl _ _ p e ha hc hk s m args below hf hfit hheap happ hpre
  obtain ⟨k, o, h1, h2, h3, rfl, hF⟩ := lw_comes HC l hfl p e ha hc hk s m args below hf hfit hheap happ hpre
  exact ⟨k, _, h1, h2, h3, hL args s _, lw_frame hF⟩
theorem fs_vc (HC : fs_Claim) : Claimed_1_1 ∧ Claimed_1_2 := ⟨lw_limb HC limb_1_1 (fun args s t => by simp [limb_1_1, Cond.after, Cond.holds, Cond.value]), lw_limb HC limb_1_2 (fun args s t => Cond.after_iff.mpr (by
  first | (rw [show limb_1_2 = Cond.eq .result (.int 1) from rfl, Cond.eq_ints (x := 1) (y := 1) rfl rfl]; simp; done) | (simp [limb_1_2, Cond.value, Term.eval]; done)))⟩
