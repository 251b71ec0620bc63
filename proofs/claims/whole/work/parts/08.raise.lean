/-! What lies below the law's own heap never changes; a new exception. -/
def fs_W (s00 U : State) : Prop := s00.WarmedH U.vm ∧ s00.heap.size ≤ U.heap.size ∧ ∀ q : Nat, q < s00.heap.size → U.heap[q]? = s00.heap[q]?
abbrev fs_A (s00 : State) : Nat → Prop := fun q => s00.heap.size ≤ q
theorem fs_W.rf (s : State) : fs_W s s := ⟨State.WarmedH.refl s, Nat.le_refl _, fun _ _ => rfl⟩
theorem fs_W.S {s00 U : State} (h : fs_W s00 U) : va_S (fs_A s00) s00.heap U.heap [] := ⟨h.2.1, fun q hq _ => h.2.2 q hq, fun _ hl => by cases hl⟩
theorem fs_W.of {s00 s t : State} {H : Heap} {locs : List Loc} (h : fs_W s00 s) (hS : va_S (fs_A s00) s00.heap H locs) (ht : t.heap = H) (hW : s.WarmedH t.vm) : fs_W s00 t := by
  subst ht
  exact ⟨State.WarmedH.trans h.1 hW, hS.1, fun q hq => hS.2.1 q hq (Nat.not_le.mpr hq)⟩
theorem fs_ls {s00 s : State} {O n d : String} {a a' : Array Value} (hw : fs_W s00 s) (h : (Cond.laysStatic O n d).before a s00 = true) : (Cond.laysStatic O n d).before a' s = true := by
  obtain ⟨c, k, i, f, x, cell, h1, h2, h3, h4, h5, h6, h7, h8, h9⟩ := Cond.laysStatic_spec h
  obtain ⟨k', hi', he⟩ := State.fieldFound?_setVm hw.1.alike h2
  have hx : x < s00.heap.size := (Array.getElem?_eq_some_iff.mp h5).1
  exact Cond.laysStatic_of (c := c) (k := k') (i := i) (f := f) (a := x) (cell := cell) (by rw [hw.1.alike.findClass]; exact h1) hi' h3 (by rw [he]; exact h4) (by rw [hw.2.2 x hx]; exact h5) h6 h7 h8 (by rw [he]; exact h9)
theorem fs_aS {s00 s : State} {O n d : String} {a : Array Value} {c i x : Nat} {k : Class} {f : Field} (hw : fs_W s00 s) (h : (Cond.laysStatic O n d).before a s00 = true) (hf : s.fieldFound? O n d = some (c, k, i, f)) (hk : k.statics = some x) : x < s00.heap.size := by
  obtain ⟨c1, k1, i1, f1, x1, cell, h1, h2, h3, h4, h5, h6, h7, h8, h9⟩ := Cond.laysStatic_spec h
  obtain ⟨k', hi', he⟩ := State.fieldFound?_setVm hw.1.alike h2
  have e1 := Option.some.inj (hi'.symm.trans hf)
  have e2 : k' = k := congrArg (fun z => z.2.1) e1
  subst e2
  have h10 : k'.statics = some x1 := by rw [he]; exact h4
  cases Option.some.inj (h10.symm.trans hk)
  exact (Array.getElem?_eq_some_iff.mp h5).1
theorem fs_ir {s00 s : State} {O n d : String} {a a' : Array Value} (hw : fs_W s00 s) (hl : (Cond.laysStatic O n d).before a s00 = true) (h : (Cond.isRef (.static O n d)).before a s00 = true) : (Cond.isRef (.static O n d)).before a' s = true := by
  obtain ⟨c, k, i, f, x, cell, h1, h2, h3, h4, h5, h6, h7, h8, h9⟩ := Cond.laysStatic_spec hl
  obtain ⟨k', hi', he⟩ := State.fieldFound?_setVm hw.1.alike h2
  have hx : x < s00.heap.size := (Array.getElem?_eq_some_iff.mp h5).1
  have e1 : (Term.static O n d).eval a s00 none [] s00 = cell.slots[f.slot]? := by
    simp [Term.eval, State.fieldNamed?, h2, h3, h4, h5, h6]
  have h4' : k'.statics = some x := by rw [he]; exact h4
  have h5' : s.heap[x]? = some cell := by rw [hw.2.2 x hx]; exact h5
  have e2 : (Term.static O n d).eval a' s none [] s = cell.slots[f.slot]? := by
    have hi2 : s.fieldFound? O n d = some (c, k', i, f) := hi'
    simp [Term.eval, State.fieldNamed?, hi2, h3, h4', h5', h6]
  simp only [Cond.before, Cond.holds, Cond.value] at h ⊢
  rw [e2]
  rw [e1] at h
  exact h
section FXE
variable {p : Program} {l : Launch} {e : Env} {R : Room} {s : State} {m₀ : MethodId} {args : Array Value} {below : List Frame} {meth : Method} {c : Code} {W : State} {locs : List Loc} {cells slots : Nat}
set_option maxHeartbeats 2000000 in
theorem fx_ctor0 (X : Stand p l e R s m₀ args below meth c W locs cells slots) (hexec : p.tables.exec = Jvm.exec) (htr : e.platform.stackTraces = false) {own cls : String} {names : List String} {ic : Nat} {s00 : State}
    (hown : s.vm.findClass own = some m₀.cls) (hcls : Bundle.fit cls = true) (hnames : ∀ n ∈ names, Bundle.fit n = true)
    (h : ∀ a ∈ Bundle.ownAtoms0 own ic cls names, a.before args s = true) (hw : fs_W s00 s) {a9 : Array Value} (h00 : (Cond.laysStatic Bundle.tN "UNASSIGNED_STACK" Bundle.steD).before a9 s00 = true) (hS : va_S (fs_A s00) s00.heap W.heap locs)
    {a : Addr} {cX : ClassId} {kX : Class} (hfoundX : s.vm.findClass cls = some cX) (hkX : s.vm.classes[cX]? = some kX) (hcell : W.heap[a]? = some (freshCell cX kX)) (hnew : s.heap.size ≤ a)
    {pc : Nat} {ls : Array Slot} {rest : List Value} (hsize : ls.size = c.maxLocals)
    (hd6 : decode c.code pc = .ok (.invokespecial ic, 3))
    (hRframes : names.length + 3 < R.frames) (hRlocals : ((Value.ref a :: rest).map fun v => v.category).sum + (13 * (names.length + 1) + 41) ≤ R.locals) :
    ∃ (vm' : Vm) (ce : Cell) (L : List Loc), ce.cls = cX ∧ ce.vm = .none ∧ Stand p l e R s m₀ args below meth c ((W.setVm vm').setCell a ce) (locs ++ L) cells slots ∧ (∀ q ∈ L, q.base = a) ∧
      ∀ target, Steps p.tables e below (((W.setVm vm').setCell a ce).setTop (F0 m₀ (pc + 3) ls (.ref a :: rest))) target → Steps p.tables e below (W.setTop (F0 m₀ pc ls (.ref a :: .ref a :: rest))) target := by
  have howns : e.platform.frameOwnsMonitors = true := by rw [X.admits.platform]
  have hfin : e.platform.finalization = false := by rw [X.admits.platform]
  have hpl : e.platform.magicAccessors = ({} : Platform).magicAccessors := by rw [X.admits.platform]
  have a' : ∀ x, x ∈ Bundle.ownAtoms0 own ic cls names → x.holds args s none s [] = true := fun x hx => h x hx
  obtain ⟨T, Z, L, LZ, Y⟩ := ThrowableC.of_atoms (args := args) howns hfin hpl (fun x hx => h x (by simp [Bundle.ownAtoms0, hx]))
  obtain ⟨P1, Ps, hlen, L1, hL, hP1m, hlink1, hlink⟩ := Bundle.chain0 (args := args) hpl Y.init0 names cls hcls hnames (fun x hx => h x (by simp [Bundle.ownAtoms0, hx]))
  have hfound : s.vm.findClass cls = some P1.m.cls := findClass_of_methodNamed hP1m
  cases Option.some.inj (hfoundX.symm.trans hfound)
  obtain ⟨c1, kX', hc1, hk, hord, -, -, hn6⟩ := Cond.instantiable_spec (a' (.instantiable cls 6) (by simp [Bundle.ownAtoms0]))
  cases Option.some.inj (hc1.symm.trans hfound)
  cases Option.some.inj (hkX.symm.trans hk)
  have hsel0 : selectMethod e.platform s.vm P1.m.cls T.fill0 = .method T.fill0 := by
    obtain ⟨c2, r2, m2, q1, q2, q3, q4, -⟩ := Cond.selects_spec (a' (.selects cls Bundle.tFill0 Bundle.tFill0) (by simp [Bundle.ownAtoms0]))
    cases Option.some.inj (q1.symm.trans hfound)
    cases Option.some.inj (q2.symm.trans (State.methodFound?_of_named Y.fill0 (by decide)))
    cases Option.some.inj (q3.symm.trans Y.fill0)
    rw [Launch.admits_selectMethod X.admits]; exact q4
  have hselF : selectMethod e.platform s.vm P1.m.cls T.fill = .method T.fill := by
    obtain ⟨c2, r2, m2, q1, q2, q3, q4, -⟩ := Cond.selects_spec (a' (.selects cls Bundle.tFill Bundle.tFill) (by simp [Bundle.ownAtoms0]))
    cases Option.some.inj (q1.symm.trans hfound)
    cases Option.some.inj (q2.symm.trans (State.methodFound?_of_named Y.fill (by decide)))
    cases Option.some.inj (q3.symm.trans Y.fill)
    rw [Launch.admits_selectMethod X.admits]; exact q4
  obtain ⟨cellS0, hcS0, hiss⟩ := Y.statics
  obtain ⟨u0, hu0⟩ := Cond.staticRefV Y.unassigned L.unassignedStatic L.statics hcS0 hiss (a' (.isRef (.static Bundle.tN "UNASSIGNED_STACK" Bundle.steD)) (by simp [Bundle.ownAtoms0]))
  obtain ⟨sen, hsen⟩ := Cond.staticRefV Y.sentinel L.sentinelStatic L.statics hcS0 hiss (a' (.isRef (.static Bundle.tN "SUPPRESSED_SENTINEL" Bundle.listD)) (by simp [Bundle.ownAtoms0]))
  obtain ⟨ci198, i198, fB, hk198, hg198, ha198, hsB, -, hnB, htB, hffB⟩ := Cond.ownField (t := .object "java/lang/Object") Y.found L.cls (by decide +kernel) (a' (.fieldLink Bundle.tN 198 Bundle.tN "backtrace" "Ljava/lang/Object;") (by simp [Bundle.ownAtoms0])) (a' (.lays Bundle.tN Bundle.tN "backtrace" "Ljava/lang/Object;") (by simp [Bundle.ownAtoms0])) e.platform hpl
  have haS : T.aS < s00.heap.size := fs_aS hw h00 Y.unassigned L.statics
  have hcellS : W.heap[T.aS]? = some cellS0 := by
    rw [hS.2.1 T.aS haS (Nat.not_le.mpr haS), ← hw.2.2 T.aS haS]
    exact hcS0
  have hknownS : cellS0.vm ≠ .unknown := by
    intro hu
    rw [show cellS0.vm = .unknown from hu] at hiss
    cases hiss
  have hneS : T.aS ≠ a := Nat.ne_of_lt (Nat.lt_of_lt_of_le (Array.getElem?_eq_some_iff.mp hcS0).1 hnew)
  obtain ⟨iM, hffM⟩ := Y.msg
  obtain ⟨tyC, dC, hdC, hdnC⟩ := Cond.laysAt hfound hk Y.cause (a' (.lays cls Bundle.tN "cause" "Ljava/lang/Throwable;") (by simp [Bundle.ownAtoms0]))
  obtain ⟨tyS, dS, hdS, hdnS⟩ := Cond.laysAt hfound hk Y.stack (a' (.lays cls Bundle.tN "stackTrace" Bundle.steD) (by simp [Bundle.ownAtoms0]))
  obtain ⟨tyP, dP, hdP, hdnP⟩ := Cond.laysAt hfound hk Y.supp (a' (.lays cls Bundle.tN "suppressedExceptions" Bundle.listD) (by simp [Bundle.ownAtoms0]))
  obtain ⟨tyB, dB, hdB, hdnB⟩ := Cond.laysAt hfound hk hffB (a' (.lays cls Bundle.tN "backtrace" "Ljava/lang/Object;") (by simp [Bundle.ownAtoms0]))
  have bC := Cond.laysApart hdB hdC hdnB hdnC (by rw [hnB, Y.causeName]; decide)
  have bS := Cond.laysApart hdB hdS hdnB hdnS (by rw [hnB, Y.stackName]; decide)
  have bP := Cond.laysApart hdB hdP hdnB hdnP (by rw [hnB, Y.suppName]; decide)
  have hskip : SkipFacts T e.platform s (fun u => u) u0 ((preparedCellV T.toThrowableT (freshCell P1.m.cls kX) a u0 sen).withEntry W.cur) :=
    ⟨{ ci198 := ci198, i198 := i198, fBack := fB }, ⟨hk198, hg198, ha198, hsB⟩, by
      have := fresh_default (c := P1.m.cls) tyB
      rw [htB] at this
      simpa [preparedCellV, Cell.setSlot, Cell.withEntry, Array.getElem?_setIfInBounds, bC, bS, bP, bC.symm, bS.symm, bP.symm, defaultValue] using this, fun _ _ => rfl⟩
  obtain ⟨tm, methC, cdC, kC, vm₁, hnC, -, -, -, -, -, -, -, hW₁, st1⟩ := Steps.initCold (tb := p.tables) (e := e) (below := below) (s := s) (U := W) X.here hexec X.warmed hpl hown (t := Bundle.init0 cls) rfl rfl (Bundle.fit_spec hcls).2
    (a' (.methodLink own ic (Bundle.init0 cls)) (by simp [Bundle.ownAtoms0])) (h (.instanceMethod (Bundle.init0 cls)) (by cases names <;> simp [Bundle.ownAtoms0, Bundle.chain0Atoms, Bundle.passAtoms])) (bytes := Bundle.five) (maxL := 1) (h (.code (Bundle.init0 cls) Bundle.five 1 none) (by cases names <;> simp [Bundle.ownAtoms0, Bundle.chain0Atoms, Bundle.passAtoms]))
    (f := F0 m₀ pc ls (.ref a :: .ref a :: rest)) rfl (a := a) (rest := .ref a :: rest) rfl hd6
  cases Option.some.inj (hnC.symm.trans hP1m)
  have X₁ := X.noted hW₁
  obtain ⟨vm₂, X₂, st2⟩ := X₁.ctorPlainOffV hexec (g := F0 m₀ pc ls (.ref a :: rest)) rfl hsize T L Z LZ (P1 :: Ps)
    (fun P hP => by rcases List.mem_cons.mp hP with rfl | hP; exact L1; exact hL P hP) ⟨hlink1, hlink⟩ (u0 := u0) (sen := sen) (self := a) (cell := freshCell P1.m.cls kX) (cellS := cellS0)
    hcell (fun _ => by simp) (by simp) rfl rfl hsel0 hselF hcellS hneS hknownS hu0 hsen
    (Takes.of_laid hk hord tyC (by rw [Y.causeType]; rfl)) (Takes.of_laid hk hord tyS (by rw [Y.stackType]; exact fits_refV_array _ u0)) (Takes.of_laid hk hord tyP (by rw [Y.suppType]; exact fits_refV_object _ sen)) Y.objLocals hskip htr [] hd6
    (by simp only [List.length_cons, hlen]; omega) (by
      have h0 : (F0 m₀ pc ls (.ref a :: rest)).monitorRoom = 0 := rfl
      simp only [List.length_cons, hlen, h0]
      have := hRlocals
      simp only [Nat.mul_zero, Nat.zero_add]
      exact this)
  refine ⟨vm₂, (preparedCellV T.toThrowableT (freshCell P1.m.cls kX) a u0 sen).setSlot T.fStack.slot u0.v, [⟨a, T.fCause.slot⟩, ⟨a, T.fStack.slot⟩, ⟨a, T.fSupp.slot⟩, ⟨a, T.fStack.slot⟩], rfl, rfl, ?_, ?_, ?_⟩
  · exact X₂
  · intro q hq
    simp only [List.mem_cons, List.not_mem_nil, or_false] at hq
    rcases hq with rfl | rfl | rfl | rfl <;> rfl
  · intro target hs
    exact st1 target (fun acts => by rw [doInvoke_state]; exact st2 target hs)
end FXE
