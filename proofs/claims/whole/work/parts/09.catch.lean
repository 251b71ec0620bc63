/-! 'throw new E()' as one row; a handler of the method's own, its class resolved or not. -/
theorem fs_P.grow {D : va_G} {cl : List vw_C} {A : Nat → Prop} {h : fs_Hp} {H H1 : Heap} (hP : fs_P D cl A h H) (hq : ∀ q : Nat, q < H.size → H1[q]? = H[q]?) : fs_P D cl A h H1 := by
  obtain ⟨ws, h1, h2, h3⟩ := hP
  exact ⟨ws, h1.kept (fun k x hx => hq x.1 (h1 k x hx).lt), h2, h3⟩
theorem fs_P.off {D : va_G} {cl : List vw_C} {A : Nat → Prop} {h : fs_Hp} {H H1 : Heap} {a : Nat} (hP : fs_P D cl A h H) (ha : h a = none) (hq : ∀ q : Nat, q ≠ a → H1[q]? = H[q]?) : fs_P D cl A h H1 := by
  obtain ⟨ws, h1, h2, h3⟩ := hP
  refine ⟨ws, h1.kept (fun k x hx => hq x.1 (fun e1 => ?_)), h2, h3⟩
  have := (h3 x.1 x.2).mpr ⟨k, hx⟩
  rw [e1, ha] at this
  cases this
/-- an exception of the class C lies at a -/
def fs_X (A : Nat → Prop) (C : String) (a : Nat) (U : State) (H : Heap) : Prop := A a ∧ ∃ cell : Cell, H[a]? = some cell ∧ cell.vm = .none ∧ U.vm.findClass C = some cell.cls
theorem fs_X.moved {A : Nat → Prop} {C : String} {a : Nat} {u U : State} {H : Heap} (hvm : u.vm.Alike U.vm) (h : fs_X A C a u H) : fs_X A C a U H := by
  obtain ⟨h0, cell, h1, h2, h3⟩ := h
  exact ⟨h0, cell, h1, h2, by rw [hvm.findClass]; exact h3⟩
section FXR
variable {p : Program} {l : Launch} {e : Env} {R : Room} {s : State} {m : MethodId} {args : Array Value} {below : List Frame} {meth : Method} {c : Code} {H : Heap} {locs : List Loc} {cells slots : Nat} {Q : State → Prop}
variable {cc : ByteArray} {pc : Nat} {ls : Array Slot} {rest : List Value} {D : va_G} {cl : List vw_C} {h : fs_Hp} {s00 : State}
set_option maxHeartbeats 1000000 in
theorem fs_raise (hexec : p.tables.exec = Jvm.exec) (hb : c.code = cc) (htr : l.admits e → e.platform.stackTraces = false) {own C : String} {names : List String} {ia ic : Nat}
    (hown : s.vm.findClass own = some m.cls) (hcls : Bundle.fit C = true) (hnames : ∀ n ∈ names, Bundle.fit n = true)
    (hat : ∀ a ∈ Bundle.ownAtoms0 own ic C names, a.before args s = true) (hw : fs_W s00 s) {a9 : Array Value} (h00 : (Cond.laysStatic Bundle.tN "UNASSIGNED_STACK" Bundle.steD).before a9 s00 = true) (hP : fs_P D cl (fs_A s00) h H) (hS : va_S (fs_A s00) s00.heap H locs) (hH : s.heap.size ≤ H.size)
    (hclink : (Cond.classLink own ia C).before args s = true) (hini : (Cond.initialized C).before args s = true) (hsize : ls.size = c.maxLocals)
    (d0 : decode cc pc = .ok (.new ia, 3)) (d3 : decode cc (pc + 3) = .ok (.dup, 1)) (d4 : decode cc (pc + 4) = .ok (.invokespecial ic, 3)) (d7 : decode cc (pc + 7) = .ok (.athrow, 1))
    (hR : names.length + 3 < R.frames ∧ ((rest.map fun v => v.category).sum + 1) + (13 * (names.length + 1) + 41) ≤ R.locals ∧ cells + 1 ≤ R.cells ∧ slots + 6 ≤ R.slots)
    (kk : ∀ (a : Nat) (H1 : Heap) (locs1 : List Loc), fs_P D cl (fs_A s00) h H1 → va_S (fs_A s00) s00.heap H1 locs1 → fs_X (fs_A s00) C a s H1 → s.heap.size ≤ H1.size → fx_T p l e R s m args below meth c H1 locs1 (cells + 1) (slots + 6) Q (F0 m (pc + 7) ls rest) a) :
    W p l e R s m args below meth c H locs cells slots Q (F0 m pc ls rest) := by
  have hins : (Cond.instantiable C 6).before args s = true := hat _ (by simp [Bundle.ownAtoms0])
  refine W.newc hexec hb hown hclink hins hini rfl d0 hR.2.2.1 hR.2.2.2 fun cC kC f1 f2 f3 f4 => ?_
  refine W.eq (g2 := F0 m (pc + 3) ls (.ref H.size :: rest)) rfl ?_
  refine lv_dup hexec hb d3 rfl ?_
  refine W.eq (g2 := F0 m (pc + 4) ls (.ref H.size :: .ref H.size :: rest)) rfl ?_
  have hA : fs_A s00 H.size := hS.1
  have hn : h H.size = none := fs_fresh hP (Nat.le_refl _)
  generalize hH1 : H.push ({ cls := cC, slots := kC.instanceTypes.map defaultValue, vm := .none } : Cell) = H1
  have z1 : H1.size = H.size + 1 := by rw [← hH1, Array.size_push]
  have e1 : H1[H.size]? = some (freshCell cC kC) := by rw [← hH1, Array.getElem?_push_size]
  have o1 : ∀ q : Nat, q < H.size → H1[q]? = H[q]? := fun q hq => by rw [← hH1, Array.getElem?_push, if_neg (Nat.ne_of_lt hq)]
  have hP1 : fs_P D cl (fs_A s00) h H1 := hP.grow o1
  have hS1 : va_S (fs_A s00) s00.heap H1 locs := ⟨Nat.le_trans hS.1 (by omega), fun x g1 g2 => (o1 x (Nat.lt_of_lt_of_le g1 hS.1)).trans (hS.2.1 x g1 g2), hS.2.2⟩
  generalize H.size = a at hA hn z1 e1 o1 hH ⊢
  intro T hT X
  subst hb
  obtain ⟨vm', ce, L, g1, g2, X', hL, st⟩ := fx_ctor0 X hexec (htr X.admits) (s00 := s00) hown hcls hnames hat hw h00 (by rw [hT]; exact hS1) f1 f2 (a := a) (by rw [hT]; exact e1) hH (pc := pc + 4) (ls := ls) (rest := rest) hsize d4 hR.1 (by
    have := hR.2.1
    simp only [List.map_cons, List.sum_cons]
    have hc : (Value.ref a).category = 1 := rfl
    rw [hc]
    omega)
  have ha : a < T.heap.size := by rw [hT]; omega
  have hh : ((T.setVm vm').setCell a ce).heap = T.heap.setIfInBounds a ce := rfl
  have hat2 : (T.heap.setIfInBounds a ce)[a]? = some ce := by simp [ha]
  have hoq : ∀ q : Nat, q ≠ a → (T.heap.setIfInBounds a ce)[q]? = H1[q]? := fun q hq => by
    rw [← hT]
    simp [Array.getElem?_setIfInBounds, Ne.symm hq]
  have hsz2 : (T.heap.setIfInBounds a ce).size = H1.size := by simp [hT]
  have K := fx_athrow (p := p) (l := l) (e := e) (R := R) (s := s) (m := m) (args := args) (below := below) (meth := meth) (c := c) (H := T.heap.setIfInBounds a ce) (locs := locs ++ L) (cells := cells + 1) (slots := slots + 6) (Q := Q) hexec rfl (pc := pc + 7) (ls := ls) (a := a) (rest := rest) d7
    (kk a (T.heap.setIfInBounds a ce) (locs ++ L) (hP1.off hn hoq) ⟨by rw [hsz2]; exact hS1.1, fun x q1 q2 => by
        have hne : x ≠ a := fun e9 => q2 (by rw [e9]; exact hA)
        rw [hoq x hne]; exact hS1.2.1 x q1 q2, fun q hq => by
        rcases List.mem_append.mp hq with h9 | h9
        · exact hS1.2.2 q h9
        · rw [hL q h9]; exact hA⟩ ⟨hA, ce, hat2, g2, by rw [g1]; exact f1⟩ (by rw [hsz2, z1]; omega))
  obtain ⟨t, a1, b1⟩ := K ((T.setVm vm').setCell a ce) hh X'
  exact ⟨t, st t a1, b1⟩
/-- a search of a table that may resolve a row's class: it ends at the handler pc, the tables warmer -/
def fx_Finds (e : Env) (s U : State) (f : JFrame) (a : Addr) (t : List ExceptionTableEntry) (pc : Nat) (vm' : Vm) : Prop :=
  s.WarmedH vm' ∧ ∀ (Q : Handler → Pre) (E : CtlPost) (d : Bool) (acts : List Action), wp (findHandler.go f a t) Q E e d acts U ↔ Q (.found pc) d acts (U.setVm vm')
theorem fx_go_cold {U : State} {f : JFrame} {a : Addr} {Q : Handler → Pre} {E : CtlPost} {d : Bool} {acts : List Action} {x : ExceptionTableEntry} {t : List ExceptionTableEntry} {k : ClassId} {cell : Cell} {vm' : Vm} (hx : covers x f.pc = true) (h0 : x.catchType ≠ 0)
    (hg : (resolveClass f.method.cls x.catchType).Gives e.toSetting U.vm (.ok k) vm') (hsz : vm'.classes.size ≤ U.vm.classes.size) (hcell : U.heap[a]? = some cell) (hobj : ∀ k, cell.vm ≠ .statics k)
    (hk : ∃ k, vm'.classes[cell.cls]? = some k) (hc : ∃ k2, vm'.classes[k]? = some k2) :
    wp (findHandler.go f a (x :: t)) Q E e d acts U ↔
      if vm'.assignable cell.cls k = true then Q (.found x.handlerPc) d acts (U.setVm vm') else wp (findHandler.go f a t) Q E e d acts (U.setVm vm') := by
  simp only [covers] at hx
  obtain ⟨ha, ht⟩ := hg.op (op := VmOp.resolveClass f.method.cls x.catchType) rfl
  cases hfit : vm'.assignable cell.cls k <;>
    simp [findHandler.go, hx, h0, ha, ht, hsz, hcell, hobj, hk, hc, hfit, VmOp.dirties, VmOp.acts]
end FXR
