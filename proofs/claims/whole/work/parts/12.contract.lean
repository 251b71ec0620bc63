/-! A contract over the world: what a method does to what lies where; it returns a value, or throws an exception of a named class. -/
abbrev fs_O : Type := Option Value ⊕ String
def fs_is (A : Nat → Prop) (o : fs_O) (oc : Outcome) (t : State) : Prop := match o with
  | .inl v => oc = .returned v
  | .inr C => ∃ a : Nat, oc = .threw a ∧ fs_X A C a t t.heap
/-- the law's start: the launch without traces, the tables' words, the classes as the tables have them -/
def fs_St (l : Launch) (s00 : State) (G : fs_G) : Prop := l.flags = flags0 ∧ (∃ b : Nat, (∀ w ∈ lw_tbl, w.before #[Value.ref b] s00 = true) ∧ (Jvm.Cond.and given_1 narrow_1).before #[Value.ref b] s00 = true) ∧ va_K G.1 fs_cl (fs_tys G) s00
theorem fs_St.T {l : Launch} {s00 s : State} {G : fs_G} (h : fs_St l s00 G) (hw : fs_W s00 s) : fs_T s := by
  obtain ⟨-, ⟨b, h1, -⟩, -⟩ := h
  exact fs_T.warm hw.1 (fs_T.of h1)
theorem fs_St.K {l : Launch} {s00 s : State} {G : fs_G} (h : fs_St l s00 G) (hw : fs_W s00 s) : va_K G.1 fs_cl (fs_tys G) s := va_K.moved hw.1.alike h.2.2
theorem fs_St.tr {l : Launch} {s00 : State} {G : fs_G} {e : Env} (h : fs_St l s00 G) (ha : l.admits e) : e.platform.stackTraces = false := by
  rw [ha.platform]
  show l.stackTraces = false
  unfold Launch.stackTraces
  rw [h.1]
  decide +kernel
theorem fs_T.all {s : State} (h : fs_T s) (args : Array Value) : ∀ w ∈ fs_tb, w.before args s = true := by
  intro w hw
  obtain ⟨h1, h2⟩ := List.mem_filter.mp hw
  rcases fs_okw_cases h2 with hg | ⟨a, b, c, d, rfl⟩ | ⟨a, b, c, d, e, f, rfl⟩ | ⟨x, rfl⟩ | ⟨a, b, rfl⟩ | ⟨C, rfl⟩
  · exact word_at (State.WarmedH.refl s) (good_of_word hg) (h w h1 h2)
  · exact va_Nw.use rfl (h _ h1 h2)
  · exact va_Nw.use rfl (h _ h1 h2)
  · exact va_Nw.use rfl (h _ h1 h2)
  · exact va_Nw.use rfl (h _ h1 h2)
  · exact va_AO.use (h _ h1 h2)
theorem fs_tb_at (i : Nat) {w : Cond} (hi : lw_tbl[i]? = some w) (hok : fs_okw w = true) : w ∈ fs_tb := List.mem_filter.mpr ⟨List.mem_of_getElem? hi, hok⟩
abbrev fs_Pc (s00 : State) (G : fs_G) (As : List Value) (h : fs_Hp) : Array Value → State → Prop := va_Pc As (fun U => fs_W s00 U ∧ fs_P G.1 fs_cl (fs_A s00) h U.heap)
def fs_Qc (s00 : State) (G : fs_G) (Post : fs_O → fs_Hp → Prop) : Array Value → State → Outcome → State → Prop := fun _ _ oc t => ∃ (o : fs_O) (h' : fs_Hp), fs_is (fs_A s00) o oc t ∧ Post o h' ∧ fs_P G.1 fs_cl (fs_A s00) h' t.heap ∧ fs_W s00 t
/-- the contract of y, whose head word is hd -/
def fs_Ct (l : Launch) (s00 : State) (G : fs_G) (y : MethodName) (hd : Cond) (rm : Room) (As : List Value) (h : fs_Hp) (Post : fs_O → fs_Hp → Prop) : Prop :=
  fx_Met l y [hd] rm (fs_Pc s00 G As h) (fs_Qc s00 G Post) rm.cells rm.slots (fs_A s00)
/-- what a walk of y has at its entry -/
def fs_B (p : Program) (l : Launch) (e : Env) (s : State) (m : MethodId) (args : Array Value) (meth : Method) (c : Code) (s00 : State) (G : fs_G) (y : MethodName) (cc : ByteArray) (maxL : Nat) (ret : Option FieldType) : Prop :=
  p.tables.exec = Jvm.exec ∧ c.code = cc ∧ meth.sig.returnType = ret ∧ c.maxLocals = maxL ∧ s.vm.findClass y.cls = some m.cls ∧ (∀ w ∈ fs_tb, w.before args s = true) ∧ meth.locks = false ∧ meth.name = y.name ∧ va_K G.1 fs_cl (fs_tys G) s ∧ fs_W s00 s ∧ (l.admits e → e.platform.stackTraces = false)
theorem fs_Ct.ofW {l : Launch} {s00 : State} {G : fs_G} {y : MethodName} {cc : ByteArray} {maxL : Nat} {ret : Option FieldType} {rm : Room} {As : List Value} {h : fs_Hp} {Post : fs_O → fs_Hp → Prop} (hSt : fs_St l s00 G) (hy : plainName y.cls = true)
    (body : ∀ (p : Program) (e : Env) (s : State) (m : MethodId) (below : List Frame) (meth : Method) (c : Code), fs_B p l e s m As.toArray meth c s00 G y cc maxL ret → (∀ pc, ∀ x ∈ c.exceptionTable.toList, covers x pc = false) → fs_P G.1 fs_cl (fs_A s00) h s.heap →
      W p l e rm s m As.toArray below meth c s.heap [] 0 0 (fx_MQ below (fs_Qc s00 G Post) As.toArray s rm.cells rm.slots (fs_A s00)) (entryFrame m As.toArray maxL)) : fs_Ct l s00 G y (.code y cc maxL ret) rm As h Post := by
  refine fx_Met.ofW (cc := cc) (maxL := maxL) (ret := ret) hy rfl ?_
  intro p e s m args below meth c s₁ B hml hv
  obtain ⟨rfl, hw, hP⟩ := hv
  exact body p e s m below meth c ⟨B.exec, B.bytes, B.returns, hml, findClass_of_methodNamed B.named, (hSt.T hw).all _, B.notSynchronized, (name_of_methodNamed B.named B.method).1, hSt.K hw, hw, hSt.tr⟩ (fx_none rfl B) hP
/-- the same, of a method with handlers -/
theorem fs_Ct.ofH {l : Launch} {s00 : State} {G : fs_G} {y : MethodName} {cc : ByteArray} {maxL : Nat} {ret : Option FieldType} {hs : List (Nat × Nat × Nat × Nat)} {rm : Room} {As : List Value} {h : fs_Hp} {Post : fs_O → fs_Hp → Prop} (hSt : fs_St l s00 G) (hy : plainName y.cls = true)
    (body : ∀ (p : Program) (e : Env) (s : State) (m : MethodId) (below : List Frame) (meth : Method) (c : Code), fs_B p l e s m As.toArray meth c s00 G y cc maxL ret → c.exceptionTable.toList = tableOf hs → fs_P G.1 fs_cl (fs_A s00) h s.heap →
      W p l e rm s m As.toArray below meth c s.heap [] 0 0 (fx_MQ below (fs_Qc s00 G Post) As.toArray s rm.cells rm.slots (fs_A s00)) (entryFrame m As.toArray maxL)) : fs_Ct l s00 G y (.codeWith y cc maxL ret hs) rm As h Post := by
  unfold fs_Ct fx_Met
  refine MetFree.of_bodyS (code := cc) (maxLocals := maxL) (ret := ret) hy ?_ ?_
  · intro args s m hh hn
    obtain ⟨m', meth, c, h0, h1, h2, h3, h4, h5, h6, h7, -⟩ := Cond.codeWith_spec (atoms_spec (ws := [Cond.codeWith y cc maxL ret hs]) hh _ List.mem_cons_self)
    cases hn.symm.trans h0
    exact ⟨meth, c, h1, h2, h3, h4, h6, h7⟩
  · intro p e s m args below meth c s₁ B hml hv _
    obtain ⟨rfl, hw, hP⟩ := hv
    have hh0 : s₁.heap = s.heap := by rw [B.state]; rfl
    obtain ⟨m', meth', c', h0, h1, h2, h3, h4, h5, h6, h7, -⟩ := Cond.codeWith_spec (atoms_spec (ws := [Cond.codeWith y cc maxL ret hs]) B.pre _ List.mem_cons_self)
    cases B.named.symm.trans h0
    cases B.method.symm.trans h1
    have e2 : c' = c := Option.some.inj (h2.symm.trans (Stand.of_body B).code)
    subst e2
    have K := body p e s m below meth c' ⟨B.exec, B.bytes, B.returns, hml, findClass_of_methodNamed B.named, (hSt.T hw).all _, B.notSynchronized, (name_of_methodNamed B.named B.method).1, hSt.K hw, hw, hSt.tr⟩ (by rw [← h5, table_eq]) hP
    obtain ⟨t, a1, o, b1, b2, b3⟩ := K s₁ hh0 (Stand.of_body B)
    exact ⟨t, o, a1, b1, b2, ⟨b3.1, b3.2⟩⟩
section FSE
variable {p : Program} {l : Launch} {e : Env} {R : Room} {s : State} {m : MethodId} {args : Array Value} {below : List Frame} {meth : Method} {c : Code} {H : Heap} {locs : List Loc} {cells slots : Nat} {Q : State → Prop}
variable {cc : ByteArray} {pc : Nat} {ls : Array Slot} {rest : List Value} {G : fs_G} {h : fs_Hp} {s00 : State} {Post : fs_O → fs_Hp → Prop} {mc ms : Nat}
theorem fs_iret {v : Int32} {ty : FieldType} (hx : p.tables.exec = Jvm.exec) (hb : c.code = cc) (hr : meth.sig.returnType = some ty) (hlocks : meth.locks = false) (hw : fs_W s00 s) (hP : fs_P G.1 fs_cl (fs_A s00) h H) (hS : va_S (fs_A s00) s00.heap H locs) (hn : narrow ty (.int v) = .int v) (hc : cells ≤ mc) (hs : slots ≤ ms) (hq : Post (.inl (some (.int v))) h) (hdg : decode cc pc = .ok (.ireturn, 1)) :
    W p l e R s m args below meth c H locs cells slots (fx_MQ below (fs_Qc s00 G Post) args s mc ms (fs_A s00)) (F0 m pc ls [.int v]) :=
  W.widen hc hs (fx_mono (fun _ => fx_MQ.of) (W.zret hx hb hr hn (fun t ht hW => ⟨(.inl (some (.int v))), h, rfl, hq, by rw [ht]; exact hP, hw.of hS ht hW⟩) hS.2.2 hdg hlocks))
theorem fs_lret {v : Int64} (hx : p.tables.exec = Jvm.exec) (hb : c.code = cc) (hr : meth.sig.returnType = some .long) (hlocks : meth.locks = false) (hw : fs_W s00 s) (hP : fs_P G.1 fs_cl (fs_A s00) h H) (hS : va_S (fs_A s00) s00.heap H locs) (hc : cells ≤ mc) (hs : slots ≤ ms) (hq : Post (.inl (some (.long v))) h) (hdg : decode cc pc = .ok (.lreturn, 1)) :
    W p l e R s m args below meth c H locs cells slots (fx_MQ below (fs_Qc s00 G Post) args s mc ms (fs_A s00)) (F0 m pc ls [.long v]) :=
  W.widen hc hs (fx_mono (fun _ => fx_MQ.of) (W.lret hx hb hr (fun t ht hW => ⟨(.inl (some (.long v))), h, rfl, hq, by rw [ht]; exact hP, hw.of hS ht hW⟩) hS.2.2 hdg hlocks))
theorem fs_dret {v : UInt64} (hx : p.tables.exec = Jvm.exec) (hb : c.code = cc) (hr : meth.sig.returnType = some .double) (hlocks : meth.locks = false) (hw : fs_W s00 s) (hP : fs_P G.1 fs_cl (fs_A s00) h H) (hS : va_S (fs_A s00) s00.heap H locs) (hc : cells ≤ mc) (hs : slots ≤ ms) (hq : Post (.inl (some (.double v))) h) (hdg : decode cc pc = .ok (.dreturn, 1)) :
    W p l e R s m args below meth c H locs cells slots (fx_MQ below (fs_Qc s00 G Post) args s mc ms (fs_A s00)) (F0 m pc ls [.double v]) :=
  W.widen hc hs (fx_mono (fun _ => fx_MQ.of) (W.dret hx hb hr (fun t ht hW => ⟨(.inl (some (.double v))), h, rfl, hq, by rw [ht]; exact hP, hw.of hS ht hW⟩) hS.2.2 hdg hlocks))
theorem fs_aret {v : Value} {rt : FieldType} (hx : p.tables.exec = Jvm.exec) (hb : c.code = cc) (hr : meth.sig.returnType = some rt) (hrt : (∃ n, rt = .object n) ∨ ∃ t, rt = .array t) (hv : v = .null ∨ ∃ a, v = .ref a) (hlocks : meth.locks = false) (hw : fs_W s00 s) (hP : fs_P G.1 fs_cl (fs_A s00) h H) (hS : va_S (fs_A s00) s00.heap H locs) (hc : cells ≤ mc) (hs : slots ≤ ms) (hq : Post (.inl (some v)) h) (hdg : decode cc pc = .ok (.areturn, 1)) :
    W p l e R s m args below meth c H locs cells slots (fx_MQ below (fs_Qc s00 G Post) args s mc ms (fs_A s00)) (F0 m pc ls [v]) :=
  W.widen hc hs (fx_mono (fun _ => fx_MQ.of) (W.aret hx hb hr hrt hv (fun t ht hW => ⟨(.inl (some v)), h, rfl, hq, by rw [ht]; exact hP, hw.of hS ht hW⟩) hS.2.2 hdg hlocks))
theorem fs_vret (hx : p.tables.exec = Jvm.exec) (hb : c.code = cc) (hr : meth.sig.returnType = none) (hlocks : meth.locks = false) (hw : fs_W s00 s) (hP : fs_P G.1 fs_cl (fs_A s00) h H) (hS : va_S (fs_A s00) s00.heap H locs) (hc : cells ≤ mc) (hs : slots ≤ ms) (hq : Post (.inl none) h) (hdg : decode cc pc = .ok (.return_, 1)) :
    W p l e R s m args below meth c H locs cells slots (fx_MQ below (fs_Qc s00 G Post) args s mc ms (fs_A s00)) (F0 m pc ls []) :=
  W.widen hc hs (fx_mono (fun _ => fx_MQ.of) (W.vret hx hb hr (fun t ht hW => ⟨(.inl none), h, rfl, hq, by rw [ht]; exact hP, hw.of hS ht hW⟩) hS.2.2 hdg hlocks))
/-- the exception leaves the method -/
theorem fs_out {C : String} {a : Nat} {st : List Value} (hout : ∀ x ∈ c.exceptionTable.toList, covers x pc = false) (hlocks : meth.locks = false) (hw : fs_W s00 s) (hP : fs_P G.1 fs_cl (fs_A s00) h H) (hS : va_S (fs_A s00) s00.heap H locs) (hX : fs_X (fs_A s00) C a s H) (hc : cells ≤ mc) (hs : slots ≤ ms) (hq : Post (.inr C) h) :
    fx_T p l e R s m args below meth c H locs cells slots (fx_MQ below (fs_Qc s00 G Post) args s mc ms (fs_A s00)) (F0 m pc ls st) a := by
  intro T hT X
  exact fx_T.leave hout hlocks (fun t ht hW => ⟨.inr C, h, ⟨a, rfl, by rw [ht]; exact hX.moved hW.alike⟩, hq, by rw [ht]; exact hP, hw.of hS ht hW⟩) hS.2.2 T hT (stand_widen X hc hs)
/-- a call by contract -/
theorem fs_call {y : MethodName} {hd : Cond} {rm : Room} {As : List Value} {Post' : fs_O → fs_Hp → Prop} {maxL len : Nat} {ig : Instr} {st : List Value} (hb : c.code = cc) (hsz : ls.size = c.maxLocals) (hw : fs_W s00 s) (hP : fs_P G.1 fs_cl (fs_A s00) h H) (hS : va_S (fs_A s00) s00.heap H locs)
    (hdg : decode cc pc = .ok (ig, len))
    (hto : ∀ T : State, T.heap = H → Stand p l e R s m args below meth c T locs cells slots → fx_To p l e R s m args below meth c locs cells slots T (F0 m pc ls st) (F0 m pc ls rest) y As.toArray)
    (hM : fs_Ct l s00 G y hd rm As h Post') (hhd : hd.before args s = true) (hgood : goodWord hd = true)
    (hcy : ∀ (U : State) (mk : MethodId), hd.before #[] U = true → U.methodNamed? y = some mk → ∃ (methY : Method) (cY : Code), U.vm.method? mk = some methY ∧ methY.code = some cY ∧ cY.maxLocals = maxL)
    (hini : (Cond.initialized y.cls).before args s = true)
    (hroom : rm.frames + 1 ≤ R.frames ∧ (rest.map fun v => v.category).sum + (maxL + 11) + rm.locals ≤ R.locals ∧ cells + rm.cells ≤ R.cells ∧ slots + rm.slots ≤ R.slots)
    (kr : ∀ (v : Option Value) (h' : fs_Hp) (H1 : Heap) (locs1 : List Loc), Post' (.inl v) h' → fs_P G.1 fs_cl (fs_A s00) h' H1 → va_S (fs_A s00) s00.heap H1 locs1 → W p l e R s m args below meth c H1 locs1 (cells + rm.cells) (slots + rm.slots) Q (F0 m (pc + len) ls (v.toList ++ rest)))
    (kt : ∀ (C : String) (a : Nat) (h' : fs_Hp) (H1 : Heap) (locs1 : List Loc), Post' (.inr C) h' → fs_P G.1 fs_cl (fs_A s00) h' H1 → va_S (fs_A s00) s00.heap H1 locs1 → fs_X (fs_A s00) C a s H1 → fx_T p l e R s m args below meth c H1 locs1 (cells + rm.cells) (slots + rm.slots) Q (F0 m pc ls rest) a) :
    W p l e R s m args below meth c H locs cells slots Q (F0 m pc ls st) := by
  have hSn : ∀ (t : State) (H1 : Heap) (L : List Loc), t.heap = H1 → fs_W s00 t → (∀ q ∈ L, fs_A s00 q.base) → va_S (fs_A s00) s00.heap H1 (locs ++ L) := fun t H1 L ht hwt hL => by
    subst ht
    exact ⟨hwt.2.1, fun q hq _ => hwt.2.2 q hq, fun q hq => (List.mem_append.mp hq).elim (hS.2.2 q) (hL q)⟩
  refine fx_call hb hsz hdg hto hM (fun w hw' a' U hW => ?_) (fun U mk hW hn => hcy U mk (word_at hW (good_of_word hgood) hhd) hn) (fun a' U hW => word_at hW (Or.inl (by first | rfl | simp [Cond.onTables, Cond.keeps, Cond.steady])) hini) hroom (fun U hU hW => ⟨rfl, hw.of hS hU hW, by rw [hU]; exact hP⟩) ?_ ?_
  · cases List.mem_singleton.mp hw'
    exact word_at hW (good_of_word hgood) hhd
  · intro v s2 t H1 L h2 hW2 ht hWt hq hL
    obtain ⟨o, h', h3, h4, h5, h6⟩ := hq
    cases o with
    | inl v' =>
      have e1 : Outcome.returned v = .returned v' := h3
      cases e1
      exact kr v h' H1 (locs ++ L) h4 (by rw [← ht]; exact h5) (hSn t H1 L ht h6 hL)
    | inr C =>
      obtain ⟨a, e1, -⟩ := h3
      cases e1
  · intro x s2 t H1 L h2 hW2 ht hWt hq hL
    obtain ⟨o, h', h3, h4, h5, h6⟩ := hq
    cases o with
    | inl v' =>
      have e1 : Outcome.threw x = .returned v' := h3
      cases e1
    | inr C =>
      obtain ⟨a, e1, hX⟩ := h3
      cases e1
      exact kt C x h' H1 (locs ++ L) h4 (by rw [← ht]; exact h5) (hSn t H1 L ht h6 hL) (by rw [← ht]; exact fs_X.moved hWt.alike.symm hX)
end FSE
