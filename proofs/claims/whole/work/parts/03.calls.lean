/-! A call by a contract that may throw: two roads on. -/
section FX2
variable {p : Program} {l : Launch} {e : Env} {R : Room} {s : State} {m : MethodId} {args : Array Value} {below : List Frame} {meth : Method} {c : Code} {H : Heap} {locs : List Loc} {cells slots : Nat} {Q : State → Prop}
theorem fx_none {y : MethodName} {ws ws' : List Cond} {rm : Room} {cc : ByteArray} {maxL : Nat} {ret : Option FieldType} {s₁ : State} (hw : ws = Cond.code y cc maxL ret :: ws') (B : BodyLoose p l y (headSpec ws rm) cc maxL ret e s m args below meth c s₁) : ∀ pc, ∀ x ∈ c.exceptionTable.toList, covers x pc = false := by
  intro pc x hx
  obtain ⟨meth', c', h1, h2, -, -, -, -, h7, -⟩ := Cond.code_spec B.named (atoms_spec (ws := ws) B.pre _ (by rw [hw]; exact List.mem_cons_self))
  have e1 : meth' = meth := Option.some.inj (h1.symm.trans B.method)
  subst e1
  have e2 : c' = c := Option.some.inj (h2.symm.trans (Stand.of_body B).code)
  subst e2
  have : c'.exceptionTable.toList = [] := by
    have h8 := h7
    simp only [Array.isEmpty_iff] at h8
    rw [h8]
  rw [this] at hx
  cases hx
theorem fx_call {cc : ByteArray} {pc len : Nat} {ls : Array Slot} {st rest : List Value} {ig : Instr} {y : MethodName} {a : Array Value} {ws : List Cond} {rm : Room} {Pc : Array Value → State → Prop} {Qc : Array Value → State → Outcome → State → Prop} {mc ms maxL : Nat} {free : Addr → Prop}
    (hb : c.code = cc) (hsz : ls.size = c.maxLocals) (hdg : decode cc pc = .ok (ig, len))
    (hto : ∀ T : State, T.heap = H → Stand p l e R s m args below meth c T locs cells slots → fx_To p l e R s m args below meth c locs cells slots T (F0 m pc ls st) (F0 m pc ls rest) y a)
    (hM : fx_Met l y ws rm Pc Qc mc ms free)
    (hws : ∀ w ∈ ws, ∀ (a' : Array Value) (U : State), s.WarmedH U.vm → w.before a' U = true)
    (hcy : ∀ (U : State) (mk : MethodId), s.WarmedH U.vm → U.methodNamed? y = some mk → ∃ (methY : Method) (cY : Code), U.vm.method? mk = some methY ∧ methY.code = some cY ∧ cY.maxLocals = maxL)
    (hini : ∀ (a' : Array Value) (U : State), s.WarmedH U.vm → (Cond.initialized y.cls).before a' U = true)
    (hroom : rm.frames + 1 ≤ R.frames ∧ (rest.map fun v => v.category).sum + (maxL + 11) + rm.locals ≤ R.locals ∧ cells + rm.cells ≤ R.cells ∧ slots + rm.slots ≤ R.slots)
    (hPc : ∀ U : State, U.heap = H → s.WarmedH U.vm → Pc a U)
    (kr : ∀ (v : Option Value) (s2 t : State) (H1 : Heap) (L : List Loc), s2.heap = H → s.WarmedH s2.vm → t.heap = H1 → s.WarmedH t.vm → Qc a s2 (.returned v) t → (∀ q ∈ L, free q.base) → W p l e R s m args below meth c H1 (locs ++ L) (cells + mc) (slots + ms) Q (F0 m (pc + len) ls (v.toList ++ rest)))
    (kt : ∀ (x : Addr) (s2 t : State) (H1 : Heap) (L : List Loc), s2.heap = H → s.WarmedH s2.vm → t.heap = H1 → s.WarmedH t.vm → Qc a s2 (.threw x) t → (∀ q ∈ L, free q.base) → fx_T p l e R s m args below meth c H1 (locs ++ L) (cells + mc) (slots + ms) Q (F0 m pc ls rest) x) :
    W p l e R s m args below meth c H locs cells slots Q (F0 m pc ls st) := by
  intro T hT X0
  obtain ⟨vm₁, mk, X, hn, hst⟩ := hto T hT X0
  generalize hU : T.setVm vm₁ = U at X hn hst
  have hUh : U.heap = H := by rw [← hU]; exact hT
  obtain ⟨methY, cY, hmY, hcY, hlY⟩ := hcy U mk X.warmed hn
  obtain ⟨kY, hkY, -⟩ := className_of_methodNamed hn
  have hinitY : kY.init = .initialized := Cond.initialized_spec (findClass_of_methodNamed hn) hkY (hini a U X.warmed)
  have h : At U m c below := X.here
  have happ : (headSpec ws rm).appliesLoose y e.platform (U.calling (F0 m pc ls rest) mk a) = true :=
    Spec.appliesLoose_calling (g := F0 m pc ls rest) h (by rw [hb]; exact hdg) hn hkY hinitY
      (X.room_calling (g := F0 m pc ls rest) (R' := rm) hsz hmY hcY hroom.1 (by
        have h0 : (F0 m pc ls rest).monitorRoom = 0 := rfl
        have h1 : (F0 m pc ls rest).stack = rest := rfl
        rw [hlY, h0, h1]; have := hroom.2.1; omega) hroom.2.2.1 hroom.2.2.2) (atoms_intro fun w hw => hws w hw _ _ X.warmed)
  obtain ⟨mid, hmid⟩ := h.above
  have hfr : (U.setTop (F0 m pc ls rest)).frames = (.java (F0 m pc ls rest) :: mid) ++ below := by rw [State.frames_setTop' _ h.top, hmid]; rfl
  obtain ⟨o, s₂, hsteps, -, hend, hq, L, ⟨hW₂, e2, q2, q3, q4, q5, q6⟩, hL⟩ := Steps.callFree hM p X.admits X.cas X.clock (acts := []) hfr happ (hPc (U.calling (F0 m pc ls rest) mk a) hUh X.warmed) trivial
  have hq' : Qc a (U.calling (F0 m pc ls rest) mk a) o s₂ := hq
  rw [State.frames_setTop' _ h.top] at hend
  have e3 : s₂ = ({ (U.calling (F0 m pc ls rest) mk a).setFrames s₂.frames with heap := s₂.heap, slotsUsed := s₂.slotsUsed } : State).setVm s₂.vm := by
    have : s₂ = ({ s₂ with vm := (U.calling (F0 m pc ls rest) mk a).vm } : State).setVm s₂.vm := rfl
    have e2' : ({ s₂ with vm := (U.calling (F0 m pc ls rest) mk a).vm } : State) = _ := e2
    rw [e2'] at this
    exact this
  have hW' : U.WarmedH s₂.vm := hW₂
  obtain ⟨g₀, hg0⟩ := Option.isSome_iff_exists.mp h.top
  obtain ⟨r, hr⟩ := State.topJava?_eq_some.mp hg0
  have hsame : U.sameButNew ({ U with heap := s₂.heap, slotsUsed := s₂.slotsUsed } : State) L mc ms := by
    refine ⟨?_, q2, q3, q4, q5, q6⟩
    obtain ⟨t, ht, -⟩ := State.frames_cons hr
    show ({ U with heap := s₂.heap, slotsUsed := s₂.slotsUsed } : State) = { U.setFrames U.frames with heap := s₂.heap, slotsUsed := s₂.slotsUsed }
    rw [State.setFrames_self ht]
  have X2 : Stand p l e R s m args below meth c (({ U with heap := s₂.heap, slotsUsed := s₂.slotsUsed } : State).setVm s₂.vm) (locs ++ L) (cells + mc) (slots + ms) :=
    ⟨X.admits, X.cas, X.clock, X.frames, X.room, X.hears, X.method, X.code, (X.here.setHeapUsed s₂.heap s₂.slotsUsed).setVm hW'.alike, X.tail, State.WarmedH.trans X.warmed hW', X.limits, X.bytes, X.same.trans (hsame.setVm s.vm)⟩
  have hr' : (({ U with heap := s₂.heap, slotsUsed := s₂.slotsUsed } : State).setVm s₂.vm).frames = .java g₀ :: r := hr
  cases o with
  | returned v =>
    obtain ⟨c₂, i₂, len₂, hc₂, hd₂, hf₂⟩ := hend
    have hcc : c₂ = c := by
      have h1 : s₂.code? m = U.code? m := by
        rw [State.code?_eq, State.code?_eq, hW'.alike.method?]
      exact Option.some.inj (hc₂.symm.trans (h1.trans h.code))
    subst hcc
    have hlen : len₂ = len := by
      have hd3 : decode c₂.code pc = .ok (i₂, len₂) := hd₂
      rw [hb, hdg] at hd3; cases hd3; rfl
    subst hlen
    have hs₂ : s₂ = (({ U with heap := s₂.heap, slotsUsed := s₂.slotsUsed } : State).setVm s₂.vm).setTop (F0 m (pc + len₂) ls (v.toList ++ rest)) := by
      refine e3.trans ?_
      rw [hf₂, State.calling_eq h.top, State.setFrames_setFrames, State.setTop_of_frames _ hr', hr]
      rfl
    obtain ⟨t, a1, b1⟩ := kr v (U.calling (F0 m pc ls rest) mk a) s₂ s₂.heap L hUh X.warmed rfl (State.WarmedH.trans X.warmed hW') hq' hL (({ U with heap := s₂.heap, slotsUsed := s₂.slotsUsed } : State).setVm s₂.vm) rfl X2
    refine ⟨t, hst t ?_, b1⟩
    rw [← hs₂] at a1
    exact hsteps.trans a1
  | threw x =>
    have hf₂ : s₂.frames = .throwing x :: .java (F0 m pc ls rest) :: U.frames.tail := hend
    have hs₂ : s₂ = ((({ U with heap := s₂.heap, slotsUsed := s₂.slotsUsed } : State).setVm s₂.vm).setTop (F0 m pc ls rest)).pushFrame (.throwing x) := by
      refine e3.trans ?_
      rw [hf₂, State.calling_eq h.top, State.setFrames_setFrames, State.pushFrame, State.frames_setTop _ hr', State.setTop_of_frames _ hr', State.setFrames_setFrames, hr]
      rfl
    obtain ⟨t, a1, b1⟩ := kt x (U.calling (F0 m pc ls rest) mk a) s₂ s₂.heap L hUh X.warmed rfl (State.WarmedH.trans X.warmed hW') hq' hL (({ U with heap := s₂.heap, slotsUsed := s₂.slotsUsed } : State).setVm s₂.vm) rfl X2
    refine ⟨t, hst t ?_, b1⟩
    rw [← hs₂] at a1
    exact hsteps.trans a1
end FX2
