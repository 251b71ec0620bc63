/-! A handler of the method's own takes the exception. -/
section FXC
variable {p : Program} {l : Launch} {e : Env} {R : Room} {s : State} {m : MethodId} {args : Array Value} {below : List Frame} {meth : Method} {c : Code} {H : Heap} {locs : List Loc} {cells slots : Nat} {Q : State → Prop}
variable {pc : Nat} {ls : Array Slot} {st : List Value}
theorem fx_step {U : State} {a : Addr} {f : JFrame} {r : List Frame} {pc' : Nat} {vm' : Vm} {meth' : Method} {code' : Code} (hm : U.vm.method? f.method = some meth') (hc : meth'.code = some code')
    (hf : ∀ (Q : Handler → Pre) (E : CtlPost) (d : Bool) (acts : List Action), wp (findHandler.go f a code'.exceptionTable.toList) Q E e d acts U ↔ Q (.found pc') d acts (U.setVm vm')) :
    (stepThrowing e U a (.java f :: r)).Is ((U.setVm vm').setFrames (.java { f with pc := pc', stack := [.ref a] } :: r)) [] := by
  simp only [stepThrowing, searchFrame, vmDo]
  generalize hr : Sem.go _ e false [] U = res
  obtain ⟨as, rfl, ha⟩ := Sem.eq_ok_of hr (a := Handler.found pc') (s' := U.setVm vm') (acts' := []) (by simp [W.findHandler_eq hm hc, hf])
  exact ⟨rfl, ha⟩
theorem fx_T.found {a : Addr} {pc' : Nat} (hfind : ∀ T : State, T.heap = H → Stand p l e R s m args below meth c T locs cells slots → ∃ vm', fx_Finds e s ((T.setTop (F0 m pc ls st)).pushFrame (.throwing a)) (F0 m pc ls st) a c.exceptionTable.toList pc' vm')
    (kk : W p l e R s m args below meth c H locs cells slots Q (F0 m pc' ls [.ref a])) : fx_T p l e R s m args below meth c H locs cells slots Q (F0 m pc ls st) a := by
  intro T hT X
  obtain ⟨vm', hW, hf⟩ := hfind T hT X
  obtain ⟨t, a1, b1⟩ := kk (T.setVm vm') hT (X.noted hW)
  refine ⟨t, ?_, b1⟩
  have h : At T (F0 m pc ls st).method c below := X.here
  obtain ⟨hgo, hw⟩ := h.throwing (g := F0 m pc ls st) a
  refine Steps.head hgo hw ?_
  have hm : ((T.setTop (F0 m pc ls st)).pushFrame (.throwing a)).vm.method? (F0 m pc ls st).method = some meth := by rw [throwing_vm]; exact X.method'
  rw [stepThread_throwing (frames_entered h.top _), (fx_step (r := T.frames.tail) hm X.code hf).1]
  obtain ⟨g₀, hg⟩ := Option.isSome_iff_exists.mp h.top
  obtain ⟨r, hr⟩ := State.topJava?_eq_some.mp hg
  have hr' : (T.setVm vm').frames = .java g₀ :: r := hr
  rw [State.setTop_of_frames _ hr'] at a1
  have e1 : (((T.setTop (F0 m pc ls st)).pushFrame (.throwing a)).setVm vm').setFrames (.java (F0 m pc' ls [.ref a]) :: T.frames.tail) = (T.setVm vm').setFrames (.java (F0 m pc' ls [.ref a]) :: r) := by
    rw [State.pushFrame, State.setTop_of_frames _ hr]
    have e2 : ∀ (fs1 fs2 : List Frame), ((((T.setFrames fs1).setFrames fs2).setVm vm').setFrames (.java (F0 m pc' ls [.ref a]) :: T.frames.tail)) = (((T.setVm vm').setFrames fs1).setFrames fs2).setFrames (.java (F0 m pc' ls [.ref a]) :: T.frames.tail) := fun _ _ => rfl
    rw [e2, State.setFrames_setFrames, State.setFrames_setFrames, hr]
    rfl
  exact e1 ▸ a1
theorem fx_Finds.hit {U : State} {f : JFrame} {a : Addr} {x : ExceptionTableEntry} {t : List ExceptionTableEntry} {A : Nat → Prop} {own E C : String} (hW : s.WarmedH U.vm) (hadm : l.admits e) (hown : s.vm.findClass own = some f.method.cls) (hx : covers x f.pc = true) (h0 : x.catchType ≠ 0)
    (hlink : (Cond.classLink own x.catchType C).before args s = true) (hex : fs_X A E a s U.heap) (hcast : (Cond.castable E C).before args s = true) : ∃ vm', fx_Finds e s U f a (x :: t) x.handlerPc vm' := by
  have hpl : e.platform.magicAccessors = ({} : Platform).magicAccessors := by rw [hadm.platform]
  obtain ⟨k, hk, hl⟩ := Cond.classLink_spec hown hlink e.platform hpl
  obtain ⟨hg, hW1, -⟩ := State.classEntry (e := e) hW hl
  obtain ⟨-, cell, hcell, hnone, hfc⟩ := hex
  obtain ⟨c1, t1, w1, w2, w3⟩ := Cond.castable_spec hcast
  cases Option.some.inj (w1.symm.trans hfc)
  cases Option.some.inj (w2.symm.trans hk)
  refine ⟨_, hW1, fun Q E d acts => ?_⟩
  rw [fx_go_cold hx h0 hg (by simp) hcell (fun k h => by rw [hnone] at h; cases h) (Vm.classAt_of_findClass (by rw [hW1.alike.findClass]; exact hfc)) (Vm.classAt_of_findClass (by rw [hW1.alike.findClass]; exact hk)), if_pos (by rw [hW1.alike.assignable]; exact w3)]
theorem fx_Finds.pass {U : State} {f : JFrame} {a : Addr} {x : ExceptionTableEntry} {t : List ExceptionTableEntry} {A : Nat → Prop} {own E C : String} {pc' : Nat} (hW : s.WarmedH U.vm) (hadm : l.admits e) (hown : s.vm.findClass own = some f.method.cls) (hx : covers x f.pc = true) (h0 : x.catchType ≠ 0)
    (hlink : (Cond.classLink own x.catchType C).before args s = true) (hex : fs_X A E a s U.heap) (hcast : va_Nc E C s) (hnext : ∀ vm1, s.WarmedH vm1 → ∃ vm', fx_Finds e s (U.setVm vm1) f a t pc' vm') : ∃ vm', fx_Finds e s U f a (x :: t) pc' vm' := by
  have hpl : e.platform.magicAccessors = ({} : Platform).magicAccessors := by rw [hadm.platform]
  obtain ⟨k, hk, hl⟩ := Cond.classLink_spec hown hlink e.platform hpl
  obtain ⟨hg, hW1, -⟩ := State.classEntry (e := e) hW hl
  obtain ⟨-, cell, hcell, hnone, hfc⟩ := hex
  obtain ⟨c1, t1, w1, w2, w3⟩ := hcast
  cases Option.some.inj (w1.symm.trans hfc)
  cases Option.some.inj (w2.symm.trans hk)
  obtain ⟨vm', hW2, hf⟩ := hnext _ hW1
  refine ⟨vm', hW2, fun Q E d acts => ?_⟩
  rw [fx_go_cold hx h0 hg (by simp) hcell (fun k h => by rw [hnone] at h; cases h) (Vm.classAt_of_findClass (by rw [hW1.alike.findClass]; exact hfc)) (Vm.classAt_of_findClass (by rw [hW1.alike.findClass]; exact hk)), if_neg (by rw [hW1.alike.assignable, w3]; decide), hf]
  rfl
end FXC
