/-! Checked functions: a result, or none. -/
noncomputable def fs_okp {α : Type} (c : Prop) (x : Option α) : Option α := @ite _ c (Classical.propDecidable c) x none
theorem fs_okp_some {α : Type} {c : Prop} {x : Option α} {r : α} (h : fs_okp c x = some r) : c ∧ x = some r := by
  unfold fs_okp at h
  by_cases hc : c
  · rw [if_pos hc] at h; exact ⟨hc, h⟩
  · rw [if_neg hc] at h; cases h
theorem fs_okp_pos {α : Type} {c : Prop} {x : Option α} (hc : c) : fs_okp c x = x := by
  unfold fs_okp
  rw [if_pos hc]
def fs_let {α β : Type} (v : α) (f : α → Option β) : Option β := f v
theorem fs_let_some {α β : Type} {v : α} {f : α → Option β} {r : β} (h : fs_let v f = some r) : ∃ x, x = v ∧ f x = some r := ⟨v, rfl, h⟩
theorem fs_bind_some {α β : Type} {o : Option α} {f : α → Option β} {r : β} (h : Option.bind o f = some r) : ∃ x, o = some x ∧ f x = some r := by
  cases o with
  | none => cases h
  | some x => exact ⟨x, rfl, h⟩
theorem fs_ifp {α : Type} {c : Prop} {i : Decidable c} {x y : Option α} {r : α} (hc : c) (h : @ite _ c i x y = some r) : x = some r := by
  rw [if_pos hc] at h; exact h
theorem fs_ifn {α : Type} {c : Prop} {i : Decidable c} {x y : Option α} {r : α} (hc : ¬ c) (h : @ite _ c i x y = some r) : y = some r := by
  rw [if_neg hc] at h; exact h
theorem fs_tabD {p : Program} {l : Launch} {e : Env} {R : Room} {s : State} {m : MethodId} {args : Array Value} {below : List Frame} {meth : Method} {c : Code} {H : Heap} {locs : List Loc} {cells slots : Nat} {Q : State → Prop} {cc : ByteArray} {pc : Nat} {ls : Array Slot} {rest : List Value} (hexec : p.tables.exec = Jvm.exec) (hb : c.code = cc) {dflt lo hi : Int} {offs : Array Int} {len : Nat} {x : Int32} {tgt : Nat} (hdg : decode cc pc = .ok (.tableswitch dflt lo hi offs, len)) (hd : ¬ x.toInt < lo → ¬ hi < x.toInt → offs[(x.toInt - lo).toNat]? = some dflt) (ht : (pc : Int) + dflt = (tgt : Int)) (k : W p l e R s m args below meth c H locs cells slots Q (F0 m tgt ls rest)) : W p l e R s m args below meth c H locs cells slots Q (F0 m pc ls (.int x :: rest)) := by
  by_cases h1 : x.toInt < lo
  · exact lv_tableOut hexec hb hdg (Or.inl h1) ht k
  · by_cases h2 : hi < x.toInt
    · exact lv_tableOut hexec hb hdg (Or.inr h2) ht k
    · exact lv_tableIn hexec hb hdg h1 h2 (hd h1 h2) ht k
theorem fs_inl {α β γ : Type} {f : α → Option γ} {g : β → Option γ} {v : α} {r : γ} (h : Sum.elim f g (.inl v) = some r) : f v = some r := h
theorem fs_inr {α β γ : Type} {f : α → Option γ} {g : β → Option γ} {v : β} {r : γ} (h : Sum.elim f g (.inr v) = some r) : g v = some r := h
