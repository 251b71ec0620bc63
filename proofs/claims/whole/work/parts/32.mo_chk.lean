/-! Checked functions: a result, or none. -/
noncomputable def fs_okp {α : Type} (c : Prop) (x : Option α) : Option α := @ite _ c (Classical.propDecidable c) x none
theorem fs_okp_some {α : Type} {c : Prop} {x : Option α} {r : α} (h : fs_okp c x = some r) : c ∧ x = some r := by
  unfold fs_okp at h
  by_cases hc : c
  · rw [if_pos hc] at h; exact ⟨hc, h⟩
  · rw [if_neg hc] at h; cases h
theorem fs_okp_pos {α : Type} {c : Prop} {x : Option α} (hc : c) : fs_okp c x = x := by
  unfold fs_okp
  rw [if_pos hc]
def fs_let {α β : Type} (v : α) (f : α → Option β) : Option β := f v
theorem fs_let_some {α β : Type} {v : α} {f : α → Option β} {r : β} (h : fs_let v f = some r) : ∃ x, x = v ∧ f x = some r := ⟨v, rfl, h⟩
theorem fs_bind_some {α β : Type} {o : Option α} {f : α → Option β} {r : β} (h : Option.bind o f = some r) : ∃ x, o = some x ∧ f x = some r := by
  cases o with
  | none => cases h
  | some x => exact ⟨x, rfl, h⟩
theorem fs_ifp {α : Type} {c : Prop} {i : Decidable c} {x y : Option α} {r : α} (hc : c) (h : @ite _ c i x y = some r) : x = some r := by
  rw [if_pos hc] at h; exact h
theorem fs_ifn {α : Type} {c : Prop} {i : Decidable c} {x y : Option α} {r : α} (hc : ¬ c) (h : @ite _ c i x y = some r) : y = some r := by
  rw [if_neg hc] at h; exact h
theorem fs_inl {α β γ : Type} {f : α → Option γ} {g : β → Option γ} {v : α} {r : γ} (h : Sum.elim f g (.inl v) = some r) : f v = some r := h
theorem fs_inr {α β γ : Type} {f : α → Option γ} {g : β → Option γ} {v : β} {r : γ} (h : Sum.elim f g (.inr v) = some r) : g v = some r := h
