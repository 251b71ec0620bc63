/-! The tables' words as one predicate of a state, kept by every walk. -/
def fs_okw : Cond → Bool
  | .methodLinkNest _ _ _ _ => true
  | .fieldLinkNest _ _ _ _ _ _ => true
  | .declares _ => true
  | .castable _ _ => true
  | .arrayOver (.object _) => true
  | w => goodWord w
theorem fs_okw_cases {w : Cond} (h : fs_okw w = true) : goodWord w = true ∨ (∃ a b c d, w = .methodLinkNest a b c d) ∨ (∃ a b c d e f, w = .fieldLinkNest a b c d e f) ∨ (∃ x, w = .declares x) ∨ (∃ a b, w = .castable a b) ∨ ∃ C, w = .arrayOver (.object C) := by
  cases w with
  | methodLinkNest a b c d => exact Or.inr (Or.inl ⟨_, _, _, _, rfl⟩)
  | fieldLinkNest a b c d e f => exact Or.inr (Or.inr (Or.inl ⟨_, _, _, _, _, _, rfl⟩))
  | declares x => exact Or.inr (Or.inr (Or.inr (Or.inl ⟨_, rfl⟩)))
  | castable a b => exact Or.inr (Or.inr (Or.inr (Or.inr (Or.inl ⟨_, _, rfl⟩))))
  | arrayOver t =>
    cases t with
    | object C => exact Or.inr (Or.inr (Or.inr (Or.inr (Or.inr ⟨_, rfl⟩))))
    | _ => exact Or.inl h
  | _ => exact Or.inl h
def fs_T (s : State) : Prop := ∀ w ∈ lw_tbl, fs_okw w = true → w.before #[] s = true
theorem fs_T.warm {s U : State} (hW : s.WarmedH U.vm) (h : fs_T s) : fs_T U := by
  intro w hw hok
  rcases fs_okw_cases hok with hg | ⟨a, b, c, d, rfl⟩ | ⟨a, b, c, d, e, f, rfl⟩ | ⟨x, rfl⟩ | ⟨a, b, rfl⟩ | ⟨C, rfl⟩
  · exact word_at hW (good_of_word hg) (h w hw hok)
  · exact va_Nw.warmM hW (h _ hw hok)
  · exact va_Nw.warmF hW (h _ hw hok)
  · exact va_Nw.warmD hW (h _ hw hok)
  · exact va_Nw.warmC hW (h _ hw hok)
  · exact va_AO.moved hW.alike (h _ hw hok)
/-- a word of the tables by its place -/
theorem fs_T.at {s : State} (h : fs_T s) (i : Nat) {w : Cond} (hi : lw_tbl[i]? = some w) (hok : fs_okw w = true) : w.before #[] s = true := h w (List.mem_of_getElem? hi) hok
/-- the same, for any arguments -/
theorem fs_T.on {s : State} (h : fs_T s) (i : Nat) {w : Cond} (hi : lw_tbl[i]? = some w) (hok : fs_okw w = true) (ht : w.onTables = true) (args : Array Value) : w.before args s = true := va_tabs ht rfl (h w (List.mem_of_getElem? hi) hok)
theorem fs_T.of {s : State} {args : Array Value} (h : ∀ w ∈ lw_tbl, w.before args s = true) : fs_T s := by
  intro w hw hok
  rcases fs_okw_cases hok with hg | ⟨a, b, c, d, rfl⟩ | ⟨a, b, c, d, e, f, rfl⟩ | ⟨x, rfl⟩ | ⟨a, b, rfl⟩ | ⟨C, rfl⟩
  · exact word_at (State.WarmedH.refl s) (good_of_word hg) (h w hw)
  · exact va_Nw.of rfl (h _ hw)
  · exact va_Nw.of rfl (h _ hw)
  · exact va_Nw.of rfl (h _ hw)
  · exact va_Nw.of rfl (h _ hw)
  · exact va_AO.of (h _ hw)
theorem fs_try : lw_tbl[400]? = lw_tbl[400]? := rfl
