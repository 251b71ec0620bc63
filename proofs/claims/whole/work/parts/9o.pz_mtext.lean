/-! Pure: the reference's text: characters are put in and behind. -/
def bufR (M : mo_S) (b : List Nat) : Prop := M.1 34 = nI b.length ∧ ∀ i c, b[i]? = some c → M.2.1 31 i = nI c
/-- only the text changes -/
def bF (M M' : mo_S) : Prop := (∀ j, j ≠ 34 → M'.1 j = M.1 j) ∧ (∀ j q, j ≠ 31 → M'.2.1 j q = M.2.1 j q) ∧ M'.2.2 = M.2.2
theorem bF.rf (M : mo_S) : bF M M := ⟨fun _ _ => rfl, fun _ _ _ => rfl, rfl⟩
theorem bF.trans {M M1 M2 : mo_S} (a : bF M M1) (b : bF M1 M2) : bF M M2 := ⟨fun j h => (b.1 j h).trans (a.1 j h), fun j q h => (b.2.1 j q h).trans (a.2.1 j q h), b.2.2.trans a.2.2⟩
theorem ia_L5 {p : Nat} {z2 : Int32} : ∀ (k z f : Nat) (M : mo_S), z = p + k → k < f → z < 400 → ∃ M', q_MO_insertAt_L5 f (nI p) z2 (nI z) M = some M' ∧ M'.1 = M.1 ∧ (∀ j q, j ≠ 31 → M'.2.1 j q = M.2.1 j q) ∧ M'.2.2 = M.2.2 ∧ (∀ q, q ≤ p → M'.2.1 31 q = M.2.1 31 q) ∧ (∀ q, p ≤ q → q < z → M'.2.1 31 (q + 1) = M.2.1 31 q) ∧ ∀ q, z < q → M'.2.1 31 q = M.2.1 31 q := by
  intro k
  induction k with
  | zero =>
    intro z f M hz hf h4
    obtain ⟨f, rfl⟩ : ∃ q, f = q + 1 := ⟨f - 1, by omega⟩
    rw [q_MO_insertAt_L5, if_pos (nI_le (by omega) (by omega))]
    exact ⟨M, rfl, rfl, fun _ _ _ => rfl, rfl, fun _ _ => rfl, fun q h1 h2 => by omega, fun _ _ => rfl⟩
  | succ k ih =>
    intro z f M hz hf h4
    obtain ⟨f, rfl⟩ : ∃ q, f = q + 1 := ⟨f - 1, by omega⟩
    obtain ⟨z', rfl⟩ : ∃ q, z = q + 1 := ⟨z - 1, by omega⟩
    rw [q_MO_insertAt_L5, if_neg (nI_ge (by omega) (by omega)), nI_s1, fs_okp_pos (show vp_in (nI z') 400 from nI_in (by omega) (by omega)), fs_okp_pos (show vp_in (nI (z' + 1)) 400 from nI_in (by omega) (by omega)), nI_clamp (by omega), nI_clamp (by omega)]
    obtain ⟨M', e1, e2, e3, e4, e5, e6, e7⟩ := ih z' f (mo_i M 31 (z' + 1) (M.2.1 31 z')) (by omega) (by omega) (by omega)
    refine ⟨M', e1, e2, fun j q h => ?_, e4, fun q h => ?_, fun q h1 h2 => ?_, fun q h => ?_⟩
    · rw [e3 j q h, mo_i_at, if_neg (by omega)]
    · rw [e5 q h, mo_i_at, if_neg (by omega)]
    · by_cases hq : q = z'
      · rw [hq, e7 (z' + 1) (by omega), mo_i_at, if_pos ⟨rfl, rfl⟩]
      · rw [e6 q h1 (by omega), mo_i_at, if_neg (by omega)]
    · rw [e7 q (by omega), mo_i_at, if_neg (by omega)]
theorem mo_ins {M : mo_S} {b : List Nat} {p c : Nat} (hb : bufR M b) (hp : p ≤ b.length) (hl : b.length < 400) : ∃ M', q_MO_insertAt M (nI p) (nI c) = some M' ∧ bufR M' (b.take p ++ c :: b.drop p) ∧ bF M M' := by
  obtain ⟨M1, e1, e2, e3, e4, e5, e6, e7⟩ := ia_L5 (p := p) (z2 := nI c) (b.length - p) b.length 401 M (by omega) (by omega) hl
  unfold q_MO_insertAt
  rw [hb.1, e1, Option.bind_some]
  try dsimp only
  rw [fs_okp_pos (show vp_in (nI p) 400 from nI_in (by omega) (by omega)), nI_clamp (by omega), e2, hb.1, nI_1]
  have hlen : (b.take p ++ c :: b.drop p).length = b.length + 1 := by
    rw [List.length_append, List.length_take, List.length_cons, List.length_drop]
    omega
  refine ⟨_, rfl, ⟨?_, fun i d hi => ?_⟩, ⟨fun j h => ?_, fun j q h => ?_, e4⟩⟩
  · rw [hlen, mo_f_1, if_pos rfl]
  · show (mo_i M1 31 p (nI c)).2.1 31 i = nI d
    rw [mo_i_at]
    by_cases h1 : i < p
    · rw [if_neg (by omega), e5 i (by omega)]
      rw [List.getElem?_append_left (by rw [List.length_take]; omega), List.getElem?_take_of_lt h1] at hi
      exact hb.2 i d hi
    · rw [List.getElem?_append_right (by rw [List.length_take]; omega), List.length_take, Nat.min_eq_left hp] at hi
      by_cases h2 : i = p
      · rw [if_pos ⟨rfl, h2⟩]
        rw [h2, Nat.sub_self] at hi
        cases hi
        rfl
      · obtain ⟨i', rfl⟩ : ∃ q, i = q + 1 := ⟨i - 1, by omega⟩
        rw [if_neg (by omega)]
        rw [show i' + 1 - p = (i' - p) + 1 by omega, List.getElem?_cons_succ, List.getElem?_drop, show p + (i' - p) = i' by omega] at hi
        have hil := (List.getElem?_eq_some_iff.mp hi).1
        rw [e6 i' (by omega) hil]
        exact hb.2 i' d hi
  · rw [mo_f_1, if_neg h]
    show M1.1 j = M.1 j
    rw [e2]
  · show (mo_i M1 31 p (nI c)).2.1 j q = M.2.1 j q
    rw [mo_i_at, if_neg (by omega)]
    exact e3 j q h
theorem mo_app {M : mo_S} {b : List Nat} {c : Nat} (hb : bufR M b) (hl : b.length < 400) : ∃ M', q_MO_append M (nI c) = some M' ∧ bufR M' (b ++ [c]) ∧ bF M M' := by
  obtain ⟨M', e1, e2, e3⟩ := mo_ins (p := b.length) (c := c) hb (Nat.le_refl _) hl
  unfold q_MO_append
  rw [hb.1, e1, Option.bind_some]
  rw [List.take_length, List.drop_length] at e2
  exact ⟨M', rfl, e2, e3⟩
