/-! Pure: the line as the class reads it. -/
def pa_L (E : fs_E) (h : fs_Hp) (ln ch : Nat) (f : Nat → Int32) (n p o : Nat) : Prop :=
  h ln = some (.inr (1, [.ref ch, .int (nI n), .int (nI p), .int (nI o)])) ∧ h ch = some (.inl (E.1.2 4, 40, .inl f)) ∧ n ≤ 40 ∧ p ≤ n ∧ o ≤ 6 ∧ ∀ i : Nat, i < n → ∃ c : Nat, c < 128 ∧ f i = nI c
def pa_x (ln : Nat) (h h' : fs_Hp) : Prop := ∀ a : Nat, a ≠ ln → h a ≠ none → h' a = h a
def pa_c (f : Nat → Int32) (n p : Nat) : Int32 := if p < n then f p else -1
theorem pa_x.rf {ln : Nat} {h : fs_Hp} : pa_x ln h h := fun _ _ _ => rfl
theorem pa_x.trans {ln : Nat} {h h2 h3 : fs_Hp} (a : pa_x ln h h2) (b : pa_x ln h2 h3) : pa_x ln h h3 := fun q g1 g2 => by
  have e := a q g1 g2
  rw [← e]
  exact b q g1 (by rw [e]; exact g2)
theorem pa_x.up {ln : Nat} {h : fs_Hp} {e : va_E} : pa_x ln h (fs_up h ln e) := fun _ g _ => fs_up_ne g
theorem pa_x.new {ln a : Nat} {h h2 : fs_Hp} {e : va_E} (hx : pa_x ln h h2) (hn : h2 a = none) : pa_x ln h (fs_up h2 a e) := fun q g1 g2 => by
  have e1 := hx q g1 g2
  have : q ≠ a := by
    intro z
    subst z
    rw [hn] at e1
    exact g2 e1.symm
  rw [fs_up_ne this]
  exact e1
theorem pa_L.ne {E : fs_E} {h : fs_Hp} {ln ch : Nat} {f : Nat → Int32} {n p o : Nat} (hl : pa_L E h ln ch f n p o) : ch ≠ ln := by
  intro z
  subst z
  have := hl.1.symm.trans hl.2.1
  cases this
theorem pa_L.at {E : fs_E} {h : fs_Hp} {ln ch : Nat} {f : Nat → Int32} {n p o : Nat} (hl : pa_L E h ln ch f n p o) {q u : Nat} (hq : q ≤ n) (hu : u ≤ 6) : pa_L E (fs_up h ln (.inr (1, [.ref ch, .int (nI n), .int (nI q), .int (nI u)]))) ln ch f n q u :=
  ⟨fs_up_self, by rw [fs_up_ne hl.ne]; exact hl.2.1, hl.2.2.1, hq, hu, hl.2.2.2.2.2⟩
theorem pa_L.new {E : fs_E} {h : fs_Hp} {ln ch a : Nat} {f : Nat → Int32} {n p o : Nat} {e : va_E} (hl : pa_L E h ln ch f n p o) (hn : h a = none) : pa_L E (fs_up h a e) ln ch f n p o :=
  ⟨by rw [fs_up_ne (fun z => by rw [← z, hl.1] at hn; cases hn)]; exact hl.1, by rw [fs_up_ne (fun z => by rw [← z, hl.2.1] at hn; cases hn)]; exact hl.2.1, hl.2.2⟩
theorem pa_L.isc {E : fs_E} {h : fs_Hp} {ln ch : Nat} {f : Nat → Int32} {n p o : Nat} (hl : pa_L E h ln ch f n p o) : fs_isc h ln 1 := fs_isc_of hl.1
theorem pa_next {E : fs_E} {h : fs_Hp} {ln ch : Nat} {f : Nat → Int32} {n p o : Nat} {Post : fs_Ps} (hl : pa_L E h ln ch f n p o) (hk : Post (.inl (some (.int (pa_c f n p)))) h) : w_LN_next E h ln Post := by
  obtain ⟨h1, h2, hn, hp, ho, hf⟩ := hl
  unfold w_LN_next
  refine fs_gi_of h1 rfl (fs_gi_of h1 rfl ?_)
  by_cases hc : n ≤ p
  · rw [if_pos (nI_le hc (by omega))]
    rw [pa_c, if_neg (by omega)] at hk
    exact hk
  · rw [if_neg (nI_ge (by omega) (by omega))]
    refine fs_gr_of h1 rfl (fs_gi_of h1 rfl (fs_ai_of h2 (vp_in_nI (by omega) (by omega)) ?_))
    rw [nI_clamp (by omega)]
    rw [pa_c, if_pos (by omega)] at hk
    exact hk
/-- a character is -1 (none) or a number below 128 -/
theorem pa_c_is {E : fs_E} {h : fs_Hp} {ln ch : Nat} {f : Nat → Int32} {n p o : Nat} (hl : pa_L E h ln ch f n p o) : (n ≤ p ∧ pa_c f n p = -1) ∨ (p < n ∧ ∃ c : Nat, c < 128 ∧ pa_c f n p = nI c) := by
  by_cases hc : p < n
  · refine Or.inr ⟨hc, ?_⟩
    rw [pa_c, if_pos hc]
    exact hl.2.2.2.2.2 p hc
  · exact Or.inl ⟨by omega, by rw [pa_c, if_neg hc]⟩
theorem pa_nextIs {E : fs_E} {h : fs_Hp} {ln ch : Nat} {f : Nat → Int32} {n p o : Nat} {x y : Int32} {Post : fs_Ps} (hl : pa_L E h ln ch f n p o) (hk : Post (.inl (some (.int (if pa_c f n p = x ∨ pa_c f n p = y then 1 else 0)))) h) : w_LN_nextIs E h ln x y Post := by
  unfold w_LN_nextIs
  refine ⟨hl.isc, pa_next hl ?_⟩
  show (if pa_c f n p = x then _ else _)
  by_cases h1 : pa_c f n p = x
  · rw [if_pos h1]
    rw [if_pos (Or.inl h1)] at hk
    exact hk
  · rw [if_neg h1]
    refine ⟨hl.isc, pa_next hl ?_⟩
    show (if pa_c f n p = y then _ else _)
    by_cases h2 : pa_c f n p = y
    · rw [if_pos h2]
      rw [if_pos (Or.inr h2)] at hk
      exact hk
    · rw [if_neg h2]
      rw [if_neg (fun z => z.elim h1 h2)] at hk
      exact hk
def pa_dig (c : Int32) : Prop := ¬ c < 48 ∧ ¬ 57 < c
def pa_col (c : Int32) : Prop := ¬ c < 97 ∧ ¬ 105 ≤ c
theorem pa_nextIsDigit {E : fs_E} {h : fs_Hp} {ln ch : Nat} {f : Nat → Int32} {n p o : Nat} {Post : fs_Ps} (hl : pa_L E h ln ch f n p o) (hy : pa_dig (pa_c f n p) → Post (.inl (some (.int 1))) h) (hz : ¬ pa_dig (pa_c f n p) → Post (.inl (some (.int 0))) h) : w_LN_nextIsDigit E h ln Post := by
  unfold w_LN_nextIsDigit
  refine ⟨hl.isc, pa_next hl ?_⟩
  show (if pa_c f n p < 48 then _ else _)
  by_cases h1 : pa_c f n p < 48
  · rw [if_pos h1]
    exact hz fun z => z.1 h1
  · rw [if_neg h1]
    refine ⟨hl.isc, pa_next hl ?_⟩
    show (if 57 < pa_c f n p then _ else _)
    by_cases h2 : 57 < pa_c f n p
    · rw [if_pos h2]
      exact hz fun z => z.2 h2
    · rw [if_neg h2]
      exact hy ⟨h1, h2⟩
theorem pa_nextIsColumn {E : fs_E} {h : fs_Hp} {ln ch : Nat} {f : Nat → Int32} {n p o : Nat} {Post : fs_Ps} (hl : pa_L E h ln ch f n p o) (hy : pa_col (pa_c f n p) → Post (.inl (some (.int 1))) h) (hz : ¬ pa_col (pa_c f n p) → Post (.inl (some (.int 0))) h) : w_LN_nextIsColumn E h ln Post := by
  unfold w_LN_nextIsColumn
  refine ⟨hl.isc, pa_next hl ?_⟩
  show (if pa_c f n p < 97 then _ else _)
  by_cases h1 : pa_c f n p < 97
  · rw [if_pos h1]
    exact hz fun z => z.1 h1
  · rw [if_neg h1]
    refine ⟨hl.isc, pa_next hl ?_⟩
    show (if 105 ≤ pa_c f n p then _ else _)
    by_cases h2 : 105 ≤ pa_c f n p
    · rw [if_pos h2]
      exact hz fun z => z.2 h2
    · rw [if_neg h2]
      exact hy ⟨h1, h2⟩
/-- the line's reading one on -/
def pa_up (h : fs_Hp) (ln ch n p o : Nat) : fs_Hp := fs_up h ln (.inr (1, [.ref ch, .int (nI n), .int (nI p), .int (nI o)]))
theorem pa_take {E : fs_E} {h : fs_Hp} {ln ch : Nat} {f : Nat → Int32} {n p o : Nat} {x : Int32} {Post : fs_Ps} (hl : pa_L E h ln ch f n p o) (hx : x ≠ -1) (hy : pa_c f n p = x → p < n → pa_L E (pa_up h ln ch n (p + 1) o) ln ch f n (p + 1) o → Post (.inl (some (.int 1))) (pa_up h ln ch n (p + 1) o)) (hz : ¬ pa_c f n p = x → Post (.inl (some (.int 0))) h) : w_LN_take E h ln x Post := by
  unfold w_LN_take
  refine ⟨hl.isc, pa_next hl ?_⟩
  show (if pa_c f n p = x then _ else _)
  by_cases h1 : pa_c f n p = x
  · rw [if_pos h1]
    have hp : p < n := by
      rcases pa_c_is hl with ⟨-, e⟩ | ⟨e, -⟩
      · exact absurd (h1.symm.trans e) hx
      · exact e
    refine fs_gi_of hl.1 rfl (fs_pw_of hl.1 (Nat.le_of_ble_eq_true rfl) ?_)
    have e : nI p + 1 = nI (p + 1) := nI_1 p
    show Post _ (fs_up h ln (.inr (1, [.ref ch, .int (nI n), .int (nI p + 1), .int (nI o)])))
    rw [e]
    exact hy h1 hp (hl.at (by omega) hl.2.2.2.2.1)
  · rw [if_neg h1]
    exact hz h1
theorem pa_takeNext {E : fs_E} {h : fs_Hp} {ln ch : Nat} {f : Nat → Int32} {n p o : Nat} {Post : fs_Ps} (hl : pa_L E h ln ch f n p o) (hp : p < n) (hk : pa_L E (pa_up h ln ch n (p + 1) o) ln ch f n (p + 1) o → Post (.inl (some (.int (pa_c f n p)))) (pa_up h ln ch n (p + 1) o)) : w_LN_takeNext E h ln Post := by
  unfold w_LN_takeNext
  refine ⟨hl.isc, pa_next hl ?_⟩
  refine fs_gi_of hl.1 rfl (fs_pw_of hl.1 (Nat.le_of_ble_eq_true rfl) ?_)
  rcases pa_c_is hl with ⟨e, -⟩ | ⟨-, c, hc, e⟩
  · exact absurd hp (by omega)
  · have e2 : (Int32.toUInt32 (pa_c f n p) % 65536).toInt32 = pa_c f n p := by
      rw [e]
      exact (sb_byte c (by omega)).2.1
    have e : nI p + 1 = nI (p + 1) := nI_1 p
    rw [e2]
    refine ⟨?_, ?_⟩
    · rw [← e2]
      exact pk_nc _
    · show Post _ (fs_up h ln (.inr (1, [.ref ch, .int (nI n), .int (nI p + 1), .int (nI o)])))
      rw [e]
      exact hk (hl.at (by omega) hl.2.2.2.2.1)
