/-! Pure: the cells that a formula refers to, in the reference. -/
theorem rr_L42 {z : Nat} {a b : Int32} {C1 W1 C2 W2 c : Nat} (hz : z < 80) (hr : rgc a b C1 W1 C2 W2) (hc : c < 8) : ∀ (k rr f : Nat) (M : mo_S), k < f → rr + k = max W1 W2 + 1 → ∃ y M', p_MO_referRange_L42 f (nI z) a b (nI c) (nI rr) M = (y, M') ∧ lf 13 14 z M M' ∧ ∀ i, i < 80 → m13 M' z i = (m13 M z i || decide (i / 10 = c ∧ rr ≤ i % 10 ∧ i % 10 ≤ max W1 W2)) := by
  obtain ⟨r1, r2, r3, r4, r5, r6, r7, r8⟩ := hr
  intro k
  induction k with
  | zero =>
    intro rr f M hf hk
    obtain ⟨f, rfl⟩ : ∃ q, f = q + 1 := ⟨f - 1, by omega⟩
    rw [p_MO_referRange_L42, r2, r4, mo_most (by omega) (by omega), if_pos (nI_lt (by omega) (by omega))]
    refine ⟨_, _, rfl, lf.rf _ _ _ _, fun i hi => ?_⟩
    rw [show decide (i / 10 = c ∧ rr ≤ i % 10 ∧ i % 10 ≤ max W1 W2) = false by rw [decide_eq_false_iff_not]; omega, Bool.or_false]
  | succ k ih =>
    intro rr f M hf hk
    obtain ⟨f, rfl⟩ : ∃ q, f = q + 1 := ⟨f - 1, by omega⟩
    obtain ⟨i1, i2, i3, i4⟩ := idx10 hc (show rr < 10 by omega)
    rw [p_MO_referRange_L42, r2, r4, mo_most (by omega) (by omega), if_neg (nI_nlt (by omega) (by omega)), i1, nI_1]
    obtain ⟨e1, e2⟩ := mo_refer (M := M) (z := z) (k := 10 * c + rr) hz (by omega)
    obtain ⟨y, M', q1, q2, q3⟩ := ih (rr + 1) f (p_MO_refer M (nI z) (nI (10 * c + rr))) (by omega) (by omega)
    refine ⟨y, M', q1, e1.trans q2, fun i hi => ?_⟩
    rw [q3 i hi, e2 i hi, Bool.or_assoc]
    congr 1
    rw [← Bool.decide_or, decide_eq_decide]
    omega
theorem rr_L13 {z : Nat} {a b : Int32} {C1 W1 C2 W2 : Nat} (hz : z < 80) (hr : rgc a b C1 W1 C2 W2) : ∀ (k c f : Nat) (M : mo_S), k < f → c + k = max C1 C2 + 1 → ∃ y M', p_MO_referRange_L13 f (nI z) a b (nI c) M = (y, M') ∧ lf 13 14 z M M' ∧ ∀ i, i < 80 → m13 M' z i = (m13 M z i || decide (c ≤ i / 10 ∧ i / 10 ≤ max C1 C2 ∧ min W1 W2 ≤ i % 10 ∧ i % 10 ≤ max W1 W2)) := by
  have hr' := hr
  obtain ⟨r1, r2, r3, r4, r5, r6, r7, r8⟩ := hr
  intro k
  induction k with
  | zero =>
    intro c f M hf hk
    obtain ⟨f, rfl⟩ : ∃ q, f = q + 1 := ⟨f - 1, by omega⟩
    rw [p_MO_referRange_L13, r1, r3, mo_most (by omega) (by omega), if_pos (nI_lt (by omega) (by omega))]
    refine ⟨_, _, rfl, lf.rf _ _ _ _, fun i hi => ?_⟩
    rw [show decide (c ≤ i / 10 ∧ i / 10 ≤ max C1 C2 ∧ min W1 W2 ≤ i % 10 ∧ i % 10 ≤ max W1 W2) = false by rw [decide_eq_false_iff_not]; omega, Bool.or_false]
  | succ k ih =>
    intro c f M hf hk
    obtain ⟨f, rfl⟩ : ∃ q, f = q + 1 := ⟨f - 1, by omega⟩
    obtain ⟨y1, M1, e1, e2, e3⟩ := rr_L42 hz hr' (show c < 8 by omega) (max W1 W2 + 1 - min W1 W2) (min W1 W2) 17 M (by omega) (by omega)
    rw [p_MO_referRange_L13, r1, r3, mo_most (by omega) (by omega), if_neg (nI_nlt (by omega) (by omega)), r2, r4, mo_least (by omega) (by omega), e1]
    try dsimp only
    rw [nI_1]
    obtain ⟨y, M', q1, q2, q3⟩ := ih (c + 1) f M1 (by omega) (by omega)
    refine ⟨y, M', q1, e2.trans q2, fun i hi => ?_⟩
    rw [q3 i hi, e3 i hi, Bool.or_assoc]
    congr 1
    rw [← Bool.decide_or, decide_eq_decide]
    omega
theorem mo_referRange {M : mo_S} {z : Nat} {a b : Int32} {C1 W1 C2 W2 : Nat} (hz : z < 80) (hr : rgc a b C1 W1 C2 W2) : lf 13 14 z M (p_MO_referRange M (nI z) a b) ∧ ∀ i, i < 80 → m13 (p_MO_referRange M (nI z) a b) z i = (m13 M z i || decide (min C1 C2 ≤ i / 10 ∧ i / 10 ≤ max C1 C2 ∧ min W1 W2 ≤ i % 10 ∧ i % 10 ≤ max W1 W2)) := by
  have hr' := hr
  obtain ⟨r1, r2, r3, r4, r5, r6, r7, r8⟩ := hr
  obtain ⟨y1, M1, e1, e2, e3⟩ := rr_L13 hz hr' (max C1 C2 + 1 - min C1 C2) (min C1 C2) 9 M (by omega) (by omega)
  unfold p_MO_referRange
  rw [r1, r3, mo_least (by omega) (by omega), e1]
  exact ⟨e2, e3⟩
theorem rfq.dec {a x : Int32} (h : rfq a x) : (p_MO_lost a = 1 ∧ p_MO_lost x = 1) ∨ (p_MO_lost a = 0 ∧ p_MO_lost x = 0 ∧ ∃ C W : Nat, C < 8 ∧ W < 10 ∧ p_MO_column a = nI C ∧ p_MO_row a = nI W ∧ rgcol x = C ∧ rgrow x = W) := by
  obtain ⟨C, W, A, B, l, h1, h2, h3, h4, h5, h6, h7⟩ := h
  obtain ⟨d1, d2, d3⟩ := rf_dec2 h1 h2 h3 h4 h5
  by_cases hl0 : l = 0
  · subst hl0
    rw [if_pos rfl] at h7
    obtain ⟨e1, e2, e3⟩ := rf_dec C h1 W h2 A h3 B h4
    refine Or.inr ⟨?_, ?_, C, W, h1, h2, ?_, ?_, ?_, ?_⟩
    · rw [h6, d3]; rfl
    · rw [h7]; exact e3
    · rw [h6]; exact d1
    · rw [h6]; exact d2
    · rw [h7]; exact e1
    · rw [h7]; exact e2
  · have hl1 : l = 1 := by omega
    subst hl1
    rw [if_neg (by decide)] at h7
    refine Or.inl ⟨?_, ?_⟩
    · rw [h6, d3]; rfl
    · rw [h7]; exact rf_512
theorem lf.it {j1 j2 z k : Nat} {M M' : mo_S} {x : It} (h : lf j1 j2 z M M') (h6 : j1 ≠ 6) (h6' : j2 ≠ 6) (a : ci M k x) : ci M' k x := by
  unfold ci
  rw [h.2.1, h.2.2.2 6 k (by omega)]
  exact a
theorem fr_step {M : mo_S} {z s p f : Nat} {x : It} (hz : z < 80) (h0 : M.2.1 0 z = 2) (hs1 : M.2.1 1 z = nI s) (hs2 : s ≤ 40) (hp0 : 40 * z ≤ p) (hp : p < 40 * z + s) (hx : itok x) (hi : ci M p x) : ∃ M', p_MO_findReferences_L27 (f + 1) (nI z) (nI p) M = p_MO_findReferences_L27 f (nI z) (nI (p + 1)) M' ∧ lf 13 14 z M M' ∧ ∀ q, q < 80 → m13 M' z q = (m13 M z q || rcov x (q / 10) (q % 10)) := by
  have e2 : ¬ ((40 * nI z) + (M.2.1 1 (Int32.toNatClampNeg (nI z)))) ≤ nI p := by
    rw [nI_clamp (by omega), hs1, nI_40]
    exact nI_ge hp (by omega)
  rw [p_MO_findReferences_L27, if_neg e2, nI_clamp (n := z) (by omega), if_pos h0, nI_clamp (n := p) (by omega), nI_1, hi.1]
  have none : ∀ (A B : Int32 × mo_S), x.1 = 0 ∨ 7 ≤ x.1 → ((if x.1 = 1 then A else (if p_MO_isRange x.1 = 0 then p_MO_findReferences_L27 f (nI z) (nI (p + 1)) M else B)) = p_MO_findReferences_L27 f (nI z) (nI (p + 1)) M) := by
    intro A B h
    have t1 : ¬ x.1 = 1 := by
      rcases h with h | h
      · rw [h]; decide
      · intro z; rw [z] at h; exact absurd h (by decide)
    have t2 : p_MO_isRange x.1 = 0 := by
      unfold p_MO_isRange
      rcases h with h | h
      · rw [h]; decide
      · by_cases t3 : x.1 < 2
        · rw [if_pos t3]
        · rw [if_neg t3, if_pos (Int32.lt_of_lt_of_le (show (6 : Int32) < 7 by decide) h)]
    rw [if_neg t1, if_pos t2]
  have fin : x.1 = 0 ∨ 7 ≤ x.1 → ∃ M', p_MO_findReferences_L27 f (nI z) (nI (p + 1)) M = p_MO_findReferences_L27 f (nI z) (nI (p + 1)) M' ∧ lf 13 14 z M M' ∧ ∀ q, q < 80 → m13 M' z q = (m13 M z q || rcov x (q / 10) (q % 10)) := fun h => ⟨M, rfl, lf.rf _ _ _ _, fun q _ => by rw [rcov_tl h, Bool.or_false]⟩
  rcases hx with ⟨b, d, h1, h2, rfl⟩ | ⟨a, h1, rfl⟩ | ⟨j, a, b, h0', h1, h2, rfl⟩ | ⟨w, hw, rfl⟩ | rfl | ⟨w, hw, rfl⟩
  · rw [none _ _ (Or.inl rfl)]
    exact fin (Or.inl rfl)
  · rw [if_pos (show (1 : Int32) = 1 from rfl)]
    rcases (hi.2.2.1 rfl).dec with ⟨l1, l2⟩ | ⟨l1, l2, C, W, m1, m2, m3, m4, m5, m6⟩
    · rw [if_neg (by rw [l1]; decide), if_pos (show p_MO_isRange 1 = 0 by decide)]
      refine ⟨M, rfl, lf.rf _ _ _ _, fun q _ => ?_⟩
      unfold rcov
      rw [if_pos rfl, show decide (p_MO_lost a = 0 ∧ _) = false by rw [decide_eq_false_iff_not]; exact fun z => absurd (l2.symm.trans z.1) (by decide), Bool.or_false]
    · obtain ⟨i1, i2, i3, i4⟩ := idx10 m1 m2
      obtain ⟨r1, r2⟩ := mo_refer (M := M) (z := z) (k := 10 * C + W) hz (by omega)
      rw [if_pos l1, m3, m4, i1, r1.2.1, hi.1, if_pos (show p_MO_isRange 1 = 0 by decide)]
      refine ⟨_, rfl, r1, fun q hq => ?_⟩
      rw [r2 q hq]
      unfold rcov
      rw [if_pos rfl]
      try dsimp only
      congr 1
      rw [decide_eq_decide, l2, m5, m6]
      constructor
      · intro z; exact ⟨rfl, by omega, by omega⟩
      · rintro ⟨_, z1, z2⟩; omega
  · obtain ⟨g1, g2, g3, g4, g5⟩ := it_rg j h0'
    obtain ⟨t1, t2⟩ := hi.2.2.2 g5 g4
    have hrc : ∀ q, rcov (nI (j + 2), a, b, 0) (q / 10) (q % 10) = decide (p_MO_lost a = 0 ∧ p_MO_lost b = 0 ∧ min (rgcol a) (rgcol b) ≤ q / 10 ∧ q / 10 ≤ max (rgcol a) (rgcol b) ∧ min (rgrow a) (rgrow b) ≤ q % 10 ∧ q % 10 ≤ max (rgrow a) (rgrow b)) := by
      intro q
      unfold rcov
      rw [if_neg g2, decide_eq_decide]
      exact ⟨fun z => z.2.2, fun z => ⟨g5, g4, z⟩⟩
    have lost : p_MO_lost a = 1 ∨ p_MO_lost b = 1 → ∃ M', p_MO_findReferences_L27 f (nI z) (nI (p + 1)) M = p_MO_findReferences_L27 f (nI z) (nI (p + 1)) M' ∧ lf 13 14 z M M' ∧ ∀ q, q < 80 → m13 M' z q = (m13 M z q || rcov (nI (j + 2), a, b, 0) (q / 10) (q % 10)) := by
      intro z
      refine ⟨M, rfl, lf.rf _ _ _ _, fun q _ => ?_⟩
      rw [hrc, show decide (p_MO_lost a = 0 ∧ _) = false by
        rw [decide_eq_false_iff_not]
        rintro ⟨z1, z2, _⟩
        rcases z with z | z
        · rw [z] at z1; exact absurd z1 (by decide)
        · rw [z] at z2; exact absurd z2 (by decide), Bool.or_false]
    rw [if_neg g2, if_neg g3]
    rcases t1.dec with ⟨l1, l2⟩ | ⟨l1, l2, C1, W1, m1, m2, m3, m4, m5, m6⟩
    · rw [if_neg (by rw [l1]; decide)]
      exact lost (Or.inl l2)
    · rw [if_pos l1]
      rcases t2.dec with ⟨k1, k2⟩ | ⟨k1, k2, C2, W2, n1, n2, n3, n4, n5, n6⟩
      · rw [if_neg (by rw [k1]; decide)]
        exact lost (Or.inr k2)
      · rw [if_pos k1]
        obtain ⟨r1, r2⟩ := mo_referRange (M := M) hz (show rgc (M.2.1 4 p) (M.2.1 5 p) C1 W1 C2 W2 from ⟨m3, m4, n3, n4, m1, n1, m2, n2⟩)
        refine ⟨_, rfl, r1, fun q hq => ?_⟩
        rw [r2 q hq, hrc]
        congr 1
        rw [decide_eq_decide, l2, k2, m5, m6, n5, n6]
        exact ⟨fun z => ⟨rfl, rfl, z⟩, fun z => z.2.2⟩
  · have t : (w, (0 : Int32), (0 : Int32), (0 : Int64)).1 = 0 ∨ 7 ≤ (w, (0 : Int32), (0 : Int32), (0 : Int64)).1 := by
      rcases hw with rfl | rfl | rfl | rfl <;> exact Or.inr (by decide)
    rw [none _ _ t]
    exact fin t
  · have t : ((9 : Int32), (0 : Int32), (0 : Int32), (0 : Int64)).1 = 0 ∨ 7 ≤ ((9 : Int32), (0 : Int32), (0 : Int32), (0 : Int64)).1 := Or.inr (by decide)
    rw [none _ _ t]
    exact fin t
  · have t : (w, (0 : Int32), (0 : Int32), (0 : Int64)).1 = 0 ∨ 7 ≤ (w, (0 : Int32), (0 : Int32), (0 : Int64)).1 := by
      rcases hw with rfl | rfl | rfl | rfl | rfl | rfl | rfl | rfl | rfl | rfl <;> exact Or.inr (by decide)
    rw [none _ _ t]
    exact fin t
theorem fr_L27 {z s : Nat} (hz : z < 80) (hs2 : s ≤ 40) : ∀ (L : List It) (i f : Nat) (M : mo_S), M.2.1 0 z = 2 → M.2.1 1 z = nI s → i + L.length = s → L.length < f → (∀ x ∈ L, itok x) → (∀ j y, L[j]? = some y → ci M (40 * z + i + j) y) → ∃ y M', p_MO_findReferences_L27 f (nI z) (nI (40 * z + i)) M = (y, M') ∧ lf 13 14 z M M' ∧ ∀ q, q < 80 → m13 M' z q = (m13 M z q || rcs L (q / 10) (q % 10)) := by
  intro L
  induction L with
  | nil =>
    intro i f M h0 hs1 hi hf _ _
    obtain ⟨f, rfl⟩ : ∃ q, f = q + 1 := ⟨f - 1, by omega⟩
    rw [List.length_nil] at hi
    have e2 : ((40 * nI z) + (M.2.1 1 (Int32.toNatClampNeg (nI z)))) ≤ nI (40 * z + i) := by
      rw [nI_clamp (by omega), hs1, nI_40]
      exact nI_le (by omega) (by omega)
    rw [p_MO_findReferences_L27, if_pos e2, nI_clamp (n := z) (by omega), if_pos h0]
    exact ⟨_, _, rfl, lf.rf _ _ _ _, fun q _ => by rw [rcs_nil, Bool.or_false]⟩
  | cons x L ih =>
    intro i f M h0 hs1 hi hf hx hc
    obtain ⟨f, rfl⟩ : ∃ q, f = q + 1 := ⟨f - 1, by omega⟩
    rw [List.length_cons] at hi hf
    obtain ⟨M1, q1, q2, q3⟩ := fr_step (f := f) hz h0 hs1 hs2 (show 40 * z ≤ 40 * z + i by omega) (by omega) (hx x List.mem_cons_self) (hc 0 x rfl)
    obtain ⟨y, M2, r1, r2, r3⟩ := ih (i + 1) f M1 (by rw [q2.2.1]; exact h0) (by rw [q2.2.1]; exact hs1) (by omega) (by omega) (fun y hy => hx y (List.mem_cons_of_mem _ hy)) (fun j y hj => by
      have := hc (j + 1) y hj
      rw [show 40 * z + i + (j + 1) = 40 * z + (i + 1) + j by omega] at this
      exact q2.it (by decide) (by decide) this)
    rw [show 40 * z + (i + 1) = 40 * z + i + 1 by omega] at r1
    refine ⟨y, M2, q1.trans r1, q2.trans r2, fun q hq => ?_⟩
    rw [r3 q hq, q3 q hq, Bool.or_assoc]
    rfl
