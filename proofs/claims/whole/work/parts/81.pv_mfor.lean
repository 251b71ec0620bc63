/-! Pure: the reference's ranges, signs and formulas. -/
theorem wr_L46 {M : mo_S} {w a b z4 : Int32} {C1 W1 C2 W2 : Nat} (hb : cvb M) (hr : rgc a b C1 W1 C2 W2) : ∀ (k c : Nat) (f : Nat) (b6 : Int32) (s z : UInt64) (n : Nat), k < f → c + k = max C1 C2 + 1 → n + 16 * k < 900 → nn s → q_MO_workRange_L46 f w a b z4 0 b6 s z (nI n) (nI c) M = some ((racc w (colsV (cvM M) (max W1 W2 + 1 - min W1 W2) (min W1 W2) k c) b6 s z n).1, (racc w (colsV (cvM M) (max W1 W2 + 1 - min W1 W2) (min W1 W2) k c) b6 s z n).2.1, (racc w (colsV (cvM M) (max W1 W2 + 1 - min W1 W2) (min W1 W2) k c) b6 s z n).2.2.1, nI (racc w (colsV (cvM M) (max W1 W2 + 1 - min W1 W2) (min W1 W2) k c) b6 s z n).2.2.2, M) := by
  have hr' := hr
  obtain ⟨r1, r2, r3, r4, r5, r6, r7, r8⟩ := hr'
  have hm : p_MO_most (p_MO_column a) (p_MO_column b) = nI (max C1 C2) := by
    rw [r1, r3, mo_most (by omega) (by omega)]
  have hl : p_MO_least (p_MO_row a) (p_MO_row b) = nI (min W1 W2) := by
    rw [r2, r4, mo_least (by omega) (by omega)]
  intro k
  induction k with
  | zero =>
    intro c f b6 s z n hf hc hn hs
    obtain ⟨f, rfl⟩ : ∃ m, f = m + 1 := ⟨f - 1, by omega⟩
    rw [q_MO_workRange_L46, hm, if_pos (nI_lt (by omega) (by omega))]
    rfl
  | succ k ih =>
    intro c f b6 s z n hf hc hn hs
    obtain ⟨f, rfl⟩ : ∃ m, f = m + 1 := ⟨f - 1, by omega⟩
    rw [q_MO_workRange_L46, hm, if_neg (nI_nlt (by omega) (by omega)), hl]
    rw [wr_L75 hb hr (by omega) (max W1 W2 + 1 - min W1 W2) (min W1 W2) 17 b6 s z n (by omega) (by omega) (by omega) hs]
    show q_MO_workRange_L46 f w a b z4 0 _ _ _ _ (nI c + 1) M = _
    rw [nI_1, colsV, racc_app]
    have h1 := rowsV_len (cvM M) c (max W1 W2 + 1 - min W1 W2) (min W1 W2)
    refine ih (c + 1) f _ _ _ _ (by omega) (by omega) ?_ ?_
    · rw [racc_n]
      omega
    · exact racc_nn w _ _ _ _ _ hs (fun d hd => rowsV_ok (cvM_ok hb) c _ _ d hd)
/-- a LOST range goes over its cells for nothing -/
theorem wr_L75l {M : mo_S} {w a b z4 : Int32} {C1 W1 C2 W2 c : Nat} (hr : rgc a b C1 W1 C2 W2) (hc : c < 8) : ∀ (k rr : Nat) (f : Nat) (b6 : Int32) (s z : UInt64) (n : Int32), k < f → rr + k = max W1 W2 + 1 → q_MO_workRange_L75 f w a b z4 1 b6 s z n (nI c) (nI rr) M = some (b6, s, z, n, M) := by
  have hr' := hr
  obtain ⟨r1, r2, r3, r4, r5, r6, r7, r8⟩ := hr'
  have hm : p_MO_most (p_MO_row a) (p_MO_row b) = nI (max W1 W2) := by
    rw [r2, r4, mo_most (by omega) (by omega)]
  intro k
  induction k with
  | zero =>
    intro rr f b6 s z n hf hrr
    obtain ⟨f, rfl⟩ : ∃ m, f = m + 1 := ⟨f - 1, by omega⟩
    rw [q_MO_workRange_L75, hm, if_pos (nI_lt (by omega) (by omega))]
  | succ k ih =>
    intro rr f b6 s z n hf hrr
    obtain ⟨f, rfl⟩ : ∃ m, f = m + 1 := ⟨f - 1, by omega⟩
    obtain ⟨i1, i2, i3, i4⟩ := idx10 hc (show rr < 10 by omega)
    rw [q_MO_workRange_L75, hm, if_neg (nI_nlt (by omega) (by omega)), i1, fs_okp_pos i3, nI_1, if_neg (show ¬ (1 : Int32) = 0 by decide)]
    have := ih (rr + 1) f b6 s z n (by omega) (by omega)
    rw [this]
    split <;> rfl
theorem wr_L46l {M : mo_S} {w a b z4 : Int32} {C1 W1 C2 W2 : Nat} (hr : rgc a b C1 W1 C2 W2) : ∀ (k c : Nat) (f : Nat) (b6 : Int32) (s z : UInt64) (n : Int32), k < f → c + k = max C1 C2 + 1 → q_MO_workRange_L46 f w a b z4 1 b6 s z n (nI c) M = some (b6, s, z, n, M) := by
  have hr' := hr
  obtain ⟨r1, r2, r3, r4, r5, r6, r7, r8⟩ := hr'
  have hm : p_MO_most (p_MO_column a) (p_MO_column b) = nI (max C1 C2) := by
    rw [r1, r3, mo_most (by omega) (by omega)]
  have hl : p_MO_least (p_MO_row a) (p_MO_row b) = nI (min W1 W2) := by
    rw [r2, r4, mo_least (by omega) (by omega)]
  intro k
  induction k with
  | zero =>
    intro c f b6 s z n hf hc
    obtain ⟨f, rfl⟩ : ∃ m, f = m + 1 := ⟨f - 1, by omega⟩
    rw [q_MO_workRange_L46, hm, if_pos (nI_lt (by omega) (by omega))]
  | succ k ih =>
    intro c f b6 s z n hf hc
    obtain ⟨f, rfl⟩ : ∃ m, f = m + 1 := ⟨f - 1, by omega⟩
    rw [q_MO_workRange_L46, hm, if_neg (nI_nlt (by omega) (by omega)), hl]
    rw [wr_L75l hr (by omega) (max W1 W2 + 1 - min W1 W2) (min W1 W2) 17 b6 s z n (by omega) (by omega)]
    show q_MO_workRange_L46 f w a b z4 1 _ _ _ _ (nI c + 1) M = _
    rw [nI_1]
    exact ih (c + 1) f b6 s z n (by omega) (by omega)
theorem wm_range {M : mo_S} {t : List Vl} {j : Nat} {a b x y : Int32} (hj : j < 5) (hb : cvb M) (hs : sk M t) (hl : t.length < 44) (hqa : rfq a x) (hqb : rfq b y) : ∃ M', q_MO_workRange M (nI (j + 2)) a b (nI t.length) = some M' ∧ sk M' (rgv (cvM M) (nI (j + 2)) x y :: t) ∧ wf M M' := by
  obtain ⟨C1, W1, A1, B1, l1, g1, g2, g3, g4, g5, g6, g7⟩ := hqa
  obtain ⟨C2, W2, A2, B2, l2, k1, k2, k3, k4, k5, k6, k7⟩ := hqb
  obtain ⟨d1, d2, d3⟩ := rf_dec2 g1 g2 g3 g4 g5
  obtain ⟨e1, e2, e3⟩ := rf_dec2 k1 k2 k3 k4 k5
  have hok : (0 ≤ (nI t.length).toInt) ∧ ((nI t.length).toInt < 44) := by
    rw [nI_toInt (by omega)]
    omega
  have hr : rgc a b C1 W1 C2 W2 := by
    rw [g6, k6]
    exact ⟨d1, d2, e1, e2, g1, k1, g2, k2⟩
  have hle : p_MO_least (p_MO_column a) (p_MO_column b) = nI (min C1 C2) := by
    rw [hr.1, hr.2.2.1, mo_least (by omega) (by omega)]
  have hla : p_MO_lost a = nI l1 := by rw [g6]; exact d3
  have hlb : p_MO_lost b = nI l2 := by rw [k6]; exact e3
  have hbad : ∀ d : UInt64, ∃ M', some (p_MO_hold M (nI t.length) d 1) = some M' ∧ sk M' (none :: t) ∧ wf M M' := fun d => ⟨_, rfl, hold_sk hs hl (v := none) (d := d) (f := 1) (Or.inr ⟨rfl, rfl⟩)⟩
  have hgood : ∀ d : UInt64, nb d → ∃ M', some (p_MO_hold M (nI t.length) d 0) = some M' ∧ sk M' (some d :: t) ∧ wf M M' := fun d hd => ⟨_, rfl, hold_sk hs hl (v := some d) (d := d) (f := 0) (Or.inl ⟨rfl, rfl, hd⟩)⟩
  -- LOST
  have hlost : ∃ M', q_MO_workRange_J14 (nI (j + 2)) a b (nI t.length) M = some M' ∧ sk M' (none :: t) ∧ wf M M' := by
    unfold q_MO_workRange_J14 q_MO_workRange_J19
    rw [hle, wr_L46l hr (max C1 C2 + 1 - min C1 C2) (min C1 C2) 9 0 _ _ 0 (by omega) (by omega)]
    rw [Option.bind_some]
    dsimp only
    by_cases j3 : nI (j + 2) = 5
    · rw [if_pos j3, fs_okp_pos hok]
      exact hbad _
    · rw [if_neg j3]
      by_cases j0 : nI (j + 2) = 2
      · rw [if_pos j0, if_neg (by decide), fs_okp_pos hok]
        exact hbad _
      · rw [if_neg j0]
        by_cases j4 : nI (j + 2) = 6
        · rw [if_pos j4, if_pos rfl]
          unfold q_MO_workRange_J303
          rw [if_neg (by decide), fs_okp_pos hok]
          exact hbad _
        · rw [if_neg j4, if_neg (by decide), fs_okp_pos hok]
          exact hbad _
  unfold q_MO_workRange
  rw [hla, hlb]
  by_cases h1 : l1 = 0
  · subst h1
    rw [if_pos rfl] at g7
    rw [if_pos (show nI 0 = 0 from rfl)]
    obtain ⟨u1, u2, u3⟩ := rf_dec C1 g1 W1 g2 A1 g3 B1 g4
    by_cases h2 : l2 = 0
    · subst h2
      rw [if_pos rfl] at k7
      rw [if_pos (show nI 0 = 0 from rfl)]
      obtain ⟨v1, v2, v3⟩ := rf_dec C2 k1 W2 k2 A2 k3 B2 k4
      have hv : rgv (cvM M) (nI (j + 2)) x y = rgW (nI (j + 2)) (colsV (cvM M) (max W1 W2 + 1 - min W1 W2) (min W1 W2) (max C1 C2 + 1 - min C1 C2) (min C1 C2)) := by
        unfold rgv rgV
        rw [g7, k7, u3, v3, if_pos rfl, if_pos rfl, u1, u2, v1, v2]
      rw [hv]
      have hok2 : ∀ d, some d ∈ colsV (cvM M) (max W1 W2 + 1 - min W1 W2) (min W1 W2) (max C1 C2 + 1 - min C1 C2) (min C1 C2) → nb d := fun d hd => colsV_ok (cvM_ok hb) _ _ _ _ d hd
      have hlen : (colsV (cvM M) (max W1 W2 + 1 - min W1 W2) (min W1 W2) (max C1 C2 + 1 - min C1 C2) (min C1 C2)).length ≤ 80 := by
        refine Nat.le_trans (colsV_len _ _ _ _ _) ?_
        have a1 : max W1 W2 + 1 - min W1 W2 ≤ 10 := by omega
        have a2 : max C1 C2 + 1 - min C1 C2 ≤ 8 := by omega
        exact Nat.mul_le_mul a1 a2
      unfold q_MO_workRange_J19
      have hL := wr_L46 (w := nI (j + 2)) (z4 := nI t.length) hb hr (max C1 C2 + 1 - min C1 C2) (min C1 C2) 9 0 FP.dconst0 FP.dconst0 0 (by omega) (by omega) (by omega) nb_0.nn
      rw [hle]
      rw [show q_MO_workRange_L46 9 (nI (j + 2)) a b (nI t.length) 0 0 FP.dconst0 FP.dconst0 0 (nI (min C1 C2)) M = _ from hL]
      generalize colsV (cvM M) (max W1 W2 + 1 - min W1 W2) (min W1 W2) (max C1 C2 + 1 - min C1 C2) (min C1 C2) = l at *
      rw [Option.bind_some]
      dsimp only
      have hn := racc_n (nI (j + 2)) l 0 FP.dconst0 FP.dconst0 0
      rw [Nat.zero_add] at hn
      by_cases j3 : nI (j + 2) = 5
      · rw [if_pos j3, fs_okp_pos hok]
        unfold rgW
        rw [if_pos j3]
        show ∃ M', some (p_MO_hold M (nI t.length) (FP.i2d (nI (racc (nI (j + 2)) l 0 FP.dconst0 FP.dconst0 0).2.2.2)) 0) = some M' ∧ _
        rw [hn]
        exact hgood _ (nb_i2d (by omega))
      · rw [if_neg j3]
        unfold rgW
        rw [if_neg j3]
        by_cases j0 : nI (j + 2) = 2
        · rw [if_pos j0, if_pos j0, if_pos rfl]
          rcases racc_sum (Or.inl j0) l FP.dconst0 FP.dconst0 0 nb_0 hok2 with ⟨s1, s2⟩ | ⟨s1, s2⟩
          · rw [s2, if_pos (show (racc (nI (j + 2)) l 0 FP.dconst0 FP.dconst0 0).1 = 0 from s1), fs_okp_pos hok]
            exact hgood _ (sumV_ok l _ _ nb_0 hok2 s2)
          · rw [s2, if_neg (show ¬ (racc (nI (j + 2)) l 0 FP.dconst0 FP.dconst0 0).1 = 0 from fun z => absurd (s1.symm.trans z) (by decide)), fs_okp_pos hok]
            exact hbad _
        · rw [if_neg j0, if_neg j0]
          by_cases j4 : nI (j + 2) = 6
          · rw [if_pos j4, if_pos j4]
            by_cases h0 : l.length = 0
            · rw [if_pos h0, if_pos (show nI (racc (nI (j + 2)) l 0 FP.dconst0 FP.dconst0 0).2.2.2 = 0 by
                show nI (racc (nI (j + 2)) l 0 FP.dconst0 FP.dconst0 0).2.2.2 = 0
                rw [hn, h0]; rfl)]
              unfold q_MO_workRange_J303
              rw [if_pos rfl]
              have hl0 : l = [] := List.eq_nil_of_length_eq_zero h0
              subst hl0
              show ∃ M', (if (0 : Int32) = 0 then (if (nI 0 : Int32) = 0 then _ else _) else _) = _ ∧ _
              rw [if_pos rfl, if_pos (show nI 0 = 0 from rfl), fs_okp_pos hok]
              exact hbad _
            · rw [if_neg h0, if_neg (show ¬ nI (racc (nI (j + 2)) l 0 FP.dconst0 FP.dconst0 0).2.2.2 = 0 by
                show ¬ nI (racc (nI (j + 2)) l 0 FP.dconst0 FP.dconst0 0).2.2.2 = 0
                rw [hn]
                exact nI_ne0 (by omega) (by omega))]
              have hnn : nn (FP.ddiv (racc (nI (j + 2)) l 0 FP.dconst0 FP.dconst0 0).2.1 (FP.i2d (nI l.length))) := by
                have h1 := racc_nn (nI (j + 2)) l 0 FP.dconst0 FP.dconst0 0 nb_0.nn hok2
                refine nn_of (FP.Core.ddiv_out (nn_to h1) (FP.Core.i2d_fin _) ?_)
                intro hz
                have := (FP.Core.zero_bits2 _).mp hz
                exact FP.Core.i2d_ne_zero (nI_ne0 (by omega) (by omega)) this
              have e9 : nI (racc (nI (j + 2)) l 0 FP.dconst0 FP.dconst0 0).2.2.2 = nI l.length := by
                show nI (racc (nI (j + 2)) l 0 FP.dconst0 FP.dconst0 0).2.2.2 = _
                rw [hn]
              rw [e9, fs_okp_pos (nn_n64 hnn)]
              unfold q_MO_workRange_J303
              rw [if_pos rfl]
              rcases racc_sum (Or.inr j4) l FP.dconst0 FP.dconst0 0 nb_0 hok2 with ⟨s1, s2⟩ | ⟨s1, s2⟩
              · rw [s2, if_pos (show (racc (nI (j + 2)) l 0 FP.dconst0 FP.dconst0 0).1 = 0 from s1), if_neg (nI_ne0 (by omega) (by omega)), fs_okp_pos hok]
                exact hgood _ (nb_avg (sumV_ok l _ _ nb_0 hok2 s2) (by omega) (by omega))
              · rw [s2, if_neg (show ¬ (racc (nI (j + 2)) l 0 FP.dconst0 FP.dconst0 0).1 = 0 from fun z => absurd (s1.symm.trans z) (by decide)), fs_okp_pos hok]
                exact hbad _
          · rw [if_neg j4, if_neg j4, if_pos rfl]
            rcases racc_ext j0 j4 l FP.dconst0 FP.dconst0 0 none (Or.inl ⟨rfl, rfl⟩) with ⟨s1, s2⟩ | ⟨s1, s2⟩
            · rw [s2, if_pos (show (racc (nI (j + 2)) l 0 FP.dconst0 FP.dconst0 0).1 = 0 from s1)]
              by_cases h0 : l.length = 0
              · rw [if_pos (show 0 + l.length = 0 by omega), if_pos (show nI (racc (nI (j + 2)) l 0 FP.dconst0 FP.dconst0 0).2.2.2 = 0 by
                  show nI (racc (nI (j + 2)) l 0 FP.dconst0 FP.dconst0 0).2.2.2 = 0
                  rw [hn, h0]; rfl), fs_okp_pos hok]
                exact hbad _
              · rw [if_neg (show ¬ 0 + l.length = 0 by omega)] at s2
                rw [if_neg (show ¬ 0 + l.length = 0 by omega), if_neg (show ¬ nI (racc (nI (j + 2)) l 0 FP.dconst0 FP.dconst0 0).2.2.2 = 0 by
                  show ¬ nI (racc (nI (j + 2)) l 0 FP.dconst0 FP.dconst0 0).2.2.2 = 0
                  rw [hn]
                  exact nI_ne0 (by omega) (by omega)), fs_okp_pos hok]
                exact hgood _ (extV_ok _ l none _ (fun z hz => by cases hz) hok2 s2)
            · rw [s2, if_neg (show ¬ (racc (nI (j + 2)) l 0 FP.dconst0 FP.dconst0 0).1 = 0 from fun z => absurd (s1.symm.trans z) (by decide)), fs_okp_pos hok]
              exact hbad _
    · have : l2 = 1 := by omega
      subst this
      rw [if_neg (by decide)] at k7
      rw [if_neg (by decide)]
      have hv : rgv (cvM M) (nI (j + 2)) x y = none := by
        unfold rgv
        rw [g7, k7, u3, rf_512, if_pos rfl, if_neg (by decide)]
      rw [hv]
      exact hlost
  · have : l1 = 1 := by omega
    subst this
    rw [if_neg (by decide)] at g7
    rw [if_neg (by decide)]
    have hv : rgv (cvM M) (nI (j + 2)) x y = none := by
      unfold rgv
      rw [g7, rf_512, if_neg (by decide)]
    rw [hv]
    exact hlost
