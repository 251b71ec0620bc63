/-! Pure: the reference's text of a formula. -/
theorem mo_part {M : mo_S} {st : List (Ck × Nat)} {k : Nat} {x : It} (h : tk M (fl st)) (hl : st.length < 44) (hk : k < 3240) (hc : ci M k x) (hx : itok x) (hq : numq x) (hr : x.1 ≤ 6) (hn : pm_names M) (hlen : (bfS (fl (tx1 x st))).length ≤ 400) : ∃ M', q_MO_writePart M (nI k) = some M' ∧ tk M' (fl (tx1 x st)) ∧ tF M M' := by
  have hin : vp_in (nI k) 3240 := nI_in hk (by omega)
  obtain ⟨M1, a1, a2, a3⟩ := mo_begin h (by rw [fl_len]; exact hl)
  have hc1 : ci M1 k x := a3.it hc
  have b1 : bufR M1 (bfS (fl st)) := by
    have := a2.1
    rw [show bfS (([], 5) :: fl st) = bfS (fl st) from List.append_nil _] at this
    exact this
  unfold q_MO_writePart
  rw [fs_okp_pos hin, a1, Option.bind_some]
  try dsimp only
  rw [nI_clamp (by omega), hc.1]
  rcases hx with ⟨b, d, h1, h2, rfl⟩ | ⟨a, h1, rfl⟩ | ⟨j, a, b, h1, h2, h3, rfl⟩ | ⟨w, h1, rfl⟩ | rfl | ⟨w, h1, rfl⟩
  · obtain ⟨b', d', n1, n2, n3⟩ := hq rfl
    have n4 : nI b = nI b' := congrArg (fun x : It => x.2.1) n3
    have n5 : lN d = lN d' := congrArg (fun x : It => x.2.2.2) n3
    have n6 : b = b' := nI_ij n4 (by omega) (by omega)
    subst n6
    have n8 : (lN d').toBitVec.toNat = d' := lN_toNat (by
      have : d' < 1000000000 * 10 ^ 4 := Nat.lt_of_lt_of_le n2 (Nat.mul_le_mul_left _ (Nat.pow_le_pow_right (by decide) n1))
      omega)
    have e : fl (tx1 (0, nI b, 0, lN d) st) = ((nuC b d').flatten, 5) :: fl st := by
      show ((nuC (nI b).toNatClampNeg (lN d).toBitVec.toNat).flatten, 5) :: fl st = _
      rw [nI_clamp (by omega), n5, n8]
    rw [e] at hlen ⊢
    have hlen' : (bfS (fl st) ++ (nuC b d').flatten).length ≤ 400 := hlen
    rw [List.length_append] at hlen'
    rw [if_pos rfl]
    obtain ⟨M2, c1, c2, c3⟩ := mo_wnumeral hk n1 n2 (hc1.2.1 rfl).1 (((hc1.2.1 rfl).2).trans n5) b1 hlen'
    rw [c1, Option.bind_some]
    exact ⟨M2, rfl, a2.top c3 c2, a3.trans c3.T⟩
  · have e : fl (tx1 (1, a, 0, 0) st) = ((rfC a).flatten, 5) :: fl st := rfl
    rw [e] at hlen ⊢
    have hlen' : (bfS (fl st) ++ (rfC a).flatten).length ≤ 400 := hlen
    rw [List.length_append] at hlen'
    rw [if_neg (show ¬ (1 : Int32) = 0 by decide), if_pos rfl, fs_okp_pos hin]
    obtain ⟨M2, c1, c2, c3⟩ := mo_wref (hc1.2.2.1 rfl) b1 hlen'
    rw [c1, Option.bind_some]
    exact ⟨M2, rfl, a2.top c3 c2, a3.trans c3.T⟩
  · obtain ⟨i1, i2, i3, i4, i5⟩ := it_rg j h1
    have e : fl (tx1 (nI (j + 2), a, b, 0) st) = (64 :: (ps_ob j ++ ((rfC a).flatten ++ 58 :: ((rfC b).flatten ++ [41]))), 5) :: fl st := by
      have e1 : tx1 (nI (j + 2), a, b, 0) st = (rgC j a b, 5) :: st := by
        unfold tx1
        dsimp only
        rw [if_neg i1, if_neg i2, if_pos i4, nI_clamp (by omega)]
        rfl
      rw [e1]
      show ((rgC j a b).flatten, 5) :: fl st = _
      unfold rgC
      rw [List.flatten_append, List.flatten_append, List.flatten_append, List.flatten_append]
      simp
    rw [e] at hlen ⊢
    have hlen' : (bfS (fl st) ++ (64 :: (ps_ob j ++ ((rfC a).flatten ++ 58 :: ((rfC b).flatten ++ [41]))))).length ≤ 400 := hlen
    simp only [List.length_append, List.length_cons, List.length_nil] at hlen'
    show ∃ M', (if nI (j + 2) = 0 then _ else if nI (j + 2) = 1 then _ else _) = some M' ∧ _
    rw [if_neg i1, if_neg i2, b1.1]
    obtain ⟨r4, r5⟩ := hc1.2.2.2 i5 i4
    have b1' : bufR M1 (bfS (fl st) ++ []) := a2.1
    obtain ⟨M2, c1, c2, c3⟩ := mo_nameS (j := j) (a3.nm hn) (by omega) b1' (by rw [List.append_nil]; omega)
    rw [c1, Option.bind_some]
    try dsimp only
    rw [fs_okp_pos hin, List.append_nil] at *
    rw [c3.2.1 4 k (by decide)]
    obtain ⟨M3, d1, d2, d3⟩ := mo_wref r4 c2 (by simp only [List.length_append, List.length_cons]; omega)
    rw [d1, Option.bind_some]
    try dsimp only
    obtain ⟨M4, f1, f2, f3⟩ := mo_app (c := 58) d2 (by simp only [List.length_append, List.length_cons]; omega)
    rw [show q_MO_append M3 58 = some M4 from f1, Option.bind_some]
    try dsimp only
    have g4 := (c3.trans d3).trans f3
    rw [fs_okp_pos hin, g4.2.1 5 k (by decide)]
    obtain ⟨M5, k1, k2, k3⟩ := mo_wref r5 f2 (by simp only [List.length_append, List.length_cons, List.length_nil]; omega)
    rw [k1, Option.bind_some]
    try dsimp only
    obtain ⟨M6, l1, l2, l3⟩ := mo_app (c := 41) k2 (by simp only [List.length_append, List.length_cons, List.length_nil]; omega)
    rw [show q_MO_append M5 41 = some M6 from l1, Option.bind_some]
    have g6 := (g4.trans k3).trans l3
    refine ⟨M6, rfl, a2.top g6 ?_, a3.trans g6.T⟩
    have e9 : bfS (fl st) ++ (64 :: (ps_ob j ++ ((rfC a).flatten ++ 58 :: ((rfC b).flatten ++ [41])))) = bfS (fl st) ++ 64 :: ps_ob j ++ (rfC a).flatten ++ [58] ++ (rfC b).flatten ++ [41] := by simp
    rw [e9]
    exact l2
  · exact absurd hr (it_1 h1).2.2.2.2
  · exact absurd hr (by decide)
  · exact absurd hr (it_2 h1).2.2.2.2.1
/-- one sign in front -/
theorem mo_una {M : mo_S} {a : Ck × Nat} {w : Int32} {t : List (Ck × Nat)} (hw : w = 10 ∨ w = 33) (h : tk M (fl (a :: t))) (ht : t.length < 44) (hl : (bfS (fl (tx1 (w, 0, 0, 0) (a :: t)))).length ≤ 400) : ∃ M', q_MO_writeItem_J43 w M = some M' ∧ tk M' (fl (tx1 (w, 0, 0, 0) (a :: t))) ∧ tF M M' := by
  have gen : ∀ (need s l' : Nat), need ≤ 5 → l' ≤ 5 → (bfS (fl t) ++ s :: brT need (a.1.flatten, a.2)).length ≤ 400 → ∃ M', Option.bind (q_MO_bracketLast M (nI need)) (fun R => fs_okp (vp_in ((R.1 35) - 1) 44) (Option.bind (q_MO_insertAt R (R.2.1 32 (Int32.toNatClampNeg ((R.1 35) - 1))) (nI s)) (fun R2 => fs_okp (vp_in ((R2.1 35) - 1) 44) (some (mo_i R2 33 (Int32.toNatClampNeg ((R2.1 35) - 1)) (nI l')))))) = some M' ∧ tk M' ((s :: brT need (a.1.flatten, a.2), l') :: fl t) ∧ tF M M' := by
    intro need s l' hn hl' hlen
    rw [List.length_append, List.length_cons] at hlen
    have htf : (fl t).length < 44 := by rw [fl_len]; exact ht
    obtain ⟨M1, a1, a2, a3⟩ := mo_brk (t := fl t) h hn htf (by omega)
    rw [a1, Option.bind_some]
    try dsimp only
    have k32 : M1.2.1 32 (fl t).length = nI (bfS (fl t)).length := a2.2.2.1
    rw [a2.li, fs_okp_pos (show vp_in (nI (fl t).length) 44 from nI_in htf (by omega)), nI_clamp (by omega), k32]
    obtain ⟨M2, b1, b2, b3⟩ := mo_insS (M := M1) (u := bfS (fl t)) (v := brT need (a.1.flatten, a.2)) (c := s) a2.1 (by rw [List.length_append]; omega)
    rw [b1, Option.bind_some]
    try dsimp only
    have k2 : tk M2 ((s :: brT need (a.1.flatten, a.2), a.2) :: fl t) := a2.top b3 b2
    obtain ⟨M3, c1, c2, c3⟩ := mo_J119 (l' := l') k2 htf hl'
    exact ⟨M3, c1, c2, (a3.trans b3.T).trans c3⟩
  rcases hw with rfl | rfl
  · have e : fl (tx1 (10, 0, 0, 0) (a :: t)) = (45 :: brT 5 (a.1.flatten, a.2), 4) :: fl t := by
      show ((([45] : List Nat) :: brC 5 a).flatten, 4) :: fl t = _
      rw [List.flatten_cons, brC_flat]
      rfl
    rw [e] at hl ⊢
    exact gen 5 45 4 (by omega) (by omega) hl
  · have e : fl (tx1 (33, 0, 0, 0) (a :: t)) = (33 :: brT 2 (a.1.flatten, a.2), 1) :: fl t := by
      show ((([33] : List Nat) :: brC 2 a).flatten, 1) :: fl t = _
      rw [List.flatten_cons, brC_flat]
      rfl
    rw [e] at hl ⊢
    exact gen 2 33 1 (by omega) (by omega) hl
theorem mo_item {M : mo_S} {st : List (Ck × Nat)} {k m : Nat} {x : It} (h : tk M (fl st)) (hl : st.length < 43) (hk : k < 3240) (hc : ci M k x) (hx : itok x) (hq : numq x) (hm : ar x st.length = some m) (hn : pm_names M) (hlen : (bfS (fl (tx1 x st))).length ≤ 400) : ∃ M', q_MO_writeItem M (nI k) = some M' ∧ tk M' (fl (tx1 x st)) ∧ tF M M' := by
  have hin : vp_in (nI k) 3240 := nI_in hk (by omega)
  have part : x.1 ≤ 6 → ∃ M', Option.bind (q_MO_writePart M (nI k)) (fun R => some R) = some M' ∧ tk M' (fl (tx1 x st)) ∧ tF M M' := by
    intro hr
    obtain ⟨M1, a1, a2, a3⟩ := mo_part h (by omega) hk hc hx hq hr hn hlen
    rw [a1]
    exact ⟨M1, rfl, a2, a3⟩
  unfold q_MO_writeItem
  rw [fs_okp_pos hin, nI_clamp (by omega), hc.1]
  rcases hx with ⟨b, d, h1, h2, rfl⟩ | ⟨a, h1, rfl⟩ | ⟨j, a, b, h1, h2, h3, rfl⟩ | ⟨w, h1, rfl⟩ | rfl | ⟨w, h1, rfl⟩
  · rw [if_pos rfl]
    exact part (show (0 : Int32) ≤ 6 by decide)
  · rw [if_neg (show ¬ (1 : Int32) = 0 by decide), if_pos rfl]
    exact part (show (1 : Int32) ≤ 6 by decide)
  · obtain ⟨i1, i2, i3, i4, i5⟩ := it_rg j h1
    show ∃ M', (if nI (j + 2) = 0 then _ else if nI (j + 2) = 1 then _ else if p_MO_isRange (nI (j + 2)) = 0 then _ else _) = some M' ∧ _
    rw [if_neg i1, if_neg i2, if_neg i3]
    exact part i4
  · obtain ⟨i1, i2, i3, i4, i5⟩ := it_1 h1
    have hst : 1 ≤ st.length := by
      unfold ar at hm
      rw [if_neg i5, if_neg i4, if_pos h1] at hm
      by_cases h9 : 1 ≤ st.length
      · exact h9
      · rw [if_neg h9] at hm; cases hm
    match st, hst with
    | a :: t, _ =>
      rw [List.length_cons] at hl
      show ∃ M', (if w = 0 then _ else if w = 1 then _ else if p_MO_isRange w = 0 then (if w = 10 then _ else if w = 33 then _ else if w = 7 then _ else if w = 8 then _ else if w = 9 then _ else _) else _) = some M' ∧ _
      rw [if_neg i1, if_neg i2, if_pos i3]
      rcases h1 with rfl | rfl | rfl | rfl
      · rw [if_neg (by decide), if_pos rfl]
        exact mo_una (Or.inr rfl) h (by omega) hlen
      · rw [if_pos rfl]
        exact mo_una (Or.inl rfl) h (by omega) hlen
      · rw [if_neg (by decide), if_neg (by decide), if_pos rfl]
        obtain ⟨M1, a1, a2, a3⟩ := mo_func (j := 5) hn (Or.inl rfl) h (by omega) hlen
        rw [show q_MO_writeFunction M 7 = some M1 from a1]
        exact ⟨M1, rfl, a2, a3⟩
      · rw [if_neg (by decide), if_neg (by decide), if_neg (by decide), if_pos rfl]
        obtain ⟨M1, a1, a2, a3⟩ := mo_func (j := 6) hn (Or.inr rfl) h (by omega) hlen
        rw [show q_MO_writeFunction M 8 = some M1 from a1]
        exact ⟨M1, rfl, a2, a3⟩
  · have hst : 3 ≤ st.length := by
      have hm' : (if 3 ≤ st.length then some (st.length - 2) else none) = some m := hm
      by_cases h9 : 3 ≤ st.length
      · exact h9
      · rw [if_neg h9] at hm'; cases hm'
    match st, hst with
    | c :: b :: a :: t, _ =>
      simp only [List.length_cons] at hl
      obtain ⟨M1, a1, a2, a3⟩ := mo_if hn h (by omega) hlen
      show ∃ M', Option.bind (q_MO_writeFunction M 9) (fun R => some R) = some M' ∧ _
      rw [a1]
      exact ⟨M1, rfl, a2, a3⟩
  · obtain ⟨i1, i2, i3, i4, i5, i6, i7, i8, i9⟩ := it_2 h1
    have hst : 2 ≤ st.length := by
      unfold ar at hm
      rw [if_neg i5, if_neg i4, if_neg (show ¬ (w = 33 ∨ w = 10 ∨ w = 7 ∨ w = 8) from fun z => z.elim i6 fun z => z.elim i7 fun z => z.elim i8 i9)] at hm
      by_cases h9 : 2 ≤ st.length
      · exact h9
      · rw [if_neg h9] at hm; cases hm
    match st, hst with
    | b :: a :: t, _ =>
      simp only [List.length_cons] at hl
      show ∃ M', (if w = 0 then _ else if w = 1 then _ else if p_MO_isRange w = 0 then (if w = 10 then _ else if w = 33 then _ else if w = 7 then _ else if w = 8 then _ else if w = 9 then _ else _) else _) = some M' ∧ _
      rw [if_neg i1, if_neg i2, if_pos i3, if_neg i7, if_neg i6, if_neg i8, if_neg i9, if_neg i4]
      obtain ⟨M1, a1, a2, a3⟩ := mo_pair h1 h (by omega) hlen
      rw [a1]
      exact ⟨M1, rfl, a2, a3⟩
