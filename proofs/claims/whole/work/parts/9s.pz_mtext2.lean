/-! Pure: the reference writes an item's text on the stack of pieces. -/
theorem nI_ij {a b : Nat} (h : nI a = nI b) (ha : a < 2 ^ 31) (hb : b < 2 ^ 31) : a = b := by
  have := congrArg Int32.toNatClampNeg h
  rw [nI_clamp ha, nI_clamp hb] at this
  exact this
def fl (st : List (Ck × Nat)) : List Tx := st.map fun p => (p.1.flatten, p.2)
theorem fl_len (st : List (Ck × Nat)) : (fl st).length = st.length := List.length_map _
theorem brC_flat (need : Nat) (p : Ck × Nat) : (brC need p).flatten = brT need (p.1.flatten, p.2) := by
  unfold brC brT
  dsimp only
  split
  · rw [List.flatten_cons, List.flatten_append]
    rfl
  · rfl
theorem tk.li {M : mo_S} {x : Tx} {t : List Tx} (h : tk M (x :: t)) : M.1 35 - 1 = nI t.length := by
  rw [h.2.1, List.length_cons, nI_s1]
theorem tkS.F {M : mo_S} {u w : List Nat} {l : Nat} {t : List Tx} {z : Int32} (h : tkS M ((u, l) :: t)) : tkS (mo_f M 35 z) ((w, l) :: t) := tkS.kept (M := M) (st := (w, l) :: t) ⟨h.1, h.2.1, h.2.2.1, h.2.2.2⟩ fun _ _ => ⟨rfl, rfl⟩
theorem brT_ge (n l : Nat) (u : List Nat) : u.length ≤ (brT n (u, l)).length := by
  unfold brT
  dsimp only
  split
  · simp only [List.length_append, List.length_cons]; omega
  · exact Nat.le_refl _
/-- two pieces become one -/
theorem mo_pop {M : mo_S} {u1 w : List Nat} {l1 l2 : Nat} {t : List Tx} {u2 : List Nat} (h : tk M ((u2, l2) :: (u1, l1) :: t)) (hw : w = u1 ++ u2) : tk (mo_f M 35 (M.1 35 - 1)) ((w, l1) :: t) ∧ tF M (mo_f M 35 (M.1 35 - 1)) := by
  refine ⟨⟨⟨?_, fun i c hi => ?_⟩, ?_, tkS.F h.2.2.2.2.2⟩, ⟨fun j h1 h2 => by rw [mo_f_1, if_neg h2], fun j q _ _ _ => rfl, rfl⟩⟩
  · rw [mo_f_1, if_neg (by decide), h.1.1, hw]
    show nI ((bfS t ++ u1) ++ u2).length = nI (bfS t ++ (u1 ++ u2)).length
    rw [List.append_assoc]
  · refine h.1.2 i c ?_
    rw [hw] at hi
    show ((bfS t ++ u1) ++ u2)[i]? = _
    rw [List.append_assoc]
    exact hi
  · rw [mo_f_1, if_pos rfl, h.li]
    rfl
theorem mo_J119 {M : mo_S} {u : List Nat} {l l' : Nat} {t : List Tx} (h : tk M ((u, l) :: t)) (ht : t.length < 44) (hl : l' ≤ 5) : ∃ M', fs_okp (vp_in ((M.1 35) - 1) 44) (some (mo_i M 33 (Int32.toNatClampNeg ((M.1 35) - 1)) (nI l'))) = some M' ∧ tk M' ((u, l') :: t) ∧ tF M M' := by
  rw [h.li, fs_okp_pos (show vp_in (nI t.length) 44 from nI_in ht (by omega)), nI_clamp (by omega)]
  exact ⟨_, rfl, mo_lev h hl⟩
theorem mo_J77 {M : mo_S} {u1 B : List Nat} {c l1 n1 p : Nat} {t : List Tx} (h : tk M ((u1 ++ c :: B, l1) :: t)) (ht : t.length < 44) (hn : n1 ≤ 5) (hp : p ≤ 5) (hl : (bfS t).length + (brT n1 (u1, l1) ++ c :: B).length ≤ 400) : ∃ M', q_MO_writePair_J77 (nI p) (nI (bfS t ++ u1).length) (nI n1) M = some M' ∧ tk M' ((brT n1 (u1, l1) ++ c :: B, p) :: t) ∧ tF M M' := by
  have hin : vp_in (nI t.length) 44 := nI_in ht (by omega)
  have hl5 : l1 ≤ 5 := h.2.2.2.2.1
  have h33 : M.2.1 33 t.length = nI l1 := h.2.2.2.1
  unfold q_MO_writePair_J77 q_MO_writePair_J119
  rw [h.li, fs_okp_pos hin, nI_clamp (by omega), h33]
  by_cases hlt : l1 < n1
  · have e : brT n1 (u1, l1) = 40 :: (u1 ++ [41]) := by unfold brT; rw [if_pos hlt]
    rw [e] at hl ⊢
    simp only [List.length_append, List.length_cons, List.length_nil] at hl
    rw [if_neg (nI_ge (by omega) (by omega))]
    obtain ⟨M1, a1, a2, a3⟩ := mo_insS (M := M) (u := bfS t ++ u1) (v := c :: B) (c := 41) (by rw [List.append_assoc]; exact h.1) (by simp only [List.length_append, List.length_cons]; omega)
    rw [show q_MO_insertAt M (nI (bfS t ++ u1).length) 41 = some M1 from a1, Option.bind_some]
    try dsimp only
    have k1 : tk M1 ((u1 ++ 41 :: c :: B, l1) :: t) := h.top a3 (by rw [List.append_assoc] at a2; exact a2)
    have k32 : M1.2.1 32 t.length = nI (bfS t).length := k1.2.2.1
    rw [k1.li, fs_okp_pos hin, nI_clamp (by omega), k32]
    obtain ⟨M2, b1, b2, b3⟩ := mo_insS (M := M1) (u := bfS t) (v := u1 ++ 41 :: c :: B) (c := 40) k1.1 (by simp only [List.length_append, List.length_cons]; omega)
    rw [show q_MO_insertAt M1 (nI (bfS t).length) 40 = some M2 from b1, Option.bind_some]
    try dsimp only
    have k2 : tk M2 ((40 :: (u1 ++ [41]) ++ c :: B, l1) :: t) := k1.top b3 (by
      have e9 : bfS t ++ (40 :: (u1 ++ [41]) ++ c :: B) = bfS t ++ 40 :: (u1 ++ 41 :: c :: B) := by simp
      rw [e9]
      exact b2)
    obtain ⟨M3, c1, c2, c3⟩ := mo_J119 (l' := p) k2 ht hp
    exact ⟨M3, c1, c2, (a3.T.trans b3.T).trans c3⟩
  · have e : brT n1 (u1, l1) = u1 := by unfold brT; rw [if_neg hlt]
    rw [e, if_pos (nI_le (by omega) (by omega))]
    have := mo_J119 (l' := p) h ht hp
    rw [h.li, nI_clamp (by omega)] at this
    exact this
theorem mo_J36 {M : mo_S} {u1 u2 : List Nat} {c l1 l2 n2 p : Nat} {t : List Tx} (h : tk M ((u2, l2) :: (u1, l1) :: t)) (ht : t.length < 43) (hn : n2 ≤ 5) (hp : p ≤ 3) (hl : (bfS t).length + (brT (if p = 1 then 2 else p) (u1, l1) ++ c :: brT n2 (u2, l2)).length ≤ 400) : ∃ M', q_MO_writePair_J36 (nI c) (nI p) (nI n2) M = some M' ∧ tk M' ((brT (if p = 1 then 2 else p) (u1, l1) ++ c :: brT n2 (u2, l2), p) :: t) ∧ tF M M' := by
  have hge : u1.length ≤ (brT (if p = 1 then 2 else p) (u1, l1)).length := brT_ge _ _ _
  have hl0 := hl
  rw [List.length_append, List.length_cons] at hl0
  unfold q_MO_writePair_J36
  obtain ⟨M1, a1, a2, a3⟩ := mo_brk h hn (by rw [List.length_cons]; omega) (by show (bfS t ++ u1).length + _ ≤ 400; rw [List.length_append]; omega)
  rw [a1, Option.bind_some]
  try dsimp only
  have k32 : M1.2.1 32 (t.length + 1) = nI (bfS t ++ u1).length := a2.2.2.1
  rw [a2.li, List.length_cons, fs_okp_pos (show vp_in (nI (t.length + 1)) 44 from nI_in (by omega) (by omega)), nI_clamp (by omega), k32]
  obtain ⟨M2, b1, b2, b3⟩ := mo_insS (M := M1) (u := bfS t ++ u1) (v := brT n2 (u2, l2)) (c := c) a2.1 (by simp only [List.length_append]; omega)
  rw [b1, Option.bind_some]
  try dsimp only
  have k2 : tk M2 ((c :: brT n2 (u2, l2), l2) :: (u1, l1) :: t) := a2.top b3 b2
  obtain ⟨k3, f3⟩ := mo_pop k2 rfl
  obtain ⟨M3, c1, c2, c3⟩ := mo_J77 (p := p) (n1 := if p = 1 then 2 else p) k3 (by omega) (by split <;> omega) (by omega) hl
  refine ⟨M3, ?_, c2, ((a3.trans b3.T).trans f3).trans c3⟩
  by_cases hp1 : p = 1
  · rw [if_pos hp1] at c1
    rw [if_pos (show nI p = 1 by rw [hp1]; rfl)]
    exact c1
  · rw [if_neg hp1] at c1
    rw [if_neg (show ¬ nI p = 1 from fun e9 => hp1 (nI_ij (show nI p = nI 1 from e9) (by omega) (by omega)))]
    exact c1
theorem mo_pair {M : mo_S} {a b : Ck × Nat} {s : Int32} {t : List (Ck × Nat)} (hs : tr_sg s) (h : tk M (fl (b :: a :: t))) (ht : t.length < 43) (hl : (bfS (fl (tx1 (s, 0, 0, 0) (b :: a :: t)))).length ≤ 400) : ∃ M', q_MO_writePair M s = some M' ∧ tk M' (fl (tx1 (s, 0, 0, 0) (b :: a :: t))) ∧ tF M M' := by
  have e : fl (tx1 (s, 0, 0, 0) (b :: a :: t)) = (brT (if rul s = 1 then 2 else rul s) (a.1.flatten, a.2) ++ s.toNatClampNeg :: brT (rul s + 1) (b.1.flatten, b.2), rul s) :: fl t := by
    rw [tx_two hs]
    show ((brC (if rul s = 1 then 2 else rul s) a ++ [[s.toNatClampNeg]] ++ brC (rul s + 1) b).flatten, rul s) :: fl t = _
    rw [List.flatten_append, List.flatten_append, brC_flat, brC_flat, List.append_assoc]
    rfl
  rw [e] at hl ⊢
  have hr := rule_sg hs
  have key := mo_J36 (M := M) (c := s.toNatClampNeg) (n2 := rul s + 1) (p := rul s) (t := fl t) h (by rw [fl_len]; exact ht) (by omega) hr (by
    show (bfS (fl t)).length + _ ≤ 400
    have hl' : (bfS (fl t) ++ (brT (if rul s = 1 then 2 else rul s) (a.1.flatten, a.2) ++ s.toNatClampNeg :: brT (rul s + 1) (b.1.flatten, b.2))).length ≤ 400 := hl
    rw [List.length_append] at hl'
    exact hl')
  rw [(sg_nat hs).1] at key
  have eq : q_MO_writePair M s = q_MO_writePair_J36 s (nI (rul s)) (nI (rul s + 1)) M := by
    rcases hs with rfl | rfl | rfl | rfl | rfl | rfl | rfl | rfl | rfl | rfl <;> rfl
  rw [eq]
  exact key
/-- a name in front, a bracket behind -/
theorem mo_J50 {M : mo_S} {u : List Nat} {l j : Nat} {t : List Tx} (hn : pm_names M) (hj : j < 8) (h : tk M ((u, l) :: t)) (ht : t.length < 44) (hl : (bfS t).length + (64 :: (ps_ob j ++ u) ++ [41]).length ≤ 400) : ∃ M', q_MO_writeFunction_J50 (nI (j + 2)) M = some M' ∧ tk M' ((64 :: (ps_ob j ++ u) ++ [41], 5) :: t) ∧ tF M M' := by
  have hin : vp_in (nI t.length) 44 := nI_in ht (by omega)
  have k32 : M.2.1 32 t.length = nI (bfS t).length := h.2.2.1
  simp only [List.length_append, List.length_cons, List.length_nil] at hl
  unfold q_MO_writeFunction_J50
  rw [h.li, fs_okp_pos hin, nI_clamp (by omega), k32]
  obtain ⟨M1, a1, a2, a3⟩ := mo_nameS (u := bfS t) (v := u) hn hj h.1 (by rw [List.length_append]; omega)
  rw [a1, Option.bind_some]
  try dsimp only
  obtain ⟨M2, b1, b2, b3⟩ := mo_app (c := 41) a2 (by simp only [List.length_append, List.length_cons]; omega)
  rw [show q_MO_append M1 41 = some M2 from b1, Option.bind_some]
  try dsimp only
  have k2 : tk M2 ((64 :: (ps_ob j ++ u) ++ [41], l) :: t) := h.top (a3.trans b3) (by rw [List.append_assoc] at b2; exact b2)
  obtain ⟨M3, c1, c2, c3⟩ := mo_J119 (l' := 5) k2 ht (by omega)
  exact ⟨M3, c1, c2, ((a3.trans b3).T).trans c3⟩
theorem mo_func {M : mo_S} {a : Ck × Nat} {j : Nat} {t : List (Ck × Nat)} (hn : pm_names M) (hj : j = 5 ∨ j = 6) (h : tk M (fl (a :: t))) (ht : t.length < 44) (hl : (bfS (fl (tx1 (nI (j + 2), 0, 0, 0) (a :: t)))).length ≤ 400) : ∃ M', q_MO_writeFunction M (nI (j + 2)) = some M' ∧ tk M' (fl (tx1 (nI (j + 2), 0, 0, 0) (a :: t))) ∧ tF M M' := by
  have e : fl (tx1 (nI (j + 2), 0, 0, 0) (a :: t)) = (64 :: (ps_ob j ++ a.1.flatten) ++ [41], 5) :: fl t := by
    have e1 : tx1 (nI (j + 2), 0, 0, 0) (a :: t) = ([64] :: ps_ob j :: (a.1 ++ [[41]]), 5) :: t := by
      rcases hj with rfl | rfl <;> rfl
    rw [e1]
    show ((([64] : List Nat) :: ps_ob j :: (a.1 ++ [[41]])).flatten, 5) :: fl t = _
    rw [List.flatten_cons, List.flatten_cons, List.flatten_append]
    simp
  rw [e] at hl ⊢
  have hl' : (bfS (fl t) ++ (64 :: (ps_ob j ++ a.1.flatten) ++ [41])).length ≤ 400 := hl
  rw [List.length_append] at hl'
  have key := mo_J50 (t := fl t) hn (show j < 8 by omega) h (by rw [fl_len]; exact ht) hl'
  have eq : q_MO_writeFunction M (nI (j + 2)) = q_MO_writeFunction_J50 (nI (j + 2)) M := by
    rcases hj with rfl | rfl <;> rfl
  rw [eq]
  exact key
theorem mo_if {M : mo_S} {a b c : Ck × Nat} {t : List (Ck × Nat)} (hn : pm_names M) (h : tk M (fl (c :: b :: a :: t))) (ht : t.length < 42) (hl : (bfS (fl (tx1 (9, 0, 0, 0) (c :: b :: a :: t)))).length ≤ 400) : ∃ M', q_MO_writeFunction M 9 = some M' ∧ tk M' (fl (tx1 (9, 0, 0, 0) (c :: b :: a :: t))) ∧ tF M M' := by
  have e : fl (tx1 (9, 0, 0, 0) (c :: b :: a :: t)) = (64 :: (ps_ob 7 ++ (a.1.flatten ++ 44 :: (b.1.flatten ++ 44 :: c.1.flatten))) ++ [41], 5) :: fl t := by
    have e1 : tx1 (9, 0, 0, 0) (c :: b :: a :: t) = ([64] :: ps_ob 7 :: (a.1 ++ [[44]] ++ b.1 ++ [[44]] ++ c.1 ++ [[41]]), 5) :: t := rfl
    rw [e1]
    show ((([64] : List Nat) :: ps_ob 7 :: (a.1 ++ [[44]] ++ b.1 ++ [[44]] ++ c.1 ++ [[41]])).flatten, 5) :: fl t = _
    rw [List.flatten_cons, List.flatten_cons, List.flatten_append, List.flatten_append, List.flatten_append, List.flatten_append, List.flatten_append]
    simp
  rw [e] at hl ⊢
  have hl' : (bfS (fl t) ++ (64 :: (ps_ob 7 ++ (a.1.flatten ++ 44 :: (b.1.flatten ++ 44 :: c.1.flatten))) ++ [41])).length ≤ 400 := hl
  rw [List.length_append] at hl'
  have hl2 := hl'
  simp only [List.length_append, List.length_cons, List.length_nil] at hl2
  have h' : tk M ((c.1.flatten, c.2) :: (b.1.flatten, b.2) :: (a.1.flatten, a.2) :: fl t) := h
  have hft : (fl t).length = t.length := fl_len t
  unfold q_MO_writeFunction
  rw [if_pos rfl, h'.li]
  simp only [List.length_cons]
  have k32 : M.2.1 32 ((fl t).length + 1 + 1) = nI (bfS (fl t) ++ a.1.flatten ++ b.1.flatten).length := h'.2.2.1
  rw [fs_okp_pos (show vp_in (nI ((fl t).length + 1 + 1)) 44 from nI_in (by omega) (by omega)), nI_clamp (by omega), k32]
  obtain ⟨M1, a1, a2, a3⟩ := mo_insS (M := M) (u := bfS (fl t) ++ a.1.flatten ++ b.1.flatten) (v := c.1.flatten) (c := 44) h'.1 (by simp only [List.length_append]; omega)
  rw [show q_MO_insertAt M (nI (bfS (fl t) ++ a.1.flatten ++ b.1.flatten).length) 44 = some M1 from a1, Option.bind_some]
  try dsimp only
  have k1 : tk M1 ((44 :: c.1.flatten, c.2) :: (b.1.flatten, b.2) :: (a.1.flatten, a.2) :: fl t) := h'.top a3 a2
  have i2 : M1.1 35 - 2 = nI ((fl t).length + 1) := by
    rw [k1.2.1]
    exact nI_s2 _
  have k33 : M1.2.1 32 ((fl t).length + 1) = nI (bfS (fl t) ++ a.1.flatten).length := k1.2.2.2.2.2.1
  rw [i2, fs_okp_pos (show vp_in (nI ((fl t).length + 1)) 44 from nI_in (by omega) (by omega)), nI_clamp (by omega), k33]
  have e5 : bfS (fl t) ++ a.1.flatten ++ b.1.flatten ++ 44 :: c.1.flatten = (bfS (fl t) ++ a.1.flatten) ++ (b.1.flatten ++ 44 :: c.1.flatten) := by simp
  obtain ⟨M2, b1, b2, b3⟩ := mo_insS (M := M1) (u := bfS (fl t) ++ a.1.flatten) (v := b.1.flatten ++ 44 :: c.1.flatten) (c := 44) (by rw [← e5]; exact k1.1) (by simp only [List.length_append, List.length_cons]; omega)
  rw [show q_MO_insertAt M1 (nI (bfS (fl t) ++ a.1.flatten).length) 44 = some M2 from b1, Option.bind_some]
  try dsimp only
  -- the stack after both
  have j2 : M2.1 35 - 2 = nI ((fl t).length + 1) := by rw [b3.1 35 (by decide)]; exact i2
  have q1 : tkS M2 ((a.1.flatten, a.2) :: fl t) := tkS.B (tkS.B h'.2.2.2.2.2.2.2.2 a3) b3
  have k4 : tk (mo_f M2 35 (M2.1 35 - 2)) ((a.1.flatten ++ 44 :: (b.1.flatten ++ 44 :: c.1.flatten), a.2) :: fl t) := by
    refine ⟨⟨?_, fun i c' hi => ?_⟩, ?_, tkS.F q1⟩
    · rw [mo_f_1, if_neg (by decide), b2.1]
      show nI ((bfS (fl t) ++ a.1.flatten) ++ 44 :: (b.1.flatten ++ 44 :: c.1.flatten)).length = nI (bfS (fl t) ++ (a.1.flatten ++ 44 :: (b.1.flatten ++ 44 :: c.1.flatten))).length
      rw [List.append_assoc]
    · refine b2.2 i c' ?_
      rw [List.append_assoc]
      exact hi
    · rw [mo_f_1, if_pos rfl, j2]
      rfl
  have f4 : tF M2 (mo_f M2 35 (M2.1 35 - 2)) := ⟨fun j h1 h2 => by rw [mo_f_1, if_neg h2], fun j q _ _ _ => rfl, rfl⟩
  have f5 := (a3.T.trans b3.T).trans f4
  obtain ⟨M3, c1, c2, c3⟩ := mo_J50 (t := fl t) (f5.nm hn) (show 7 < 8 by omega) k4 (by omega) hl'
  exact ⟨M3, c1, c2, f5.trans c3⟩
