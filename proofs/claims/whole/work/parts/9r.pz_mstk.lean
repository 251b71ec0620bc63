/-! Pure: the reference's pieces of text on their stack. -/
theorem mo_insS {M : mo_S} {u v : List Nat} {c : Nat} (hb : bufR M (u ++ v)) (hl : (u ++ v).length < 400) : ∃ M', q_MO_insertAt M (nI u.length) (nI c) = some M' ∧ bufR M' (u ++ c :: v) ∧ bF M M' := by
  obtain ⟨M', e1, e2, e3⟩ := mo_ins (p := u.length) (c := c) hb (by rw [List.length_append]; omega) hl
  rw [List.take_left, List.drop_left] at e2
  exact ⟨M', e1, e2, e3⟩
theorem bF.nm {M M' : mo_S} (a : bF M M') (h : pm_names M) : pm_names M' := fun j hj k hk => by rw [a.2.1 7 _ (by decide)]; exact h j hj k hk
theorem nm_let2 {M : mo_S} (h : pm_names M) {j k : Nat} (hj : j < 8) (hk : k < 3) : (p_MO_nameLetter M (nI (j + 2)) (nI k)).1 = nI (pm_let j k) := by
  unfold p_MO_nameLetter
  show M.2.1 7 (Int32.toNatClampNeg ((3 * (nI (j + 2) - 2)) + nI k)) = _
  rw [nI_s2, show (3 : Int32) = nI 3 from rfl, nI_mul, nI_add, nI_clamp (by omega)]
  exact h j hj k hk
theorem ob_letters : ∀ j, j < 8 → pm_let j 0 ≠ 0 ∧ pm_let j 1 ≠ 0 ∧ pm_let j 0 < 128 ∧ pm_let j 1 < 128 ∧ pm_let j 2 < 128 ∧ ps_ob j = pm_let j 0 :: pm_let j 1 :: (if pm_let j 2 = 0 then [40] else [pm_let j 2, 40]) := by decide
theorem nm_step {M : mo_S} {p : Int32} {j k f : Nat} (hn : pm_names M) (hj : j < 8) (hk : k < 3) : q_MO_name_L9 (f + 1) p (nI (j + 2)) (nI k) M = if pm_let j k = 0 then q_MO_name_L9 f p (nI (j + 2)) (nI k - 1) M else Option.bind (q_MO_insertAt M p (nI (pm_let j k))) (fun R => q_MO_name_L9 f p (nI (j + 2)) (nI k - 1) R) := by
  have hok : (2 ≤ (nI (j + 2)).toInt) ∧ ((nI (j + 2)).toInt ≤ 9) ∧ (0 ≤ (nI k).toInt) ∧ ((nI k).toInt < 3) := by
    rw [nI_toInt (by omega), nI_toInt (by omega)]
    omega
  have hlt : pm_let j k < 128 := by
    have := ob_letters j hj
    have hk' : k = 0 ∨ k = 1 ∨ k = 2 := by omega
    rcases hk' with rfl | rfl | rfl
    · exact this.2.2.1
    · exact this.2.2.2.1
    · exact this.2.2.2.2.1
  rw [q_MO_name_L9, if_neg (nI_pos (by omega)), fs_okp_pos hok, nm_let2 hn hj hk]
  by_cases h0 : pm_let j k = 0
  · rw [if_pos (by rw [h0]; rfl), if_pos h0]
  · rw [if_neg (nI_ne0 (by omega) (by omega)), if_neg h0, fs_okp_pos hok]
theorem nm_fin9 {M : mo_S} {p z : Int32} {f : Nat} : q_MO_name_L9 (f + 1) p z (nI 0 - 1) M = some M := by
  rw [q_MO_name_L9, if_pos (by decide)]
/-- a name goes in behind u -/
theorem mo_nameS {M : mo_S} {u v : List Nat} {j : Nat} (hn : pm_names M) (hj : j < 8) (hb : bufR M (u ++ v)) (hl : (u ++ v).length + 1 + (ps_ob j).length ≤ 400) : ∃ M', q_MO_name M (nI u.length) (nI (j + 2)) = some M' ∧ bufR M' (u ++ (64 :: (ps_ob j ++ v))) ∧ bF M M' := by
  obtain ⟨l0, l1, t0, t1, t2, e⟩ := ob_letters j hj
  rw [List.length_append] at hl
  have hlen : (ps_ob j).length = 3 + (if pm_let j 2 = 0 then 0 else 1) := by
    rw [e]
    split <;> rfl
  have len : ∀ w : List Nat, (u ++ w).length = u.length + w.length := fun w => List.length_append
  obtain ⟨M1, a1, a2, a3⟩ := mo_insS (c := 40) hb (by rw [len]; omega)
  unfold q_MO_name
  rw [show q_MO_insertAt M (nI u.length) 40 = some M1 from a1, Option.bind_some]
  try dsimp only
  have hn1 := a3.nm hn
  have two : ∀ (M2 : mo_S) (w : List Nat), pm_names M2 → bufR M2 (u ++ w) → u.length + w.length + 3 ≤ 400 → ∃ M', Option.bind (q_MO_name_L9 3 (nI u.length) (nI (j + 2)) (nI 1) M2) (fun R => Option.bind (q_MO_insertAt R (nI u.length) 64) (fun R2 => some R2)) = some M' ∧ bufR M' (u ++ (64 :: pm_let j 0 :: pm_let j 1 :: w)) ∧ bF M2 M' := by
    intro M2 w n2 b2 hl2
    rw [nm_step n2 hj (by omega), if_neg l1]
    obtain ⟨M3, c1, c2, c3⟩ := mo_insS (c := pm_let j 1) b2 (by rw [len]; omega)
    rw [c1, Option.bind_some]
    try dsimp only
    have n3 := c3.nm n2
    rw [show nI 1 - 1 = nI 0 by decide, nm_step n3 hj (by omega), if_neg l0]
    obtain ⟨M4, d1, d2, d3⟩ := mo_insS (c := pm_let j 0) c2 (by rw [len, List.length_cons]; omega)
    rw [d1, Option.bind_some]
    try dsimp only
    rw [nm_fin9, Option.bind_some]
    try dsimp only
    obtain ⟨M5, f1, f2, f3⟩ := mo_insS (c := 64) d2 (by rw [len, List.length_cons, List.length_cons]; omega)
    rw [show q_MO_insertAt M4 (nI u.length) 64 = some M5 from f1, Option.bind_some]
    exact ⟨M5, rfl, f2, (c3.trans d3).trans f3⟩
  rw [show q_MO_name_L9 4 (nI u.length) (nI (j + 2)) 2 M1 = q_MO_name_L9 (3 + 1) (nI u.length) (nI (j + 2)) (nI 2) M1 from rfl, nm_step hn1 hj (by omega), show nI 2 - 1 = nI 1 by decide]
  by_cases h2 : pm_let j 2 = 0
  · rw [if_pos h2] at hlen e ⊢
    obtain ⟨M', r1, r2, r3⟩ := two M1 _ hn1 a2 (by rw [List.length_cons]; omega)
    refine ⟨M', r1, ?_, a3.trans r3⟩
    rw [e]
    exact r2
  · rw [if_neg h2] at hlen e ⊢
    obtain ⟨M2, c1, c2, c3⟩ := mo_insS (c := pm_let j 2) a2 (by rw [len, List.length_cons]; omega)
    rw [c1, Option.bind_some]
    try dsimp only
    obtain ⟨M', r1, r2, r3⟩ := two M2 _ (c3.nm hn1) c2 (by rw [List.length_cons, List.length_cons]; omega)
    refine ⟨M', r1, ?_, (a3.trans c3).trans r3⟩
    rw [e]
    exact r2
/-- the stack of pieces -/
abbrev Tx : Type := List Nat × Nat
def bfS : List Tx → List Nat
  | [] => []
  | x :: t => bfS t ++ x.1
def tkS (M : mo_S) : List Tx → Prop
  | [] => True
  | x :: t => M.2.1 32 t.length = nI (bfS t).length ∧ M.2.1 33 t.length = nI x.2 ∧ x.2 ≤ 5 ∧ tkS M t
def tk (M : mo_S) (st : List Tx) : Prop := bufR M (bfS st) ∧ M.1 35 = nI st.length ∧ tkS M st
/-- only the text and its stack change -/
def tF (M M' : mo_S) : Prop := (∀ j, j ≠ 34 → j ≠ 35 → M'.1 j = M.1 j) ∧ (∀ j q, j ≠ 31 → j ≠ 32 → j ≠ 33 → M'.2.1 j q = M.2.1 j q) ∧ M'.2.2 = M.2.2
theorem tF.rf (M : mo_S) : tF M M := ⟨fun _ _ _ => rfl, fun _ _ _ _ _ => rfl, rfl⟩
theorem tF.trans {M M1 M2 : mo_S} (a : tF M M1) (b : tF M1 M2) : tF M M2 := ⟨fun j h1 h2 => (b.1 j h1 h2).trans (a.1 j h1 h2), fun j q h1 h2 h3 => (b.2.1 j q h1 h2 h3).trans (a.2.1 j q h1 h2 h3), b.2.2.trans a.2.2⟩
theorem bF.T {M M' : mo_S} (a : bF M M') : tF M M' := ⟨fun j h _ => a.1 j h, fun j q h _ _ => a.2.1 j q h, a.2.2⟩
theorem tF.nm {M M' : mo_S} (a : tF M M') (h : pm_names M) : pm_names M' := fun j hj k hk => by rw [a.2.1 7 _ (by decide) (by decide) (by decide)]; exact h j hj k hk
theorem tF.it {M M' : mo_S} (a : tF M M') {k : Nat} {x : It} (h : ci M k x) : ci M' k x := by
  unfold ci at h ⊢
  rw [a.2.1 3 k (by decide) (by decide) (by decide), a.2.1 4 k (by decide) (by decide) (by decide), a.2.1 5 k (by decide) (by decide) (by decide), a.2.2]
  exact h
theorem tkS.kept {M M' : mo_S} : ∀ {st : List Tx}, tkS M st → (∀ k, k < st.length → M'.2.1 32 k = M.2.1 32 k ∧ M'.2.1 33 k = M.2.1 33 k) → tkS M' st := by
  intro st
  induction st with
  | nil => intro _ _; trivial
  | cons x t ih =>
    intro h e
    obtain ⟨e1, e2⟩ := e t.length (Nat.lt_succ_self _)
    exact ⟨e1.trans h.1, e2.trans h.2.1, h.2.2.1, ih h.2.2.2 fun k hk => e k (Nat.lt_succ_of_lt hk)⟩
theorem tkS.B {M M' : mo_S} {st : List Tx} (h : tkS M st) (a : bF M M') : tkS M' st := h.kept fun k _ => ⟨a.2.1 32 k (by decide), a.2.1 33 k (by decide)⟩
/-- the last piece's text changes -/
theorem tk.top {M M' : mo_S} {u u' : List Nat} {l : Nat} {t : List Tx} (h : tk M ((u, l) :: t)) (a : bF M M') (b : bufR M' (bfS t ++ u')) : tk M' ((u', l) :: t) := ⟨b, (a.1 35 (by decide)).trans h.2.1, h.2.2.B a⟩
theorem mo_begin {M : mo_S} {st : List Tx} (h : tk M st) (hl : st.length < 44) : ∃ M', q_MO_beginPiece M 5 = some M' ∧ tk M' (([], 5) :: st) ∧ tF M M' := by
  have hin : vp_in (nI st.length) 44 := nI_in hl (by omega)
  unfold q_MO_beginPiece
  rw [h.2.1, fs_okp_pos hin, fs_okp_pos hin, h.1.1, nI_clamp (by omega), nI_1]
  have i1 : ∀ j q, (mo_i (mo_i M 32 st.length (nI (bfS st).length)) 33 st.length 5).2.1 j q = if j = 33 ∧ q = st.length then 5 else if j = 32 ∧ q = st.length then nI (bfS st).length else M.2.1 j q := by
    intro j q
    rw [mo_i_at, mo_i_at]
  refine ⟨_, rfl, ⟨⟨?_, fun i c hi => ?_⟩, ?_, ?_, ?_, by decide, ?_⟩, ⟨fun j h1 h2 => ?_, fun j q h1 h2 h3 => ?_, rfl⟩⟩
  · rw [mo_f_1, if_neg (by decide)]
    show M.1 34 = nI (bfS st ++ []).length
    rw [List.append_nil]
    exact h.1.1
  · show (mo_i (mo_i M 32 st.length (nI (bfS st).length)) 33 st.length 5).2.1 31 i = nI c
    rw [i1, if_neg (by omega), if_neg (by omega)]
    have hi' : (bfS st ++ [])[i]? = some c := hi
    rw [List.append_nil] at hi'
    exact h.1.2 i c hi'
  · rw [mo_f_1, if_pos rfl]
    rfl
  · show (mo_i (mo_i M 32 st.length (nI (bfS st).length)) 33 st.length 5).2.1 32 st.length = _
    rw [i1, if_neg (by omega), if_pos ⟨rfl, rfl⟩]
  · show (mo_i (mo_i M 32 st.length (nI (bfS st).length)) 33 st.length 5).2.1 33 st.length = _
    rw [i1, if_pos ⟨rfl, rfl⟩]
    rfl
  · refine h.2.2.kept fun k hk => ⟨?_, ?_⟩
    · show (mo_i (mo_i M 32 st.length (nI (bfS st).length)) 33 st.length 5).2.1 32 k = _
      rw [i1, if_neg (by omega), if_neg (by omega)]
    · show (mo_i (mo_i M 32 st.length (nI (bfS st).length)) 33 st.length 5).2.1 33 k = _
      rw [i1, if_neg (by omega), if_neg (by omega)]
  · rw [mo_f_1, if_neg h2]
    rfl
  · show (mo_i (mo_i M 32 st.length (nI (bfS st).length)) 33 st.length 5).2.1 j q = _
    rw [i1, if_neg (by omega), if_neg (by omega)]
def brT (need : Nat) (x : Tx) : List Nat := if x.2 < need then 40 :: (x.1 ++ [41]) else x.1
theorem mo_brk {M : mo_S} {u : List Nat} {l need : Nat} {t : List Tx} (h : tk M ((u, l) :: t)) (hn : need ≤ 5) (ht : t.length < 44) (hl : (bfS t).length + (brT need (u, l)).length ≤ 400) : ∃ M', q_MO_bracketLast M (nI need) = some M' ∧ tk M' ((brT need (u, l), l) :: t) ∧ tF M M' := by
  have hin : vp_in (nI t.length) 44 := nI_in ht (by omega)
  have hl5 : l ≤ 5 := h.2.2.2.2.1
  unfold q_MO_bracketLast
  rw [h.2.1, List.length_cons, nI_s1, fs_okp_pos hin, nI_clamp (by omega), h.2.2.2.1]
  by_cases hlt : l < need
  · have e : brT need (u, l) = 40 :: (u ++ [41]) := by unfold brT; rw [if_pos hlt]
    rw [e] at hl ⊢
    rw [List.length_cons, List.length_append, List.length_singleton] at hl
    rw [if_pos (nI_lt hlt (by omega)), fs_okp_pos hin, h.2.2.1]
    obtain ⟨M1, a1, a2, a3⟩ := mo_insS (u := bfS t) (v := u) (c := 40) h.1 (by rw [List.length_append]; omega)
    rw [show q_MO_insertAt M (nI (bfS t).length) 40 = some M1 from a1, Option.bind_some]
    try dsimp only
    obtain ⟨M2, b1, b2, b3⟩ := mo_app (c := 41) a2 (by rw [List.length_append, List.length_cons]; omega)
    rw [show q_MO_append M1 41 = some M2 from b1, Option.bind_some]
    refine ⟨M2, rfl, h.top (a3.trans b3) ?_, (a3.trans b3).T⟩
    rw [List.append_assoc] at b2
    exact b2
  · have e : brT need (u, l) = u := by unfold brT; rw [if_neg hlt]
    rw [e, if_neg (nI_nlt (by omega) (by omega))]
    exact ⟨M, rfl, h, tF.rf M⟩
/-- a new level for the last piece -/
theorem mo_lev {M : mo_S} {u : List Nat} {l l' : Nat} {t : List Tx} (h : tk M ((u, l) :: t)) (hl : l' ≤ 5) : tk (mo_i M 33 t.length (nI l')) ((u, l') :: t) ∧ tF M (mo_i M 33 t.length (nI l')) := by
  refine ⟨⟨⟨h.1.1, fun i c hi => ?_⟩, h.2.1, ?_, ?_, hl, ?_⟩, ⟨fun _ _ _ => rfl, fun j q h1 h2 h3 => by rw [mo_i_at, if_neg (by omega)], rfl⟩⟩
  · rw [mo_i_at, if_neg (by omega)]; exact h.1.2 i c hi
  · rw [mo_i_at, if_neg (by omega)]; exact h.2.2.1
  · rw [mo_i_at, if_pos ⟨rfl, rfl⟩]
  · refine h.2.2.2.2.2.kept fun k hk => ⟨?_, ?_⟩
    · rw [mo_i_at, if_neg (by omega)]
    · rw [mo_i_at, if_neg (by omega)]
