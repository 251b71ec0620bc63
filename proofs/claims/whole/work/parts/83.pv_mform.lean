/-! Pure: the reference works a formula out, item after item. -/
theorem nI_s1 (n : Nat) : nI (n + 1) - 1 = nI n := by
  rw [show (1 : Int32) = nI 1 from rfl, nI_sub (by omega), Nat.add_sub_cancel]
theorem nI_s2 (n : Nat) : nI (n + 2) - 2 = nI n := by
  rw [show (2 : Int32) = nI 2 from rfl, nI_sub (by omega), Nat.add_sub_cancel]
theorem nI_40 (k i : Nat) : (40 * nI k) + nI i = nI (40 * k + i) := by
  rw [show (40 : Int32) = nI 40 from rfl, nI_mul, nI_add]
theorem nu_nb {b d : Nat} (hb : b ≤ 4) (hd : d < 10000000000000) : nuv (nI b) (lN d) = FP.ddiv (FP.l2d (lN d)) (pw10 b) ∧ nb (nuv (nI b) (lN d)) := by
  have e : nuv (nI b) (lN d) = FP.ddiv (FP.l2d (lN d)) (pw10 b) := by
    unfold nuv
    rw [nI_clamp (by omega)]
  refine ⟨e, ?_⟩
  rw [e, pw10_eq b hb]
  exact nb_num hd (Nat.pow_pos (by decide)) (Nat.lt_of_le_of_lt (Nat.pow_le_pow_right (by decide) hb) (by decide))
theorem it_rg : ∀ j, j < 5 → ¬ nI (j + 2) = 0 ∧ ¬ nI (j + 2) = 1 ∧ ¬ p_MO_isRange (nI (j + 2)) = 0 ∧ nI (j + 2) ≤ 6 ∧ 2 ≤ nI (j + 2) := by decide
theorem it_1 {w : Int32} (hw : w = 33 ∨ w = 10 ∨ w = 7 ∨ w = 8) : ¬ w = 0 ∧ ¬ w = 1 ∧ p_MO_isRange w = 0 ∧ ¬ w = 9 ∧ ¬ w ≤ 6 := by
  rcases hw with rfl | rfl | rfl | rfl <;> decide
theorem it_2 {w : Int32} (hw : tr_sg w) : ¬ w = 0 ∧ ¬ w = 1 ∧ p_MO_isRange w = 0 ∧ ¬ w = 9 ∧ ¬ w ≤ 6 ∧ ¬ w = 33 ∧ ¬ w = 10 ∧ ¬ w = 7 ∧ ¬ w = 8 := by
  rcases hw with rfl | rfl | rfl | rfl | rfl | rfl | rfl | rfl | rfl | rfl <;> decide
theorem ev1_nu (cv : Nat → Nat → Option Vl) (b : Int32) (d : Int64) (st : List Vl) : ev1 cv (0, b, 0, d) st = some (nuv b d) :: st := rfl
theorem ev1_rf (cv : Nat → Nat → Option Vl) (a : Int32) (st : List Vl) : ev1 cv (1, a, 0, 0) st = rfv cv a :: st := rfl
theorem ev1_rg (cv : Nat → Nat → Option Vl) {j : Nat} (hj : j < 5) (a b : Int32) (st : List Vl) : ev1 cv (nI (j + 2), a, b, 0) st = rgv cv (nI (j + 2)) a b :: st := by
  obtain ⟨h1, h2, h3, h4, h5⟩ := it_rg j hj
  unfold ev1
  try dsimp only
  rw [if_neg h1, if_neg h2, if_pos h4]
theorem ev1_one (cv : Nat → Nat → Option Vl) {w : Int32} (hw : w = 33 ∨ w = 10 ∨ w = 7 ∨ w = 8) (a : Vl) (t : List Vl) : ev1 cv (w, 0, 0, 0) (a :: t) = a.map (pv1 w) :: t := by
  obtain ⟨h1, h2, h3, h4, h5⟩ := it_1 hw
  unfold ev1
  try dsimp only
  rw [if_neg h1, if_neg h2, if_neg h5, if_neg h4, if_pos hw]
theorem ev1_if (cv : Nat → Nat → Option Vl) (a b c : Vl) (t : List Vl) : ev1 cv (9, 0, 0, 0) (c :: b :: a :: t) = ifv a b c :: t := rfl
theorem ev1_two (cv : Nat → Nat → Option Vl) {w : Int32} (hw : tr_sg w) (a b : Vl) (t : List Vl) : ev1 cv (w, 0, 0, 0) (b :: a :: t) = pv2o w a b :: t := by
  obtain ⟨h1, h2, h3, h4, h5, h6, h7, h8, h9⟩ := it_2 hw
  unfold ev1
  try dsimp only
  rw [if_neg h1, if_neg h2, if_neg h5, if_neg h4, if_neg (by rintro (z | z | z | z) <;> contradiction)]
theorem ar_one {w : Int32} (hw : w = 33 ∨ w = 10 ∨ w = 7 ∨ w = 8) (n : Nat) : ar (w, 0, 0, 0) n = if 1 ≤ n then some n else none := by
  obtain ⟨h1, h2, h3, h4, h5⟩ := it_1 hw
  unfold ar
  try dsimp only
  rw [if_neg h5, if_neg h4, if_pos hw]
theorem ar_two {w : Int32} (hw : tr_sg w) (n : Nat) : ar (w, 0, 0, 0) n = if 2 ≤ n then some (n - 1) else none := by
  obtain ⟨h1, h2, h3, h4, h5, h6, h7, h8, h9⟩ := it_2 hw
  unfold ar
  try dsimp only
  rw [if_neg h5, if_neg h4, if_neg (by rintro (z | z | z | z) <;> contradiction)]
theorem ar_rg {j : Nat} (hj : j < 5) (a b : Int32) (n : Nat) : ar (nI (j + 2), a, b, 0) n = some (n + 1) := by
  obtain ⟨h1, h2, h3, h4, h5⟩ := it_rg j hj
  unfold ar
  try dsimp only
  rw [if_pos h4]
/-- the cases of an item on a stack -/
theorem ar_cases {x : It} (hx : itok x) {st : List Vl} {m : Nat} (hm : ar x st.length = some m) : (∃ b d : Nat, b ≤ 4 ∧ d < 10000000000000 ∧ x = (0, nI b, 0, lN d) ∧ m = st.length + 1) ∨ (∃ a, xok a ∧ x = (1, a, 0, 0) ∧ m = st.length + 1) ∨ (∃ j a b, j < 5 ∧ xok a ∧ xok b ∧ x = (nI (j + 2), a, b, 0) ∧ m = st.length + 1) ∨ (∃ (w : Int32) (a : Vl) (t : List Vl), (w = 33 ∨ w = 10 ∨ w = 7 ∨ w = 8) ∧ x = (w, 0, 0, 0) ∧ st = a :: t ∧ m = t.length + 1) ∨ (∃ (a b c : Vl) (t : List Vl), x = (9, 0, 0, 0) ∧ st = c :: b :: a :: t ∧ m = t.length + 1) ∨ ∃ (w : Int32) (a b : Vl) (t : List Vl), tr_sg w ∧ x = (w, 0, 0, 0) ∧ st = b :: a :: t ∧ m = t.length + 1 := by
  rcases hx with ⟨b, d, h1, h2, rfl⟩ | ⟨a, h1, rfl⟩ | ⟨j, a, b, h0, h1, h2, rfl⟩ | ⟨w, hw, rfl⟩ | rfl | ⟨w, hw, rfl⟩
  · exact Or.inl ⟨b, d, h1, h2, rfl, (Option.some.inj hm).symm⟩
  · exact Or.inr (Or.inl ⟨a, h1, rfl, (Option.some.inj hm).symm⟩)
  · rw [ar_rg h0] at hm
    exact Or.inr (Or.inr (Or.inl ⟨j, a, b, h0, h1, h2, rfl, (Option.some.inj hm).symm⟩))
  · rw [ar_one hw] at hm
    cases st with
    | nil => rw [if_neg (by decide)] at hm; cases hm
    | cons a t =>
      rw [if_pos (by rw [List.length_cons]; omega)] at hm
      exact Or.inr (Or.inr (Or.inr (Or.inl ⟨w, a, t, hw, rfl, rfl, (Option.some.inj hm).symm⟩)))
  · have hm' : (if 3 ≤ st.length then some (st.length - 2) else none) = some m := hm
    match st, hm' with
    | [], hm' => rw [if_neg (by decide)] at hm'; cases hm'
    | [_], hm' => rw [if_neg (by simp only [List.length_cons, List.length_nil]; omega)] at hm'; cases hm'
    | [_, _], hm' => rw [if_neg (by simp only [List.length_cons, List.length_nil]; omega)] at hm'; cases hm'
    | c :: b :: a :: t, hm' =>
      rw [if_pos (by simp only [List.length_cons]; omega)] at hm'
      exact Or.inr (Or.inr (Or.inr (Or.inr (Or.inl ⟨a, b, c, t, rfl, rfl, (Option.some.inj hm').symm⟩))))
  · rw [ar_two hw] at hm
    match st, hm with
    | [], hm' => rw [if_neg (by decide)] at hm'; cases hm'
    | [_], hm' => rw [if_neg (by simp only [List.length_cons, List.length_nil]; omega)] at hm'; cases hm'
    | b :: a :: t, hm' =>
      rw [if_pos (by simp only [List.length_cons]; omega)] at hm'
      exact Or.inr (Or.inr (Or.inr (Or.inr (Or.inr ⟨w, a, b, t, hw, rfl, rfl, (Option.some.inj hm').symm⟩))))
theorem ev1_len {cv : Nat → Nat → Option Vl} {x : It} (hx : itok x) {st : List Vl} {m : Nat} (hm : ar x st.length = some m) : (ev1 cv x st).length = m ∧ m ≤ st.length + 1 := by
  rcases ar_cases hx hm with ⟨b, d, h1, h2, rfl, rfl⟩ | ⟨a, h1, rfl, rfl⟩ | ⟨j, a, b, h0, h1, h2, rfl, rfl⟩ | ⟨w, a, t, hw, rfl, rfl, rfl⟩ | ⟨a, b, c, t, rfl, rfl, rfl⟩ | ⟨w, a, b, t, hw, rfl, rfl, rfl⟩
  · exact ⟨rfl, Nat.le_refl _⟩
  · exact ⟨rfl, Nat.le_refl _⟩
  · rw [ev1_rg cv h0]
    exact ⟨rfl, Nat.le_refl _⟩
  · rw [ev1_one cv hw]
    exact ⟨rfl, by rw [List.length_cons]; omega⟩
  · exact ⟨rfl, by simp only [List.length_cons]; omega⟩
  · rw [ev1_two cv hw]
    exact ⟨rfl, by simp only [List.length_cons]; omega⟩
theorem evs_len {cv : Nat → Nat → Option Vl} : ∀ (L : List It) (st : List Vl) (m : Nat), (∀ x ∈ L, itok x) → hgt L st.length = some m → (evs cv L st).length = m := by
  intro L
  induction L with
  | nil => intro st m _ h; exact Option.some.inj h
  | cons x L ih =>
    intro st m hx h
    have h' : (ar x st.length).bind (hgt L) = some m := h
    cases ha : ar x st.length with
    | none => rw [ha] at h'; cases h'
    | some m1 =>
      rw [ha] at h'
      have e := (ev1_len (cv := cv) (hx x List.mem_cons_self) ha).1
      show (evs cv L (ev1 cv x st)).length = m
      refine ih (ev1 cv x st) m (fun y hy => hx y (List.mem_cons_of_mem _ hy)) ?_
      rw [e]
      exact h'
theorem wf_174 {M : mo_S} {t : List Vl} {a v : Vl} {w : Nat} (self : Int32 → Int32 → Int32 → mo_S → Option mo_S) (z1 z3 : Int32) (hs : sk M (a :: t)) (hl : t.length < 44) (hw : w < 44) (hv : (∃ d, v = some d ∧ M.2.2.2 20 w = d ∧ M.2.1 21 w = 0 ∧ nb d) ∨ (v = none ∧ M.2.2.2 20 w = FP.dconst0 ∧ M.2.1 21 w = 1)) : ∃ M', q_MO_workFormula_L7_J174 self z1 (nI (t.length + 1)) z3 (nI w) M = self z1 (nI (t.length + 1)) (z3 + 1) M' ∧ sk M' ((a.bind fun _ => v) :: t) ∧ wf M M' := by
  obtain ⟨p1, p2⟩ := place44 hl
  obtain ⟨p3, p4⟩ := place44 hw
  unfold q_MO_workFormula_L7_J174
  rw [nI_s1, fs_okp_pos p3, fs_okp_pos p1, nI_clamp (by omega), nI_clamp (by omega)]
  have key : ∀ d, ∃ M', q_MO_workFormula_L7_J208 self z1 (nI (t.length + 1)) z3 d (nI t.length) M = self z1 (nI (t.length + 1)) (z3 + 1) M' ∧ sk M' (none :: t) ∧ wf M M' := by
    intro d
    unfold q_MO_workFormula_L7_J208
    rw [fs_okp_pos p2]
    exact ⟨_, rfl, hold_sk hs.2 hl (Or.inr ⟨rfl, rfl⟩)⟩
  rcases sk_at hs with ⟨u, a1, a2, a3, a4⟩ | ⟨a1, a2, a3⟩
  · rw [if_pos a3, fs_okp_pos p3]
    rcases hv with ⟨d, b1, b2, b3, b4⟩ | ⟨b1, b2, b3⟩
    · rw [if_pos b3, fs_okp_pos p2, b2, a1, b1]
      exact ⟨_, rfl, hold_sk hs.2 hl (Or.inl ⟨rfl, rfl, b4⟩)⟩
    · rw [if_neg (by rw [b3]; decide), a1, b1]
      exact key _
  · rw [if_neg (by rw [a3]; decide), a1]
    exact key _
theorem wf_step {M : mo_S} {k s p n m : Nat} {x : It} {st : List Vl} (hk : k < 80) (hs1 : M.2.1 1 k = nI s) (hs2 : s ≤ 40) (hp0 : 40 * k ≤ p) (hp : p < 40 * k + s) (hx : itok x) (hi : ci M p x) (hb : cvb M) (hsk : sk M st) (hm : ar x st.length = some m) (hl : st.length < 44) : ∃ M', q_MO_workFormula_L7 (n + 1) (nI k) (nI st.length) (nI p) M = q_MO_workFormula_L7 n (nI k) (nI m) (nI (p + 1)) M' ∧ sk M' (ev1 (cvM M) x st) ∧ wf M M' := by
  have e0 : vp_in (nI k) 81 := nI_in (by omega) (by omega)
  have e1 : vp_in (nI p) 3240 := nI_in (by omega) (by omega)
  have e2 : ¬ ((40 * nI k) + (M.2.1 1 (Int32.toNatClampNeg (nI k)))) ≤ nI p := by
    rw [nI_clamp (by omega), hs1, nI_40]
    exact nI_ge hp (by omega)
  rw [q_MO_workFormula_L7, fs_okp_pos e0, if_neg e2, fs_okp_pos e1, nI_clamp (n := p) (by omega), hi.1]
  rcases ar_cases hx hm with ⟨b, d, h1, h2, rfl, rfl⟩ | ⟨a, h1, rfl, rfl⟩ | ⟨j, a, b, h0, h1, h2, rfl, rfl⟩ | ⟨w, a, t, hw, rfl, rfl, rfl⟩ | ⟨a, b, c, t, rfl, rfl, rfl⟩ | ⟨w, a, b, t, hw, rfl, rfl, rfl⟩
  · obtain ⟨c1, c2⟩ := hi.2.1 rfl
    obtain ⟨n1, n2⟩ := nu_nb h1 h2
    obtain ⟨p1, p2⟩ := place44 hl
    rw [if_pos (show (0 : Int32) = 0 from rfl), show q_MO_workFormula_L41 5 (nI k) (nI st.length) (nI p) FP.dconst1 0 M = some (pw10 b) from wf_L41 (by omega) h1 c1 b 0 5 (by omega) (by omega), Option.bind_some]
    try dsimp only
    rw [fs_okp_pos e1, c2, ← n1, fs_okp_pos (nn_n64 n2.nn), fs_okp_pos p2, nI_1, nI_1]
    exact ⟨_, rfl, hold_sk hsk hl (Or.inl ⟨rfl, rfl, n2⟩)⟩
  · obtain ⟨M', q1, q2, q3⟩ := wm_ref hb hsk hl (hi.2.2.1 rfl)
    rw [if_neg (show ¬ (1 : Int32) = 0 by decide), if_pos (show (1 : Int32) = 1 from rfl), fs_okp_pos e1, q1, Option.bind_some]
    try dsimp only
    rw [nI_1, nI_1]
    exact ⟨M', rfl, q2, q3⟩
  · obtain ⟨g1, g2, g3, g4, g5⟩ := it_rg j h0
    obtain ⟨r1, r2⟩ := hi.2.2.2 g5 g4
    obtain ⟨M', q1, q2, q3⟩ := wm_range h0 hb hsk hl r1 r2
    rw [if_neg g1, if_neg g2, if_neg g3, fs_okp_pos e1, fs_okp_pos e1, q1, Option.bind_some]
    try dsimp only
    rw [nI_1, nI_1, ev1_rg _ h0]
    exact ⟨M', rfl, q2, q3⟩
  · obtain ⟨g1, g2, g3, g4, g5⟩ := it_1 hw
    have h4 : ∀ (A B : Option mo_S), (if w = 33 then A else if w = 10 then A else if w = 7 then A else if w = 8 then A else B) = A := by
      intro A B
      rcases hw with rfl | rfl | rfl | rfl <;> rfl
    obtain ⟨M', q1, q2, q3⟩ := wm_single hsk (by rw [List.length_cons] at hl; omega) hw
    try dsimp only
    rw [if_neg g1, if_neg g2, if_pos g3, if_neg g4, h4]
    unfold q_MO_workFormula_L7_J247
    rw [List.length_cons, nI_s1, q1, Option.bind_some]
    try dsimp only
    rw [nI_1, ev1_one _ hw]
    exact ⟨M', rfl, q2, q3⟩
  · have hl' : t.length + 2 < 44 := by
      simp only [List.length_cons] at hl
      omega
    obtain ⟨p1, p2⟩ := place44 (n := t.length) (by omega)
    try dsimp only
    rw [if_neg (show ¬ (9 : Int32) = 0 by decide), if_neg (show ¬ (9 : Int32) = 1 by decide), if_pos (show p_MO_isRange 9 = 0 by decide), if_pos (show (9 : Int32) = 9 from rfl)]
    rw [show nI (c :: b :: a :: t).length = nI ((t.length + 1) + 2) from rfl, nI_s2, nI_s1, fs_okp_pos p1, nI_clamp (n := t.length) (by omega), nI_1, ev1_if]
    have hc := sk_at hsk
    have hbb := sk_at hsk.2
    have hc' : (∃ d, c = some d ∧ M.2.2.2 20 (t.length + 2) = d ∧ M.2.1 21 (t.length + 2) = 0 ∧ nb d) ∨ (c = none ∧ M.2.2.2 20 (t.length + 2) = FP.dconst0 ∧ M.2.1 21 (t.length + 2) = 1) := hc
    have hb' : (∃ d, b = some d ∧ M.2.2.2 20 (t.length + 1) = d ∧ M.2.1 21 (t.length + 1) = 0 ∧ nb d) ∨ (b = none ∧ M.2.2.2 20 (t.length + 1) = FP.dconst0 ∧ M.2.1 21 (t.length + 1) = 1) := hbb
    have k1 := wf_174 (q_MO_workFormula_L7 n) (nI k) (nI p) hsk.2.2 (by omega) (by omega) hc'
    have k2 := wf_174 (q_MO_workFormula_L7 n) (nI k) (nI p) hsk.2.2 (by omega) (by omega) hb'
    rw [nI_1 p] at k1 k2
    rcases sk_at hsk.2.2 with ⟨u, a1, a2, a3, a4⟩ | ⟨a1, a2, a3⟩
    · rw [a2, a1]
      rw [a1] at k1 k2
      by_cases h0 : Op.cmpValue (FP.dcmp u FP.dconst0) .l = 0
      · rw [if_pos h0, show ifv (some u) b c = c by unfold ifv; dsimp only; rw [if_pos h0]]
        exact k1
      · rw [if_neg h0, show ifv (some u) b c = b by unfold ifv; dsimp only; rw [if_neg h0]]
        exact k2
    · rw [a1] at k1 k2 ⊢
      split
      · exact k1
      · exact k2
  · obtain ⟨g1, g2, g3, g4, g5, g6, g7, g8, g9⟩ := it_2 hw
    obtain ⟨M', q1, q2, q3⟩ := wm_pair hsk (by simp only [List.length_cons] at hl; omega) hw
    try dsimp only
    rw [if_neg g1, if_neg g2, if_pos g3, if_neg g4, if_neg g6, if_neg g7, if_neg g8, if_neg g9]
    rw [show nI (b :: a :: t).length = nI ((t.length + 1) + 1) from rfl, nI_s1, nI_s1, q1, Option.bind_some]
    try dsimp only
    rw [nI_1, ev1_two _ hw]
    exact ⟨M', rfl, q2, q3⟩
theorem wf_L7 {k s : Nat} (hk : k < 80) (hs2 : s ≤ 40) : ∀ (L : List It) (i n : Nat) (M : mo_S) (st : List Vl) (m : Nat), M.2.1 1 k = nI s → i + L.length = s → L.length < n → (∀ x ∈ L, itok x) → (∀ j y, L[j]? = some y → ci M (40 * k + i + j) y) → cvb M → sk M st → st.length ≤ i → hgt L st.length = some m → ∃ M', q_MO_workFormula_L7 n (nI k) (nI st.length) (nI (40 * k + i)) M = some M' ∧ sk M' (evs (cvM M) L st) ∧ wf M M' := by
  intro L
  induction L with
  | nil =>
    intro i n M st m hs1 hi hn _ _ hb hsk hl hm
    obtain ⟨n, rfl⟩ : ∃ q, n = q + 1 := ⟨n - 1, by omega⟩
    have e2 : ((40 * nI k) + (M.2.1 1 (Int32.toNatClampNeg (nI k)))) ≤ nI (40 * k + i) := by
      rw [nI_clamp (by omega), hs1, nI_40]
      exact nI_le (by rw [List.length_nil] at hi; omega) (by omega)
    rw [q_MO_workFormula_L7, fs_okp_pos (show vp_in (nI k) 81 from nI_in (by omega) (by omega)), if_pos e2]
    exact ⟨M, rfl, hsk, wf.rf M⟩
  | cons x L ih =>
    intro i n M st m hs1 hi hn hx hc hb hsk hl hm
    obtain ⟨n, rfl⟩ : ∃ q, n = q + 1 := ⟨n - 1, by omega⟩
    rw [List.length_cons] at hi hn
    have h' : (ar x st.length).bind (hgt L) = some m := hm
    cases ha : ar x st.length with
    | none => rw [ha] at h'; cases h'
    | some m1 =>
      rw [ha] at h'
      obtain ⟨M1, q1, q2, q3⟩ := wf_step (n := n) hk hs1 hs2 (show 40 * k ≤ 40 * k + i by omega) (by omega) (hx x List.mem_cons_self) (hc 0 x rfl) hb hsk ha (by omega)
      obtain ⟨l1, l2⟩ := ev1_len (cv := cvM M) (hx x List.mem_cons_self) ha
      have r := ih (i + 1) n M1 (ev1 (cvM M) x st) m (by rw [q3.2.1 1 k (by decide)]; exact hs1) (by omega) (by omega) (fun y hy => hx y (List.mem_cons_of_mem _ hy)) (fun j y hj => by
        have := hc (j + 1) y hj
        rw [show 40 * k + i + (j + 1) = 40 * k + (i + 1) + j by omega] at this
        exact q3.it this) (q3.cvb hb) q2 (by omega) (by rw [l1]; exact h')
      obtain ⟨M2, r1, r2, r3⟩ := r
      rw [l1, show 40 * k + (i + 1) = 40 * k + i + 1 by omega] at r1
      rw [q3.cv] at r2
      exact ⟨M2, q1.trans r1, r2, q3.trans r3⟩
/-- a formula in the reference's arrays -/
def cif (M : mo_S) (k : Nat) (L : List It) : Prop := M.2.1 1 k = nI L.length ∧ L.length ≤ 40 ∧ ∀ j y, L[j]? = some y → ci M (40 * k + j) y
theorem mo_workFormula {M : mo_S} {k : Nat} {L : List It} (hk : k < 80) (hL : fok L) (hc : cif M k L) (hb : cvb M) : ∃ M' v, q_MO_workFormula M (nI k) = some M' ∧ evs (cvM M) L [] = [v] ∧ M'.1 = M.1 ∧ (∀ j q, j ≠ 21 → ¬ (j = 18 ∧ q = k) → M'.2.1 j q = M.2.1 j q) ∧ M'.2.2.1 = M.2.2.1 ∧ (∀ j q, j ≠ 20 → ¬ (j = 17 ∧ q = k) → M'.2.2.2 j q = M.2.2.2 j q) ∧ ((∃ d, v = some d ∧ M'.2.2.2 17 k = d ∧ M'.2.1 18 k = 0 ∧ nb d) ∨ (v = none ∧ M'.2.2.2 17 k = FP.dconst0 ∧ M'.2.1 18 k = 1)) := by
  obtain ⟨M1, q1, q2, q3⟩ := wf_L7 hk hc.2.1 L 0 41 M [] 1 hc.1 (by omega) (by have := hc.2.1; omega) hL.1 (fun j y hj => by rw [Nat.add_zero (40 * k)]; exact hc.2.2 j y hj) hb trivial (Nat.le_refl _) (hL.2 0)
  have hl := evs_len (cv := cvM M) L [] 1 hL.1 (hL.2 0)
  obtain ⟨v, hv⟩ : ∃ v, evs (cvM M) L [] = [v] := by
    match h : evs (cvM M) L [], hl with
    | [v], _ => exact ⟨v, rfl⟩
  rw [hv] at q2
  have e0 : vp_in (0 : Int32) 44 := show vp_in (nI 0) 44 from nI_in (by omega) (by omega)
  have e1 : vp_in (nI k) 80 := nI_in hk (by omega)
  unfold q_MO_workFormula
  rw [show (40 * nI k : Int32) = nI (40 * k + 0) by rw [← nI_40]; exact (Int32.add_zero _).symm, show q_MO_workFormula_L7 41 (nI k) 0 (nI (40 * k + 0)) M = some M1 from q1, Option.bind_some]
  try dsimp only
  rw [fs_okp_pos e0, fs_okp_pos e1, fs_okp_pos e0, fs_okp_pos e1, nI_clamp (by omega), show Int32.toNatClampNeg 0 = 0 from rfl]
  refine ⟨_, v, rfl, hv, q3.1, fun j q h1 h2 => ?_, q3.2.2.1, fun j q h1 h2 => ?_, ?_⟩
  · rw [mo_i_at, if_neg (by omega)]
    exact q3.2.1 j q h1
  · show (mo_d M1 17 k _).2.2.2 j q = _
    rw [mo_d_at, if_neg (by omega)]
    exact q3.2.2.2 j q h1
  · have f1 : ∀ y z, (mo_i (mo_d M1 17 k y) 18 k z).2.2.2 17 k = y := by
      intro y z
      show (mo_d M1 17 k y).2.2.2 17 k = _
      rw [mo_d_at, if_pos ⟨rfl, rfl⟩]
    have f2 : ∀ y z, (mo_i (mo_d M1 17 k y) 18 k z).2.1 18 k = z := by
      intro y z
      rw [mo_i_at, if_pos ⟨rfl, rfl⟩]
    rw [f1, f2]
    rcases sk_at q2 with ⟨u, a1, a2, a3, a4⟩ | ⟨a1, a2, a3⟩
    · refine Or.inl ⟨u, a1, a2, ?_, a4⟩
      rw [show M1.2.1 21 0 = 0 from a3]
      exact nar_0
    · refine Or.inr ⟨a1, a2, ?_⟩
      rw [show M1.2.1 21 0 = 1 from a3]
      exact nar_1
