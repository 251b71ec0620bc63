/-! Pure: a part with its inner parts, all alike; the cells that a formula refers to. -/
abbrev Kd : Type := Nat × List It × List Nat
def kd (n : Nat) (E : fs_E) (h : fs_Hp) (g : Nat → Option Nat) : Nat → List Kd → Prop
  | _, [] => True
  | j, x :: T => g j = some x.1 ∧ rp n E h x.1 x.2.1 x.2.2 ∧ kd n E h g (j + 1) T
def kL : List Kd → List It
  | [] => []
  | x :: T => x.2.1 ++ kL T
def kF : List Kd → List Nat
  | [] => []
  | x :: T => x.2.2 ++ kF T
theorem kd.kept {n : Nat} {E : fs_E} {h h' : fs_Hp} {g : Nat → Option Nat} : ∀ {T : List Kd} {j : Nat}, kd n E h g j T → (∀ q ∈ kF T, h' q = h q) → kd n E h' g j T := by
  intro T
  induction T with
  | nil => intro j _ _; trivial
  | cons x T ih =>
    intro j a e
    exact ⟨a.1, a.2.1.kept n fun q hq => e q (List.mem_append_left _ hq), ih a.2.2 fun q hq => e q (List.mem_append_right _ hq)⟩
def tlok (x : It) : Prop := x.1 = 0 ∨ 7 ≤ x.1
/-- an inner node -/
def nod (n : Nat) (E : fs_E) (h : fs_Hp) (r : Nat) (L : List It) (F : List Nat) (c i : Nat) (fs : List Value) (g : Nat → Option Nat) (T : List Kd) (tl : It) : Prop := (c = 4 ∨ c = 6 ∨ c = 7 ∨ c = 8) ∧ h r = some (.inr (c, fs)) ∧ fs[fs_pi c]? = some (.ref i) ∧ tr_in E h i T.length g ∧ kd n E h g 0 T ∧ L = kL T ++ [tl] ∧ F = r :: i :: kF T ∧ tlok tl ∧ T.length ≤ 3 ∧ ∀ (h' : fs_Hp) (T' : List Kd), T'.length = T.length → h' r = h r → h' i = h i → kd n E h' g 0 T' → rp (n + 1) E h' r (kL T' ++ [tl]) (r :: i :: kF T')
theorem rp_node {n : Nat} {E : fs_E} {h : fs_Hp} {r : Nat} {L : List It} {F : List Nat} (a : rp (n + 1) E h r L F) : (∃ x : Int32, tr_rf E h r x F ∧ L = [(1, x, 0, 0)]) ∨ (∃ (j a b i : Nat) (g : Nat → Option Nat) (x y : Int32) (Fa Fb : List Nat), j < 5 ∧ h r = some (.inr (9, [.ref (E.2 j), .ref a, .ref b, .ref i])) ∧ tr_in E h i 2 g ∧ g 0 = some a ∧ g 1 = some b ∧ tr_rf E h a x Fa ∧ tr_rf E h b y Fb ∧ L = [(nI (j + 2), x, y, 0)] ∧ F = r :: i :: (Fa ++ Fb)) ∨ ∃ (c i : Nat) (fs : List Value) (g : Nat → Option Nat) (T : List Kd) (tl : It), nod n E h r L F c i fs g T tl := by
  rcases a with a | a | a | a | a | a | a
  · obtain ⟨b, d, i, g, h0, h0', h1, h2, h3, rfl⟩ := a
    refine Or.inr (Or.inr ⟨4, i, _, g, [], (0, nI b, 0, lN d), Or.inl rfl, h1, rfl, h2, trivial, h3, rfl, Or.inl rfl, by simp, fun h' T' hl e1 e2 _ => ?_⟩)
    have : T' = [] := List.length_eq_zero_iff.mp hl
    subst this
    exact Or.inl ⟨b, d, i, g, h0, h0', e1.trans h1, h2.kept e2, rfl, rfl⟩
  · exact Or.inl a
  · obtain ⟨s, w, i, q, g, L1, F1, h1, h2, h3, h4, h5, h6, rfl⟩ := a
    refine Or.inr (Or.inr ⟨6, i, _, g, [(q, L1, F1)], (w, 0, 0, 0), Or.inr (Or.inl rfl), h1, rfl, h2, ⟨h3, h4, trivial⟩, ?_, ?_, ?_, by simp, fun h' T' hl e1 e2 k => ?_⟩)
    · rw [h6, kL, kL, List.append_nil]
    · rw [kF, kF, List.append_nil]
    · rcases h5 with ⟨_, rfl⟩ | ⟨_, rfl⟩
      · exact Or.inr (show (7 : Int32) ≤ 10 by decide)
      · exact Or.inr (show (7 : Int32) ≤ 33 by decide)
    · match T', hl, k with
      | [x], _, k =>
        rw [kL, kL, List.append_nil, kF, kF, List.append_nil]
        exact Or.inr (Or.inr (Or.inl ⟨s, w, i, x.1, g, x.2.1, x.2.2, e1.trans h1, h2.kept e2, k.1, k.2.1, h5, rfl, rfl⟩))
  · obtain ⟨s, i, q1, q2, g, L1, L2, F1, F2, h1, h2, h3, h4, h5, h6, h7, h8, rfl⟩ := a
    refine Or.inr (Or.inr ⟨7, i, _, g, [(q1, L1, F1), (q2, L2, F2)], (s, 0, 0, 0), Or.inr (Or.inr (Or.inl rfl)), h1, rfl, h2, ⟨h3, h5, h4, h6, trivial⟩, ?_, ?_, ?_, by simp, fun h' T' hl e1 e2 k => ?_⟩)
    · rw [h8, kL, kL, kL, List.append_nil]
    · rw [kF, kF, kF, List.append_nil]
    · rcases h7 with rfl | rfl | rfl | rfl | rfl | rfl | rfl | rfl | rfl | rfl <;> exact Or.inr (by decide)
    · match T', hl, k with
      | [x, y], _, k =>
        rw [kL, kL, kL, List.append_nil, kF, kF, kF, List.append_nil]
        exact Or.inr (Or.inr (Or.inr (Or.inl ⟨s, i, x.1, y.1, g, x.2.1, y.2.1, x.2.2, y.2.2, e1.trans h1, h2.kept e2, k.1, k.2.2.1, k.2.1, k.2.2.2.1, h7, rfl, rfl⟩)))
  · obtain ⟨j, i, q1, g, L1, F1, h0, h1, h2, h3, h4, h5, rfl⟩ := a
    refine Or.inr (Or.inr ⟨8, i, _, g, [(q1, L1, F1)], (nI (j + 2), 0, 0, 0), Or.inr (Or.inr (Or.inr rfl)), h1, rfl, h2, ⟨h3, h4, trivial⟩, ?_, ?_, ?_, by simp, fun h' T' hl e1 e2 k => ?_⟩)
    · rw [h5, kL, kL, List.append_nil]
    · rw [kF, kF, List.append_nil]
    · rcases h0 with rfl | rfl <;> exact Or.inr (by decide)
    · match T', hl, k with
      | [x], _, k =>
        rw [kL, kL, List.append_nil, kF, kF, List.append_nil]
        exact Or.inr (Or.inr (Or.inr (Or.inr (Or.inl ⟨j, i, x.1, g, x.2.1, x.2.2, h0, e1.trans h1, h2.kept e2, k.1, k.2.1, rfl, rfl⟩))))
  · obtain ⟨i, q1, q2, q3, g, L1, L2, L3, F1, F2, F3, h1, h2, h3, h4, h5, h6, h7, h8, h9, rfl⟩ := a
    refine Or.inr (Or.inr ⟨8, i, _, g, [(q1, L1, F1), (q2, L2, F2), (q3, L3, F3)], (9, 0, 0, 0), Or.inr (Or.inr (Or.inr rfl)), h1, rfl, h2, ⟨h3, h6, h4, h7, h5, h8, trivial⟩, ?_, ?_, ?_, by simp, fun h' T' hl e1 e2 k => ?_⟩)
    · rw [h9, kL, kL, kL, kL, List.append_nil]
      simp only [List.append_assoc]
    · rw [kF, kF, kF, kF, List.append_nil]
      simp only [List.append_assoc]
    · exact Or.inr (show (7 : Int32) ≤ 9 by decide)
    · match T', hl, k with
      | [x, y, z], _, k =>
        rw [kL, kL, kL, kL, List.append_nil, kF, kF, kF, kF, List.append_nil]
        exact Or.inr (Or.inr (Or.inr (Or.inr (Or.inr (Or.inl ⟨i, x.1, y.1, z.1, g, x.2.1, y.2.1, z.2.1, x.2.2, y.2.2, z.2.2, e1.trans h1, h2.kept e2, k.1, k.2.2.1, k.2.2.2.2.1, k.2.1, k.2.2.2.1, k.2.2.2.2.2.1, by simp only [List.append_assoc], by simp only [List.append_assoc]⟩)))))
  · obtain ⟨j, a, b, i, g, x, y, Fa, Fb, h0, h1, h2, h3, h4, h5, h6, h7, h8⟩ := a
    exact Or.inr (Or.inl ⟨j, a, b, i, g, x, y, Fa, Fb, h0, h1, h2, h3, h4, h5, h6, h7, h8⟩)
/-- what lies in a formula's places -/
theorem rp_cls : ∀ (n : Nat) {E : fs_E} {h : fs_Hp} {r : Nat} {L : List It} {F : List Nat}, rp n E h r L F → ∀ q ∈ F, (∃ (c : Nat) (fs : List Value), 4 ≤ c ∧ c ≤ 9 ∧ h q = some (.inr (c, fs))) ∨ ∃ (m : Nat) (g : Nat → Option Nat), tr_in E h q m g := by
  intro n
  induction n with
  | zero => intro E h r L F a; exact a.elim
  | succ n ih =>
    intro E h r L F a
    have hrf : ∀ {r x F}, tr_rf E h r x F → ∀ q ∈ F, (∃ (c : Nat) (fs : List Value), 4 ≤ c ∧ c ≤ 9 ∧ h q = some (.inr (c, fs))) ∨ ∃ (m : Nat) (g : Nat → Option Nat), tr_in E h q m g := by
      intro r x F t q hq
      obtain ⟨cf, rf, c, w, lo, i, g, h1, h2, h3, rfl⟩ := t
      simp only [List.mem_cons, List.not_mem_nil, or_false] at hq
      rcases hq with rfl | rfl
      · exact Or.inl ⟨5, _, by decide, by decide, h1⟩
      · exact Or.inr ⟨0, g, h2⟩
    have hkd : ∀ (T : List Kd) (g : Nat → Option Nat) (j : Nat), kd n E h g j T → ∀ q ∈ kF T, (∃ (c : Nat) (fs : List Value), 4 ≤ c ∧ c ≤ 9 ∧ h q = some (.inr (c, fs))) ∨ ∃ (m : Nat) (g : Nat → Option Nat), tr_in E h q m g := by
      intro T g
      induction T with
      | nil => intro j _ q hq; cases hq
      | cons x T ihT =>
        intro j k q hq
        rcases List.mem_append.mp hq with hq | hq
        · exact ih k.2.1 q hq
        · exact ihT (j + 1) k.2.2 q hq
    rcases rp_node a with ⟨x, h1, h2⟩ | ⟨j, a, b, i, g, x, y, Fa, Fb, h0, h1, h2, h3, h4, h5, h6, h7, rfl⟩ | ⟨c, i, fs, g, T, tl, h1, h2, h3, h4, h5, h6, rfl, h8, h9⟩
    · exact hrf h1
    · intro q hq
      simp only [List.mem_cons, List.mem_append] at hq
      rcases hq with rfl | rfl | hq | hq
      · exact Or.inl ⟨9, _, by decide, by decide, h1⟩
      · exact Or.inr ⟨2, g, h2⟩
      · exact hrf h5 q hq
      · exact hrf h6 q hq
    · intro q hq
      simp only [List.mem_cons] at hq
      rcases hq with rfl | rfl | hq
      · exact Or.inl ⟨c, fs, by omega, by omega, h2⟩
      · exact Or.inr ⟨_, g, h4⟩
      · exact hkd T g 0 h5 q hq
theorem rp_not3 {n : Nat} {E : fs_E} {h : fs_Hp} {r s : Nat} {L : List It} {F : List Nat} {p : Nat → Bool} (a : rp n E h r L F) (b : cset h s p) : s ∉ F := by
  intro hs
  obtain ⟨lo, hi, h1, h2, h3⟩ := b
  rcases rp_cls n a s hs with ⟨c, fs, c1, c2, c3⟩ | ⟨m, g, c3⟩
  · rw [h1] at c3
    cases c3
    omega
  · unfold tr_in at c3
    rw [h1] at c3
    cases c3
/-- the item refers to the cell -/
def rcov (x : It) (c r : Nat) : Bool := if x.1 = 1 then decide (p_MO_lost x.2.1 = 0 ∧ rgcol x.2.1 = c ∧ rgrow x.2.1 = r) else decide (2 ≤ x.1 ∧ x.1 ≤ 6 ∧ p_MO_lost x.2.1 = 0 ∧ p_MO_lost x.2.2.1 = 0 ∧ min (rgcol x.2.1) (rgcol x.2.2.1) ≤ c ∧ c ≤ max (rgcol x.2.1) (rgcol x.2.2.1) ∧ min (rgrow x.2.1) (rgrow x.2.2.1) ≤ r ∧ r ≤ max (rgrow x.2.1) (rgrow x.2.2.1))
def rcs (L : List It) (c r : Nat) : Bool := L.any fun x => rcov x c r
/-- by the class's number of the cell -/
def rck (L : List It) (k : Nat) : Bool := rcs L (k % 8) (k / 8)
theorem rcs_app (L1 L2 : List It) (c r : Nat) : rcs (L1 ++ L2) c r = (rcs L1 c r || rcs L2 c r) := List.any_append
theorem rcs_nil (c r : Nat) : rcs [] c r = false := rfl
theorem rcs_one (x : It) (c r : Nat) : rcs [x] c r = rcov x c r := by
  unfold rcs
  rw [List.any_cons, List.any_nil, Bool.or_false]
theorem rcov_tl {x : It} (h : tlok x) (c r : Nat) : rcov x c r = false := by
  have h1 : ¬ x.1 = 1 := by
    rcases h with h | h
    · rw [h]; decide
    · intro z; rw [z] at h; exact absurd h (by decide)
  have h2 : ¬ (2 ≤ x.1 ∧ x.1 ≤ 6) := by
    rcases h with h | h
    · rw [h]; decide
    · rintro ⟨_, z⟩
      have := Int32.le_trans h z
      exact absurd this (by decide)
  unfold rcov
  rw [if_neg h1, decide_eq_false_iff_not]
  exact fun z => h2 ⟨z.1, z.2.1⟩
theorem ov_isLost {E : fs_E} {h : fs_Hp} {r a b : Nat} {v0 v3 : Value} {l1 l2 : Int32} {va1 va2 va3 va4 va5 vb1 vb2 vb3 vb4 vb5 : Value} {Post : fs_Ps} (hr : h r = some (.inr (9, [v0, .ref a, .ref b, v3]))) (ha : h a = some (.inr (5, [va1, va2, va3, va4, .int l1, va5]))) (hb : h b = some (.inr (5, [vb1, vb2, vb3, vb4, .int l2, vb5]))) (K : Post (.inl (some (.int (if l1 = 0 then (if l2 = 0 then 0 else 1) else 1)))) h) : w_OV_isLost E h r Post := by
  unfold w_OV_isLost
  refine fs_gr_of hr rfl (fs_gi_of ha rfl ?_)
  by_cases h1 : l1 = 0
  · rw [if_pos h1]
    rw [if_pos h1] at K
    refine fs_gr_of hr rfl (fs_gi_of hb rfl ?_)
    by_cases h2 : l2 = 0
    · rw [if_pos h2]
      rw [if_pos h2] at K
      exact K
    · rw [if_neg h2]
      rw [if_neg h2] at K
      exact K
  · rw [if_neg h1]
    rw [if_neg h1] at K
    exact K
theorem ovF.at {E : fs_E} {h h' : fs_Hp} {r a b j C1 W1 C2 W2 s : Nat} {p : Nat → Bool} (o : ovF E h r a b j C1 W1 C2 W2) (hs : cset h s p) (hx : gx s h h') : ovF E h' r a b j C1 W1 C2 W2 := by
  obtain ⟨lo, hi, s1, s2, s3⟩ := hs
  have key : ∀ {q c : Nat} {fs : List Value}, h q = some (.inr (c, fs)) → c ≠ 3 → q ≠ s := by
    intro q c fs e hc z
    rw [z, s1] at e
    cases e
    exact hc rfl
  obtain ⟨i, i1, i2, cf1, rf1, cf2, rf2, h1, h2, h3⟩ := o
  exact ⟨i, i1, i2, cf1, rf1, cf2, rf2, (hx r (key h1 (by decide))).trans h1, (hx a (key h2 (by decide))).trans h2, (hx b (key h3 (by decide))).trans h3⟩
theorem ov_L26 {self : fs_E → fs_Hp → Nat → Nat → fs_Ps → Prop} {E : fs_E} {r a b j C1 W1 C2 W2 s c : Nat} {K : fs_Hp → Prop} {Post : fs_Ps} (hW1 : W1 < 10) (hW2 : W2 < 10) (hc8 : c < 8) : ∀ (k rr : Nat) (h : fs_Hp) (p : Nat → Bool), ovF E h r a b j C1 W1 C2 W2 → cset h s p → rr + k = max W1 W2 + 1 → (∀ h', cset h' s (fun q => p q || decide (q % 8 = c ∧ rr ≤ q / 8 ∧ q / 8 ≤ max W1 W2)) → gx s h h' → K h') → w_OV_addCells_L26 self E K Post (k + 1) r s (nI c) (nI rr) h := by
  intro k
  induction k with
  | zero =>
    intro rr h p o hs hr hK
    rw [w_OV_addCells_L26]
    refine ⟨o.isc, ov_bottom o hW1 hW2 (fs_ki_of ?_)⟩
    rw [if_pos (nI_lt (by omega) (by omega))]
    refine hK h (hs.same fun q _ => ?_) gx.rf
    rw [show decide (q % 8 = c ∧ rr ≤ q / 8 ∧ q / 8 ≤ max W1 W2) = false by rw [decide_eq_false_iff_not]; omega, Bool.or_false]
  | succ k ih =>
    intro rr h p o hs hr hK
    obtain ⟨c1, c2, c3⟩ := cell80 hc8 (show rr < 10 by omega)
    rw [w_OV_addCells_L26]
    refine ⟨o.isc, ov_bottom o hW1 hW2 (fs_ki_of ?_)⟩
    rw [if_neg (nI_nlt (by omega) (by omega)), c1]
    refine ⟨hs.isc, ks_add hs (by omega) fun h' b1 b2 => fs_kv_of ?_⟩
    rw [nI_1]
    refine ih (rr + 1) h' _ (o.at hs b2) b1 (by omega) fun h2 d1 d2 => hK h2 (d1.same fun q hq => ?_) (gx.trans b2 d2)
    rw [Bool.or_assoc]
    congr 1
    rw [← Bool.decide_or, decide_eq_decide]
    omega
theorem ov_L13 {self : fs_E → fs_Hp → Nat → Nat → fs_Ps → Prop} {E : fs_E} {r a b j C1 W1 C2 W2 s : Nat} {K : fs_Hp → Prop} {Post : fs_Ps} (hC1 : C1 < 8) (hC2 : C2 < 8) (hW1 : W1 < 10) (hW2 : W2 < 10) : ∀ (k c : Nat) (h : fs_Hp) (p : Nat → Bool), ovF E h r a b j C1 W1 C2 W2 → cset h s p → c + k = max C1 C2 + 1 → (∀ h', cset h' s (fun q => p q || decide (c ≤ q % 8 ∧ q % 8 ≤ max C1 C2 ∧ min W1 W2 ≤ q / 8 ∧ q / 8 ≤ max W1 W2)) → gx s h h' → K h') → w_OV_addCells_L13 self E K Post (k + 1) r s (nI c) h := by
  intro k
  induction k with
  | zero =>
    intro c h p o hs hr hK
    rw [w_OV_addCells_L13]
    refine ⟨o.isc, ov_right o hC1 hC2 (fs_ki_of ?_)⟩
    rw [if_pos (nI_lt (by omega) (by omega))]
    refine hK h (hs.same fun q _ => ?_) gx.rf
    rw [show decide (c ≤ q % 8 ∧ q % 8 ≤ max C1 C2 ∧ min W1 W2 ≤ q / 8 ∧ q / 8 ≤ max W1 W2) = false by rw [decide_eq_false_iff_not]; omega, Bool.or_false]
  | succ k ih =>
    intro c h p o hs hr hK
    rw [w_OV_addCells_L13]
    refine ⟨o.isc, ov_right o hC1 hC2 (fs_ki_of ?_)⟩
    rw [if_neg (nI_nlt (by omega) (by omega))]
    refine ⟨o.isc, ov_top o hW1 hW2 (fs_ki_of ⟨max W1 W2 + 1 - min W1 W2 + 1, ?_⟩)⟩
    refine ov_L26 hW1 hW2 (by omega) _ _ h p o hs (by omega) fun h' b1 b2 => ?_
    rw [nI_1]
    refine ih (c + 1) h' _ (o.at hs b2) b1 (by omega) fun h2 d1 d2 => hK h2 (d1.same fun q hq => ?_) (gx.trans b2 d2)
    rw [Bool.or_assoc]
    congr 1
    rw [← Bool.decide_or, decide_eq_decide]
    omega
theorem tr_code.dec {cf rf c w lo x : Int32} (t : tr_code cf rf c w lo x) : (lo = 1 ∧ p_MO_lost x = 1) ∨ (lo = 0 ∧ p_MO_lost x = 0 ∧ ∃ C W : Nat, C < 8 ∧ W < 10 ∧ c = nI C ∧ w = nI W ∧ rgcol x = C ∧ rgrow x = W) := by
  rcases t.2 with ⟨l1, l2⟩ | ⟨l1, C, W, A, B, m1, m2, m3, m4, m5, m6, m7, m8, m9⟩
  · exact Or.inl ⟨l1, by rw [l2]; exact rf_512⟩
  · obtain ⟨d1, d2, d3⟩ := rf_dec C m1 W m2 A m3 B m4
    exact Or.inr ⟨l1, by rw [m9]; exact d3, C, W, m1, m2, m7, m8, by rw [m9]; exact d1, by rw [m9]; exact d2⟩
theorem add_L2 {n : Nat} {E : fs_E} {r s c i m : Nat} {fs : List Value} {g : Nat → Option Nat} {K : fs_Hp → Prop} {Post : fs_Ps} (hc : 4 ≤ c ∧ c ≤ 9) (hi : fs[fs_pi c]? = some (.ref i)) (hm : m < 100) (rec : ∀ {h : fs_Hp} {q : Nat} {L : List It} {F : List Nat} {p : Nat → Bool} {Post : fs_Ps}, rp n E h q L F → cset h s p → (∀ h', cset h' s (fun k => p k || rck L k) → gx s h h' → Post (.inl none) h') → w_N_addCells n E h q s Post) : ∀ (T : List Kd) (j : Nat) (h : fs_Hp) (p : Nat → Bool), j + T.length = m → h r = some (.inr (c, fs)) → tr_in E h i m g → kd n E h g j T → cset h s p → (∀ h', cset h' s (fun k => p k || rck (kL T) k) → gx s h h' → K h') → w_PT_addCells_L2 (w_N_addCells n) E K Post (T.length + 1) r s (nI j) h := by
  intro T
  induction T with
  | nil =>
    intro j h p hj h1 h2 h3 h4 hK
    rw [List.length_nil] at hj
    rw [w_PT_addCells_L2]
    refine fs_gP_of h1 hc hi (fs_an_of h2 ?_)
    rw [if_pos (show Int32.ofNat m ≤ nI j from nI_le (by omega) (by omega))]
    refine hK h (h4.same fun q _ => ?_) gx.rf
    show (p q || rcs [] _ _) = p q
    rw [rcs_nil, Bool.or_false]
  | cons x T ih =>
    intro j h p hj h1 h2 h3 h4 hK
    rw [List.length_cons] at hj
    rw [w_PT_addCells_L2]
    refine fs_gP_of h1 hc hi (fs_an_of h2 ?_)
    rw [if_neg (show ¬ Int32.ofNat m ≤ nI j from nI_ge (by omega) (by omega))]
    refine fs_gP_of h1 hc hi (fs_aq_of h2 (nI_in (by omega) (by omega)) ?_)
    rw [nI_clamp (by omega), h3.1]
    try dsimp only
    refine rec h3.2.1 h4 fun h' b1 b2 => fs_kv_of ?_
    rw [nI_1]
    obtain ⟨lo, hi', s1, s2, s3⟩ := h4
    have hsr : r ≠ s := fun z => by rw [z, s1] at h1; cases h1; omega
    have hsi : i ≠ s := fun z => by unfold tr_in at h2; rw [z, s1] at h2; cases h2
    have hsF : ∀ q ∈ kF T, q ≠ s := by
      intro q hq z
      have hk : ∀ (T : List Kd) (j : Nat), kd n E h g j T → q ∈ kF T → q ≠ s := by
        intro T
        induction T with
        | nil => intro j _ hq; cases hq
        | cons y T ihT =>
          intro j k hq z
          rcases List.mem_append.mp hq with hq | hq
          · exact rp_not3 (p := p) k.2.1 ⟨lo, hi', s1, s2, s3⟩ (z ▸ hq)
          · exact ihT (j + 1) k.2.2 hq z
      exact hk T (j + 1) h3.2.2 hq z
    refine ih (j + 1) h' _ (by omega) ((b2 r hsr).trans h1) (h2.kept (b2 i hsi)) (h3.2.2.kept fun q hq => b2 q (hsF q hq)) b1 fun h2 d1 d2 => hK h2 (d1.same fun q _ => ?_) (gx.trans b2 d2)
    show (p q || rcs (x.2.1 ++ kL T) _ _) = (p q || rcs x.2.1 _ _ || rcs (kL T) _ _)
    rw [rcs_app, Bool.or_assoc]
theorem cls_addCells : ∀ (n : Nat) {E : fs_E} {h : fs_Hp} {r s : Nat} {L : List It} {F : List Nat} {p : Nat → Bool} {Post : fs_Ps}, rp n E h r L F → cset h s p → (∀ h', cset h' s (fun k => p k || rck L k) → gx s h h' → Post (.inl none) h') → w_N_addCells n E h r s Post := by
  intro n
  induction n with
  | zero => intro E h r s L F p Post a; exact a.elim
  | succ n ih =>
    intro E h r s L F p Post tr hs hK
    rw [w_N_addCells]
    unfold w_V_addCells
    rcases rp_node tr with ⟨x, ⟨cf, rf, c, w, lo, i, g, h1, h2, h3, h4⟩, rfl⟩ | ⟨j, a, b, i, g, x, y, Fa, Fb, h0, h1, h2, h3, h4, ⟨cf1, rf1, c1, w1, lo1, i1, g1, a1, a2, a3, a4⟩, ⟨cf2, rf2, c2, w2, lo2, i2, g2, b1, b2, b3, b4⟩, rfl, rfl⟩ | ⟨c, i, fs, g, T, tl, h1, h2, h3, h4, h5, rfl, rfl, h8, hl3, h9⟩
    · refine Or.inr (Or.inl ⟨fs_isc_of h1, ?_⟩)
      unfold w_RE_addCells
      refine fs_gi_of h1 rfl ?_
      rcases h3.dec with ⟨l1, l2⟩ | ⟨l1, l2, C, W, m1, m2, m3, m4, m5, m6⟩
      · rw [if_neg (by rw [l1]; decide)]
        refine hK h (hs.same fun q _ => ?_) gx.rf
        show (p q || rcs [(1, x, 0, 0)] _ _) = p q
        rw [rcs_one]
        unfold rcov
        rw [if_pos rfl, l2, show decide ((1 : Int32) = 0 ∧ _ ∧ _) = false by rw [decide_eq_false_iff_not]; exact fun z => absurd z.1 (by decide), Bool.or_false]
      · rw [if_pos l1]
        obtain ⟨d1, d2, d3⟩ := cell80 m1 m2
        refine ⟨fs_isc_of h1, fs_gi_of h1 rfl (fs_gi_of h1 rfl (fs_ki_of ?_))⟩
        rw [m3, m4, d1]
        refine ⟨hs.isc, ks_add hs (by omega) fun h' b1 b2 => fs_kv_of (hK h' (b1.same fun q hq => ?_) b2)⟩
        show (p q || rcs [(1, x, 0, 0)] _ _) = _
        rw [rcs_one]
        unfold rcov
        rw [if_pos rfl]
        try dsimp only
        congr 1
        rw [decide_eq_decide, l2, m5, m6]
        constructor
        · rintro ⟨_, z1, z2⟩; omega
        · intro z; exact ⟨rfl, by omega, by omega⟩
    · refine Or.inr (Or.inr (Or.inr (Or.inr (Or.inr ⟨fs_isc_of h1, ?_⟩))))
      unfold w_OV_addCells
      obtain ⟨g1', g2', g3', g4', g5'⟩ := it_rg j h0
      have hrc : ∀ q, rck [(nI (j + 2), x, y, 0)] q = decide (p_MO_lost x = 0 ∧ p_MO_lost y = 0 ∧ min (rgcol x) (rgcol y) ≤ q % 8 ∧ q % 8 ≤ max (rgcol x) (rgcol y) ∧ min (rgrow x) (rgrow y) ≤ q / 8 ∧ q / 8 ≤ max (rgrow x) (rgrow y)) := by
        intro q
        show rcs [(nI (j + 2), x, y, 0)] _ _ = _
        rw [rcs_one]
        unfold rcov
        rw [if_neg g2', decide_eq_decide]
        exact ⟨fun z => z.2.2, fun z => ⟨g5', g4', z⟩⟩
      refine ⟨fs_isc_of h1, ov_isLost h1 a1 b1 (fs_ki_of ?_)⟩
      have lost : p_MO_lost x = 1 ∨ p_MO_lost y = 1 → Post (.inl none) h := by
        intro z
        refine hK h (hs.same fun q _ => ?_) gx.rf
        rw [hrc, show decide (p_MO_lost x = 0 ∧ _) = false by
          rw [decide_eq_false_iff_not]
          rintro ⟨z1, z2, _⟩
          rcases z with z | z
          · rw [z] at z1; exact absurd z1 (by decide)
          · rw [z] at z2; exact absurd z2 (by decide), Bool.or_false]
      rcases a3.dec with ⟨l1, l2⟩ | ⟨l1, l2, C1, W1, m1, m2, m3, m4, m5, m6⟩
      · rw [if_neg (show ¬ lo1 = 0 by rw [l1]; decide), if_neg (show ¬ (1 : Int32) = 0 by decide)]
        exact lost (Or.inl l2)
      · rw [if_pos l1]
        rcases b3.dec with ⟨k1, k2⟩ | ⟨k1, k2, C2, W2, n1, n2, n3, n4, n5, n6⟩
        · rw [if_neg (show ¬ lo2 = 0 by rw [k1]; decide), if_neg (show ¬ (1 : Int32) = 0 by decide)]
          exact lost (Or.inr k2)
        · rw [if_pos k1, if_pos rfl]
          rw [m3, m4, l1] at a1
          rw [n3, n4, k1] at b1
          have o : ovF E h r a b j C1 W1 C2 W2 := ⟨i, i1, i2, cf1, rf1, cf2, rf2, h1, a1, b1⟩
          refine ⟨o.isc, ov_left o m1 n1 (fs_ki_of ⟨max C1 C2 + 1 - min C1 C2 + 1, ?_⟩)⟩
          refine ov_L13 m1 n1 m2 n2 _ _ h p o hs (by omega) fun h' d1 d2 => hK h' (d1.same fun q hq => ?_) d2
          rw [hrc]
          congr 1
          rw [decide_eq_decide, l2, k2, m5, m6, n5, n6]
          exact ⟨fun z => z.2.2, fun z => ⟨rfl, rfl, z⟩⟩
    · have hl : T.length < 100 := by omega
      have key : w_PT_addCells (w_N_addCells n) E h r s Post := by
        refine ⟨T.length + 1, ?_⟩
        refine add_L2 (by omega) h3 hl (fun a b c => ih a b c) T 0 h p (by omega) h2 h4 h5 hs fun h' d1 d2 => hK h' (d1.same fun q _ => ?_) d2
        show (p q || rcs (kL T ++ [tl]) _ _) = (p q || rcs (kL T) _ _)
        rw [rcs_app, rcs_one, rcov_tl h8, Bool.or_false]
      rcases h1 with rfl | rfl | rfl | rfl
      · exact Or.inl ⟨fs_isc_of h2, key⟩
      · exact Or.inr (Or.inr (Or.inl ⟨fs_isc_of h2, key⟩))
      · exact Or.inr (Or.inr (Or.inr (Or.inl ⟨fs_isc_of h2, key⟩)))
      · exact Or.inr (Or.inr (Or.inr (Or.inr (Or.inl ⟨fs_isc_of h2, key⟩))))
