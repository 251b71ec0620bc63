/-! Pure: the reference's references and ranges. -/
theorem idx10 {C W : Nat} (h1 : C < 8) (h2 : W < 10) : (10 * nI C) + nI W = nI (10 * C + W) ∧ vp_in (nI (10 * C + W)) 80 ∧ vp_in (nI (10 * C + W)) 81 ∧ (nI (10 * C + W)).toNatClampNeg = 10 * C + W := by
  refine ⟨?_, nI_in (by omega) (by omega), nI_in (by omega) (by omega), nI_clamp (by omega)⟩
  rw [show (10 : Int32) = nI 10 from rfl, nI_mul, nI_add]
theorem wm_ref {M : mo_S} {t : List Vl} {a x : Int32} (hb : cvb M) (hs : sk M t) (hl : t.length < 44) (hq : rfq a x) : ∃ M', q_MO_workReference M a (nI t.length) = some M' ∧ sk M' (rfv (cvM M) x :: t) ∧ wf M M' := by
  obtain ⟨C, W, A, B, l, h1, h2, h3, h4, h5, h6, h7⟩ := hq
  obtain ⟨d1, d2, d3⟩ := rf_dec2 h1 h2 h3 h4 h5
  have hok : (0 ≤ (nI t.length).toInt) ∧ ((nI t.length).toInt < 44) := by
    rw [nI_toInt (by omega)]
    omega
  unfold q_MO_workReference
  rw [h6, d1, d2, d3]
  by_cases hl0 : l = 0
  · subst hl0
    rw [if_pos rfl] at h7
    obtain ⟨i1, i2, i3, i4⟩ := idx10 h1 h2
    obtain ⟨e1, e2, e3⟩ := rf_dec C h1 W h2 A h3 B h4
    have hv : rfv (cvM M) x = cvd (cvM M C W) := by
      unfold rfv
      rw [h7, e1, e2, e3, if_pos rfl]
    rw [hv, if_pos (show nI 0 = 0 from rfl), i1, fs_okp_pos i3, i4]
    have hcv : cvM M C W = if M.2.1 0 (10 * C + W) = 0 then none else some (if M.2.1 18 (10 * C + W) = 0 then some (M.2.2.2 17 (10 * C + W)) else none) := by
      unfold cvM
      rw [if_pos ⟨h1, h2⟩]
    rw [hcv]
    by_cases hz : M.2.1 0 (10 * C + W) = 0
    · rw [if_pos hz, if_pos hz]
      unfold q_MO_workReference_J51
      rw [fs_okp_pos i3, i4, if_pos (by rw [hz]; decide), fs_okp_pos hok]
      have := hold_sk hs hl (v := some FP.dconst0) (d := FP.dconst0) (f := 0) (Or.inl ⟨rfl, rfl, nb_0⟩)
      exact ⟨_, rfl, this⟩
    · rw [if_neg hz, if_neg hz, fs_okp_pos i2]
      unfold q_MO_workReference_J51
      have hpos : ¬ M.2.1 0 (10 * C + W) ≤ 0 := by
        rcases hb.2.1 (10 * C + W) (by omega) with z | z | z
        · exact absurd z hz
        · rw [z]; decide
        · rw [z]; decide
      rw [fs_okp_pos i3, i4, if_neg hpos, fs_okp_pos i2]
      by_cases hbd : M.2.1 18 (10 * C + W) = 0
      · rw [if_pos hbd, if_pos hbd, fs_okp_pos hok]
        have := hold_sk hs hl (v := some (M.2.2.2 17 (10 * C + W))) (d := M.2.2.2 17 (10 * C + W)) (f := 0) (Or.inl ⟨rfl, rfl, hb.1 _ (by omega)⟩)
        exact ⟨_, rfl, this⟩
      · rw [if_neg hbd, if_neg hbd, fs_okp_pos hok]
        have := hold_sk hs hl (v := none) (d := M.2.2.2 17 (10 * C + W)) (f := 1) (Or.inr ⟨rfl, rfl⟩)
        exact ⟨_, rfl, this⟩
  · have hl1 : l = 1 := by omega
    subst hl1
    rw [if_neg (by decide)] at h7
    rw [if_neg (by decide), fs_okp_pos hok]
    have hv : rfv (cvM M) x = none := by
      unfold rfv
      rw [h7, rf_512, if_neg (by decide)]
    rw [hv]
    have := hold_sk hs hl (v := none) (d := FP.dconst0) (f := 1) (Or.inr ⟨rfl, rfl⟩)
    exact ⟨_, rfl, this⟩
/-- the reference's sums as they go over VALUES -/
def racc (w : Int32) : List Vl → Int32 → UInt64 → UInt64 → Nat → Int32 × UInt64 × UInt64 × Nat
  | [], b, s, z, n => (b, s, z, n)
  | some d :: l, b, s, z, n => racc w l (if p_MO_tooGreat (FP.dadd s d) = 0 then b else if w = 2 ∨ w = 6 then 1 else b) (FP.dadd s d) (if n = 0 ∨ btr (w == 3) d z = true then d else z) (n + 1)
  | none :: l, _, s, z, n => racc w l 1 (FP.dadd s FP.dconst0) (if n = 0 ∨ btr (w == 3) FP.dconst0 z = true then FP.dconst0 else z) (n + 1)
theorem racc_app (w : Int32) : ∀ (l1 l2 : List Vl) (b : Int32) (s z : UInt64) (n : Nat), racc w (l1 ++ l2) b s z n = racc w l2 (racc w l1 b s z n).1 (racc w l1 b s z n).2.1 (racc w l1 b s z n).2.2.1 (racc w l1 b s z n).2.2.2 := by
  intro l1
  induction l1 with
  | nil => intro l2 b s z n; rfl
  | cons v l1 ih =>
    intro l2 b s z n
    cases v with
    | none => exact ih l2 _ _ _ _
    | some d => exact ih l2 _ _ _ _
theorem racc_nn (w : Int32) : ∀ (l : List Vl) (b : Int32) (s z : UInt64) (n : Nat), nn s → (∀ d, some d ∈ l → nb d) → nn (racc w l b s z n).2.1 := by
  intro l
  induction l with
  | nil => intro b s z n h _; exact h
  | cons v l ih =>
    intro b s z n h hl
    have hl' : ∀ d, some d ∈ l → nb d := fun d hd => hl d (List.mem_cons_of_mem _ hd)
    cases v with
    | none => exact ih _ _ _ _ (nn_of (FP.Core.dadd_out (nn_to h) nb_0.fin)) hl'
    | some d => exact ih _ _ _ _ (nn_of (FP.Core.dadd_out (nn_to h) (hl d List.mem_cons_self).fin)) hl'
theorem racc_n (w : Int32) : ∀ (l : List Vl) (b : Int32) (s z : UInt64) (n : Nat), (racc w l b s z n).2.2.2 = n + l.length := by
  intro l
  induction l with
  | nil => intro b s z n; rfl
  | cons v l ih =>
    intro b s z n
    cases v with
    | none => rw [racc, ih, List.length_cons]; omega
    | some d => rw [racc, ih, List.length_cons]; omega
theorem racc_1 (w : Int32) : ∀ (l : List Vl) (s z : UInt64) (n : Nat), (racc w l 1 s z n).1 = 1 := by
  intro l
  induction l with
  | nil => intro s z n; rfl
  | cons v l ih =>
    intro s z n
    cases v with
    | none => rw [racc]; exact ih _ _ _
    | some d =>
      rw [racc]
      have e : (if p_MO_tooGreat (FP.dadd s d) = 0 then (1 : Int32) else if w = 2 ∨ w = 6 then 1 else 1) = 1 := by
        repeat' split
        all_goals rfl
      rw [e]
      exact ih _ _ _
theorem tg_nb {d : UInt64} (h : nn d) (e : p_MO_tooGreat d = 0) : nb d := Classical.byContradiction fun hb => by
  rw [tg_bad h hb] at e
  exact absurd e (by decide)
theorem racc_sum {w : Int32} (hw : w = 2 ∨ w = 6) : ∀ (l : List Vl) (s z : UInt64) (n : Nat), nb s → (∀ d, some d ∈ l → nb d) → ((racc w l 0 s z n).1 = 0 ∧ sumV l s = some (racc w l 0 s z n).2.1) ∨ ((racc w l 0 s z n).1 = 1 ∧ sumV l s = none) := by
  intro l
  induction l with
  | nil => intro s z n _ _; exact Or.inl ⟨rfl, rfl⟩
  | cons v l ih =>
    intro s z n hs hl
    have hl' : ∀ d, some d ∈ l → nb d := fun d hd => hl d (List.mem_cons_of_mem _ hd)
    cases v with
    | none => exact Or.inr ⟨racc_1 w l _ _ _, rfl⟩
    | some d =>
      have hd := hl d List.mem_cons_self
      have hn := nn_add hs hd
      rw [racc, sumV]
      by_cases ht : p_MO_tooGreat (FP.dadd s d) = 0
      · rw [if_pos ht, if_pos ht]
        exact ih (FP.dadd s d) _ (n + 1) (tg_nb hn ht) hl'
      · rw [if_neg ht, if_neg ht, if_pos hw]
        exact Or.inr ⟨racc_1 w l _ _ _, rfl⟩
theorem racc_ext {w : Int32} (h2 : w ≠ 2) (h6 : w ≠ 6) : ∀ (l : List Vl) (s z : UInt64) (n : Nat) (b : Option UInt64), ((n = 0 ∧ b = none) ∨ (0 < n ∧ b = some z)) → ((racc w l 0 s z n).1 = 0 ∧ extV (w == 3) l b = if n + l.length = 0 then none else some (racc w l 0 s z n).2.2.1) ∨ ((racc w l 0 s z n).1 = 1 ∧ extV (w == 3) l b = none) := by
  intro l
  induction l with
  | nil =>
    intro s z n b hb
    refine Or.inl ⟨rfl, ?_⟩
    rcases hb with ⟨h1, h2⟩ | ⟨h1, h2⟩
    · rw [if_pos (by rw [h1]; rfl)]; exact h2
    · rw [if_neg (by show ¬ n + 0 = 0; omega)]; exact h2
  | cons v l ih =>
    intro s z n b hb
    cases v with
    | none => exact Or.inr ⟨racc_1 w l _ _ _, rfl⟩
    | some d =>
      have e : (if p_MO_tooGreat (FP.dadd s d) = 0 then (0 : Int32) else if w = 2 ∨ w = 6 then 1 else 0) = 0 := by
        rw [if_neg (fun y : w = 2 ∨ w = 6 => by
          rcases y with y | y
          · exact h2 y
          · exact h6 y)]
        split <;> rfl
      rw [racc, e]
      have hlen : n + (some d :: l : List Vl).length = (n + 1) + l.length := by
        rw [List.length_cons]
        omega
      rw [hlen]
      rcases hb with ⟨h1, h2⟩ | ⟨h1, h2⟩
      · rw [if_pos (Or.inl h1), h2]
        exact ih _ d (n + 1) (some d) (Or.inr ⟨by omega, rfl⟩)
      · have ez : (if n = 0 ∨ btr (w == 3) d z = true then d else z) = if btr (w == 3) d z then d else z := by
          by_cases hbt : btr (w == 3) d z = true
          · rw [if_pos (Or.inr hbt), if_pos hbt]
          · rw [if_neg (fun y => by
              rcases y with y | y
              · exact absurd y (by omega)
              · exact hbt y), if_neg hbt]
        rw [ez, h2]
        exact ih _ _ (n + 1) (some (if btr (w == 3) d z then d else z)) (Or.inr ⟨by omega, rfl⟩)
/-- a range's corners -/
def rgc (a b : Int32) (C1 W1 C2 W2 : Nat) : Prop := p_MO_column a = nI C1 ∧ p_MO_row a = nI W1 ∧ p_MO_column b = nI C2 ∧ p_MO_row b = nI W2 ∧ C1 < 8 ∧ C2 < 8 ∧ W1 < 10 ∧ W2 < 10
theorem mo_most {a b : Nat} (ha : a < 2 ^ 31) (hb : b < 2 ^ 31) : p_MO_most (nI a) (nI b) = nI (max a b) := by
  unfold p_MO_most
  by_cases h : a ≤ b
  · rw [if_pos (nI_le h hb), Nat.max_eq_right h]
  · rw [if_neg (nI_ge (by omega) ha), Nat.max_eq_left (by omega)]
theorem mo_least {a b : Nat} (ha : a < 2 ^ 31) (hb : b < 2 ^ 31) : p_MO_least (nI a) (nI b) = nI (min a b) := by
  unfold p_MO_least
  by_cases h : b ≤ a
  · rw [if_pos (nI_le h ha), Nat.min_eq_right h]
  · rw [if_neg (nI_ge (by omega) hb), Nat.min_eq_left (by omega)]
theorem wr_L75 {M : mo_S} {w a b z4 : Int32} {C1 W1 C2 W2 c : Nat} (hb : cvb M) (hr : rgc a b C1 W1 C2 W2) (hc : c < 8) : ∀ (k rr : Nat) (f : Nat) (b6 : Int32) (s z : UInt64) (n : Nat), k < f → rr + k = max W1 W2 + 1 → n + k < 1000 → nn s → q_MO_workRange_L75 f w a b z4 0 b6 s z (nI n) (nI c) (nI rr) M = some ((racc w (rowsV (cvM M) c k rr) b6 s z n).1, (racc w (rowsV (cvM M) c k rr) b6 s z n).2.1, (racc w (rowsV (cvM M) c k rr) b6 s z n).2.2.1, nI (racc w (rowsV (cvM M) c k rr) b6 s z n).2.2.2, M) := by
  have hm : p_MO_most (p_MO_row a) (p_MO_row b) = nI (max W1 W2) := by
    rw [hr.2.1, hr.2.2.2.1, mo_most (by have := hr.2.2.2.2.2.2.1; omega) (by have := hr.2.2.2.2.2.2.2; omega)]
  have hW1 := hr.2.2.2.2.2.2.1
  have hW2 := hr.2.2.2.2.2.2.2
  intro k
  induction k with
  | zero =>
    intro rr f b6 s z n hf hrr hn hs
    obtain ⟨f, rfl⟩ : ∃ m, f = m + 1 := ⟨f - 1, by omega⟩
    rw [q_MO_workRange_L75, hm, if_pos (nI_lt (by omega) (by omega))]
    rfl
  | succ k ih =>
    intro rr f b6 s z n hf hrr hn hs
    obtain ⟨f, rfl⟩ : ∃ m, f = m + 1 := ⟨f - 1, by omega⟩
    obtain ⟨i1, i2, i3, i4⟩ := idx10 hc (show rr < 10 by omega)
    rw [q_MO_workRange_L75, hm, if_neg (nI_nlt (by omega) (by omega)), i1, fs_okp_pos i3, i4, rowsV]
    have hcv : cvM M c rr = if M.2.1 0 (10 * c + rr) = 0 then none else some (if M.2.1 18 (10 * c + rr) = 0 then some (M.2.2.2 17 (10 * c + rr)) else none) := by
      unfold cvM
      rw [if_pos ⟨hc, by omega⟩]
    rw [hcv, nI_1]
    by_cases hz : M.2.1 0 (10 * c + rr) = 0
    · rw [if_pos hz, if_pos hz]
      exact ih (rr + 1) f b6 s z n (by omega) (by omega) (by omega) hs
    · rw [if_neg hz, if_neg hz, if_pos rfl, fs_okp_pos i2]
      have hd := hb.1 (10 * c + rr) (by omega)
      have hn2 : nn (FP.dadd s (M.2.2.2 17 (10 * c + rr))) := nn_of (FP.Core.dadd_out (nn_to hs) hd.fin)
      -- the end of a turn
      have h180 : ∀ (b7 : Int32) (z' : UInt64), q_MO_workRange_L75_J180 (q_MO_workRange_L75 f) w a b z4 0 b7 s z' (nI n) (nI c) (nI rr) (nI (10 * c + rr)) M = q_MO_workRange_L75 f w a b z4 0 (if p_MO_tooGreat (FP.dadd s (M.2.2.2 17 (10 * c + rr))) = 0 then b7 else if w = 2 ∨ w = 6 then 1 else b7) (FP.dadd s (M.2.2.2 17 (10 * c + rr))) z' (nI (n + 1)) (nI c) (nI (rr + 1)) M := by
        intro b7 z'
        unfold q_MO_workRange_L75_J180
        rw [fs_okp_pos i2, i4, fs_okp_pos (nn_n64 hn2), nI_1, nI_1]
        by_cases ht : p_MO_tooGreat (FP.dadd s (M.2.2.2 17 (10 * c + rr))) = 0
        · rw [if_pos ht, if_pos ht]
        · rw [if_neg ht, if_neg ht]
          by_cases h2 : w = 2
          · rw [if_pos h2, if_pos (Or.inl h2)]
          · rw [if_neg h2]
            by_cases h6 : w = 6
            · rw [if_pos h6, if_pos (Or.inr h6)]
            · rw [if_neg h6, if_neg (fun y => by rcases y with y | y; exact h2 y; exact h6 y)]
      have h132 : ∀ b7 : Int32, q_MO_workRange_L75_J132 (q_MO_workRange_L75 f) w a b z4 0 b7 s z (nI n) (nI c) (nI rr) (nI (10 * c + rr)) M = q_MO_workRange_L75 f w a b z4 0 (if p_MO_tooGreat (FP.dadd s (M.2.2.2 17 (10 * c + rr))) = 0 then b7 else if w = 2 ∨ w = 6 then 1 else b7) (FP.dadd s (M.2.2.2 17 (10 * c + rr))) (if n = 0 ∨ btr (w == 3) (M.2.2.2 17 (10 * c + rr)) z = true then M.2.2.2 17 (10 * c + rr) else z) (nI (n + 1)) (nI c) (nI (rr + 1)) M := by
        intro b7
        have e171 : q_MO_workRange_L75_J171 (q_MO_workRange_L75 f) w a b z4 0 b7 s (nI n) (nI c) (nI rr) (nI (10 * c + rr)) M = q_MO_workRange_L75_J180 (q_MO_workRange_L75 f) w a b z4 0 b7 s (M.2.2.2 17 (10 * c + rr)) (nI n) (nI c) (nI rr) (nI (10 * c + rr)) M := by
          unfold q_MO_workRange_L75_J171
          rw [fs_okp_pos i2, i4]
        unfold q_MO_workRange_L75_J132
        by_cases hn0 : n = 0
        · rw [if_pos (by rw [hn0]; rfl), e171, h180, if_pos (Or.inl hn0)]
        · rw [if_neg (nI_ne0 (by omega) (by omega))]
          by_cases h3 : w = 3
          · rw [if_pos h3, fs_okp_pos i2, i4]
            have ew : (w == 3) = true := by rw [h3]; rfl
            rw [ew]
            by_cases hcmp : 0 ≤ Op.cmpValue (FP.dcmp (M.2.2.2 17 (10 * c + rr)) z) .g
            · have hbt : ¬ (n = 0 ∨ btr true (M.2.2.2 17 (10 * c + rr)) z = true) := by simp [hn0, btr, hcmp]
              rw [if_pos hcmp, h180, if_neg hbt]
            · have hbt : n = 0 ∨ btr true (M.2.2.2 17 (10 * c + rr)) z = true := Or.inr (by simp [btr, hcmp])
              rw [if_neg hcmp, e171, h180, if_pos hbt]
          · rw [if_neg h3, fs_okp_pos i2, i4]
            have ew : (w == 3) = false := by simp [h3]
            rw [ew]
            by_cases hcmp : Op.cmpValue (FP.dcmp (M.2.2.2 17 (10 * c + rr)) z) .l ≤ 0
            · have hbt : ¬ (n = 0 ∨ btr false (M.2.2.2 17 (10 * c + rr)) z = true) := by simp [hn0, btr, hcmp]
              rw [if_pos hcmp, h180, if_neg hbt]
            · have hbt : n = 0 ∨ btr false (M.2.2.2 17 (10 * c + rr)) z = true := Or.inr (by simp [btr, hcmp])
              rw [if_neg hcmp, e171, h180, if_pos hbt]
      by_cases hbd : M.2.1 18 (10 * c + rr) = 0
      · rw [if_pos hbd, if_pos hbd, h132]
        exact ih (rr + 1) f _ _ _ (n + 1) (by omega) (by omega) (by omega) hn2
      · have e17 : M.2.2.2 17 (10 * c + rr) = FP.dconst0 := by
          rcases hb.2.2 (10 * c + rr) (by omega) with y | y
          · exact absurd y hbd
          · exact y.2
        rw [if_neg hbd, if_neg hbd, h132]
        have e1 : (if p_MO_tooGreat (FP.dadd s (M.2.2.2 17 (10 * c + rr))) = 0 then (1 : Int32) else if w = 2 ∨ w = 6 then 1 else 1) = 1 := by
          repeat' split
          all_goals rfl
        rw [e1]
        rw [e17] at hn2 ⊢
        exact ih (rr + 1) f _ _ _ (n + 1) (by omega) (by omega) (by omega) hn2
