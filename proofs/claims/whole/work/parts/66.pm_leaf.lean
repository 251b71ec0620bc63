/-! Pure: the reference reads numerals, references and names by the same rules. -/
/-- the letters of a name; 0 behind a short one -/
def pm_let (j k : Nat) : Nat := if k + 1 < (ps_ob j).length then (ps_ob j).getD k 0 else 0
def pm_L (M : mo_S) (C : Nat → Nat) (n : Nat) : Prop := M.1 9 = nI n ∧ n ≤ 40 ∧ (∀ i, i < n → M.2.1 8 i = nI (C i) ∧ C i < 128) ∧ (∀ i, n ≤ i → C i = 0) ∧ ∀ j, j < 8 → ∀ k, k < 3 → M.2.1 7 (3 * j + k) = nI (pm_let j k)
theorem mo_ff (M : mo_S) (k : Nat) (a b : Int32) : mo_f (mo_f M k a) k b = mo_f M k b := by
  unfold mo_f
  congr 1
  funext j
  by_cases h : j = k <;> simp [h]
theorem mo_f_self (M : mo_S) (k : Nat) : mo_f M k (M.1 k) = M := by
  unfold mo_f
  apply Prod.ext
  · funext j
    by_cases h : j = k
    · subst h
      simp
    · simp [h]
  · rfl
theorem mo_f_at (M : mo_S) (k : Nat) (a : Int32) : (mo_f M k a).1 k = a := by simp [mo_f]
theorem mo_f_ne (M : mo_S) {k j : Nat} (a : Int32) (h : j ≠ k) : (mo_f M k a).1 j = M.1 j := by simp [mo_f, h]
theorem pm_L.f {M : mo_S} {C : Nat → Nat} {n k : Nat} {a : Int32} (h : pm_L M C n) (hk : k ≠ 9) : pm_L (mo_f M k a) C n := ⟨(mo_f_ne M a (Ne.symm hk)).trans h.1, h.2⟩
theorem pm_L.i {M : mo_S} {C : Nat → Nat} {n j k : Nat} {a : Int32} (h : pm_L M C n) (h8 : j ≠ 8) (h7 : j ≠ 7) : pm_L (mo_i M j k a) C n := by
  refine ⟨h.1, h.2.1, fun i hi => ?_, h.2.2.2.1, fun j' hj k' hk => ?_⟩
  · have : (mo_i M j k a).2.1 8 = M.2.1 8 := by simp [mo_i, Ne.symm h8]
    rw [this]
    exact h.2.2.1 i hi
  · have : (mo_i M j k a).2.1 7 = M.2.1 7 := by simp [mo_i, Ne.symm h7]
    rw [this]
    exact h.2.2.2.2 j' hj k' hk
theorem pm_L.l {M : mo_S} {C : Nat → Nat} {n j k : Nat} {a : Int64} (h : pm_L M C n) : pm_L (mo_l M j k a) C n := h
theorem pm_here {M : mo_S} {C : Nat → Nat} {n p : Nat} (h : pm_L M C n) (hp : M.1 22 = nI p) (hpn : p ≤ n) : (p_MO_here M).1 = if p < n then nI (C p) else -1 := by
  have h40 := h.2.1
  unfold p_MO_here
  rw [h.1, hp]
  by_cases hc : p < n
  · rw [if_neg (nI_ge hc (by omega)), if_pos hc, nI_clamp (by omega)]
    exact (h.2.2.1 p hc).1
  · rw [if_pos (nI_le (by omega) (by omega)), if_neg hc]
theorem pm_ci {M : mo_S} {C : Nat → Nat} {n p c : Nat} (h : pm_L M C n) (hp : M.1 22 = nI p) (hpn : p ≤ n) (h0 : 0 < c) (hc : c < 128) : (p_MO_here M).1 = nI c ↔ C p = c := by
  rw [pm_here h hp hpn]
  by_cases hz : p < n
  · rw [if_pos hz]
    have := (h.2.2.1 p hz).2
    exact nI_eq (by omega) (by omega)
  · rw [if_neg hz, h.2.2.2.1 p (by omega)]
    exact ⟨fun z => absurd z.symm (nI_m1 (by omega)), fun z => by omega⟩
theorem pm_lt {M : mo_S} {C : Nat → Nat} {n p : Nat} (h : pm_L M C n) (hp : M.1 22 = nI p) (hpn : p ≤ n) (h0 : C p ≠ 0) : p < n ∧ C p < 128 ∧ (p_MO_here M).1 = nI (C p) := by
  have hz : p < n := ps_lt_of h.2.2.2.1 h0
  refine ⟨hz, (h.2.2.1 p hz).2, ?_⟩
  rw [pm_here h hp hpn, if_pos hz]
theorem pm_dig {M : mo_S} {C : Nat → Nat} {n p : Nat} (h : pm_L M C n) (hp : M.1 22 = nI p) (hpn : p ≤ n) : p_MO_digit ((p_MO_here M).1) = if 48 ≤ C p ∧ C p ≤ 57 then 1 else 0 := by
  unfold p_MO_digit
  rw [pm_here h hp hpn]
  by_cases hz : p < n
  · rw [if_pos hz]
    have h128 := (h.2.2.1 p hz).2
    have e1 := nI_ltI (a := C p) (b := 48) (by omega) (by decide)
    have e2 := nI_ltI (a := 57) (b := C p) (by decide) (by omega)
    by_cases a : C p < 48
    · rw [if_pos (show nI (C p) < 48 from e1.mpr a), if_neg (by omega)]
    · rw [if_neg (show ¬ nI (C p) < 48 from fun z => a (e1.mp z))]
      by_cases b : 57 < C p
      · rw [if_pos (show 57 < nI (C p) from e2.mpr b), if_neg (by omega)]
      · rw [if_neg (show ¬ 57 < nI (C p) from fun z => b (e2.mp z)), if_pos (by omega)]
  · rw [if_neg hz, h.2.2.2.1 p (by omega), if_pos (by decide), if_neg (by omega)]
theorem lN_dig2 {d c : Nat} (h1 : 48 ≤ c) (h2 : c < 128) : (10 * lN d + Int32.toInt64 (nI c)) - 48 = lN (d * 10 + (c - 48)) := by
  rw [nI_l (by omega)]
  have e1 : 10 * lN d = lN (d * 10) := by
    rw [Nat.mul_comm, ← lN_mul]
    rfl
  rw [e1, lN_add]
  have e2 : lN (d * 10 + c) - lN 48 = lN (d * 10 + c - 48) := lN_sub (by omega)
  have e3 : (48 : Int64) = lN 48 := by decide
  rw [e3, e2]
  congr 1
  omega
theorem pm_dg1 {C : Nat → Nat} {n : Nat} {z3 : Int32} : ∀ (k i d p : Nat) (M : mo_S), pm_L M C n → M.1 22 = nI p → p ≤ n → i + k = 9 → ∃ z4 : Int32, p_MO_readNumeral_L7 (k + 1) (lN d) z3 (nI i) M = (lN (ps_dg C k p d).1, z4, mo_f M 22 (nI (ps_dg C k p d).2)) := by
  intro k
  induction k with
  | zero =>
    intro i d p M h hp hpn hi
    refine ⟨nI i, ?_⟩
    rw [p_MO_readNumeral_L7, if_pos (show (9 : Int32) ≤ nI i from nI_le (a := 9) (b := i) (by omega) (by omega)), ps_dg, ← hp, mo_f_self]
  | succ k ih =>
    intro i d p M h hp hpn hi
    rw [p_MO_readNumeral_L7, if_neg (show ¬ (9 : Int32) ≤ nI i from nI_ge (a := i) (b := 9) (by omega) (by omega)), pm_dig h hp hpn, ps_dg]
    by_cases hd : 48 ≤ C p ∧ C p ≤ 57
    · obtain ⟨h1, h2, h3⟩ := pm_lt h hp hpn (by omega)
      rw [if_pos hd, if_neg (by decide), if_pos hd, h3, lN_dig2 hd.1 h2, hp, nI_1, nI_1]
      obtain ⟨z4, e⟩ := ih (i + 1) (d * 10 + (C p - 48)) (p + 1) (mo_f M 22 (nI (p + 1))) (h.f (by decide)) (mo_f_at _ _ _) (by omega) (by omega)
      exact ⟨z4, by rw [e, mo_ff]⟩
    · refine ⟨nI i, ?_⟩
      rw [if_neg hd, if_pos rfl, if_neg hd, ← hp, mo_f_self]
theorem pm_dg2 {C : Nat → Nat} {n : Nat} {z4 : Int32} : ∀ (k i d p : Nat) (M : mo_S), pm_L M C n → M.1 22 = nI p → p ≤ n → i + k = 4 → p_MO_readNumeral_L75 (k + 1) (lN d) (nI i) z4 M = (lN (ps_dg C k p d).1, nI (i + ((ps_dg C k p d).2 - p)), mo_f M 22 (nI (ps_dg C k p d).2)) := by
  intro k
  induction k with
  | zero =>
    intro i d p M h hp hpn hi
    rw [p_MO_readNumeral_L75, if_pos (show (4 : Int32) ≤ nI i from nI_le (a := 4) (b := i) (by omega) (by omega)), ps_dg, ← hp, mo_f_self]
    simp
  | succ k ih =>
    intro i d p M h hp hpn hi
    rw [p_MO_readNumeral_L75, if_neg (show ¬ (4 : Int32) ≤ nI i from nI_ge (a := i) (b := 4) (by omega) (by omega)), pm_dig h hp hpn, ps_dg]
    by_cases hd : 48 ≤ C p ∧ C p ≤ 57
    · obtain ⟨h1, h2, h3⟩ := pm_lt h hp hpn (by omega)
      rw [if_pos hd, if_neg (by decide), if_pos hd, h3, lN_dig2 hd.1 h2, hp, nI_1, nI_1]
      rw [ih (i + 1) (d * 10 + (C p - 48)) (p + 1) (mo_f M 22 (nI (p + 1))) (h.f (by decide)) (mo_f_at _ _ _) (by omega) (by omega), mo_ff]
      have := ps_dg_ge C k (p + 1) (d * 10 + (C p - 48))
      rw [show i + 1 + ((ps_dg C k (p + 1) (d * 10 + (C p - 48))).2 - (p + 1)) = i + ((ps_dg C k (p + 1) (d * 10 + (C p - 48))).2 - p) by omega]
    · rw [if_neg hd, if_pos rfl, if_neg hd, ← hp, mo_f_self]
      simp
/-- the item x is added -/
def pm_add (M : mo_S) (w o t : Int32) (d : Int64) : mo_S := p_MO_add (mo_i (mo_i (mo_l M 6 (Int32.toNatClampNeg (3200 + (M.1 30))) d) 4 (Int32.toNatClampNeg (3200 + (M.1 30))) o) 5 (Int32.toNatClampNeg (3200 + (M.1 30))) t) w
def pm_num (M : mo_S) (b : Int32) (d : Int64) : mo_S := p_MO_add (mo_i (mo_l M 6 (Int32.toNatClampNeg (3200 + (M.1 30))) d) 4 (Int32.toNatClampNeg (3200 + (M.1 30))) b) 0
/-- what the numeral's end gives -/
theorem pm_num_end {M : mo_S} {C : Nat → Nat} {n : Nat} (h : pm_L M C n) {q : Nat} (b : Int32) (d : Int64) (hq : q ≤ n) : p_MO_digit ((p_MO_here (pm_num (mo_f M 22 (nI q)) b d)).1) = if 48 ≤ C q ∧ C q ≤ 57 then 1 else 0 := by
  refine pm_dig (p := q) ?_ ?_ hq
  · exact ((((h.f (by decide)).l).i (by decide) (by decide)).i (by decide) (by decide)).f (by decide)
  · exact mo_f_at M 22 (nI q)
theorem pm_num_fin {M : mo_S} {C : Nat → Nat} {n : Nat} (h : pm_L M C n) {q : Nat} {b : Int32} {d : Int64} (hq : q ≤ n) : (if (p_MO_digit ((p_MO_here (pm_num (mo_f M 22 (nI q)) b d)).1)) = 0 then ((1 : Int32), pm_num (mo_f M 22 (nI q)) b d) else (0, pm_num (mo_f M 22 (nI q)) b d)) = (if 48 ≤ C q ∧ C q ≤ 57 then 0 else 1, pm_num (mo_f M 22 (nI q)) b d) := by
  rw [pm_num_end h b d hq]
  by_cases hd : 48 ≤ C q ∧ C q ≤ 57
  · rw [if_pos hd, if_pos hd, if_neg (by decide)]
  · rw [if_neg hd, if_neg hd, if_pos rfl]
theorem pm_numeral {M : mo_S} {C : Nat → Nat} {n p : Nat} (h : pm_L M C n) (hp : M.1 22 = nI p) (hpn : p ≤ n) :
    ((ps_num C p).1 = none ∧ p_MO_readNumeral M = (0, mo_f M 22 (nI (ps_num C p).2)) ∧ (ps_num C p).2 ≤ n) ∨
    ∃ (b : Int32) (d : Int64), (ps_num C p).1 = some [(0, b, 0, d)] ∧ (ps_num C p).2 ≤ n ∧ p_MO_readNumeral M = (if 48 ≤ C (ps_num C p).2 ∧ C (ps_num C p).2 ≤ 57 then 0 else 1, pm_num (mo_f M 22 (nI (ps_num C p).2)) b d) := by
  obtain ⟨z4, e1⟩ := pm_dg1 (z3 := 0) 9 0 0 p M h hp hpn (by omega)
  have hq1 := ps_dg_in h.2.2.2.1 9 p 0 hpn
  have e0 : p_MO_readNumeral_L7 (10) 0 0 0 M = (lN (ps_dg C 9 p 0).1, z4, mo_f M 22 (nI (ps_dg C 9 p 0).2)) := e1
  have eM := p_MO_readNumeral.eq_1 M
  rw [e0] at eM
  dsimp only at eM
  have hh : (p_MO_here (mo_f M 22 (nI (ps_dg C 9 p 0).2))).1 = 46 ↔ C (ps_dg C 9 p 0).2 = 46 := pm_ci (c := 46) (h.f (by decide)) (mo_f_at _ _ _) hq1 (by omega) (by omega)
  by_cases hc : C (ps_dg C 9 p 0).2 = 46
  · rw [if_pos (hh.mpr hc)] at eM
    have ha : (ps_dg C 9 p 0).2 + 1 ≤ n := ps_lt_of h.2.2.2.1 (by rw [hc]; decide)
    have e2 : (mo_f (mo_f M 22 (nI (ps_dg C 9 p 0).2)) 22 ((mo_f M 22 (nI (ps_dg C 9 p 0).2)).1 22 + 1)) = mo_f M 22 (nI ((ps_dg C 9 p 0).2 + 1)) := by rw [mo_f_at, nI_1, mo_ff]
    rw [e2] at eM
    have e3 : p_MO_readNumeral_L75 (5) (lN (ps_dg C 9 p 0).1) 0 z4 (mo_f M 22 (nI ((ps_dg C 9 p 0).2 + 1))) = _ := pm_dg2 4 0 (ps_dg C 9 p 0).1 ((ps_dg C 9 p 0).2 + 1) _ (h.f (by decide)) (mo_f_at _ _ _) ha (by omega)
    rw [e3, mo_ff, Nat.zero_add] at eM
    dsimp only at eM
    have hge := ps_dg_ge C 4 ((ps_dg C 9 p 0).2 + 1) (ps_dg C 9 p 0).1
    have hle := ps_dg_le C 4 ((ps_dg C 9 p 0).2 + 1) (ps_dg C 9 p 0).1
    have hin := ps_dg_in h.2.2.2.1 4 ((ps_dg C 9 p 0).2 + 1) (ps_dg C 9 p 0).1 ha
    by_cases hz : (ps_dg C 4 ((ps_dg C 9 p 0).2 + 1) (ps_dg C 9 p 0).1).2 = (ps_dg C 9 p 0).2 + 1
    · have eP : ps_num C p = (none, (ps_dg C 9 p 0).2 + 1) := by unfold ps_num; rw [if_pos hc, if_pos hz]
      rw [hz, Nat.sub_self, if_pos (show nI 0 = 0 from rfl)] at eM
      rw [eP]
      exact Or.inl ⟨rfl, eM, ha⟩
    · have eP := ps_num.eq_1 C p
      rw [if_pos hc, if_neg hz] at eP
      rw [if_neg (fun z => hz (by
        have := (nI_eq (a := (ps_dg C 4 ((ps_dg C 9 p 0).2 + 1) (ps_dg C 9 p 0).1).2 - ((ps_dg C 9 p 0).2 + 1)) (b := 0) (by omega) (by decide)).mp z
        omega))] at eM
      rw [eP]
      exact Or.inr ⟨_, _, rfl, hin, eM.trans (pm_num_fin h hin)⟩
  · have eP := ps_num.eq_1 C p
    rw [if_neg hc] at eP
    rw [if_neg (fun z => hc (hh.mp z))] at eM
    rw [eP]
    exact Or.inr ⟨_, _, rfl, hq1, eM.trans (pm_num_fin h hq1)⟩
