/-! Pure: the reference's counts. -/
theorem perm_sum {l1 l2 : List Nat} (h : l1.Perm l2) : l1.sum = l2.sum := by
  induction h with
  | nil => rfl
  | cons x _ ih => rw [List.sum_cons, List.sum_cons, ih]
  | swap x y l =>
    rw [List.sum_cons, List.sum_cons, List.sum_cons, List.sum_cons]
    omega
  | trans _ _ h1 h2 => exact h1.trans h2
theorem smr_sum (g : Nat → Nat) : ∀ m a, smr g m a = ((List.range m).map fun i => g (a + i)).sum := by
  intro m
  induction m with
  | zero => intro a; rfl
  | succ m ih =>
    intro a
    rw [smr, ih (a + 1), List.range_succ_eq_map, List.map_cons, List.sum_cons, List.map_map]
    have e : ((fun i => g (a + i)) ∘ Nat.succ) = fun i => g (a + 1 + i) := by
      funext i
      show g (a + (i + 1)) = g (a + 1 + i)
      rw [Nat.add_right_comm, ← Nat.add_assoc]
    rw [e]
    rfl
theorem smr_kap (g : Nat → Nat) : smr (fun z => g (kap z)) 80 0 = smr g 80 0 := by
  rw [smr_sum, smr_sum]
  have e1 : ((List.range 80).map fun i => g (kap (0 + i))) = ((List.range 80).map kap).map g := by
    rw [List.map_map]
    congr 1
    funext i
    rw [Nat.zero_add]
    rfl
  have e2 : ((List.range 80).map fun i => g (0 + i)) = (List.range 80).map g := by
    congr 1
    funext i
    rw [Nat.zero_add]
  rw [e1, e2]
  exact perm_sum (kap_perm.map g)
theorem smr_cfr (p : Nat → Bool) : ∀ m a, smr (fun z => if p z = true then 1 else 0) m a = cfr p m a := by
  intro m
  induction m with
  | zero => intro a; rfl
  | succ m ih =>
    intro a
    rw [smr, cfr, ih]
theorem kd1 (A : Shh) (k : Nat) : decide (0 < kdA A k) = (A k).isSome := by
  unfold kdA
  match e : A k with
  | none =>
    show decide ((0 : Int32) < 0) = false
    decide
  | some (.inl d) =>
    show decide ((0 : Int32) < 1) = true
    decide
  | some (.inr L) =>
    show decide ((0 : Int32) < if rea A k k = true then 4 else if val A k = none then 3 else 2) = true
    split
    · decide
    · split <;> decide
theorem kd2 (A : Shh) (k : Nat) : decide (1 < kdA A k) = (fmo (A k)).isSome := by
  unfold kdA
  match e : A k with
  | none =>
    show decide ((1 : Int32) < 0) = false
    decide
  | some (.inl d) =>
    show decide ((1 : Int32) < 1) = false
    decide
  | some (.inr L) =>
    show decide ((1 : Int32) < if rea A k k = true then 4 else if val A k = none then 3 else 2) = true
    split
    · decide
    · split <;> decide
theorem kd3 (A : Shh) (k : Nat) : decide (kdA A k = 4) = rea A k k := by
  unfold kdA
  cases er : rea A k k with
  | true =>
    obtain ⟨L, e⟩ := rea_f er
    rw [e]
    show decide ((if true = true then (4 : Int32) else if val A k = none then 3 else 2) = 4) = true
    rw [if_pos rfl]
    decide
  | false =>
    match e : A k with
    | none =>
      show decide ((0 : Int32) = 4) = false
      decide
    | some (.inl d) =>
      show decide ((1 : Int32) = 4) = false
      decide
    | some (.inr L) =>
      show decide ((if false = true then (4 : Int32) else if val A k = none then 3 else 2) = 4) = false
      rw [if_neg (by decide)]
      split <;> decide
theorem kd4 (A : Shh) (k : Nat) : decide (2 < kdA A k) = isB A k := by
  unfold kdA isB
  match e : A k with
  | none =>
    show decide ((2 : Int32) < 0) = false
    decide
  | some (.inl d) =>
    rw [val_num e]
    show decide ((2 : Int32) < 1) = false
    decide
  | some (.inr L) =>
    show decide ((2 : Int32) < if rea A k k = true then 4 else if val A k = none then 3 else 2) = (val A k).isNone
    by_cases er : rea A k k = true
    · rw [if_pos er, val_circ er]
      decide
    · rw [if_neg er]
      cases hv : val A k with
      | none =>
        rw [if_pos rfl]
        decide
      | some d =>
        rw [if_neg (fun w => by cases w)]
        show decide ((2 : Int32) < 2) = false
        decide
section
variable {M M' : mo_S} {A A' : Shh} {f f' : Nat → Int32} {n n' : Nat} {er : Int32}
theorem ct_L33 {y : Int32} {w : Nat → Nat} (step : ∀ z acc g, z < 80 → q_MO_count_L33 (g + 1) y (nI acc) (nI z) M = q_MO_count_L33 g y (nI (acc + w z)) (nI (z + 1)) M) : ∀ (m z acc g : Nat), z + m = 80 → m < g → q_MO_count_L33 g y (nI acc) (nI z) M = some (nI (acc + smr w m z), M) := by
  intro m
  induction m with
  | zero =>
    intro z acc g hz hg
    obtain ⟨g, rfl⟩ : ∃ p, g = p + 1 := ⟨g - 1, by omega⟩
    rw [q_MO_count_L33, if_pos (show (80 : Int32) ≤ nI z from nI_le (a := 80) (by omega) (by omega))]
    rfl
  | succ m ih =>
    intro z acc g hz hg
    obtain ⟨g, rfl⟩ : ∃ p, g = p + 1 := ⟨g - 1, by omega⟩
    rw [step z acc g (by omega), ih (z + 1) (acc + w z) g (by omega) (by omega), smr, Nat.add_assoc]
theorem ct_go {y kd : Int32} {z : Nat} {acc : Int32} {g : Nat} (hz : z < 80) (hk : p_MO_kindOf M (nI z) = (kd, M)) : q_MO_count_L33 (g + 1) y acc (nI z) M = (if y = 1 then (if 0 < kd then q_MO_count_L33_J89 (q_MO_count_L33 g) y acc (nI z) M else q_MO_count_L33_J56 (q_MO_count_L33 g) y acc (nI z) kd M) else q_MO_count_L33_J56 (q_MO_count_L33 g) y acc (nI z) kd M) := by
  rw [q_MO_count_L33, if_neg (show ¬ (80 : Int32) ≤ nI z from nI_ge (b := 80) hz (by decide)), fs_okp_pos (show (0 ≤ (Int32.toInt (nI z))) ∧ ((Int32.toInt (nI z)) < 80) from ⟨by rw [nI_toInt (by omega)]; omega, by rw [nI_toInt (by omega)]; omega⟩), hk]
theorem ct_92 {self : Int32 → Int32 → Int32 → mo_S → Option (Int32 × mo_S)} {y acc : Int32} {z : Nat} (hy : ¬ y = 5) : q_MO_count_L33_J92 self y acc (nI z) M = self y acc (nI (z + 1)) M := by
  unfold q_MO_count_L33_J92
  rw [if_neg hy, nI_1]
theorem ct_89 {self : Int32 → Int32 → Int32 → mo_S → Option (Int32 × mo_S)} {y : Int32} {acc z : Nat} (hy : ¬ y = 5) : q_MO_count_L33_J89 self y (nI acc) (nI z) M = self y (nI (acc + 1)) (nI (z + 1)) M := by
  unfold q_MO_count_L33_J89
  rw [ct_92 hy, nI_1]
theorem ct_1 {kd : Int32} {z acc g : Nat} (hz : z < 80) (hk : p_MO_kindOf M (nI z) = (kd, M)) : q_MO_count_L33 (g + 1) 1 (nI acc) (nI z) M = q_MO_count_L33 g 1 (nI (acc + if decide (0 < kd) = true then 1 else 0)) (nI (z + 1)) M := by
  rw [ct_go hz hk, if_pos rfl]
  by_cases h : 0 < kd
  · rw [if_pos h, if_pos (decide_eq_true h), ct_89 (by decide)]
  · rw [if_neg h, if_neg (fun z => h (of_decide_eq_true z)), Nat.add_zero]
    unfold q_MO_count_L33_J56 q_MO_count_L33_J67 q_MO_count_L33_J78
    rw [if_neg (by decide), if_neg (by decide), if_neg (by decide), ct_92 (by decide)]
theorem ct_2 {kd : Int32} {z acc g : Nat} (hz : z < 80) (hk : p_MO_kindOf M (nI z) = (kd, M)) : q_MO_count_L33 (g + 1) 2 (nI acc) (nI z) M = q_MO_count_L33 g 2 (nI (acc + if decide (1 < kd) = true then 1 else 0)) (nI (z + 1)) M := by
  rw [ct_go hz hk, if_neg (by decide)]
  unfold q_MO_count_L33_J56
  rw [if_pos rfl]
  by_cases h : 1 < kd
  · rw [if_pos h, if_pos (decide_eq_true h), ct_89 (by decide)]
  · rw [if_neg h, if_neg (fun z => h (of_decide_eq_true z)), Nat.add_zero]
    unfold q_MO_count_L33_J67 q_MO_count_L33_J78
    rw [if_neg (by decide), if_neg (by decide), ct_92 (by decide)]
theorem ct_3 {kd : Int32} {z acc g : Nat} (hz : z < 80) (hk : p_MO_kindOf M (nI z) = (kd, M)) : q_MO_count_L33 (g + 1) 3 (nI acc) (nI z) M = q_MO_count_L33 g 3 (nI (acc + if decide (kd = 4) = true then 1 else 0)) (nI (z + 1)) M := by
  rw [ct_go hz hk, if_neg (by decide)]
  unfold q_MO_count_L33_J56 q_MO_count_L33_J67
  rw [if_neg (by decide), if_pos rfl]
  by_cases h : kd = 4
  · rw [if_pos h, if_pos (decide_eq_true h), ct_89 (by decide)]
  · rw [if_neg h, if_neg (fun z => h (of_decide_eq_true z)), Nat.add_zero]
    unfold q_MO_count_L33_J78
    rw [if_neg (by decide), ct_92 (by decide)]
theorem ct_4 {kd : Int32} {z acc g : Nat} (hz : z < 80) (hk : p_MO_kindOf M (nI z) = (kd, M)) : q_MO_count_L33 (g + 1) 4 (nI acc) (nI z) M = q_MO_count_L33 g 4 (nI (acc + if decide (2 < kd) = true then 1 else 0)) (nI (z + 1)) M := by
  rw [ct_go hz hk, if_neg (by decide)]
  unfold q_MO_count_L33_J56 q_MO_count_L33_J67 q_MO_count_L33_J78
  rw [if_neg (by decide), if_neg (by decide), if_pos rfl]
  have e : (kd ≤ 2) ↔ ¬ (2 < kd) := by
    rw [Int32.le_iff_toInt_le, Int32.lt_iff_toInt_lt]
    omega
  by_cases h : 2 < kd
  · rw [if_neg (fun z => e.mp z h), if_pos (decide_eq_true h), ct_89 (by decide)]
  · rw [if_pos (e.mpr h), if_neg (fun z => h (of_decide_eq_true z)), Nat.add_zero, ct_92 (by decide)]
theorem ct_5 {kd : Int32} {z acc g l : Nat} (hz : z < 80) (hk : p_MO_kindOf M (nI z) = (kd, M)) (hsz : mo_sz M) (hl : (p_MO_lostNow M (nI z)).1 = nI l) : q_MO_count_L33 (g + 1) 5 (nI acc) (nI z) M = q_MO_count_L33 g 5 (nI (acc + l)) (nI (z + 1)) M := by
  rw [ct_go hz hk, if_neg (by decide)]
  unfold q_MO_count_L33_J56 q_MO_count_L33_J67 q_MO_count_L33_J78 q_MO_count_L33_J92
  rw [if_neg (by decide), if_neg (by decide), if_neg (by decide), if_pos rfl, fs_okp_pos (show (0 ≤ (Int32.toInt (nI z))) ∧ ((Int32.toInt (nI z)) < 80) ∧ (0 ≤ (Int32.toInt (M.2.1 1 (Int32.toNatClampNeg (nI z))))) ∧ ((Int32.toInt (M.2.1 1 (Int32.toNatClampNeg (nI z)))) ≤ 40) from ⟨by rw [nI_toInt (by omega)]; omega, by rw [nI_toInt (by omega)]; omega, (hsz _).1, (hsz _).2⟩), hl, nI_add, nI_1]
theorem cnt_sm {p q : Nat → Bool} (h : ∀ k, p k = q k) : smr (fun z => if p (kap z) = true then 1 else 0) 80 0 = cnt q := by
  rw [smr_cfr, cfr_80]
  have e : cnt (fun z => p (kap z)) = (List.range 80).countP (fun z => p (kap z)) := rfl
  rw [e, cnt_kap]
  exact cnt_eq fun i _ => h i
theorem mq_count (q : MoQ M A f n er) (hs : shok A) (y : Int32) : ∃ r, q_MO_count M y = some r ∧ MoQ r.2 A f n er ∧ r.1 = ctA A n y := by
  unfold q_MO_count ctA
  by_cases h0 : y = 0
  · rw [if_pos h0, if_pos h0]
    exact ⟨_, rfl, q.f11 0, q.2.2.2.2.2.2.1⟩
  rw [if_neg h0, if_neg h0]
  by_cases hneg : y < 0
  · rw [if_pos hneg]
    refine ⟨_, rfl, q.f11 0, ?_⟩
    have e : ∀ c : Int32, ¬ c < 0 → ¬ y = c := fun c hc z => hc (z ▸ hneg)
    rw [if_neg (e 1 (by decide)), if_neg (e 2 (by decide)), if_neg (e 3 (by decide)), if_neg (e 4 (by decide)), if_neg (e 5 (by decide))]
  rw [if_neg hneg]
  by_cases h5 : y ≤ 5
  · rw [if_pos h5]
    obtain ⟨M1, w1, w2, w3, w4⟩ := mq_work hs (q.f11 0)
    have hkd : ∀ z, z < 80 → p_MO_kindOf M1 (nI z) = (kdA A (kap z), M1) := fun z hz => mo_kind w2.1 w3 hz
    rw [w1, Option.bind_some]
    obtain ⟨j, hj, rfl⟩ := nI_of2 (M := 5) (n := 5) (by decide) hneg h5
    rcases (show j = 0 ∨ j = 1 ∨ j = 2 ∨ j = 3 ∨ j = 4 ∨ j = 5 by omega) with rfl | rfl | rfl | rfl | rfl | rfl
    · exact absurd rfl h0
    · have lp := ct_L33 (M := M1) (y := 1) (w := fun z => if decide (0 < kdA A (kap z)) = true then 1 else 0) (fun z acc g hz => ct_1 hz (hkd z hz)) 80 0 0 81 (by omega) (by omega)
      rw [Nat.zero_add, cnt_sm (kd1 A)] at lp
      have lp' : q_MO_count_L33 81 (nI 1) 0 0 M1 = some (nI (cnt (fun k => (A k).isSome)), M1) := lp
      rw [lp', Option.bind_some]
      exact ⟨_, rfl, w2, by rw [if_pos (show nI 1 = 1 from rfl)]⟩
    · have lp := ct_L33 (M := M1) (y := 2) (w := fun z => if decide (1 < kdA A (kap z)) = true then 1 else 0) (fun z acc g hz => ct_2 hz (hkd z hz)) 80 0 0 81 (by omega) (by omega)
      rw [Nat.zero_add, cnt_sm (kd2 A)] at lp
      have lp' : q_MO_count_L33 81 (nI 2) 0 0 M1 = some (nI (cnt (fun k => (fmo (A k)).isSome)), M1) := lp
      rw [lp', Option.bind_some]
      exact ⟨_, rfl, w2, by rw [if_neg (show ¬ nI 2 = 1 by decide), if_pos (show nI 2 = 2 from rfl)]⟩
    · have lp := ct_L33 (M := M1) (y := 3) (w := fun z => if decide (kdA A (kap z) = 4) = true then 1 else 0) (fun z acc g hz => ct_3 hz (hkd z hz)) 80 0 0 81 (by omega) (by omega)
      rw [Nat.zero_add, cnt_sm (p := fun k => decide (kdA A k = 4)) (kd3 A)] at lp
      have lp' : q_MO_count_L33 81 (nI 3) 0 0 M1 = some (nI (cnt (fun k => rea A k k)), M1) := lp
      rw [lp', Option.bind_some]
      exact ⟨_, rfl, w2, by rw [if_neg (show ¬ nI 3 = 1 by decide), if_neg (show ¬ nI 3 = 2 by decide), if_pos (show nI 3 = 3 from rfl)]⟩
    · have lp := ct_L33 (M := M1) (y := 4) (w := fun z => if decide (2 < kdA A (kap z)) = true then 1 else 0) (fun z acc g hz => ct_4 hz (hkd z hz)) 80 0 0 81 (by omega) (by omega)
      rw [Nat.zero_add, cnt_sm (kd4 A)] at lp
      have lp' : q_MO_count_L33 81 (nI 4) 0 0 M1 = some (nI (cnt (isB A)), M1) := lp
      rw [lp', Option.bind_some]
      exact ⟨_, rfl, w2, by rw [if_neg (show ¬ nI 4 = 1 by decide), if_neg (show ¬ nI 4 = 2 by decide), if_neg (show ¬ nI 4 = 3 by decide), if_pos (show nI 4 = 4 from rfl)]⟩
    · have lp := ct_L33 (M := M1) (y := 5) (w := fun z => lsC (A (kap z))) (fun z acc g hz => ct_5 hz (hkd z hz) w2.2.2.1 (mo_lostNow hz (w2.1.c hz) fun L hL => ((hs _ (kap_lt hz)).2 L hL).1)) 80 0 0 81 (by omega) (by omega)
      rw [Nat.zero_add, smr_kap (fun k => lsC (A k))] at lp
      have lp' : q_MO_count_L33 81 (nI 5) 0 0 M1 = some (nI (smr (fun k => lsC (A k)) 80 0), M1) := lp
      rw [lp', Option.bind_some]
      exact ⟨_, rfl, w2, by rw [if_neg (show ¬ nI 5 = 1 by decide), if_neg (show ¬ nI 5 = 2 by decide), if_neg (show ¬ nI 5 = 3 by decide), if_neg (show ¬ nI 5 = 4 by decide), if_pos (show nI 5 = 5 from rfl)]⟩
  · rw [if_neg h5]
    refine ⟨_, rfl, q.f11 0, ?_⟩
    have e : ∀ c : Int32, c ≤ 5 → ¬ y = c := fun c hc z => h5 (z ▸ hc)
    rw [if_neg (e 1 (by decide)), if_neg (e 2 (by decide)), if_neg (e 3 (by decide)), if_neg (e 4 (by decide)), if_neg (e 5 (by decide))]
end
