/-! Pure: the reference works the sheet out. -/
def vM (M : mo_S) (z : Nat) : Vl := if M.2.1 18 z = 0 then some (M.2.2.2 17 z) else none
/-- what stays while VALUES are worked out -/
def wF (M M' : mo_S) : Prop := M'.1 = M.1 ∧ (∀ j q, j ≠ 18 → j ≠ 19 → j ≠ 21 → M'.2.1 j q = M.2.1 j q) ∧ M'.2.2.1 = M.2.2.1 ∧ ∀ j q, j ≠ 17 → j ≠ 20 → M'.2.2.2 j q = M.2.2.2 j q
theorem wF.rf (M : mo_S) : wF M M := ⟨rfl, fun _ _ _ _ _ => rfl, rfl, fun _ _ _ _ => rfl⟩
theorem wF.trans {M M1 M2 : mo_S} (a : wF M M1) (b : wF M1 M2) : wF M M2 := ⟨b.1.trans a.1, fun j q h1 h2 h3 => (b.2.1 j q h1 h2 h3).trans (a.2.1 j q h1 h2 h3), b.2.2.1.trans a.2.2.1, fun j q h1 h2 => (b.2.2.2 j q h1 h2).trans (a.2.2.2 j q h1 h2)⟩
theorem wF.l13 {M M' : mo_S} (a : wF M M') (i q : Nat) : m13 M' i q = m13 M i q := by
  unfold m13
  rw [a.2.2.1]
theorem wF.l15 {M M' : mo_S} (a : wF M M') (i q : Nat) : m15 M' i q = m15 M i q := by
  unfold m15
  rw [a.2.2.1]
theorem wF.toR {M M' : mo_S} {A : Shh} (a : wF M M') (h : mR M A) : mR M' A := by
  intro z hz
  obtain ⟨h1, h2, h3⟩ := h z hz
  refine ⟨fun e => by rw [a.2.1 0 z (by decide) (by decide) (by decide)]; exact h1 e, fun d e => by rw [a.2.1 0 z (by decide) (by decide) (by decide), a.2.2.2 2 z (by decide) (by decide)]; exact h2 d e, fun L e => ?_⟩
  obtain ⟨h4, h5, h6, h7⟩ := h3 L e
  refine ⟨by rw [a.2.1 0 z (by decide) (by decide) (by decide)]; exact h4, by rw [a.2.1 1 z (by decide) (by decide) (by decide)]; exact h5, h6, fun j y hj => ?_⟩
  have := h7 j y hj
  unfold ci at this ⊢
  rw [a.2.1 3 _ (by decide) (by decide) (by decide), a.2.1 4 _ (by decide) (by decide) (by decide), a.2.1 5 _ (by decide) (by decide) (by decide), a.2.2.1]
  exact this
/-- while it is worked out -/
def MI (A : Shh) (M : mo_S) : Prop := mR M A ∧ (∀ i q, i < 80 → q < 80 → m13 M i q = refA A (kap i) (kap q)) ∧ (∀ i q, i < 80 → q < 80 → m15 M i q = rea A (kap i) (kap q)) ∧ cvb M ∧ ∀ z, z < 80 → (M.2.1 19 z = 1 ∧ (A (kap z) ≠ none → vM M z = val A (kap z))) ∨ (M.2.1 19 z = 0 ∧ (∃ L, A (kap z) = some (.inr L)) ∧ rea A (kap z) (kap z) = false)
def rdy (M : mo_S) (z : Nat) : Prop := ∀ i, i < 80 → m13 M z i = true → M.2.1 19 i ≠ 0
theorem rd_L2 {M : mo_S} {z : Nat} (hz : z < 80) : ∀ (m k f : Nat), k + m = 80 → m < f → (p_MO_ready_L2 f (nI z) (nI k) M = .inl (0, M) ∧ ∃ i, i < 80 ∧ m13 M z i = true ∧ M.2.1 19 i = 0) ∨ (∃ y, p_MO_ready_L2 f (nI z) (nI k) M = .inr y) ∧ ∀ i, k ≤ i → i < 80 → m13 M z i = true → M.2.1 19 i ≠ 0 := by
  intro m
  induction m with
  | zero =>
    intro k f hk hf
    obtain ⟨f, rfl⟩ : ∃ q, f = q + 1 := ⟨f - 1, by omega⟩
    rw [p_MO_ready_L2, if_pos (show (80 : Int32) ≤ nI k from nI_le (a := 80) (by omega) (by omega))]
    exact Or.inr ⟨⟨_, rfl⟩, fun i h1 h2 => by omega⟩
  | succ m ih =>
    intro k f hk hf
    obtain ⟨f, rfl⟩ : ∃ q, f = q + 1 := ⟨f - 1, by omega⟩
    have hk8 : k < 80 := by omega
    rw [p_MO_ready_L2, if_neg (show ¬ (80 : Int32) ≤ nI k from nI_ge (b := 80) hk8 (by decide)), nI_clamp (n := z) (by omega), nI_clamp (n := k) (by omega), nI_1, mo_in hk8]
    have e : ms (M.2.2.1 13 z) (M.2.2.1 14 z) k = m13 M z k := rfl
    rw [e]
    by_cases hh : m13 M z k = true
    · rw [bi_1 hh, if_neg (show ¬ (1 : Int32) = 0 by decide)]
      by_cases h0 : M.2.1 19 k = 0
      · rw [if_pos h0]
        exact Or.inl ⟨rfl, k, hk8, hh, h0⟩
      · rw [if_neg h0]
        rcases ih (k + 1) f (by omega) (by omega) with h | ⟨h1, h2⟩
        · exact Or.inl h
        · refine Or.inr ⟨h1, fun i i1 i2 i3 => ?_⟩
          by_cases hik : i = k
          · rw [hik]; exact h0
          · exact h2 i (by omega) i2 i3
    · have hh' : m13 M z k = false := by simpa using hh
      rw [bi_0 hh', if_pos rfl]
      rcases ih (k + 1) f (by omega) (by omega) with h | ⟨h1, h2⟩
      · exact Or.inl h
      · refine Or.inr ⟨h1, fun i i1 i2 i3 => ?_⟩
        by_cases hik : i = k
        · rw [hik, hh'] at i3; cases i3
        · exact h2 i (by omega) i2 i3
theorem mo_ready {M : mo_S} {z : Nat} (hz : z < 80) : (p_MO_ready M (nI z) = (0, M) ∧ ¬ rdy M z) ∨ (p_MO_ready M (nI z) = (1, M) ∧ rdy M z) := by
  unfold p_MO_ready
  rcases rd_L2 (M := M) hz 80 0 81 (by omega) (by omega) with ⟨h1, i, h2, h3, h4⟩ | ⟨⟨y, h1⟩, h2⟩
  · rw [show p_MO_ready_L2 81 (nI z) 0 M = .inl (0, M) from h1]
    exact Or.inl ⟨rfl, fun z => z i h2 h3 h4⟩
  · rw [show p_MO_ready_L2 81 (nI z) 0 M = .inr y from h1]
    exact Or.inr ⟨rfl, fun i i1 i2 => h2 i (Nat.zero_le i) i1 i2⟩
def unS (M : mo_S) : Nat := (List.range 80).countP fun z => decide (M.2.1 19 z = 0)
theorem kap_at {c r : Nat} (hc : c < 8) (hr : r < 10) : kap (10 * c + r) = r * 8 + c := by
  unfold kap
  omega
theorem cvM_V {A : Shh} {M : mo_S} (h : MI A M) {z : Nat} {L : List It} (hs : shok A) (hz : z < 80) (hA : A (kap z) = some (.inr L)) (hr : rdy M z) : evs (cvM M) L [] = evs (cvV A (val A)) L [] := by
  obtain ⟨m1, m2, m3, m4, m5⟩ := h
  have hL := ((hs (kap z) (kap_lt hz)).2 L hA).1
  refine evs_congr L [] hL.1 fun c r hc => ?_
  obtain ⟨c8, r10⟩ := rcs_in hL.1 hc
  have hi : 10 * c + r < 80 := by omega
  have hk := kap_at c8 r10
  unfold cvM cvV
  rw [if_pos (show c < 8 ∧ r < 10 from ⟨c8, r10⟩), if_pos (show c < 8 ∧ r < 10 from ⟨c8, r10⟩), ← hk]
  have h13 : m13 M z (10 * c + r) = true := by
    rw [m2 z _ hz hi, refA_L hA (kap_lt hz) (kap_lt hi), rck_kap hi, show (10 * c + r) / 10 = c by omega, show (10 * c + r) % 10 = r by omega]
    exact hc
  have h19 : A (kap (10 * c + r)) ≠ none → vM M (10 * c + r) = val A (kap (10 * c + r)) := by
    rcases m5 _ hi with ⟨_, z2⟩ | ⟨z1, _⟩
    · exact z2
    · exact absurd z1 (hr _ hi h13)
  obtain ⟨a1, a2, a3⟩ := m1 _ hi
  match e : A (kap (10 * c + r)) with
  | none => rw [if_pos (a1 e)]; rfl
  | some (.inl d) =>
    rw [if_neg (by rw [(a2 d e).1]; decide)]
    show some (vM M (10 * c + r)) = some (val A (kap (10 * c + r)))
    rw [h19 (by rw [e]; exact fun z => by cases z)]
  | some (.inr L') =>
    rw [if_neg (by rw [(a3 L' e).1]; decide)]
    show some (vM M (10 * c + r)) = some (val A (kap (10 * c + r)))
    rw [h19 (by rw [e]; exact fun z => by cases z)]
theorem wk_one {A : Shh} {M : mo_S} (hs : shok A) (h : MI A M) {z : Nat} (hz : z < 80) (h0 : M.2.1 19 z = 0) (hr : rdy M z) : ∃ M1, q_MO_workFormula M (nI z) = some M1 ∧ MI A (mo_i M1 19 z 1) ∧ wF M (mo_i M1 19 z 1) ∧ unS (mo_i M1 19 z 1) < unS M := by
  have hI := h
  obtain ⟨m1, m2, m3, m4, m5⟩ := h
  obtain ⟨L, hL, hcf⟩ : ∃ L, A (kap z) = some (.inr L) ∧ rea A (kap z) (kap z) = false := by
    rcases m5 z hz with ⟨z1, _⟩ | ⟨_, ⟨L, hL⟩, z3⟩
    · rw [h0] at z1; exact absurd z1 (by decide)
    · exact ⟨L, hL, z3⟩
  have hfok := ((hs (kap z) (kap_lt hz)).2 L hL).1
  obtain ⟨M1, v, w1, w2, w3, w4, w5, w6, w7⟩ := mo_workFormula hz hfok ((m1 z hz).2.2 L hL).2 m4
  have hv : v = val A (kap z) := by
    rw [val_eq hs (kap_lt hz) hL hcf, ← cvM_V hI hs hz hL hr, w2]
    rfl
  have i1 : ∀ j q, (mo_i M1 19 z 1).2.1 j q = if j = 19 ∧ q = z then 1 else M1.2.1 j q := fun j q => mo_i_at M1 19 z j q 1
  have fF : wF M (mo_i M1 19 z 1) := by
    refine ⟨w3, fun j q h1 h2 h3 => ?_, w5, fun j q h1 h2 => w6 j q h2 (by omega)⟩
    rw [i1, if_neg (by omega)]
    exact w4 j q h3 (by omega)
  have o17 : ∀ q, q ≠ z → (mo_i M1 19 z 1).2.2.2 17 q = M.2.2.2 17 q := fun q hq => w6 17 q (by decide) (by omega)
  have o18 : ∀ q, q ≠ z → (mo_i M1 19 z 1).2.1 18 q = M.2.1 18 q := fun q hq => by
    rw [i1, if_neg (by omega)]
    exact w4 18 q (by decide) (by omega)
  have o19 : ∀ q, q ≠ z → (mo_i M1 19 z 1).2.1 19 q = M.2.1 19 q := fun q hq => by
    rw [i1, if_neg (by omega)]
    exact w4 19 q (by decide) (by omega)
  have n19 : (mo_i M1 19 z 1).2.1 19 z = 1 := by rw [i1, if_pos ⟨rfl, rfl⟩]
  have n18 : (mo_i M1 19 z 1).2.1 18 z = M1.2.1 18 z := by rw [i1, if_neg (by omega)]
  refine ⟨M1, w1, ⟨fF.toR m1, fun i q h1 h2 => by rw [fF.l13]; exact m2 i q h1 h2, fun i q h1 h2 => by rw [fF.l15]; exact m3 i q h1 h2, ⟨fun k hk => ?_, fun k hk => ?_, fun k hk => ?_⟩, fun q hq => ?_⟩, fF, ?_⟩
  · by_cases hkz : k = z
    · rw [hkz]
      show nb (M1.2.2.2 17 z)
      rcases w7 with ⟨d, _, e, _, hd⟩ | ⟨_, e, _⟩
      · rw [e]; exact hd
      · rw [e]; exact nb_0
    · rw [o17 k hkz]; exact m4.1 k hk
  · rw [fF.2.1 0 k (by decide) (by decide) (by decide)]
    exact m4.2.1 k hk
  · by_cases hkz : k = z
    · rw [hkz, n18]
      show _ ∨ (_ ∧ M1.2.2.2 17 z = _)
      rcases w7 with ⟨d, _, _, e, _⟩ | ⟨_, e, e'⟩
      · exact Or.inl e
      · exact Or.inr ⟨e', e⟩
    · rw [o17 k hkz, o18 k hkz]; exact m4.2.2 k hk
  · by_cases hqz : q = z
    · rw [hqz]
      refine Or.inl ⟨n19, fun _ => ?_⟩
      unfold vM
      rw [n18]
      show (if M1.2.1 18 z = 0 then some (M1.2.2.2 17 z) else none) = _
      rw [← hv]
      rcases w7 with ⟨d, e1, e2, e3, _⟩ | ⟨e1, e2, e3⟩
      · rw [if_pos e3, e1, e2]
      · rw [if_neg (by rw [e3]; decide), e1]
    · rw [o19 q hqz]
      have e : vM (mo_i M1 19 z 1) q = vM M q := by
        unfold vM
        rw [o18 q hqz, o17 q hqz]
      rw [e]
      exact m5 q hq
  · unfold unS
    refine countP_lt (x := z) _ (fun i hi hp => ?_) (List.mem_range.mpr hz) (by rw [decide_eq_true_eq]; exact h0) (by rw [decide_eq_false_iff_not, n19]; decide)
    rw [decide_eq_true_eq] at hp ⊢
    by_cases hiz : i = z
    · rw [hiz]; exact h0
    · rw [o19 i hiz] at hp; exact hp
theorem wk_L126 {A : Shh} (hs : shok A) : ∀ (m z f : Nat) (fl : Int32) (M : mo_S), z + m = 80 → m < f → MI A M → ∃ fl' M', q_MO_work_L126 f fl (nI z) M = some (fl', M') ∧ MI A M' ∧ wF M M' ∧ ((fl' = fl ∧ M' = M ∧ ∀ i, z ≤ i → i < 80 → M.2.1 19 i = 0 → ¬ rdy M i) ∨ (fl' = 1 ∧ unS M' < unS M)) := by
  intro m
  induction m with
  | zero =>
    intro z f fl M hz hf hI
    obtain ⟨f, rfl⟩ : ∃ q, f = q + 1 := ⟨f - 1, by omega⟩
    rw [q_MO_work_L126, if_pos (show (80 : Int32) ≤ nI z from nI_le (a := 80) (by omega) (by omega))]
    exact ⟨fl, M, rfl, hI, wF.rf M, Or.inl ⟨rfl, rfl, fun i h1 h2 => by omega⟩⟩
  | succ m ih =>
    intro z f fl M hz hf hI
    obtain ⟨f, rfl⟩ : ∃ q, f = q + 1 := ⟨f - 1, by omega⟩
    have hz8 : z < 80 := by omega
    have zin : vp_in (nI z) 80 := nI_in hz8 (by omega)
    have zok : (0 ≤ (nI z).toInt) ∧ ((nI z).toInt < 80) := by
      rw [nI_toInt (by omega)]
      omega
    rw [q_MO_work_L126, if_neg (show ¬ (80 : Int32) ≤ nI z from nI_ge (b := 80) hz8 (by decide)), fs_okp_pos zin, nI_clamp (n := z) (by omega), nI_1]
    by_cases h0 : M.2.1 19 z = 0
    · rw [if_pos h0, fs_okp_pos zok]
      unfold fs_let
      rcases mo_ready (M := M) hz8 with ⟨r1, r2⟩ | ⟨r1, r2⟩
      · rw [r1]
        try dsimp only
        rw [if_pos rfl]
        obtain ⟨fl', M', e1, e2, e3, e4⟩ := ih (z + 1) f fl M (by omega) (by omega) hI
        refine ⟨fl', M', e1, e2, e3, ?_⟩
        rcases e4 with ⟨k1, k2, k3⟩ | k
        · refine Or.inl ⟨k1, k2, fun i i1 i2 i3 => ?_⟩
          by_cases hiz : i = z
          · rw [hiz]; exact r2
          · exact k3 i (by omega) i2 i3
        · exact Or.inr k
      · rw [r1]
        try dsimp only
        rw [if_neg (show ¬ (1 : Int32) = 0 by decide)]
        obtain ⟨M1, w1, w2, w3, w4⟩ := wk_one hs hI hz8 h0 r2
        rw [w1, Option.bind_some]
        try dsimp only
        rw [fs_okp_pos zin, nar_1]
        obtain ⟨fl', M', e1, e2, e3, e4⟩ := ih (z + 1) f 1 (mo_i M1 19 z 1) (by omega) (by omega) w2
        refine ⟨fl', M', e1, e2, w3.trans e3, Or.inr ?_⟩
        rcases e4 with ⟨k1, k2, _⟩ | ⟨k1, k2⟩
        · exact ⟨k1, by rw [k2]; exact w4⟩
        · exact ⟨k1, by omega⟩
    · rw [if_neg h0]
      obtain ⟨fl', M', e1, e2, e3, e4⟩ := ih (z + 1) f fl M (by omega) (by omega) hI
      refine ⟨fl', M', e1, e2, e3, ?_⟩
      rcases e4 with ⟨k1, k2, k3⟩ | k
      · refine Or.inl ⟨k1, k2, fun i i1 i2 i3 => ?_⟩
        by_cases hiz : i = z
        · rw [hiz] at i3; exact absurd i3 h0
        · exact k3 i (by omega) i2 i3
      · exact Or.inr k
theorem all_done {A : Shh} {M : mo_S} (h : MI A M) (hn : ∀ i, i < 80 → M.2.1 19 i = 0 → ¬ rdy M i) : ∀ (n z : Nat), z < 80 → keyA A (kap z) < n → M.2.1 19 z = 1 := by
  obtain ⟨m1, m2, m3, m4, m5⟩ := h
  intro n
  induction n with
  | zero => intro z _ h; omega
  | succ n ih =>
    intro z hz hk
    rcases m5 z hz with ⟨z1, _⟩ | ⟨z1, _⟩
    · exact z1
    · refine absurd (fun i hi h13 h19 => ?_) (hn z hz z1)
      rw [m2 z i hz hi] at h13
      have hrea := rea_up h13
      have hcf : rea A (kap i) (kap i) = false := by
        rcases m5 i hi with ⟨w1, _⟩ | ⟨_, _, w3⟩
        · rw [h19] at w1; exact absurd w1 (by decide)
        · exact w3
      have hlt := rea_cnt hrea hcf
      unfold keyA at hk
      have := ih i hi (by unfold keyA; omega)
      rw [h19] at this
      exact absurd this (by decide)
/-- the reference has worked the sheet out -/
def stM (A : Shh) (M : mo_S) : Prop := (∀ i q, i < 80 → q < 80 → m13 M i q = refA A (kap i) (kap q)) ∧ (∀ i q, i < 80 → q < 80 → m15 M i q = rea A (kap i) (kap q)) ∧ ∀ z, z < 80 → A (kap z) ≠ none → vM M z = val A (kap z)
theorem wk_L118 {A : Shh} (hs : shok A) : ∀ (n : Nat) (M : mo_S), MI A M → unS M + 2 ≤ n → ∃ M', q_MO_work_L118 n 1 M = some M' ∧ MI A M' ∧ wF M M' ∧ stM A M' := by
  intro n
  induction n with
  | zero => intro M _ h; omega
  | succ n ih =>
    intro M hI hn
    rw [q_MO_work_L118, if_neg (show ¬ (1 : Int32) = 0 by decide)]
    obtain ⟨fl', M', e1, e2, e3, e4⟩ := wk_L126 hs 80 0 81 0 M (by omega) (by omega) hI
    rw [show q_MO_work_L126 81 0 0 M = some (fl', M') from e1, Option.bind_some]
    try dsimp only
    rcases e4 with ⟨k1, k2, k3⟩ | ⟨k1, k2⟩
    · subst k2
      obtain ⟨n, rfl⟩ : ∃ q, n = q + 1 := ⟨n - 1, by omega⟩
      rw [q_MO_work_L118, k1, if_pos rfl]
      refine ⟨M', rfl, hI, wF.rf _, hI.2.1, hI.2.2.1, fun z hz hA => ?_⟩
      have h19 := all_done hI (fun i i1 i2 => k3 i (Nat.zero_le i) i1 i2) (keyA A (kap z) + 1) z hz (Nat.lt_succ_self _)
      rcases hI.2.2.2.2 z hz with ⟨_, w2⟩ | ⟨w1, _⟩
      · exact w2 hA
      · rw [w1] at h19; exact absurd h19 (by decide)
    · rw [k1]
      obtain ⟨M2, f1, f2, f3, f4⟩ := ih M' e2 (by omega)
      exact ⟨M2, f1, f2, e3.trans f3, f4⟩
