/-! Pure: the reference finds what is reached. -/
/-- what the reference's arrays say of the cells -/
def mR (M : mo_S) (A : Shh) : Prop := ∀ z, z < 80 → (A (kap z) = none → M.2.1 0 z = 0) ∧ (∀ d, A (kap z) = some (.inl d) → M.2.1 0 z = 1 ∧ M.2.2.2 2 z = d) ∧ ∀ L, A (kap z) = some (.inr L) → M.2.1 0 z = 2 ∧ cif M z L
/-- only the sets' longs change -/
def lF (M M' : mo_S) : Prop := M'.1 = M.1 ∧ M'.2.1 = M.2.1 ∧ M'.2.2.2 = M.2.2.2 ∧ ∀ j q, ¬ (13 ≤ j ∧ j ≤ 16) → M'.2.2.1 j q = M.2.2.1 j q
theorem lF.rf (M : mo_S) : lF M M := ⟨rfl, rfl, rfl, fun _ _ _ => rfl⟩
theorem lF.trans {M M1 M2 : mo_S} (a : lF M M1) (b : lF M1 M2) : lF M M2 := ⟨b.1.trans a.1, b.2.1.trans a.2.1, b.2.2.1.trans a.2.2.1, fun j q h => (b.2.2.2 j q h).trans (a.2.2.2 j q h)⟩
theorem lf.F {z : Nat} {M M' : mo_S} (a : lf 13 14 z M M') : lF M M' := ⟨a.1, a.2.1, a.2.2.1, fun j q h => a.2.2.2 j q (by omega)⟩
theorem lF_l {M : mo_S} {j k : Nat} {x : Int64} (h : 13 ≤ j ∧ j ≤ 16) : lF M (mo_l M j k x) := ⟨rfl, rfl, rfl, fun i q hi => by rw [mo_l_at, if_neg (by omega)]⟩
theorem cif.byF {M M' : mo_S} {z : Nat} {L : List It} (a : lF M M') (h : cif M z L) : cif M' z L := by
  obtain ⟨h1, h2, h3⟩ := h
  refine ⟨by rw [a.2.1]; exact h1, h2, fun j y hj => ?_⟩
  have := h3 j y hj
  unfold ci at this ⊢
  rw [a.2.1, a.2.2.2 6 _ (by decide)]
  exact this
theorem mR.byF {M M' : mo_S} {A : Shh} (h : mR M A) (a : lF M M') : mR M' A := by
  intro z hz
  obtain ⟨h1, h2, h3⟩ := h z hz
  refine ⟨fun e => by rw [a.2.1]; exact h1 e, fun d e => by rw [a.2.1, a.2.2.1]; exact h2 d e, fun L e => ?_⟩
  obtain ⟨h4, h5⟩ := h3 L e
  exact ⟨by rw [a.2.1]; exact h4, h5.byF a⟩
def RM (A : Shh) (z q : Nat) : Bool := decide (z < 80 ∧ q < 80) && refA A (kap z) (kap q)
theorem RM_in (A : Shh) : inS (RM A) := by
  intro i j h
  unfold RM at h
  rw [Bool.and_eq_true, decide_eq_true_eq] at h
  exact h.1
theorem RM_eq {A : Shh} {z q : Nat} (hz : z < 80) (hq : q < 80) : RM A z q = refA A (kap z) (kap q) := by
  unfold RM
  rw [show decide (z < 80 ∧ q < 80) = true by rw [decide_eq_true_eq]; exact ⟨hz, hq⟩, Bool.true_and]
theorem rck_kap {L : List It} {q : Nat} (hq : q < 80) : rck L (kap q) = rcs L (q / 10) (q % 10) := by
  unfold rck kap
  rw [show (8 * (q % 10) + q / 10) % 8 = q / 10 by omega, show (8 * (q % 10) + q / 10) / 8 = q % 10 by omega]
theorem mf_L2 {A : Shh} (hs : shok A) : ∀ (m z f : Nat) (M : mo_S), z + m = 80 → m < f → mR M A → (∀ i q, i < z → q < 80 → m13 M i q = RM A i q ∧ m15 M i q = RM A i q) → ∃ y M', p_MO_findReferences_L2 f (nI z) M = (y, M') ∧ lF M M' ∧ ∀ i q, i < 80 → q < 80 → m13 M' i q = RM A i q ∧ m15 M' i q = RM A i q := by
  intro m
  induction m with
  | zero =>
    intro z f M hz hf hR hi
    obtain ⟨f, rfl⟩ : ∃ q, f = q + 1 := ⟨f - 1, by omega⟩
    rw [p_MO_findReferences_L2, if_pos (show (80 : Int32) ≤ nI z from nI_le (a := 80) (by omega) (by omega))]
    exact ⟨_, _, rfl, lF.rf M, fun i q h1 h2 => hi i q (by omega) h2⟩
  | succ m ih =>
    intro z f M hz hf hR hi
    obtain ⟨f, rfl⟩ : ∃ q, f = q + 1 := ⟨f - 1, by omega⟩
    have hz8 : z < 80 := by omega
    rw [p_MO_findReferences_L2, if_neg (show ¬ (80 : Int32) ≤ nI z from nI_ge (b := 80) hz8 (by decide)), nI_clamp (n := z) (by omega)]
    have l0 : lF M (mo_l (mo_l M 13 z 0) 14 z 0) := (lF_l (by omega)).trans (lF_l (by omega))
    have hR0 := hR.byF l0
    have z13 : ∀ q, m13 (mo_l (mo_l M 13 z 0) 14 z 0) z q = false := by
      intro q
      unfold m13
      rw [mo_l_at, mo_l_at, mo_l_at, if_neg (by omega), if_pos ⟨rfl, rfl⟩, if_pos ⟨rfl, rfl⟩]
      exact ms_0 q
    have o13 : ∀ i q, i ≠ z → m13 (mo_l (mo_l M 13 z 0) 14 z 0) i q = m13 M i q := by
      intro i q h
      unfold m13
      rw [mo_l_at, mo_l_at, mo_l_at, mo_l_at, if_neg (by omega), if_neg (by omega), if_neg (by omega), if_neg (by omega)]
    have o15 : ∀ i q, m15 (mo_l (mo_l M 13 z 0) 14 z 0) i q = m15 M i q := by
      intro i q
      unfold m15
      rw [mo_l_at, mo_l_at, mo_l_at, mo_l_at, if_neg (by omega), if_neg (by omega), if_neg (by omega), if_neg (by omega)]
    have key : ∃ y M1, p_MO_findReferences_L27 41 (nI z) (40 * nI z) (mo_l (mo_l M 13 z 0) 14 z 0) = (y, M1) ∧ lf 13 14 z (mo_l (mo_l M 13 z 0) 14 z 0) M1 ∧ ∀ q, q < 80 → m13 M1 z q = RM A z q := by
      by_cases hfm : ∃ L, A (kap z) = some (.inr L)
      · obtain ⟨L, hL⟩ := hfm
        obtain ⟨g1, g2, g3, g4⟩ := (hR0 z hz8).2.2 L hL
        have hfok := ((hs (kap z) (kap_lt hz8)).2 L hL).1
        obtain ⟨y, M1, e1, e2, e3⟩ := fr_L27 hz8 g3 L 0 41 (mo_l (mo_l M 13 z 0) 14 z 0) g1 g2 (by omega) (by omega) hfok.1 (fun j y hj => by rw [Nat.add_zero (40 * z)]; exact g4 j y hj)
        refine ⟨y, M1, ?_, e2, fun q hq => ?_⟩
        · rw [show (40 * nI z : Int32) = nI (40 * z + 0) by rw [← nI_40]; exact (Int32.add_zero _).symm]
          exact e1
        · rw [e3 q hq, z13, Bool.false_or, RM_eq hz8 hq, refA_L hL (kap_lt hz8) (kap_lt hq), rck_kap hq]
      · have hno : ∀ L, A (kap z) ≠ some (.inr L) := fun L hL => hfm ⟨L, hL⟩
        have h0 : ¬ (mo_l (mo_l M 13 z 0) 14 z 0).2.1 0 z = 2 := by
          match e : A (kap z) with
          | none => rw [(hR0 z hz8).1 e]; decide
          | some (.inl d) => rw [((hR0 z hz8).2.1 d e).1]; decide
          | some (.inr L) => exact absurd e (hno L)
        rw [p_MO_findReferences_L27, nI_clamp (n := z) (by omega), if_neg h0]
        exact ⟨_, _, rfl, lf.rf _ _ _ _, fun q hq => by rw [z13, RM_eq hz8 hq, refA_no hno]⟩
    obtain ⟨y1, M1, k1, k2, k3⟩ := key
    rw [k1]
    try dsimp only
    rw [nI_1]
    have l1 : lF M1 (mo_l (mo_l M1 15 z (M1.2.2.1 13 z)) 16 z (M1.2.2.1 14 z)) := (lF_l (by omega)).trans (lF_l (by omega))
    have lall : lF M (mo_l (mo_l M1 15 z (M1.2.2.1 13 z)) 16 z (M1.2.2.1 14 z)) := (l0.trans k2.F).trans l1
    have n13 : ∀ i q, m13 (mo_l (mo_l M1 15 z (M1.2.2.1 13 z)) 16 z (M1.2.2.1 14 z)) i q = m13 M1 i q := by
      intro i q
      unfold m13
      rw [mo_l_at, mo_l_at, mo_l_at, mo_l_at, if_neg (by omega), if_neg (by omega), if_neg (by omega), if_neg (by omega)]
    have n15 : ∀ i q, i ≠ z → m15 (mo_l (mo_l M1 15 z (M1.2.2.1 13 z)) 16 z (M1.2.2.1 14 z)) i q = m15 M1 i q := by
      intro i q h
      unfold m15
      rw [mo_l_at, mo_l_at, mo_l_at, mo_l_at, if_neg (by omega), if_neg (by omega), if_neg (by omega), if_neg (by omega)]
    have s15 : ∀ q, m15 (mo_l (mo_l M1 15 z (M1.2.2.1 13 z)) 16 z (M1.2.2.1 14 z)) z q = m13 M1 z q := by
      intro q
      unfold m15 m13
      rw [mo_l_at, mo_l_at, mo_l_at, if_neg (by omega), if_pos ⟨rfl, rfl⟩, if_pos ⟨rfl, rfl⟩]
    have f13 : ∀ i q, i ≠ z → m13 M1 i q = m13 (mo_l (mo_l M 13 z 0) 14 z 0) i q := by
      intro i q h
      unfold m13
      rw [k2.2.2.2 13 i (by omega), k2.2.2.2 14 i (by omega)]
    have f15 : ∀ i q, m15 M1 i q = m15 (mo_l (mo_l M 13 z 0) 14 z 0) i q := by
      intro i q
      unfold m15
      rw [k2.2.2.2 15 i (by omega), k2.2.2.2 16 i (by omega)]
    obtain ⟨y, M', e1, e2, e3⟩ := ih (z + 1) f (mo_l (mo_l M1 15 z (M1.2.2.1 13 z)) 16 z (M1.2.2.1 14 z)) (by omega) (by omega) (hR.byF lall) (fun i q h1 h2 => by
      by_cases hiz : i = z
      · rw [hiz, n13, s15, k3 q h2]
        exact ⟨rfl, rfl⟩
      · rw [n13, n15 i q hiz, f13 i q hiz, f15, o13 i q hiz, o15]
        exact hi i q (by omega) h2)
    exact ⟨y, M', e1, lall.trans e2, e3⟩
def l15 (M M' : mo_S) : Prop := M'.1 = M.1 ∧ M'.2.1 = M.2.1 ∧ M'.2.2.2 = M.2.2.2 ∧ ∀ j q, ¬ (j = 15 ∨ j = 16) → M'.2.2.1 j q = M.2.2.1 j q
theorem l15.rf (M : mo_S) : l15 M M := ⟨rfl, rfl, rfl, fun _ _ _ => rfl⟩
theorem l15.trans {M M1 M2 : mo_S} (a : l15 M M1) (b : l15 M1 M2) : l15 M M2 := ⟨b.1.trans a.1, b.2.1.trans a.2.1, b.2.2.1.trans a.2.2.1, fun j q h => (b.2.2.2 j q h).trans (a.2.2.2 j q h)⟩
theorem l15.F {M M' : mo_S} (a : l15 M M') : lF M M' := ⟨a.1, a.2.1, a.2.2.1, fun j q h => a.2.2.2 j q (by omega)⟩
theorem mf_L200 {R : Nat → Nat → Bool} {S : List Nat} {t : Nat} (ht8 : t < 80) : ∀ (m k f : Nat) (M : mo_S), k + m = 80 → m < f → (∀ i q, i < 80 → q < 80 → m15 M i q = if i < k then wsh R (t :: S) i q else wsh R S i q) → ∃ y M', p_MO_findReferences_L200 f (nI t) (nI k) M = (y, M') ∧ l15 M M' ∧ ∀ i q, i < 80 → q < 80 → m15 M' i q = wsh R (t :: S) i q := by
  intro m
  induction m with
  | zero =>
    intro k f M hk hf hi
    obtain ⟨f, rfl⟩ : ∃ q, f = q + 1 := ⟨f - 1, by omega⟩
    rw [p_MO_findReferences_L200, if_pos (show (80 : Int32) ≤ nI k from nI_le (a := 80) (by omega) (by omega))]
    exact ⟨_, _, rfl, l15.rf M, fun i q h1 h2 => by rw [hi i q h1 h2, if_pos (by omega)]⟩
  | succ m ih =>
    intro k f M hk hf hi
    obtain ⟨f, rfl⟩ : ∃ q, f = q + 1 := ⟨f - 1, by omega⟩
    have hk8 : k < 80 := by omega
    rw [p_MO_findReferences_L200, if_neg (show ¬ (80 : Int32) ≤ nI k from nI_ge (b := 80) hk8 (by decide)), nI_clamp (n := k) (by omega), nI_clamp (n := t) (by omega), nI_1, mo_in ht8]
    have ek : ms (M.2.2.1 15 k) (M.2.2.1 16 k) t = wsh R S k t := by
      have := hi k t hk8 ht8
      rw [if_neg (Nat.lt_irrefl k)] at this
      exact this
    rw [ek]
    by_cases hh : wsh R S k t = true
    · rw [bi_1 hh, if_neg (show ¬ (1 : Int32) = 0 by decide)]
      have l1 : l15 M (mo_l (mo_l M 15 k (M.2.2.1 15 k ||| M.2.2.1 15 t)) 16 k (M.2.2.1 16 k ||| M.2.2.1 16 t)) := ⟨rfl, rfl, rfl, fun j q h => by rw [mo_l_at, mo_l_at, if_neg (by omega), if_neg (by omega)]⟩
      obtain ⟨y, M', e1, e2, e3⟩ := ih (k + 1) f (mo_l (mo_l M 15 k (M.2.2.1 15 k ||| M.2.2.1 15 t)) 16 k (M.2.2.1 16 k ||| M.2.2.1 16 t)) (by omega) (by omega) (fun i q h1 h2 => by
        by_cases hik : i = k
        · rw [if_pos (show i < k + 1 by omega), hik]
          unfold m15
          rw [mo_l_at, mo_l_at, mo_l_at, if_neg (by omega), if_pos ⟨rfl, rfl⟩, if_pos ⟨rfl, rfl⟩, ms_or]
          have a1 := hi k q hk8 h2
          rw [if_neg (Nat.lt_irrefl k)] at a1
          have a2 := hi t q ht8 h2
          unfold m15 at a1 a2
          show _ = (wsh R S k q || (wsh R S k t && wsh R S t q))
          rw [a1, a2, hh, Bool.true_and]
          congr 1
          split
          · rw [wsh]
            cases wsh R S t q <;> cases wsh R S t t <;> rfl
          · rfl
        · have a1 := hi i q h1 h2
          have e : m15 (mo_l (mo_l M 15 k (M.2.2.1 15 k ||| M.2.2.1 15 t)) 16 k (M.2.2.1 16 k ||| M.2.2.1 16 t)) i q = m15 M i q := by
            unfold m15
            rw [mo_l_at, mo_l_at, mo_l_at, mo_l_at, if_neg (by omega), if_neg (by omega), if_neg (by omega), if_neg (by omega)]
          rw [e, a1]
          by_cases hlt : i < k
          · rw [if_pos hlt, if_pos (by omega)]
          · rw [if_neg hlt, if_neg (by omega)])
      exact ⟨y, M', e1, l1.trans e2, e3⟩
    · have hh' : wsh R S k t = false := by simpa using hh
      rw [bi_0 hh', if_pos rfl]
      obtain ⟨y, M', e1, e2, e3⟩ := ih (k + 1) f M (by omega) (by omega) (fun i q h1 h2 => by
        rw [hi i q h1 h2]
        by_cases hik : i = k
        · rw [if_pos (show i < k + 1 by omega), hik, if_neg (Nat.lt_irrefl k), wsh, hh', Bool.false_and, Bool.or_false]
        · by_cases hlt : i < k
          · rw [if_pos hlt, if_pos (by omega)]
          · rw [if_neg hlt, if_neg (by omega)])
      exact ⟨y, M', e1, e2, e3⟩
theorem mf_L192 {R : Nat → Nat → Bool} : ∀ (m t f : Nat) (M : mo_S), t + m = 80 → m < f → (∀ i q, i < 80 → q < 80 → m15 M i q = wsh R (thr t) i q) → ∃ y M', p_MO_findReferences_L192 f (nI t) M = (y, M') ∧ l15 M M' ∧ ∀ i q, i < 80 → q < 80 → m15 M' i q = wsh R (thr 80) i q := by
  intro m
  induction m with
  | zero =>
    intro t f M hk hf hi
    obtain ⟨f, rfl⟩ : ∃ q, f = q + 1 := ⟨f - 1, by omega⟩
    rw [p_MO_findReferences_L192, if_pos (show (80 : Int32) ≤ nI t from nI_le (a := 80) (by omega) (by omega))]
    rw [show t = 80 by omega] at hi
    exact ⟨_, _, rfl, l15.rf M, hi⟩
  | succ m ih =>
    intro t f M hk hf hi
    obtain ⟨f, rfl⟩ : ∃ q, f = q + 1 := ⟨f - 1, by omega⟩
    have ht8 : t < 80 := by omega
    obtain ⟨y1, M1, k1, k2, k3⟩ := mf_L200 (R := R) (S := thr t) ht8 80 0 81 M (by omega) (by omega) (fun i q h1 h2 => by rw [if_neg (Nat.not_lt_zero i)]; exact hi i q h1 h2)
    rw [p_MO_findReferences_L192, if_neg (show ¬ (80 : Int32) ≤ nI t from nI_ge (b := 80) ht8 (by decide)), show p_MO_findReferences_L200 81 (nI t) 0 M = (y1, M1) from k1]
    try dsimp only
    rw [nI_1]
    rw [← thr_s] at k3
    obtain ⟨y, M', e1, e2, e3⟩ := ih (t + 1) f M1 (by omega) (by omega) k3
    exact ⟨y, M', e1, k2.trans e2, e3⟩
theorem mo_findReferences {M : mo_S} {A : Shh} (hs : shok A) (hR : mR M A) : lF M (p_MO_findReferences M) ∧ (∀ i q, i < 80 → q < 80 → m13 (p_MO_findReferences M) i q = refA A (kap i) (kap q)) ∧ ∀ i q, i < 80 → q < 80 → m15 (p_MO_findReferences M) i q = rea A (kap i) (kap q) := by
  obtain ⟨y1, M1, k1, k2, k3⟩ := mf_L2 hs 80 0 81 M (by omega) (by omega) hR (fun i q h => absurd h (Nat.not_lt_zero i))
  obtain ⟨y2, M2, j1, j2, j3⟩ := mf_L192 (R := RM A) 80 0 81 M1 (by omega) (by omega) (fun i q h1 h2 => (k3 i q h1 h2).2)
  unfold p_MO_findReferences
  rw [show p_MO_findReferences_L2 81 0 M = (y1, M1) from k1]
  try dsimp only
  rw [show p_MO_findReferences_L192 81 0 M1 = (y2, M2) from j1]
  refine ⟨k2.trans j2.F, fun i q h1 h2 => ?_, fun i q h1 h2 => ?_⟩
  · rw [← RM_eq h1 h2, ← (k3 i q h1 h2).1]
    unfold m13
    rw [j2.2.2.2 13 i (by decide), j2.2.2.2 14 i (by decide)]
  · rw [j3 i q h1 h2]
    exact wsh_same (refA_in A) (RM_in A) (fun z i hz hi => RM_eq hz hi) thr_mem thr_mem h1 h2
