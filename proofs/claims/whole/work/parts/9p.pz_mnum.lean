/-! Pure: the reference writes numbers and references. -/
theorem lg_gt {a b : Nat} (ha : a < 2 ^ 62) (hb : b < 2 ^ 62) : (0 < lg_cmp (lN a) (lN b)) ↔ b < a := by
  unfold lg_cmp
  by_cases h : b < a
  · rw [if_pos (by rw [gt_iff_lt, Int64.lt_iff_toInt_lt, lN_toInt' (by omega), lN_toInt' (by omega)]; omega)]
    exact ⟨fun _ => h, fun _ => by decide⟩
  · rw [if_neg (by rw [gt_iff_lt, Int64.lt_iff_toInt_lt, lN_toInt' (by omega), lN_toInt' (by omega)]; omega)]
    refine ⟨fun z => absurd z ?_, fun z => absurd z h⟩
    split <;> decide
theorem p10_62 {k : Nat} (h : k ≤ 14) : 10 ^ k < 2 ^ 62 := Nat.lt_of_le_of_lt (Nat.pow_le_pow_right (by decide) h) (by decide)
theorem wn_L6 {M : mo_S} {z1 : Int64} {k : Nat} (hk : k ≤ 4) : ∀ (d i f : Nat), i + d = max k 1 → 1 ≤ i → d < f → q_MO_writeNumber_L6 f z1 (nI k) (lN (10 ^ (i - 1))) (nI i) M = some (lN (10 ^ (max k 1 - 1))) := by
  intro d
  induction d with
  | zero =>
    intro i f h1 h2 hf
    obtain ⟨f, rfl⟩ : ∃ q, f = q + 1 := ⟨f - 1, by omega⟩
    rw [q_MO_writeNumber_L6, if_pos (nI_le (by omega) (by omega)), show i = max k 1 by omega]
  | succ d ih =>
    intro i f h1 h2 hf
    obtain ⟨f, rfl⟩ : ∃ q, f = q + 1 := ⟨f - 1, by omega⟩
    rw [q_MO_writeNumber_L6, if_neg (nI_ge (by omega) (by omega)), show (10 : Int64) = lN 10 from rfl, lN_ml, nI_1, show 10 ^ (i - 1) * 10 = 10 ^ (i + 1 - 1) by rw [← Nat.pow_succ]; congr 1; omega]
    exact ih (i + 1) f (by omega) (by omega) (by omega)
theorem wn_L26 {M : mo_S} {v : Nat} (hv : v < 10 ^ 10) : ∀ (d m f : Nat), m + d = 10 → 1 ≤ m → d < f → ∃ m', m ≤ m' ∧ m' ≤ 10 ∧ v < 10 ^ m' ∧ (m' = m ∨ 10 ^ (m' - 1) ≤ v) ∧ q_MO_writeNumber_L26 f (lN v) (lN (10 ^ (m - 1))) M = some (lN (10 ^ (m' - 1))) := by
  intro d
  induction d with
  | zero =>
    intro m f h1 h2 hf
    obtain ⟨f, rfl⟩ : ∃ q, f = q + 1 := ⟨f - 1, by omega⟩
    have hm : m = 10 := by omega
    subst hm
    refine ⟨10, Nat.le_refl _, Nat.le_refl _, hv, Or.inl rfl, ?_⟩
    rw [q_MO_writeNumber_L26, show (10 : Int64) = lN 10 from rfl, lN_ml, if_pos ((lg_gt (by decide) (by omega)).mpr (by omega))]
  | succ d ih =>
    intro m f h1 h2 hf
    obtain ⟨f, rfl⟩ : ∃ q, f = q + 1 := ⟨f - 1, by omega⟩
    have e : 10 ^ (m - 1) * 10 = 10 ^ m := by rw [← Nat.pow_succ]; congr 1; omega
    have hp := p10_62 (k := m) (by omega)
    rw [q_MO_writeNumber_L26, show (10 : Int64) = lN 10 from rfl, lN_ml, e]
    by_cases hlt : v < 10 ^ m
    · rw [if_pos ((lg_gt hp (by omega)).mpr hlt)]
      exact ⟨m, Nat.le_refl _, by omega, hlt, Or.inl rfl, rfl⟩
    · rw [if_neg (fun z => hlt ((lg_gt hp (by omega)).mp z))]
      obtain ⟨m', k1, k2, k3, k4, k5⟩ := ih (m + 1) f (by omega) (by omega) (by omega)
      refine ⟨m', by omega, k2, k3, Or.inr ?_, ?_⟩
      · rcases k4 with z | z
        · rw [z, Nat.add_sub_cancel]; omega
        · exact z
      · rw [Nat.add_sub_cancel] at k5; exact k5
def pw1 (m : Nat) : Nat := if m = 0 then 0 else 10 ^ (m - 1)
theorem wn_L48 {v : Nat} (hv : v < 2 ^ 60) : ∀ (m f : Nat) (M : mo_S) (b : List Nat), m ≤ 10 → m < f → bufR M b → b.length + m ≤ 400 → ∃ M', q_MO_writeNumber_L48 f (lN v) (lN (pw1 m)) M = some M' ∧ bufR M' (b ++ dgl m v) ∧ bF M M' := by
  intro m
  induction m with
  | zero =>
    intro f M b _ hf hb hl
    obtain ⟨f, rfl⟩ : ∃ q, f = q + 1 := ⟨f - 1, by omega⟩
    rw [q_MO_writeNumber_L48, show lN (pw1 0) = 0 from rfl, if_pos (by decide)]
    exact ⟨M, rfl, by rw [dgl, List.append_nil]; exact hb, bF.rf M⟩
  | succ m ih =>
    intro f M b hm hf hb hl
    obtain ⟨f, rfl⟩ : ∃ q, f = q + 1 := ⟨f - 1, by omega⟩
    have e : pw1 (m + 1) = 10 ^ m := by unfold pw1; rw [if_neg (by omega), Nat.add_sub_cancel]
    have hp := p10_62 (k := m) (by omega)
    have hp0 : 0 < 10 ^ m := Nat.pow_pos (by decide)
    have hq : v / 10 ^ m ≤ v := Nat.div_le_self _ _
    have e2 : 10 ^ m / 10 = pw1 m := by
      unfold pw1
      split
      · next h => rw [h]
      · next h =>
        obtain ⟨k, rfl⟩ : ∃ k, m = k + 1 := ⟨m - 1, by omega⟩
        rw [Nat.pow_succ, Nat.mul_div_cancel _ (by decide), Nat.add_sub_cancel]
    rw [q_MO_writeNumber_L48, e, if_neg (fun z => by
      have h1 := (lg_gt hp (by decide : 0 < 2 ^ 62)).mpr hp0
      exact absurd z (Int32.not_le.mpr h1)), fs_okp_pos (lN_ne hp0 hp), fs_okp_pos (show ¬ (10 : Int64) = 0 by decide), lN_dv (by omega) hp0 hp, show (10 : Int64) = lN 10 from rfl, lN_rm (by omega) (by decide) (by decide), lN_i3 (by omega), show (48 + nI (v / 10 ^ m % 10) : Int32) = nI (48 + v / 10 ^ m % 10) from nI_add 48 _]
    obtain ⟨M1, k1, k2, k3⟩ := mo_app (c := 48 + v / 10 ^ m % 10) hb (by omega)
    rw [k1, Option.bind_some]
    try dsimp only
    rw [fs_okp_pos (show ¬ lN 10 = 0 from lN_ne (by decide) (by decide)), lN_dv hp (by decide) (by decide), e2]
    obtain ⟨M2, j1, j2, j3⟩ := ih f M1 _ (by omega) (by omega) k2 (by rw [List.length_append]; show b.length + 1 + m ≤ 400; omega)
    refine ⟨M2, j1, ?_, k3.trans j3⟩
    rw [dgl_top, show b ++ (48 + v / 10 ^ m % 10) :: dgl m v = b ++ [48 + v / 10 ^ m % 10] ++ dgl m v by rw [List.append_assoc]; rfl]
    exact j2
theorem mo_wnum {M : mo_S} {b : List Nat} {v k : Nat} (hb : bufR M b) (hv : v < 10 ^ 10) (hk : k ≤ 4) : ∃ m, max k 1 ≤ m ∧ m ≤ 10 ∧ v < 10 ^ m ∧ (m = max k 1 ∨ 10 ^ (m - 1) ≤ v) ∧ (b.length + m ≤ 400 → ∃ M', q_MO_writeNumber M (lN v) (nI k) = some M' ∧ bufR M' (b ++ dgl m v) ∧ bF M M') := by
  obtain ⟨m, k1, k2, k3, k4, k5⟩ := wn_L26 (M := M) hv (10 - max k 1) (max k 1) 20 (by omega) (by omega) (by omega)
  refine ⟨m, k1, k2, k3, k4, fun hl => ?_⟩
  obtain ⟨M', j1, j2, j3⟩ := wn_L48 (v := v) (by omega) m 20 M b k2 (by omega) hb hl
  unfold q_MO_writeNumber
  rw [show q_MO_writeNumber_L6 5 (lN v) (nI k) 1 1 M = some (lN (10 ^ (max k 1 - 1))) from wn_L6 hk (max k 1 - 1) 1 5 (by omega) (by omega) (by omega), Option.bind_some]
  try dsimp only
  rw [k5, Option.bind_some]
  try dsimp only
  rw [show lN (10 ^ (m - 1)) = lN (pw1 m) by unfold pw1; rw [if_neg (by omega)], j1, Option.bind_some]
  exact ⟨M', rfl, j2, j3⟩
theorem pw_uniq {v m n : Nat} (h1 : v < 10 ^ m) (h2 : n = 1 ∨ 10 ^ (n - 1) ≤ v) (hm : 1 ≤ m) (hn : 1 ≤ n) : n ≤ m := by
  rcases h2 with z | z
  · omega
  · by_cases h : n ≤ m
    · exact h
    · have : 10 ^ m ≤ 10 ^ (n - 1) := Nat.pow_le_pow_right (by decide) (by omega)
      omega
theorem mo_wn1 {M : mo_S} {b : List Nat} {v : Nat} (hb : bufR M b) (hv : v < 1000000000) (hl : b.length + dsz v ≤ 400) : ∃ M', q_MO_writeNumber M (lN v) 1 = some M' ∧ bufR M' (b ++ dgl (dsz v) v) ∧ bF M M' := by
  obtain ⟨s1, s2, s3, s4⟩ := dsz_ok hv
  obtain ⟨m, k1, k2, k3, k4, k5⟩ := mo_wnum (k := 1) hb (show v < 10 ^ 10 by omega) (by decide)
  have e : m = dsz v := by
    have a1 := pw_uniq k3 s4 (by omega) s2
    have a2 := pw_uniq s1 k4 s2 (by omega)
    omega
  rw [e] at k5
  exact k5 hl
theorem mo_wnb {M : mo_S} {b : List Nat} {v k : Nat} (hb : bufR M b) (hk : k ≤ 4) (hk0 : 1 ≤ k) (hv : v < 10 ^ k) (hl : b.length + k ≤ 400) : ∃ M', q_MO_writeNumber M (lN v) (nI k) = some M' ∧ bufR M' (b ++ dgl k v) ∧ bF M M' := by
  have hp : 10 ^ k ≤ 10 ^ 4 := Nat.pow_le_pow_right (by decide) hk
  obtain ⟨m, k1, k2, k3, k4, k5⟩ := mo_wnum (k := k) hb (show v < 10 ^ 10 by omega) hk
  have e : m = k := by
    rcases k4 with z | z
    · omega
    · by_cases h : m ≤ k
      · omega
      · have : 10 ^ k ≤ 10 ^ (m - 1) := Nat.pow_le_pow_right (by decide) (by omega)
        omega
  rw [e] at k5
  exact k5 hl
