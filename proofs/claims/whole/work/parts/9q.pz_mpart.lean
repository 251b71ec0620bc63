/-! Pure: the reference writes numerals, references and names. -/
theorem bF.it {M M' : mo_S} (a : bF M M') {k : Nat} {x : It} (h : ci M k x) : ci M' k x := by
  unfold ci at h ⊢
  rw [a.2.1 3 k (by decide), a.2.1 4 k (by decide), a.2.1 5 k (by decide), a.2.2]
  exact h
theorem dgl_f {b d : Nat} (hb : b ≤ 4) : frd b (10 ^ b) (d % 10 ^ b) = dgl b (d % 10 ^ b) := by
  have := frd_dgl b b (d % 10 ^ b) (Nat.le_refl _) (Nat.mod_lt _ (Nat.pow_pos (by decide)))
  rw [Nat.sub_self, Nat.pow_zero, Nat.mul_one] at this
  exact this
theorem nuC_flat {b d : Nat} (hb : b ≤ 4) : (nuC b d).flatten = dgl (dsz (d / 10 ^ b)) (d / 10 ^ b) ++ (if b = 0 then [] else 46 :: dgl b (d % 10 ^ b)) := by
  have hm : ∀ l : List Nat, (l.map fun c => [c]).flatten = l := by
    intro l
    induction l with
    | nil => rfl
    | cons x l ih => rw [List.map_cons, List.flatten_cons, ih]; rfl
  unfold nuC
  rw [List.flatten_append, List.flatten_cons, List.flatten_nil, List.append_nil]
  congr 1
  split
  · rfl
  · rw [List.flatten_cons, hm, dgl_f hb]
    rfl
theorem wl_L5 {M : mo_S} {p b : Nat} (hp : p < 3240) (hb : b ≤ 4) (h4 : M.2.1 4 p = nI b) : ∀ (k i f : Nat), i + k = b → k < f → q_MO_writeNumeral_L5 f (nI p) (lN (10 ^ i)) (nI i) M = some (lN (10 ^ b)) := by
  intro k
  induction k with
  | zero =>
    intro i f hi hf
    obtain ⟨f, rfl⟩ : ∃ q, f = q + 1 := ⟨f - 1, by omega⟩
    rw [q_MO_writeNumeral_L5, fs_okp_pos (show vp_in (nI p) 3240 from nI_in hp (by omega)), nI_clamp (by omega), h4, if_pos (nI_le (by omega) (by omega)), show i = b by omega]
  | succ k ih =>
    intro i f hi hf
    obtain ⟨f, rfl⟩ : ∃ q, f = q + 1 := ⟨f - 1, by omega⟩
    rw [q_MO_writeNumeral_L5, fs_okp_pos (show vp_in (nI p) 3240 from nI_in hp (by omega)), nI_clamp (by omega), h4, if_neg (nI_ge (by omega) (by omega)), show (10 : Int64) = lN 10 from rfl, lN_ml, nI_1, show 10 ^ i * 10 = 10 ^ (i + 1) from (Nat.pow_succ ..).symm]
    exact ih (i + 1) f (by omega) (by omega)
theorem mo_wnumeral {M : mo_S} {t : List Nat} {p b d : Nat} (hp : p < 3240) (hb : b ≤ 4) (hd : d < 1000000000 * 10 ^ b) (h4 : M.2.1 4 p = nI b) (h6 : M.2.2.1 6 p = lN d) (ht : bufR M t) (hl : t.length + (nuC b d).flatten.length ≤ 400) : ∃ M', q_MO_writeNumeral M (nI p) = some M' ∧ bufR M' (t ++ (nuC b d).flatten) ∧ bF M M' := by
  have hp10 : 10 ^ b ≤ 10000 := Nat.pow_le_pow_right (by decide) hb
  have hp0 : 0 < 10 ^ b := Nat.pow_pos (by decide)
  have hq : d / 10 ^ b < 1000000000 := by
    rw [Nat.div_lt_iff_lt_mul hp0]
    exact hd
  have pin : vp_in (nI p) 3240 := nI_in hp (by omega)
  rw [nuC_flat hb] at hl ⊢
  unfold q_MO_writeNumeral
  rw [show q_MO_writeNumeral_L5 5 (nI p) 1 0 M = some (lN (10 ^ b)) from wl_L5 hp hb h4 b 0 5 (by omega) (by omega), Option.bind_some]
  try dsimp only
  rw [fs_okp_pos pin, fs_okp_pos (lN_ne hp0 (by omega)), nI_clamp (by omega), h6, lN_dv (by omega) hp0 (by omega)]
  rw [List.length_append, dgl_len] at hl
  obtain ⟨M1, a1, a2, a3⟩ := mo_wn1 (v := d / 10 ^ b) ht hq (by omega)
  rw [a1, Option.bind_some]
  try dsimp only
  rw [fs_okp_pos pin, a3.2.1 4 p (by decide), h4]
  by_cases hb0 : b = 0
  · rw [if_pos (by rw [hb0]; rfl), if_pos hb0, List.append_nil]
    exact ⟨M1, rfl, a2, a3⟩
  · rw [if_neg (nI_ne0 (by omega) (by omega)), if_neg hb0]
    rw [if_neg hb0, List.length_cons, dgl_len] at hl
    obtain ⟨M2, b1, b2, b3⟩ := mo_app (c := 46) a2 (by rw [List.length_append, dgl_len]; omega)
    rw [show q_MO_append M1 46 = some M2 from b1, Option.bind_some]
    try dsimp only
    have e6 : M2.2.2.1 6 p = lN d := by rw [b3.2.2, a3.2.2]; exact h6
    have e4 : M2.2.1 4 p = nI b := by rw [b3.2.1 4 p (by decide), a3.2.1 4 p (by decide)]; exact h4
    rw [fs_okp_pos pin, fs_okp_pos (lN_ne hp0 (by omega)), fs_okp_pos pin, e6, e4, lN_rm (by omega) hp0 (by omega)]
    obtain ⟨M3, c1, c2, c3⟩ := mo_wnb (v := d % 10 ^ b) (k := b) b2 hb (by omega) (Nat.mod_lt _ hp0) (by rw [List.length_append, List.length_append, dgl_len]; show t.length + dsz (d / 10 ^ b) + 1 + b ≤ 400; omega)
    rw [c1, Option.bind_some]
    refine ⟨M3, rfl, ?_, (a3.trans b3).trans c3⟩
    rw [show t ++ (dgl (dsz (d / 10 ^ b)) (d / 10 ^ b) ++ 46 :: dgl b (d % 10 ^ b)) = t ++ dgl (dsz (d / 10 ^ b)) (d / 10 ^ b) ++ [46] ++ dgl b (d % 10 ^ b) by simp only [List.append_assoc, List.cons_append, List.nil_append]]
    exact c2
theorem cd_128 : ∀ n, n < 1024 → ((nI n &&& (128 : Int32)) = 0 ↔ n / 128 % 2 = 0) ∧ ((nI n &&& (256 : Int32)) = 0 ↔ n / 256 % 2 = 0) := by decide +kernel
theorem rfC_flat {C W A B : Nat} (h1 : C < 8) (h2 : W < 10) (h3 : A < 2) (h4 : B < 2) : (rfC (nI (C + 8 * W + 128 * A + 256 * B))).flatten = (if A = 1 then [36] else []) ++ ([97 + C] ++ ((if B = 1 then [36] else []) ++ dgl (dsz (W + 1)) (W + 1))) := by
  obtain ⟨d1, d2, d3⟩ := rf_dec C h1 W h2 A h3 B h4
  obtain ⟨xa, xb⟩ := x_bits h1 h2 h3 h4
  unfold rfC dolC
  rw [d3, if_pos rfl, xa, xb, d1, d2]
  have hA : A = 0 ∨ A = 1 := by omega
  have hB : B = 0 ∨ B = 1 := by omega
  rcases hA with rfl | rfl <;> rcases hB with rfl | rfl <;> simp
theorem mo_wref {M : mo_S} {t : List Nat} {a x : Int32} (h : rfq a x) (ht : bufR M t) (hl : t.length + (rfC x).flatten.length ≤ 400) : ∃ M', q_MO_writeReference M a = some M' ∧ bufR M' (t ++ (rfC x).flatten) ∧ bF M M' := by
  obtain ⟨C, W, A, B, l, h1, h2, h3, h4, h5, h6, h7⟩ := h
  obtain ⟨d1, d2, d3⟩ := rf_dec2 h1 h2 h3 h4 h5
  unfold q_MO_writeReference
  rw [h6, d3]
  by_cases hl0 : l = 0
  · subst hl0
    rw [if_pos rfl] at h7
    rw [h7, rfC_flat h1 h2 h3 h4] at hl ⊢
    rw [if_pos (show nI 0 = 0 from rfl)]
    obtain ⟨m1, m2⟩ := cd_128 (C + 8 * W + 128 * A + 256 * B + 512 * 0) (by omega)
    have j53 : ∀ (M1 : mo_S) (t1 : List Nat), bufR M1 t1 → t1.length + (dgl (dsz (W + 1)) (W + 1)).length ≤ 400 → ∃ M', q_MO_writeReference_J53 (nI (C + 8 * W + 128 * A + 256 * B + 512 * 0)) M1 = some M' ∧ bufR M' (t1 ++ dgl (dsz (W + 1)) (W + 1)) ∧ bF M1 M' := by
      intro M1 t1 b1 b2
      rw [dgl_len] at b2
      unfold q_MO_writeReference_J53
      rw [d2, nI_1, show Int32.toInt64 (nI (W + 1)) = lN (W + 1) by
        have : ∀ W, W < 10 → Int32.toInt64 (nI (W + 1)) = lN (W + 1) := by decide
        exact this W h2]
      obtain ⟨M2, c1, c2, c3⟩ := mo_wn1 (v := W + 1) b1 (by omega) b2
      rw [c1, Option.bind_some]
      exact ⟨M2, rfl, c2, c3⟩
    have j28 : ∀ (M1 : mo_S) (t1 : List Nat), bufR M1 t1 → t1.length + ([97 + C] ++ ((if B = 1 then [36] else []) ++ dgl (dsz (W + 1)) (W + 1))).length ≤ 400 → ∃ M', q_MO_writeReference_J28 (nI (C + 8 * W + 128 * A + 256 * B + 512 * 0)) M1 = some M' ∧ bufR M' (t1 ++ ([97 + C] ++ ((if B = 1 then [36] else []) ++ dgl (dsz (W + 1)) (W + 1)))) ∧ bF M1 M' := by
      intro M1 t1 b1 b2
      rw [List.length_append, List.length_append] at b2
      have b2' : t1.length + (1 + ((if B = 1 then [36] else [] : List Nat).length + (dgl (dsz (W + 1)) (W + 1)).length)) ≤ 400 := b2
      unfold q_MO_writeReference_J28
      rw [d1, show (97 + nI C : Int32) = nI (97 + C) from nI_add 97 C]
      obtain ⟨M2, c1, c2, c3⟩ := mo_app (c := 97 + C) b1 (by omega)
      rw [c1, Option.bind_some]
      try dsimp only
      have hB : B = 0 ∨ B = 1 := by omega
      rcases hB with hB | hB
      · rw [if_pos (m2.mpr (by omega))]
        rw [if_neg (by omega)] at b2' ⊢
        obtain ⟨M3, e1, e2, e3⟩ := j53 M2 _ c2 (by rw [List.length_append]; show t1.length + 1 + _ ≤ 400; simp at b2'; omega)
        refine ⟨M3, e1, ?_, c3.trans e3⟩
        rw [List.nil_append, ← List.append_assoc]
        exact e2
      · rw [if_neg (fun z => by have := m2.mp z; omega)]
        rw [if_pos hB] at b2' ⊢
        obtain ⟨M3, e1, e2, e3⟩ := mo_app (c := 36) c2 (by rw [List.length_append]; show t1.length + 1 < 400; simp at b2'; omega)
        rw [show q_MO_append M2 36 = some M3 from e1, Option.bind_some]
        try dsimp only
        obtain ⟨M4, f1, f2, f3⟩ := j53 M3 _ e2 (by rw [List.length_append, List.length_append]; show t1.length + 1 + 1 + _ ≤ 400; simp at b2'; omega)
        refine ⟨M4, f1, ?_, (c3.trans e3).trans f3⟩
        rw [← List.append_assoc, ← List.append_assoc]
        exact f2
    have hA : A = 0 ∨ A = 1 := by omega
    rcases hA with hA | hA
    · rw [if_pos (m1.mpr (by omega))]
      rw [if_neg (by omega), List.nil_append] at hl ⊢
      exact j28 M t ht hl
    · rw [if_neg (fun z => by have := m1.mp z; omega)]
      rw [if_pos hA] at hl ⊢
      rw [List.length_append] at hl
      obtain ⟨M3, e1, e2, e3⟩ := mo_app (c := 36) ht (by rw [List.length_singleton] at hl; omega)
      rw [show q_MO_append M 36 = some M3 from e1, Option.bind_some]
      try dsimp only
      obtain ⟨M4, f1, f2, f3⟩ := j28 M3 _ e2 (by have e : (t ++ [36]).length = t.length + 1 := List.length_append; rw [e]; rw [List.length_singleton] at hl; omega)
      refine ⟨M4, f1, ?_, e3.trans f3⟩
      rw [← List.append_assoc]
      exact f2
  · have hl1 : l = 1 := by omega
    subst hl1
    rw [if_neg (by decide)] at h7
    have e : (rfC x).flatten = [126] := by
      unfold rfC
      rw [h7, rf_512, if_neg (by decide)]
      rfl
    rw [e] at hl ⊢
    rw [if_neg (show ¬ nI 1 = 0 by decide)]
    obtain ⟨M3, e1, e2, e3⟩ := mo_app (c := 126) ht (by rw [List.length_singleton] at hl; omega)
    rw [show q_MO_append M 126 = some M3 from e1, Option.bind_some]
    exact ⟨M3, rfl, e2, e3⟩
