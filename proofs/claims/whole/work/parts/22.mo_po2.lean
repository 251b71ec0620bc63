/-! What settle and the readers leave of the numbers. -/
theorem so_MO_settle (n : Nat) : ∀ (z : Int32) (M1 : mo_S), 0 ≤ Int32.toInt (M1.1 29) → 0 ≤ Int32.toInt (M1.1 30) → Int32.toInt (M1.1 30) + Int32.toInt (M1.1 29) ≤ 100 → (∀ k, k ≠ 29 → k ≠ 30 → (p_MO_settle_L0 n z M1).1 k = M1.1 k) ∧ Int32.toInt ((p_MO_settle_L0 n z M1).1 30) + Int32.toInt ((p_MO_settle_L0 n z M1).1 29) = Int32.toInt (M1.1 30) + Int32.toInt (M1.1 29) ∧ 0 ≤ Int32.toInt ((p_MO_settle_L0 n z M1).1 29) ∧ Int32.toInt ((p_MO_settle_L0 n z M1).1 29) ≤ Int32.toInt (M1.1 29) := by
  induction n with
  | zero =>
    intro z M1 h1 h2 h3
    exact ⟨fun _ _ _ => rfl, rfl, h1, Int.le_refl _⟩
  | succ n ih =>
    intro z M1 h1 h2 h3
    rw [p_MO_settle_L0]
    by_cases c1 : M1.1 29 ≤ 0
    · rw [if_pos c1]
      exact ⟨fun _ _ _ => rfl, rfl, h1, Int.le_refl _⟩
    · rw [if_neg c1]
      split
      · exact ⟨fun _ _ _ => rfl, rfl, h1, Int.le_refl _⟩
      · rw [Int32.le_iff_toInt_le, i32_0] at c1
        have e1 : Int32.toInt (M1.1 29 - 1) = Int32.toInt (M1.1 29) - 1 := by rw [i32_sub (by rw [i32_1]; omega), i32_1]
        have e2 : Int32.toInt (M1.1 30 + 1) = Int32.toInt (M1.1 30) + 1 := by rw [i32_add (by rw [i32_1]; omega), i32_1]
        generalize hv : (mo_f M1 29 (M1.1 29 - 1)).2.1 28 (Int32.toNatClampNeg (M1.1 29 - 1)) = v
        have a29 : (p_MO_add (mo_f M1 29 (M1.1 29 - 1)) v).1 29 = M1.1 29 - 1 := rfl
        have a30 : (p_MO_add (mo_f M1 29 (M1.1 29 - 1)) v).1 30 = M1.1 30 + 1 := rfl
        have ak : ∀ k, k ≠ 29 → k ≠ 30 → (p_MO_add (mo_f M1 29 (M1.1 29 - 1)) v).1 k = M1.1 k := fun k h4 h5 => by simp [p_MO_add, mo_f, mo_i, h4, h5]
        have h := ih z (p_MO_add (mo_f M1 29 (M1.1 29 - 1)) v) (by rw [a29]; omega) (by rw [a30]; omega) (by rw [a29, a30]; omega)
        rw [a29, a30] at h
        refine ⟨fun k h4 h5 => (h.1 k h4 h5).trans (ak k h4 h5), by omega, h.2.2.1, by omega⟩
theorem so_MO_settle_f (M : mo_S) (x1 : Int32) : p_MO_settle M x1 = p_MO_settle_L0 45 x1 M := rfl
theorem po_MO_settle (M : mo_S) (x1 : Int32) (b1 : 0 ≤ (Int32.toInt (M.1 30))) (b2 : 0 ≤ (Int32.toInt (M.1 29))) (b3 : (Int32.toInt (M.1 30)) + (Int32.toInt (M.1 29)) ≤ 40) : ((Int32.toInt ((p_MO_settle M x1).1 9)) = (Int32.toInt (M.1 9))) ∧ ((Int32.toInt ((p_MO_settle M x1).1 10)) = (Int32.toInt (M.1 10))) ∧ ((Int32.toInt ((p_MO_settle M x1).1 11)) = (Int32.toInt (M.1 11))) ∧ ((Int32.toInt ((p_MO_settle M x1).1 12)) = (Int32.toInt (M.1 12))) ∧ ((Int32.toInt ((p_MO_settle M x1).1 22)) = (Int32.toInt (M.1 22))) ∧ ((Int32.toInt ((p_MO_settle M x1).1 23)) = (Int32.toInt (M.1 23))) ∧ ((Int32.toInt ((p_MO_settle M x1).1 24)) = (Int32.toInt (M.1 24))) ∧ ((Int32.toInt ((p_MO_settle M x1).1 34)) = (Int32.toInt (M.1 34))) ∧ ((Int32.toInt ((p_MO_settle M x1).1 35)) = (Int32.toInt (M.1 35))) ∧ ((Int32.toInt ((p_MO_settle M x1).1 30)) + (Int32.toInt ((p_MO_settle M x1).1 29)) = (Int32.toInt (M.1 30)) + (Int32.toInt (M.1 29))) ∧ (0 ≤ (Int32.toInt ((p_MO_settle M x1).1 29))) ∧ ((Int32.toInt ((p_MO_settle M x1).1 29)) ≤ (Int32.toInt (M.1 29))) ∧ (0 ≤ (Int32.toInt ((p_MO_settle M x1).1 30))) := by
  have h := so_MO_settle 45 x1 M b2 b1 (by omega)
  rw [so_MO_settle_f]
  refine ⟨congrArg Int32.toInt (h.1 9 (by decide) (by decide)), congrArg Int32.toInt (h.1 10 (by decide) (by decide)), congrArg Int32.toInt (h.1 11 (by decide) (by decide)), congrArg Int32.toInt (h.1 12 (by decide) (by decide)), congrArg Int32.toInt (h.1 22 (by decide) (by decide)), congrArg Int32.toInt (h.1 23 (by decide) (by decide)), congrArg Int32.toInt (h.1 24 (by decide) (by decide)), congrArg Int32.toInt (h.1 34 (by decide) (by decide)), congrArg Int32.toInt (h.1 35 (by decide) (by decide)), h.2.1, h.2.2.1, h.2.2.2, by omega⟩
theorem po_MO_readSingle (M : mo_S)  (b1 : 0 ≤ (Int32.toInt (M.1 22))) (b2 : (Int32.toInt (M.1 22)) ≤ 100) (b3 : (Int32.toInt (M.1 9)) ≤ 40) (b4 : 0 ≤ (Int32.toInt (M.1 30))) (b5 : (Int32.toInt (M.1 30)) < 40) : ((Int32.toInt ((p_MO_readSingle M).2.1 9)) = (Int32.toInt (M.1 9))) ∧ ((Int32.toInt ((p_MO_readSingle M).2.1 10)) = (Int32.toInt (M.1 10))) ∧ ((Int32.toInt ((p_MO_readSingle M).2.1 11)) = (Int32.toInt (M.1 11))) ∧ ((Int32.toInt ((p_MO_readSingle M).2.1 12)) = (Int32.toInt (M.1 12))) ∧ ((Int32.toInt ((p_MO_readSingle M).2.1 23)) = (Int32.toInt (M.1 23))) ∧ ((Int32.toInt ((p_MO_readSingle M).2.1 24)) = (Int32.toInt (M.1 24))) ∧ ((Int32.toInt ((p_MO_readSingle M).2.1 29)) = (Int32.toInt (M.1 29))) ∧ ((Int32.toInt ((p_MO_readSingle M).2.1 34)) = (Int32.toInt (M.1 34))) ∧ ((Int32.toInt ((p_MO_readSingle M).2.1 35)) = (Int32.toInt (M.1 35))) ∧ ((Int32.toInt (M.1 22)) ≤ (Int32.toInt ((p_MO_readSingle M).2.1 22))) ∧ ((Int32.toInt ((p_MO_readSingle M).2.1 22)) ≤ (Int32.toInt (M.1 22)) + 5) ∧ (0 ≤ (Int32.toInt ((p_MO_readSingle M).2.1 30))) ∧ (((Int32.toInt ((p_MO_readSingle M).2.1 30)) = (Int32.toInt (M.1 30)) ∨ ((Int32.toInt ((p_MO_readSingle M).2.1 30)) = (Int32.toInt (M.1 30)) + 1 ∧ (Int32.toInt (M.1 22)) + 2 ≤ (Int32.toInt ((p_MO_readSingle M).2.1 22))))) := by
  have h := po_MO_readReference M b1 b2 b3
  obtain ⟨R, eR⟩ : ∃ x, x = p_MO_readReference M := ⟨_, rfl⟩
  unfold p_MO_readSingle
  rw [← eR] at h ⊢
  have e2 : Int32.toInt (R.2.1 30 + 1) = Int32.toInt (R.2.1 30) + 1 := by rw [i32_add (by rw [i32_1]; omega), i32_1]
  (repeat' split) <;> (simp only [p_MO_add, p_MO_pushSign, mo_f, mo_i, mo_l, mo_d, Nat.reduceEqDiff, ↓reduceIte, i32_0, i32_1, i32_2, i32_3]; (try simp only [Int32.lt_iff_toInt_lt, Int32.le_iff_toInt_le, i32_0] at *); omega)
theorem po_MO_openOne (M : mo_S) (x1 : Int32) (b1 : 0 ≤ (Int32.toInt (M.1 23))) (b2 : (Int32.toInt (M.1 23)) ≤ 6) (b3 : 0 ≤ (Int32.toInt (M.1 29))) (b4 : (Int32.toInt (M.1 29)) < 44) : ((Int32.toInt ((p_MO_openOne M x1).2.1 9)) = (Int32.toInt (M.1 9))) ∧ ((Int32.toInt ((p_MO_openOne M x1).2.1 10)) = (Int32.toInt (M.1 10))) ∧ ((Int32.toInt ((p_MO_openOne M x1).2.1 11)) = (Int32.toInt (M.1 11))) ∧ ((Int32.toInt ((p_MO_openOne M x1).2.1 12)) = (Int32.toInt (M.1 12))) ∧ ((Int32.toInt ((p_MO_openOne M x1).2.1 22)) = (Int32.toInt (M.1 22))) ∧ ((Int32.toInt ((p_MO_openOne M x1).2.1 30)) = (Int32.toInt (M.1 30))) ∧ ((Int32.toInt ((p_MO_openOne M x1).2.1 34)) = (Int32.toInt (M.1 34))) ∧ ((Int32.toInt ((p_MO_openOne M x1).2.1 35)) = (Int32.toInt (M.1 35))) ∧ ((Int32.toInt ((p_MO_openOne M x1).2.1 23)) = (Int32.toInt (M.1 23)) + 1) ∧ ((Int32.toInt ((p_MO_openOne M x1).2.1 29)) = (Int32.toInt (M.1 29)) + 1) ∧ ((Int32.toInt ((p_MO_openOne M x1).2.1 24)) = 0) := by
  have e4 : Int32.toInt (M.1 23 + 1) = Int32.toInt (M.1 23) + 1 := by rw [i32_add (by rw [i32_1]; omega), i32_1]
  have e5 : Int32.toInt (M.1 29 + 1) = Int32.toInt (M.1 29) + 1 := by rw [i32_add (by rw [i32_1]; omega), i32_1]
  exact ⟨rfl, rfl, rfl, rfl, rfl, rfl, rfl, rfl, e4, e5, i32_0⟩
theorem po_MO_readRange (M : mo_S) (x1 : Int32) (b1 : 0 ≤ (Int32.toInt (M.1 22))) (b2 : (Int32.toInt (M.1 22)) ≤ 90) (b3 : (Int32.toInt (M.1 9)) ≤ 40) (b4 : 0 ≤ (Int32.toInt (M.1 30))) (b5 : (Int32.toInt (M.1 30)) < 40) : ((Int32.toInt ((p_MO_readRange M x1).2.1 9)) = (Int32.toInt (M.1 9))) ∧ ((Int32.toInt ((p_MO_readRange M x1).2.1 10)) = (Int32.toInt (M.1 10))) ∧ ((Int32.toInt ((p_MO_readRange M x1).2.1 11)) = (Int32.toInt (M.1 11))) ∧ ((Int32.toInt ((p_MO_readRange M x1).2.1 12)) = (Int32.toInt (M.1 12))) ∧ ((Int32.toInt ((p_MO_readRange M x1).2.1 23)) = (Int32.toInt (M.1 23))) ∧ ((Int32.toInt ((p_MO_readRange M x1).2.1 24)) = (Int32.toInt (M.1 24))) ∧ ((Int32.toInt ((p_MO_readRange M x1).2.1 29)) = (Int32.toInt (M.1 29))) ∧ ((Int32.toInt ((p_MO_readRange M x1).2.1 34)) = (Int32.toInt (M.1 34))) ∧ ((Int32.toInt ((p_MO_readRange M x1).2.1 35)) = (Int32.toInt (M.1 35))) ∧ ((Int32.toInt (M.1 22)) ≤ (Int32.toInt ((p_MO_readRange M x1).2.1 22))) ∧ ((Int32.toInt ((p_MO_readRange M x1).2.1 22)) ≤ (Int32.toInt (M.1 22)) + 12) ∧ (0 ≤ (Int32.toInt ((p_MO_readRange M x1).2.1 30))) ∧ (((Int32.toInt ((p_MO_readRange M x1).2.1 30)) = (Int32.toInt (M.1 30)) ∨ ((Int32.toInt ((p_MO_readRange M x1).2.1 30)) = (Int32.toInt (M.1 30)) + 1 ∧ (Int32.toInt (M.1 22)) + 2 ≤ (Int32.toInt ((p_MO_readRange M x1).2.1 22))))) := by
  have h := po_MO_readReference M b1 (by omega) b3
  obtain ⟨R, eR⟩ : ∃ x, x = p_MO_readReference M := ⟨_, rfl⟩
  unfold p_MO_readRange
  rw [← eR] at h ⊢
  have t1 : Int32.toInt (R.2.1 22 + 1) = Int32.toInt (R.2.1 22) + 1 := by rw [i32_add (by rw [i32_1]; omega), i32_1]
  have h2 := po_MO_readReference (mo_f R.2 22 (R.2.1 22 + 1)) (by show 0 ≤ Int32.toInt (R.2.1 22 + 1); omega) (by show Int32.toInt (R.2.1 22 + 1) ≤ 100; omega) (by show Int32.toInt (R.2.1 9) ≤ 40; omega)
  obtain ⟨R2, eR2⟩ : ∃ x, x = p_MO_readReference (mo_f R.2 22 (R.2.1 22 + 1)) := ⟨_, rfl⟩
  rw [← eR2] at h2 ⊢
  simp only [mo_f, Nat.reduceEqDiff, ↓reduceIte] at h2
  have t2 : Int32.toInt (R2.2.1 22 + 1) = Int32.toInt (R2.2.1 22) + 1 := by rw [i32_add (by rw [i32_1]; omega), i32_1]
  have t3 : Int32.toInt (R2.2.1 30 + 1) = Int32.toInt (R2.2.1 30) + 1 := by rw [i32_add (by rw [i32_1]; omega), i32_1]
  (repeat' split) <;> (simp only [p_MO_add, p_MO_pushSign, mo_f, mo_i, mo_l, mo_d, Nat.reduceEqDiff, ↓reduceIte, i32_0, i32_1, i32_2, i32_3]; (try simp only [Int32.lt_iff_toInt_lt, Int32.le_iff_toInt_le, i32_0] at *); omega)
