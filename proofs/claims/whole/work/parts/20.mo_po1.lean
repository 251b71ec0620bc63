/-! What the reference's reading methods leave of its numbers. -/
theorem po_MO_readReference (M : mo_S) (b1 : 0 ≤ (Int32.toInt (M.1 22))) (b2 : (Int32.toInt (M.1 22)) ≤ 100) (b3 : (Int32.toInt (M.1 9)) ≤ 40) :
    ((p_MO_readReference M).2.1 9 = M.1 9 ∧ (p_MO_readReference M).2.1 23 = M.1 23 ∧ (p_MO_readReference M).2.1 24 = M.1 24 ∧ (p_MO_readReference M).2.1 29 = M.1 29 ∧ (p_MO_readReference M).2.1 30 = M.1 30 ∧ (p_MO_readReference M).2.2 = M.2) ∧
    Int32.toInt (M.1 22) ≤ Int32.toInt ((p_MO_readReference M).2.1 22) ∧ Int32.toInt ((p_MO_readReference M).2.1 22) ≤ Int32.toInt (M.1 22) + 5 ∧ ((p_MO_readReference M).1 = -1 ∨ Int32.toInt (M.1 22) + 2 ≤ Int32.toInt ((p_MO_readReference M).2.1 22)) := by
  have t1 : Int32.toInt (M.1 22 + 1) = Int32.toInt (M.1 22) + 1 := by rw [i32_add (by rw [i32_1]; omega), i32_1]
  have t2 : Int32.toInt (M.1 22 + 1 + 1) = Int32.toInt (M.1 22) + 2 := by rw [i32_add (by rw [i32_1, t1]; omega), i32_1, t1]; omega
  have t3 : Int32.toInt (M.1 22 + 1 + 1 + 1) = Int32.toInt (M.1 22) + 3 := by rw [i32_add (by rw [i32_1, t2]; omega), i32_1, t2]; omega
  have t4 : Int32.toInt (M.1 22 + 1 + 1 + 1 + 1) = Int32.toInt (M.1 22) + 4 := by rw [i32_add (by rw [i32_1, t3]; omega), i32_1, t3]; omega
  have t5 : Int32.toInt (M.1 22 + 1 + 1 + 1 + 1 + 1) = Int32.toInt (M.1 22) + 5 := by rw [i32_add (by rw [i32_1, t4]; omega), i32_1, t4]; omega
  unfold p_MO_readReference
  (repeat' split) <;> refine ⟨⟨rfl, rfl, rfl, rfl, rfl, rfl⟩, ?_⟩ <;> simp only [mo_f, ite_true] <;> first | (refine ⟨by omega, by omega, Or.inr (by omega)⟩) | (refine ⟨by omega, by omega, Or.inl trivial⟩)
