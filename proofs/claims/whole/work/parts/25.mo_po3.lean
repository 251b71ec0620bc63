/-! Bounds of small results; sizes that methods leave. -/
def mo_sz (M : mo_S) : Prop := ∀ k : Nat, 0 ≤ Int32.toInt (M.2.1 1 k) ∧ Int32.toInt (M.2.1 1 k) ≤ 40
theorem po_MO_column (x1 : Int32)  : (0 ≤ (Int32.toInt (p_MO_column x1))) ∧ ((Int32.toInt (p_MO_column x1)) ≤ 7) := by
  obtain ⟨j, hj, e⟩ := pk_andE x1 (m := 7) 3 (by decide)
  unfold p_MO_column
  rw [e, nI_toInt (by omega)]
  omega
theorem po_MO_row (x1 : Int32)  : (0 ≤ (Int32.toInt (p_MO_row x1))) ∧ ((Int32.toInt (p_MO_row x1)) ≤ 15) := by
  unfold p_MO_row
  obtain ⟨j, hj, e⟩ := pk_andE (x1 >>> (3 &&& 31)) (m := 15) 4 (by decide)
  rw [e, nI_toInt (by omega)]
  omega
theorem po_MO_least (x1 : Int32) (x2 : Int32)  : ((Int32.toInt (p_MO_least x1 x2)) ≤ (Int32.toInt x1)) ∧ ((Int32.toInt (p_MO_least x1 x2)) ≤ (Int32.toInt x2)) ∧ (((Int32.toInt (p_MO_least x1 x2)) = (Int32.toInt x1) ∨ (Int32.toInt (p_MO_least x1 x2)) = (Int32.toInt x2))) := by
  unfold p_MO_least
  split <;> (rename_i c; rw [Int32.le_iff_toInt_le] at c; omega)
theorem po_MO_most (x1 : Int32) (x2 : Int32)  : ((Int32.toInt x1) ≤ (Int32.toInt (p_MO_most x1 x2))) ∧ ((Int32.toInt x2) ≤ (Int32.toInt (p_MO_most x1 x2))) ∧ (((Int32.toInt (p_MO_most x1 x2)) = (Int32.toInt x1) ∨ (Int32.toInt (p_MO_most x1 x2)) = (Int32.toInt x2))) := by
  unfold p_MO_most
  split <;> (rename_i c; rw [Int32.le_iff_toInt_le] at c; omega)
