/-! What copyCell and shiftRange leave. -/
theorem fs_dec1 (x : Int32) : x + Int32.ofInt (-1) = x - 1 := by rw [Int32.sub_eq_add_neg]; rfl
theorem fs_dec2 (x : Int32) : x + Int32.ofInt (-2) = x - 2 := by rw [Int32.sub_eq_add_neg]; rfl
theorem kp_cc38 : ∀ (n : Nat) (z1 z2 z3 : Int32) (M1 : mo_S), (p_MO_copyCell_L38 n z1 z2 z3 M1).2.1 = M1.1 ∧ (p_MO_copyCell_L38 n z1 z2 z3 M1).2.2.1 1 = M1.2.1 1 := by
  intro n
  induction n with
  | zero => intros; exact ⟨rfl, rfl⟩
  | succ n ih =>
    intro z1 z2 z3 M1
    rw [p_MO_copyCell_L38]
    split
    · exact ⟨rfl, rfl⟩
    · exact ⟨(ih _ _ _ _).1, (ih _ _ _ _).2⟩
theorem kp_copyCell (M : mo_S) (x1 x2 : Int32) : (p_MO_copyCell M x1 x2).1 = M.1 ∧ (p_MO_copyCell M x1 x2).2.1 1 = upd (M.2.1 1) (Int32.toNatClampNeg x2) (M.2.1 1 (Int32.toNatClampNeg x1)) := by
  unfold p_MO_copyCell
  generalize hN : (mo_i (mo_d (mo_i M 0 (Int32.toNatClampNeg x2) (M.2.1 0 (Int32.toNatClampNeg x1))) 2 (Int32.toNatClampNeg x2) (M.2.2.2 2 (Int32.toNatClampNeg x1))) 1 (Int32.toNatClampNeg x2) (M.2.1 1 (Int32.toNatClampNeg x1))) = N
  have h := kp_cc38 41 x1 x2 0 N
  obtain ⟨R, eR⟩ : ∃ x, x = p_MO_copyCell_L38 41 x1 x2 0 N := ⟨_, rfl⟩
  rw [← eR] at h ⊢
  obtain ⟨y, M2⟩ := R
  refine ⟨h.1.trans (by rw [← hN]; rfl), h.2.trans (by rw [← hN]; rfl)⟩
theorem szk_copyCell (M : mo_S) (x1 x2 : Int32) (hz : mo_sz M) : mo_sz (p_MO_copyCell M x1 x2) := by
  intro k
  rw [(kp_copyCell M x1 x2).2]
  unfold upd
  split
  · exact hz _
  · exact hz k
theorem kp_shiftRange (M : mo_S) (x1 x2 x3 : Int32) : (p_MO_shiftRange M x1 x2 x3).1 = M.1 ∧ (p_MO_shiftRange M x1 x2 x3).2.1 1 = M.2.1 1 := by
  unfold p_MO_shiftRange
  (repeat' split) <;> exact ⟨rfl, rfl⟩
theorem pz_shiftRange (M : mo_S) (x1 x2 x3 : Int32) : (p_MO_shiftRange M x1 x2 x3).2.1 1 = M.2.1 1 := (kp_shiftRange M x1 x2 x3).2
theorem po_MO_copyCell (M : mo_S) (x1 : Int32) (x2 : Int32) (b1 : 0 ≤ (Int32.toInt x1)) (b2 : (Int32.toInt x1) < 81) (b3 : 0 ≤ (Int32.toInt x2)) (b4 : (Int32.toInt x2) < 81) : ((Int32.toInt ((p_MO_copyCell M x1 x2).1 9)) = (Int32.toInt (M.1 9))) ∧ ((Int32.toInt ((p_MO_copyCell M x1 x2).1 10)) = (Int32.toInt (M.1 10))) ∧ ((Int32.toInt ((p_MO_copyCell M x1 x2).1 11)) = (Int32.toInt (M.1 11))) ∧ ((Int32.toInt ((p_MO_copyCell M x1 x2).1 12)) = (Int32.toInt (M.1 12))) ∧ ((Int32.toInt ((p_MO_copyCell M x1 x2).1 22)) = (Int32.toInt (M.1 22))) ∧ ((Int32.toInt ((p_MO_copyCell M x1 x2).1 23)) = (Int32.toInt (M.1 23))) ∧ ((Int32.toInt ((p_MO_copyCell M x1 x2).1 24)) = (Int32.toInt (M.1 24))) ∧ ((Int32.toInt ((p_MO_copyCell M x1 x2).1 29)) = (Int32.toInt (M.1 29))) ∧ ((Int32.toInt ((p_MO_copyCell M x1 x2).1 30)) = (Int32.toInt (M.1 30))) ∧ ((Int32.toInt ((p_MO_copyCell M x1 x2).1 34)) = (Int32.toInt (M.1 34))) ∧ ((Int32.toInt ((p_MO_copyCell M x1 x2).1 35)) = (Int32.toInt (M.1 35))) := by
  rw [(kp_copyCell M x1 x2).1]
  exact ⟨rfl, rfl, rfl, rfl, rfl, rfl, rfl, rfl, rfl, rfl, rfl⟩
theorem po_MO_shiftRange (M : mo_S) (x1 : Int32) (x2 : Int32) (x3 : Int32) (b1 : 0 ≤ (Int32.toInt x1)) (b2 : (Int32.toInt x1) < 3240) : ((Int32.toInt ((p_MO_shiftRange M x1 x2 x3).1 9)) = (Int32.toInt (M.1 9))) ∧ ((Int32.toInt ((p_MO_shiftRange M x1 x2 x3).1 10)) = (Int32.toInt (M.1 10))) ∧ ((Int32.toInt ((p_MO_shiftRange M x1 x2 x3).1 11)) = (Int32.toInt (M.1 11))) ∧ ((Int32.toInt ((p_MO_shiftRange M x1 x2 x3).1 12)) = (Int32.toInt (M.1 12))) ∧ ((Int32.toInt ((p_MO_shiftRange M x1 x2 x3).1 22)) = (Int32.toInt (M.1 22))) ∧ ((Int32.toInt ((p_MO_shiftRange M x1 x2 x3).1 23)) = (Int32.toInt (M.1 23))) ∧ ((Int32.toInt ((p_MO_shiftRange M x1 x2 x3).1 24)) = (Int32.toInt (M.1 24))) ∧ ((Int32.toInt ((p_MO_shiftRange M x1 x2 x3).1 29)) = (Int32.toInt (M.1 29))) ∧ ((Int32.toInt ((p_MO_shiftRange M x1 x2 x3).1 30)) = (Int32.toInt (M.1 30))) ∧ ((Int32.toInt ((p_MO_shiftRange M x1 x2 x3).1 34)) = (Int32.toInt (M.1 34))) ∧ ((Int32.toInt ((p_MO_shiftRange M x1 x2 x3).1 35)) = (Int32.toInt (M.1 35))) := by
  rw [(kp_shiftRange M x1 x2 x3).1]
  exact ⟨rfl, rfl, rfl, rfl, rfl, rfl, rfl, rfl, rfl, rfl, rfl⟩
