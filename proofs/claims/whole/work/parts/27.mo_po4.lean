/-! What refer, referRange and shiftRange leave. -/
theorem kp_refer (M : mo_S) (x1 x2 : Int32) : (p_MO_refer M x1 x2).1 = M.1 ∧ (p_MO_refer M x1 x2).2.1 = M.2.1 := by
  unfold p_MO_refer; split <;> exact ⟨rfl, rfl⟩
theorem kp_rr42 : ∀ (n : Nat) (z1 z2 z3 z4 z5 : Int32) (M1 : mo_S), (p_MO_referRange_L42 n z1 z2 z3 z4 z5 M1).2.1 = M1.1 ∧ (p_MO_referRange_L42 n z1 z2 z3 z4 z5 M1).2.2.1 = M1.2.1 := by
  intro n
  induction n with
  | zero => intros; exact ⟨rfl, rfl⟩
  | succ n ih =>
    intro z1 z2 z3 z4 z5 M1
    rw [p_MO_referRange_L42]
    split
    · exact ⟨rfl, rfl⟩
    · obtain ⟨h1, h2⟩ := ih z1 z2 z3 z4 (z5 + 1) (p_MO_refer M1 z1 ((10 * z4) + z5))
      exact ⟨h1.trans (kp_refer _ _ _).1, h2.trans (kp_refer _ _ _).2⟩
theorem kp_rr13 : ∀ (n : Nat) (z1 z2 z3 z4 : Int32) (M1 : mo_S), (p_MO_referRange_L13 n z1 z2 z3 z4 M1).2.1 = M1.1 ∧ (p_MO_referRange_L13 n z1 z2 z3 z4 M1).2.2.1 = M1.2.1 := by
  intro n
  induction n with
  | zero => intros; exact ⟨rfl, rfl⟩
  | succ n ih =>
    intro z1 z2 z3 z4 M1
    rw [p_MO_referRange_L13]
    split
    · exact ⟨rfl, rfl⟩
    · have h := kp_rr42 17 z1 z2 z3 z4 (p_MO_least (p_MO_row z2) (p_MO_row z3)) M1
      obtain ⟨R, eR⟩ : ∃ x, x = p_MO_referRange_L42 17 z1 z2 z3 z4 (p_MO_least (p_MO_row z2) (p_MO_row z3)) M1 := ⟨_, rfl⟩
      rw [← eR] at h ⊢
      obtain ⟨y, M2⟩ := R
      obtain ⟨h1, h2⟩ := ih z1 z2 z3 (z4 + 1) M2
      exact ⟨h1.trans h.1, h2.trans h.2⟩
theorem kp_referRange (M : mo_S) (x1 x2 x3 : Int32) : (p_MO_referRange M x1 x2 x3).1 = M.1 ∧ (p_MO_referRange M x1 x2 x3).2.1 = M.2.1 := by
  have h := kp_rr13 9 x1 x2 x3 (p_MO_least (p_MO_column x2) (p_MO_column x3)) M
  unfold p_MO_referRange
  obtain ⟨R, eR⟩ : ∃ x, x = p_MO_referRange_L13 9 x1 x2 x3 (p_MO_least (p_MO_column x2) (p_MO_column x3)) M := ⟨_, rfl⟩
  rw [← eR] at h ⊢
  obtain ⟨y, M2⟩ := R
  exact h
theorem pz_refer (M : mo_S) (x1 x2 : Int32) : (p_MO_refer M x1 x2).2.1 1 = M.2.1 1 := by rw [(kp_refer M x1 x2).2]
theorem pz_referRange (M : mo_S) (x1 x2 x3 : Int32) : (p_MO_referRange M x1 x2 x3).2.1 1 = M.2.1 1 := by rw [(kp_referRange M x1 x2 x3).2]
theorem pq_MO_refer (M : mo_S) (x1 : Int32) (x2 : Int32) (b1 : 0 ≤ (Int32.toInt x1)) (b2 : (Int32.toInt x1) < 80) : ((Int32.toInt ((p_MO_refer M x1 x2).1 9)) = (Int32.toInt (M.1 9))) ∧ ((Int32.toInt ((p_MO_refer M x1 x2).1 10)) = (Int32.toInt (M.1 10))) ∧ ((Int32.toInt ((p_MO_refer M x1 x2).1 11)) = (Int32.toInt (M.1 11))) ∧ ((Int32.toInt ((p_MO_refer M x1 x2).1 12)) = (Int32.toInt (M.1 12))) ∧ ((Int32.toInt ((p_MO_refer M x1 x2).1 22)) = (Int32.toInt (M.1 22))) ∧ ((Int32.toInt ((p_MO_refer M x1 x2).1 23)) = (Int32.toInt (M.1 23))) ∧ ((Int32.toInt ((p_MO_refer M x1 x2).1 24)) = (Int32.toInt (M.1 24))) ∧ ((Int32.toInt ((p_MO_refer M x1 x2).1 29)) = (Int32.toInt (M.1 29))) ∧ ((Int32.toInt ((p_MO_refer M x1 x2).1 30)) = (Int32.toInt (M.1 30))) ∧ ((Int32.toInt ((p_MO_refer M x1 x2).1 34)) = (Int32.toInt (M.1 34))) ∧ ((Int32.toInt ((p_MO_refer M x1 x2).1 35)) = (Int32.toInt (M.1 35))) ∧ ((Int32.toInt ((p_MO_refer M x1 x2).2.1 0 (Int32.toNatClampNeg x1))) = (Int32.toInt (M.2.1 0 (Int32.toNatClampNeg x1)))) ∧ ((Int32.toInt ((p_MO_refer M x1 x2).2.1 1 (Int32.toNatClampNeg x1))) = (Int32.toInt (M.2.1 1 (Int32.toNatClampNeg x1)))) := by
  obtain ⟨h1, h2⟩ := kp_refer M x1 x2
  rw [h1, h2]
  exact ⟨rfl, rfl, rfl, rfl, rfl, rfl, rfl, rfl, rfl, rfl, rfl, rfl, rfl⟩
theorem po_MO_referRange (M : mo_S) (x1 : Int32) (x2 : Int32) (x3 : Int32) (b1 : 0 ≤ (Int32.toInt x1)) (b2 : (Int32.toInt x1) < 80) : ((Int32.toInt ((p_MO_referRange M x1 x2 x3).1 9)) = (Int32.toInt (M.1 9))) ∧ ((Int32.toInt ((p_MO_referRange M x1 x2 x3).1 10)) = (Int32.toInt (M.1 10))) ∧ ((Int32.toInt ((p_MO_referRange M x1 x2 x3).1 11)) = (Int32.toInt (M.1 11))) ∧ ((Int32.toInt ((p_MO_referRange M x1 x2 x3).1 12)) = (Int32.toInt (M.1 12))) ∧ ((Int32.toInt ((p_MO_referRange M x1 x2 x3).1 22)) = (Int32.toInt (M.1 22))) ∧ ((Int32.toInt ((p_MO_referRange M x1 x2 x3).1 23)) = (Int32.toInt (M.1 23))) ∧ ((Int32.toInt ((p_MO_referRange M x1 x2 x3).1 24)) = (Int32.toInt (M.1 24))) ∧ ((Int32.toInt ((p_MO_referRange M x1 x2 x3).1 29)) = (Int32.toInt (M.1 29))) ∧ ((Int32.toInt ((p_MO_referRange M x1 x2 x3).1 30)) = (Int32.toInt (M.1 30))) ∧ ((Int32.toInt ((p_MO_referRange M x1 x2 x3).1 34)) = (Int32.toInt (M.1 34))) ∧ ((Int32.toInt ((p_MO_referRange M x1 x2 x3).1 35)) = (Int32.toInt (M.1 35))) ∧ ((Int32.toInt ((p_MO_referRange M x1 x2 x3).2.1 0 (Int32.toNatClampNeg x1))) = (Int32.toInt (M.2.1 0 (Int32.toNatClampNeg x1)))) ∧ ((Int32.toInt ((p_MO_referRange M x1 x2 x3).2.1 1 (Int32.toNatClampNeg x1))) = (Int32.toInt (M.2.1 1 (Int32.toNatClampNeg x1)))) := by
  obtain ⟨h1, h2⟩ := kp_referRange M x1 x2 x3
  rw [h1, h2]
  exact ⟨rfl, rfl, rfl, rfl, rfl, rfl, rfl, rfl, rfl, rfl, rfl, rfl, rfl⟩
