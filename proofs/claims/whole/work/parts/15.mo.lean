/-! The reference (FormulaSheetModel): its state as four functions, and where it lies. -/
-- fields: 0 state, 1 size, 2 number, 3 item, 4 one, 5 two, 6 digits, 7 names, 8 line, 9 length, 10 errorAt, 11 thrown, 12 stale, 13 low, 14 high, 15 farLow, 16 farHigh, 17 worth, 18 bad, 19 known, 20 stack, 21 broken, 22 at, 23 open, 24 reading, 25 around, 26 argument, 27 single, 28 signs, 29 signCount, 30 made, 31 text, 32 starts, 33 levels, 34 textLength, 35 pieces
abbrev mo_S : Type := (Nat → Int32) × (Nat → Nat → Int32) × (Nat → Nat → Int64) × (Nat → Nat → UInt64)
def mo_f (M : mo_S) (k : Nat) (v : Int32) : mo_S := (fun j => if j = k then v else M.1 j, M.2)
def mo_i (M : mo_S) (j k : Nat) (x : Int32) : mo_S := (M.1, (fun i => if i = j then upd (M.2.1 j) k x else M.2.1 i), M.2.2)
def mo_l (M : mo_S) (j k : Nat) (x : Int64) : mo_S := (M.1, M.2.1, (fun i => if i = j then vp_updL (M.2.2.1 j) k x else M.2.2.1 i), M.2.2.2)
def mo_d (M : mo_S) (j k : Nat) (x : UInt64) : mo_S := (M.1, M.2.1, M.2.2.1, (fun i => if i = j then vf_upd (M.2.2.2 j) k x else M.2.2.2 i))
def mo_fs (ad : Nat → Nat) (M : mo_S) : List Value := [.ref (ad 0), .ref (ad 1), .ref (ad 2), .ref (ad 3), .ref (ad 4), .ref (ad 5), .ref (ad 6), .ref (ad 7), .ref (ad 8), .int (M.1 9), .int (M.1 10), .int (M.1 11), .int (M.1 12), .ref (ad 13), .ref (ad 14), .ref (ad 15), .ref (ad 16), .ref (ad 17), .ref (ad 18), .ref (ad 19), .ref (ad 20), .ref (ad 21), .int (M.1 22), .int (M.1 23), .int (M.1 24), .ref (ad 25), .ref (ad 26), .ref (ad 27), .ref (ad 28), .int (M.1 29), .int (M.1 30), .ref (ad 31), .ref (ad 32), .ref (ad 33), .int (M.1 34), .int (M.1 35)]
/-- the array fields: type and length -/
def mo_ar : Nat → Option (Nat × Nat) := fun k => match k with
  | 0 => some (0, 81)
  | 1 => some (0, 81)
  | 2 => some (2, 81)
  | 3 => some (0, 3240)
  | 4 => some (0, 3240)
  | 5 => some (0, 3240)
  | 6 => some (1, 3240)
  | 7 => some (0, 24)
  | 8 => some (0, 40)
  | 13 => some (1, 80)
  | 14 => some (1, 80)
  | 15 => some (1, 80)
  | 16 => some (1, 80)
  | 17 => some (2, 80)
  | 18 => some (3, 80)
  | 19 => some (3, 80)
  | 20 => some (2, 44)
  | 21 => some (3, 44)
  | 25 => some (0, 8)
  | 26 => some (0, 8)
  | 27 => some (3, 8)
  | 28 => some (0, 44)
  | 31 => some (0, 400)
  | 32 => some (0, 44)
  | 33 => some (0, 44)
  | _ => none
def mo_c (M : mo_S) (j t : Nat) : (Nat → Int32) ⊕ (Nat → Int64) ⊕ (Nat → UInt32) ⊕ (Nat → UInt64) ⊕ (Nat → Option Nat) := match t with
  | 1 => .inr (.inl (M.2.2.1 j))
  | 2 => .inr (.inr (.inr (.inl (M.2.2.2 j))))
  | _ => .inl (M.2.1 j)
def mo_at (G : fs_G) (h : fs_Hp) (a : Nat) (ad : Nat → Nat) (M : mo_S) : Prop := h a = some (.inr (10, mo_fs ad M)) ∧ (∀ j t n, mo_ar j = some (t, n) → h (ad j) = some (.inl (G.2 t, n, mo_c M j t))) ∧ ∀ i j, mo_ar i ≠ none → mo_ar j ≠ none → ad i = ad j → i = j
/-- nothing else changes -/
def mo_fr (a : Nat) (ad : Nat → Nat) (h h2 : fs_Hp) : Prop := ∀ q, q ≠ a → (∀ j, mo_ar j ≠ none → q ≠ ad j) → h2 q = h q
theorem mo_fr.rf {a : Nat} {ad : Nat → Nat} {h : fs_Hp} : mo_fr a ad h h := fun _ _ _ => rfl
theorem mo_fr.trans {a : Nat} {ad : Nat → Nat} {h h2 h3 : fs_Hp} (h12 : mo_fr a ad h h2) (h23 : mo_fr a ad h2 h3) : mo_fr a ad h h3 := fun q g1 g2 => (h23 q g1 g2).trans (h12 q g1 g2)
theorem mo_fr.self {a : Nat} {ad : Nat → Nat} {h h2 : fs_Hp} {e : va_E} (h12 : mo_fr a ad h h2) : mo_fr a ad h (fs_up h2 a e) := fun q g1 g2 => (fs_up_ne g1).trans (h12 q g1 g2)
theorem mo_fr.arr {a j : Nat} {ad : Nat → Nat} {h h2 : fs_Hp} {e : va_E} (h12 : mo_fr a ad h h2) (hj : mo_ar j ≠ none) : mo_fr a ad h (fs_up h2 (ad j) e) := fun q g1 g2 => (fs_up_ne (g2 j hj)).trans (h12 q g1 g2)
theorem mo_at.ne {G : fs_G} {h : fs_Hp} {a : Nat} {ad : Nat → Nat} {M : mo_S} (hM : mo_at G h a ad M) {j : Nat} (hj : mo_ar j ≠ none) : a ≠ ad j := by
  cases hq : mo_ar j with
  | none => exact absurd hq hj
  | some x =>
    obtain ⟨t, n⟩ := x
    have h2 := hM.2.1 j t n hq
    intro e
    rw [← e, hM.1] at h2
    cases h2
theorem mo_at.up {G : fs_G} {h : fs_Hp} {a : Nat} {ad : Nat → Nat} {M M2 : mo_S} (hM : mo_at G h a ad M) {j t n : Nat} (hj : mo_ar j = some (t, n)) (hfs : mo_fs ad M2 = mo_fs ad M) (hc : ∀ i u, i ≠ j → mo_c M2 i u = mo_c M i u) : mo_at G (fs_up h (ad j) (.inl (G.2 t, n, mo_c M2 j t))) a ad M2 := by
  have hjn : mo_ar j ≠ none := by rw [hj]; intro q; cases q
  refine ⟨?_, ?_, hM.2.2⟩
  · rw [fs_up_ne (hM.ne hjn), hfs]; exact hM.1
  · intro i u k hi
    by_cases hij : i = j
    · subst hij
      rw [hj] at hi
      cases hi
      exact fs_up_self
    · have hin : mo_ar i ≠ none := by rw [hi]; intro q; cases q
      rw [fs_up_ne (fun q => hij (hM.2.2 i j hin hjn q)), hc i u hij]
      exact hM.2.1 i u k hi
theorem mo_at.I {G : fs_G} {h : fs_Hp} {a : Nat} {ad : Nat → Nat} {M : mo_S} (hM : mo_at G h a ad M) {j t n k : Nat} {x : Int32} (hj : mo_ar j = some (t, n)) (ht : ∀ N : mo_S, mo_c N j t = .inl (N.2.1 j)) : mo_at G (fs_up h (ad j) (.inl (G.2 t, n, .inl (upd (M.2.1 j) k x)))) a ad (mo_i M j k x) := by
  have h1 := hM.up (M2 := mo_i M j k x) hj rfl (fun i u hi => by unfold mo_c mo_i; split <;> simp [hi])
  rw [ht] at h1
  have h2 : (mo_i M j k x).2.1 j = upd (M.2.1 j) k x := by simp [mo_i]
  rw [h2] at h1
  exact h1
theorem mo_at.L {G : fs_G} {h : fs_Hp} {a : Nat} {ad : Nat → Nat} {M : mo_S} (hM : mo_at G h a ad M) {j n k : Nat} {x : Int64} (hj : mo_ar j = some (1, n)) : mo_at G (fs_up h (ad j) (.inl (G.2 1, n, .inr (.inl (vp_updL (M.2.2.1 j) k x))))) a ad (mo_l M j k x) := by
  have h1 := hM.up (M2 := mo_l M j k x) hj rfl (fun i u hi => by unfold mo_c mo_l; split <;> simp [hi])
  have h2 : mo_c (mo_l M j k x) j 1 = .inr (.inl (vp_updL (M.2.2.1 j) k x)) := by simp [mo_c, mo_l]
  rw [h2] at h1
  exact h1
theorem mo_at.D {G : fs_G} {h : fs_Hp} {a : Nat} {ad : Nat → Nat} {M : mo_S} (hM : mo_at G h a ad M) {j n k : Nat} {x : UInt64} (hj : mo_ar j = some (2, n)) : mo_at G (fs_up h (ad j) (.inl (G.2 2, n, .inr (.inr (.inr (.inl (vf_upd (M.2.2.2 j) k x))))))) a ad (mo_d M j k x) := by
  have h1 := hM.up (M2 := mo_d M j k x) hj rfl (fun i u hi => by unfold mo_c mo_d; split <;> simp [hi])
  have h2 : mo_c (mo_d M j k x) j 2 = .inr (.inr (.inr (.inl (vf_upd (M.2.2.2 j) k x)))) := by simp [mo_c, mo_d]
  rw [h2] at h1
  exact h1
theorem mo_at.F {G : fs_G} {h : fs_Hp} {a : Nat} {ad : Nat → Nat} {M : mo_S} (hM : mo_at G h a ad M) {k : Nat} {v : Int32} (hk : (mo_fs ad M).set k (.int v) = mo_fs ad (mo_f M k v)) : mo_at G (fs_up h a (.inr (10, (mo_fs ad M).set k (.int v)))) a ad (mo_f M k v) := by
  refine ⟨by rw [fs_up_self, hk], ?_, hM.2.2⟩
  intro j t n hj
  have hjn : mo_ar j ≠ none := by rw [hj]; intro q; cases q
  rw [fs_up_ne (Ne.symm (hM.ne hjn))]
  exact hM.2.1 j t n hj
theorem mo_F9 (ad : Nat → Nat) (M : mo_S) (v : Int32) : (mo_fs ad M).set 9 (.int v) = mo_fs ad (mo_f M 9 v) := by simp [mo_fs, mo_f]
theorem mo_F10 (ad : Nat → Nat) (M : mo_S) (v : Int32) : (mo_fs ad M).set 10 (.int v) = mo_fs ad (mo_f M 10 v) := by simp [mo_fs, mo_f]
theorem mo_F11 (ad : Nat → Nat) (M : mo_S) (v : Int32) : (mo_fs ad M).set 11 (.int v) = mo_fs ad (mo_f M 11 v) := by simp [mo_fs, mo_f]
theorem mo_F12 (ad : Nat → Nat) (M : mo_S) (v : Int32) : (mo_fs ad M).set 12 (.int v) = mo_fs ad (mo_f M 12 v) := by simp [mo_fs, mo_f]
theorem mo_F22 (ad : Nat → Nat) (M : mo_S) (v : Int32) : (mo_fs ad M).set 22 (.int v) = mo_fs ad (mo_f M 22 v) := by simp [mo_fs, mo_f]
theorem mo_F23 (ad : Nat → Nat) (M : mo_S) (v : Int32) : (mo_fs ad M).set 23 (.int v) = mo_fs ad (mo_f M 23 v) := by simp [mo_fs, mo_f]
theorem mo_F24 (ad : Nat → Nat) (M : mo_S) (v : Int32) : (mo_fs ad M).set 24 (.int v) = mo_fs ad (mo_f M 24 v) := by simp [mo_fs, mo_f]
theorem mo_F29 (ad : Nat → Nat) (M : mo_S) (v : Int32) : (mo_fs ad M).set 29 (.int v) = mo_fs ad (mo_f M 29 v) := by simp [mo_fs, mo_f]
theorem mo_F30 (ad : Nat → Nat) (M : mo_S) (v : Int32) : (mo_fs ad M).set 30 (.int v) = mo_fs ad (mo_f M 30 v) := by simp [mo_fs, mo_f]
theorem mo_F34 (ad : Nat → Nat) (M : mo_S) (v : Int32) : (mo_fs ad M).set 34 (.int v) = mo_fs ad (mo_f M 34 v) := by simp [mo_fs, mo_f]
theorem mo_F35 (ad : Nat → Nat) (M : mo_S) (v : Int32) : (mo_fs ad M).set 35 (.int v) = mo_fs ad (mo_f M 35 v) := by simp [mo_fs, mo_f]
