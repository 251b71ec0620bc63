/-! Pure: the reference's steps over a line. -/
theorem nar_0 : vp_nar .boolean 0 = 0 := by decide
theorem nar_1 : vp_nar .boolean 1 = 1 := by decide
theorem mc.ints {M0 : mo_S} {C : Nat → Nat} {n : Nat} {M : mo_S} {p rd : Nat} {x : Fr} {R : List Fr} {S : List Nat} {I : List It} (h : mc M0 C n M p rd x R S I) (hSI : S.length + I.length ≤ 41) : (M.1 22).toInt = p ∧ (M.1 9).toInt = n ∧ (M.1 23).toInt = R.length ∧ (M.1 29).toInt = S.length ∧ (M.1 30).toInt = I.length ∧ p ≤ 40 ∧ n ≤ 40 ∧ R.length ≤ 6 := by
  obtain ⟨h1, h2, h3, h4, h5, h6, h7, h8, h9, h10, h11, h12⟩ := h
  have h40 := h2.2.1
  refine ⟨?_, ?_, ?_, ?_, ?_, by omega, by omega, by omega⟩
  · rw [h4, nI_toInt (by omega)]
  · rw [h2.1, nI_toInt (by omega)]
  · rw [h6, nI_toInt (by omega)]
  · rw [h8, nI_toInt (by omega)]
  · rw [h9, nI_toInt (by omega)]
theorem mc.here {M0 : mo_S} {C : Nat → Nat} {n : Nat} {M : mo_S} {p rd : Nat} {x : Fr} {R : List Fr} {S : List Nat} {I : List It} (h : mc M0 C n M p rd x R S I) {c : Nat} (h0 : 0 < c) (hc : c < 128) : (p_MO_here M).1 = nI c ↔ C p = c := pm_ci h.2.1 h.2.2.2.1 h.2.2.1 h0 hc
theorem mc.in8 {M0 : mo_S} {C : Nat → Nat} {n : Nat} {M : mo_S} {p rd : Nat} {x : Fr} {R : List Fr} {S : List Nat} {I : List It} (h : mc M0 C n M p rd x R S I) : vp_in (M.1 23) 8 := by
  have h7 := h.2.2.2.2.2.2.1
  rw [h.2.2.2.2.2.1]
  exact nI_in (by omega) (by omega)
theorem mc.rdne {M0 : mo_S} {C : Nat → Nat} {n : Nat} {M : mo_S} {p rd : Nat} {x : Fr} {R : List Fr} {S : List Nat} {I : List It} (h : mc M0 C n M p rd x R S I) (hr : rd < 4) {r : Nat} (h4 : r < 4) : M.1 24 = nI r ↔ rd = r := by
  rw [h.2.2.2.2.1]
  exact nI_eq (by omega) (by omega)
theorem st_not {M0 : mo_S} {C : Nat → Nat} {n : Nat} {M : mo_S} {p w g : Nat} {s : Bool} {R : List Fr} {S : List Nat} {I : List It} (h : mc M0 C n M p 0 (w, g, s) R S I) (hp : p < n) (hSI : S.length + I.length ≤ p) (hc : C p = 33) : ∃ M', q_MO_readOne M = some (1, M') ∧ mc M0 C n M' (p + 1) 1 (w, g, true) R (33 :: S) I := by
  have h7 := h.2.2.2.2.2.2.1
  obtain ⟨i1, i2, i3, i4, i5, i6, i7, i8⟩ := h.ints (by have := h.2.1.2.1; omega)
  have hX := (h.single true (v := 1) rfl).push (c := 33) (by omega) (by omega)
  have e3 : ¬ M.1 24 = 3 := fun z => absurd ((h.rdne (by omega) (r := 3) (by omega)).mp z) (by omega)
  have e0 : M.1 24 = 0 := (h.rdne (by omega) (r := 0) (by omega)).mpr rfl
  have eh : (p_MO_here M).1 = 33 := (h.here (c := 33) (by omega) (by omega)).mpr hc
  refine ⟨_, ?_, (hX.rd' 1).at' (q := p + 1) hp⟩
  unfold q_MO_readOne
  rw [if_neg e3, if_pos e0, fs_okp_pos ⟨by omega, by omega⟩, if_pos eh]
  unfold q_MO_readOne_J34
  rw [if_neg (by decide)]
  unfold q_MO_readOne_J61
  rw [if_neg (by decide), fs_okp_pos h.in8]
  unfold q_MO_readOne_J75
  rw [if_neg (by decide), h.2.2.2.2.2.1, nI_clamp (by omega), nar_1]
  unfold q_MO_readOne_J87
  have e29 : (mo_i M 27 R.length 1).1 29 = M.1 29 := rfl
  rw [e29, fs_okp_pos ⟨by omega, by omega⟩]
  unfold fs_let
  dsimp only
  rw [if_neg (by decide)]
  unfold q_MO_readOne_J100
  have e22 : (p_MO_pushSign (mo_i M 27 R.length 1) 33).1 22 = nI p := hX.2.2.2.1
  rw [e22, nI_1]
  rfl
theorem st_J33 {M0 : mo_S} {C : Nat → Nat} {n : Nat} {M : mo_S} {p rd : Nat} {x : Fr} {R : List Fr} {S : List Nat} {I : List It} (h : mc M0 C n M p rd x R S I) (hr : rd < 3) (hSI : S.length + I.length ≤ p) (hc : rd = 0 → C p ≠ 33) : q_MO_readOne M = q_MO_readOne_J34 0 M := by
  obtain ⟨i1, i2, i3, i4, i5, i6, i7, i8⟩ := h.ints (by have := h.2.1.2.1; have := h.2.2.1; omega)
  have e3 : ¬ M.1 24 = 3 := fun z => absurd ((h.rdne (by omega) (r := 3) (by omega)).mp z) (by omega)
  unfold q_MO_readOne
  rw [if_neg e3]
  have e0 : M.1 24 = 0 ↔ rd = 0 := h.rdne (by omega) (r := 0) (by omega)
  have eh : (p_MO_here M).1 = 33 ↔ C p = 33 := h.here (c := 33) (by omega) (by omega)
  by_cases hz : rd = 0
  · rw [if_pos (e0.mpr hz), fs_okp_pos ⟨by omega, by omega⟩, if_neg (fun z => hc hz (eh.mp z))]
    rfl
  · rw [if_neg (fun z => hz (e0.mp z))]
    rfl
theorem st_neg {M0 : mo_S} {C : Nat → Nat} {n : Nat} {M : mo_S} {p rd : Nat} {x : Fr} {R : List Fr} {S : List Nat} {I : List It} (h : mc M0 C n M p rd x R S I) (hr : rd < 2) (hp : p < n) (hSI : S.length + I.length ≤ p) (hc : C p = 45) : ∃ M', q_MO_readOne M = some (1, M') ∧ mc M0 C n M' (p + 1) 2 x R (10 :: S) I := by
  obtain ⟨i1, i2, i3, i4, i5, i6, i7, i8⟩ := h.ints (by have := h.2.1.2.1; omega)
  have hX := h.push (c := 10) (by omega) (by omega)
  have e2 : ¬ M.1 24 = 2 := fun z => absurd ((h.rdne (by omega) (r := 2) (by omega)).mp z) (by omega)
  have eh : (p_MO_here M).1 = 45 := (h.here (c := 45) (by omega) (by omega)).mpr hc
  refine ⟨_, ?_, (hX.rd' 2).at' (q := p + 1) hp⟩
  rw [st_J33 h (by omega) hSI (fun _ => by omega)]
  unfold q_MO_readOne_J34
  rw [if_pos rfl, if_neg e2, fs_okp_pos ⟨by omega, by omega⟩, if_pos eh]
  unfold q_MO_readOne_J61
  rw [if_pos rfl]
  unfold q_MO_readOne_J75
  rw [if_pos rfl]
  unfold q_MO_readOne_J87
  rw [fs_okp_pos ⟨by omega, by omega⟩]
  unfold fs_let
  dsimp only
  rw [if_pos rfl]
  unfold q_MO_readOne_J100
  have e22 : (p_MO_pushSign M 10).1 22 = nI p := hX.2.2.2.1
  rw [e22, nI_1]
  rfl
theorem st_part {M0 : mo_S} {C : Nat → Nat} {n : Nat} {M : mo_S} {p rd : Nat} {x : Fr} {R : List Fr} {S : List Nat} {I : List It} (h : mc M0 C n M p rd x R S I) (hr : rd < 3) (hSI : S.length + I.length ≤ p) (hc : rd = 0 → C p ≠ 33) (hm : rd ≠ 2 → C p ≠ 45) {r : Int32 × mo_S} (e : q_MO_readPart M = some r) (h01 : r.1 = 0 ∨ r.1 = 1) : q_MO_readOne M = some r := by
  obtain ⟨i1, i2, i3, i4, i5, i6, i7, i8⟩ := h.ints (by have := h.2.1.2.1; have := h.2.2.1; omega)
  rw [st_J33 h hr hSI hc]
  unfold q_MO_readOne_J34
  have e2 : M.1 24 = 2 ↔ rd = 2 := h.rdne (by omega) (r := 2) (by omega)
  have eh : (p_MO_here M).1 = 45 ↔ C p = 45 := h.here (c := 45) (by omega) (by omega)
  rw [if_pos rfl, e]
  by_cases hz : rd = 2
  · rw [if_pos (e2.mpr hz)]
    show fs_okp _ _ = _
    rw [fs_okp_pos h01]
  · rw [if_neg (fun z => hz (e2.mp z)), fs_okp_pos ⟨by omega, by omega⟩, if_neg (fun z => hm hz (eh.mp z))]
    show fs_okp _ _ = _
    rw [fs_okp_pos h01]
/-- the reference's part ends its reading at q -/
def pbad (M0 M : mo_S) (q : Nat) : Prop := ∃ M2, q_MO_readPart M = some (0, M2) ∧ M2.1 22 = nI q ∧ mm_F M0 M2
theorem st_num {M0 : mo_S} {C : Nat → Nat} {n : Nat} {M : mo_S} {p rd : Nat} {x : Fr} {R : List Fr} {S : List Nat} {I : List It} (h : mc M0 C n M p rd x R S I) (hp : p < n) (hSI : S.length + I.length ≤ p) (hd : 48 ≤ C p ∧ C p ≤ 57) :
    ((ps_num C p).1 = none ∧ pbad M0 M (ps_num C p).2) ∨ ∃ y, (ps_num C p).1 = some [y] ∧ ((48 ≤ C (ps_num C p).2 ∧ C (ps_num C p).2 ≤ 57 ∧ pbad M0 M (ps_num C p).2) ∨ ∃ M', q_MO_readPart M = some (1, M') ∧ mc M0 C n M' (ps_num C p).2 3 x R S (I ++ [y])) := by
  obtain ⟨i1, i2, i3, i4, i5, i6, i7, i8⟩ := h.ints (by have := h.2.1.2.1; omega)
  have h3 := h.rd' 3
  have eq : q_MO_readPart M = fs_let (p_MO_readNumeral (mo_f M 24 3)) (fun R510 => fs_okp (R510.1 = 0 ∨ R510.1 = 1) (some (R510.1, R510.2))) := by
    unfold q_MO_readPart
    have ed : ¬ p_MO_digit ((p_MO_here M).1) = 0 := by
      rw [pm_dig h.2.1 h.2.2.2.1 h.2.2.1, if_pos hd]
      decide
    rw [fs_okp_pos ⟨by omega, by omega⟩, if_neg ed, fs_okp_pos ⟨by omega, by omega, by omega, by omega, by omega⟩]
  rcases pm_numeral h3.2.1 h3.2.2.2.1 h3.2.2.1 with ⟨e1, e2, e3⟩ | ⟨b, d, e1, e3, e2⟩
  · refine Or.inl ⟨e1, mo_f (mo_f M 24 3) 22 (nI (ps_num C p).2), ?_, mo_f_at _ _ _, (h3.1.f (by decide))⟩
    rw [eq]
    unfold fs_let
    rw [show p_MO_readNumeral (mo_f M 24 3) = _ from e2]
    exact fs_okp_pos (Or.inl rfl)
  · refine Or.inr ⟨_, e1, ?_⟩
    have hA := (h3.at' e3).addN (by omega) b d
    by_cases hq : 48 ≤ C (ps_num C p).2 ∧ C (ps_num C p).2 ≤ 57
    · rw [if_pos hq] at e2
      refine Or.inl ⟨hq.1, hq.2, _, ?_, hA.2.2.2.1, hA.1⟩
      rw [eq]
      unfold fs_let
      rw [show p_MO_readNumeral (mo_f M 24 3) = _ from e2]
      exact fs_okp_pos (Or.inl rfl)
    · rw [if_neg hq] at e2
      refine Or.inr ⟨_, ?_, hA⟩
      rw [eq]
      unfold fs_let
      rw [show p_MO_readNumeral (mo_f M 24 3) = _ from e2]
      exact fs_okp_pos (Or.inr rfl)
theorem mc.self {M0 : mo_S} {C : Nat → Nat} {n : Nat} {M : mo_S} {p rd : Nat} {x : Fr} {R : List Fr} {S : List Nat} {I : List It} (h : mc M0 C n M p rd x R S I) : mo_f M 22 (nI p) = M := by
  rw [← h.2.2.2.1, mo_f_self]
theorem rs_neg {X Y : mo_S} {v : Int32} (e : p_MO_readReference X = (v, Y)) (hv : v < 0) : p_MO_readSingle X = (0, mo_i Y 4 (Int32.toNatClampNeg (3200 + Y.1 30)) v) := by
  unfold p_MO_readSingle
  rw [e]
  exact (if_pos hv).trans (if_pos hv)
theorem rs_pos {X Y : mo_S} {v : Int32} (e : p_MO_readReference X = (v, Y)) (hv : ¬ v < 0) : p_MO_readSingle X = (1, p_MO_add (mo_i Y 4 (Int32.toNatClampNeg (3200 + Y.1 30)) v) 1) := by
  unfold p_MO_readSingle
  rw [e]
  exact (if_neg hv).trans (if_neg hv)
theorem st_ref {M0 : mo_S} {C : Nat → Nat} {n : Nat} {M : mo_S} {p rd : Nat} {x : Fr} {R : List Fr} {S : List Nat} {I : List It} (h : mc M0 C n M p rd x R S I) (hp : p < n) (hSI : S.length + I.length ≤ p) (hd : ¬ (48 ≤ C p ∧ C p ≤ 57)) (h40 : C p ≠ 40) (h64 : C p ≠ 64) :
    ((ps_ref C p).1 = none ∧ pbad M0 M (ps_ref C p).2) ∨ ∃ v, (ps_ref C p).1 = some v ∧ ∃ M', q_MO_readPart M = some (1, M') ∧ mc M0 C n M' (ps_ref C p).2 3 x R S (I ++ [(1, nI v, 0, 0)]) := by
  obtain ⟨i1, i2, i3, i4, i5, i6, i7, i8⟩ := h.ints (by have := h.2.1.2.1; omega)
  have h3 := h.rd' 3
  have eq : q_MO_readPart M = fs_let (p_MO_readSingle (mo_f M 24 3)) (fun R509 => fs_okp (R509.1 = 0 ∨ R509.1 = 1) (some (R509.1, R509.2))) := by
    unfold q_MO_readPart
    have ed : p_MO_digit ((p_MO_here M).1) = 0 := by
      rw [pm_dig h.2.1 h.2.2.2.1 h.2.2.1, if_neg hd]
    have e40 : ¬ (p_MO_here M).1 = 40 := fun z => h40 ((h.here (c := 40) (by omega) (by omega)).mp z)
    have e64 : ¬ (p_MO_here M).1 = 64 := fun z => h64 ((h.here (c := 64) (by omega) (by omega)).mp z)
    rw [fs_okp_pos ⟨by omega, by omega⟩, if_pos ed, if_neg e40, if_neg e64, fs_okp_pos ⟨by omega, by omega, by omega, by omega, by omega⟩]
  obtain ⟨r1, r2, r3⟩ := pm_reference h3.2.1 (p := p) h3.2.2.1
  rw [h3.self] at r1
  have r1' : p_MO_readReference (mo_f M 24 3) = _ := r1
  have hB := h3.at' r2
  have eI : (mo_f (mo_f M 24 (nI 3)) 22 (nI (ps_ref C p).2)).1 30 = nI I.length := hB.2.2.2.2.2.2.2.2.1
  cases ev : (ps_ref C p).1 with
  | none =>
    rw [ev] at r1'
    refine Or.inl ⟨rfl, mo_i (mo_f (mo_f M 24 (nI 3)) 22 (nI (ps_ref C p).2)) 4 (3200 + I.length) (-1), ?_, hB.2.2.2.1, hB.1.i (by omega)⟩
    rw [eq]
    unfold fs_let
    rw [rs_neg r1' (by decide), mc_idx eI (by omega)]
    exact fs_okp_pos (Or.inl rfl)
  | some v =>
    rw [ev] at r1'
    have hv := r3 v ev
    refine Or.inr ⟨v, rfl, _, ?_, hB.addR (by omega) (nI v)⟩
    rw [eq]
    unfold fs_let
    rw [rs_pos r1' (nI_pos (by omega)), mc_idx eI (by omega)]
    exact fs_okp_pos (Or.inr rfl)
theorem st_full {M0 : mo_S} {C : Nat → Nat} {n : Nat} {M : mo_S} {p rd : Nat} {x : Fr} {R : List Fr} {S : List Nat} {I : List It} (h : mc M0 C n M p rd x R S I) (hSI : S.length + I.length ≤ p) (hc : C p = 40 ∨ C p = 64) (h6 : R.length = 6) : pbad M0 M p := by
  obtain ⟨i1, i2, i3, i4, i5, i6, i7, i8⟩ := h.ints (by have := h.2.1.2.1; have := h.2.2.1; omega)
  have h3 := h.rd' 3
  refine ⟨mo_f M 24 3, ?_, h3.2.2.2.1, h3.1⟩
  unfold q_MO_readPart
  have ed : p_MO_digit ((p_MO_here M).1) = 0 := by
    rw [pm_dig h.2.1 h.2.2.2.1 h.2.2.1, if_neg (by omega)]
  have e6 : (mo_f M 24 3).1 23 = 6 := by
    show M.1 23 = 6
    rw [h.2.2.2.2.2.1, h6]
    rfl
  have ej : ∀ z, q_MO_readPart_J39 z (mo_f M 24 3) = some (0, mo_f M 24 3) := by
    intro z
    unfold q_MO_readPart_J39
    rw [if_pos e6]
  rw [fs_okp_pos ⟨by omega, by omega⟩, if_pos ed]
  rcases hc with hc | hc
  · rw [if_pos (show (p_MO_here M).1 = 40 from (h.here (c := 40) (by omega) (by omega)).mpr hc)]
    exact ej _
  · rw [if_neg (show ¬ (p_MO_here M).1 = 40 from fun z => absurd ((h.here (c := 40) (by omega) (by omega)).mp z) (by omega)), if_pos (show (p_MO_here M).1 = 64 from (h.here (c := 64) (by omega) (by omega)).mpr hc)]
    exact ej _
theorem mc.brk {M0 : mo_S} {C : Nat → Nat} {n : Nat} {M : mo_S} {p rd : Nat} {x : Fr} {R : List Fr} {S : List Nat} {I : List It} (h : mc M0 C n M p rd x R S I) (hR : R.length < 6) (hS : S.length < 100) {w : Nat} (hw : w < 28) : (p_MO_openOne M (nI w)).1 = 1 ∧ mc M0 C n (p_MO_openOne M (nI w)).2 p 0 (w, 0, false) (x :: R) ((100 + w) :: S) I := by
  refine ⟨rfl, ?_⟩
  unfold p_MO_openOne
  dsimp only
  have e23 := h.2.2.2.2.2.1
  rw [e23, nI_1, nI_clamp (by omega), nar_0, show (100 : Int32) = nI 100 from rfl, nI_add]
  refine mc.rd' (rd := rd) (mc.push ?_ hS (by omega)) 0
  obtain ⟨h1, h2, h3, h4, h5, h6, h7, h8, h9, h10, h11, h12⟩ := h
  refine ⟨(((h1.f (by decide)).i (by omega)).i (by omega)).i (by omega), (((h2.f (by decide)).i (by decide) (by decide)).i (by decide) (by decide)).i (by decide) (by decide), h3, h4, h5, mo_f_at M 23 _, hR, h8, h9, ⟨⟨?_, ?_, ?_⟩, ?_⟩, ?_, ?_⟩
  · rw [mo_i_at, if_neg (by omega), mo_i_at, if_neg (by omega), mo_i_at, if_pos ⟨rfl, rfl⟩]
  · rw [mo_i_at, if_neg (by omega), mo_i_at, if_pos ⟨rfl, rfl⟩]; rfl
  · rw [mo_i_at, if_pos ⟨rfl, rfl⟩]; rfl
  · refine h10.kept fun j k a b hk => ?_
    simp only [List.length_cons] at hk
    rw [mo_i_at, if_neg (by omega), mo_i_at, if_neg (by omega), mo_i_at, if_neg (by omega)]
    rfl
  · refine h11.kept fun k _ => ?_
    rw [mo_i_at, if_neg (by omega), mo_i_at, if_neg (by omega), mo_i_at, if_neg (by omega)]
    rfl
  · intro k y hy
    refine (h12 k y hy).kept (fun j a b => ?_) rfl
    rw [mo_i_at, if_neg (by omega), mo_i_at, if_neg (by omega), mo_i_at, if_neg (by omega)]
    rfl
theorem st_brk {M0 : mo_S} {C : Nat → Nat} {n : Nat} {M : mo_S} {p rd : Nat} {x : Fr} {R : List Fr} {S : List Nat} {I : List It} (h : mc M0 C n M p rd x R S I) (hp : p < n) (hSI : S.length + I.length ≤ p) (hc : C p = 40) (h6 : R.length < 6) : ∃ M', q_MO_readPart M = some (1, M') ∧ mc M0 C n M' (p + 1) 0 (1, 0, false) (x :: R) (101 :: S) I := by
  obtain ⟨i1, i2, i3, i4, i5, i6, i7, i8⟩ := h.ints (by have := h.2.1.2.1; have := h.2.2.1; omega)
  have h3 := ((h.rd' 3).at' (q := p + 1) hp)
  obtain ⟨o1, o2⟩ := h3.brk h6 (by omega) (w := 1) (by omega)
  refine ⟨_, ?_, o2⟩
  unfold q_MO_readPart
  have ed : p_MO_digit ((p_MO_here M).1) = 0 := by
    rw [pm_dig h.2.1 h.2.2.2.1 h.2.2.1, if_neg (by omega)]
  have e40 : (p_MO_here M).1 = 40 := (h.here (c := 40) (by omega) (by omega)).mpr hc
  have e6 : ¬ (mo_f M 24 3).1 23 = 6 := by
    show ¬ M.1 23 = 6
    rw [h.2.2.2.2.2.1]
    exact fun z => absurd ((nI_eq (a := R.length) (b := 6) (by omega) (by omega)).mp z) (by omega)
  have f23 : (mo_f M 24 3).1 23 = M.1 23 := rfl
  have f29 : (mo_f M 24 3).1 29 = M.1 29 := rfl
  have f22 : (mo_f M 24 3).1 22 + 1 = nI (p + 1) := by
    show M.1 22 + 1 = _
    rw [h.2.2.2.1, nI_1]
  rw [fs_okp_pos ⟨by omega, by omega⟩, if_pos ed, if_pos e40]
  unfold q_MO_readPart_J39
  rw [if_neg e6, if_pos e40, f23, f29, fs_okp_pos ⟨by omega, by omega, by omega, by omega⟩, f22]
  unfold fs_let
  exact (fs_okp_pos (Or.inr o1)).trans (congrArg some (Prod.ext o1 rfl))
/-- a name, behind @ -/
theorem st_name {M0 : mo_S} {C : Nat → Nat} {n : Nat} {M : mo_S} {p rd : Nat} {x : Fr} {R : List Fr} {S : List Nat} {I : List It} (h : mc M0 C n M p rd x R S I) (hp : p < n) (hSI : S.length + I.length ≤ p) (hc : C p = 64) (h6 : R.length < 6) :
    ((ps_nm C (p + 1)).1 = none ∧ pbad M0 M (ps_nm C (p + 1)).2) ∨
    ∃ j, (ps_nm C (p + 1)).1 = some j ∧
      ((5 ≤ j ∧ j < 8 ∧ ∃ M', q_MO_readPart M = some (1, M') ∧ mc M0 C n M' (ps_nm C (p + 1)).2 0 (j + 2, 0, false) (x :: R) ((102 + j) :: S) I) ∨
       (j < 5 ∧ (((ps_close C (ps_range C j (ps_nm C (p + 1)).2)).1 = none ∧ pbad M0 M (ps_close C (ps_range C j (ps_nm C (p + 1)).2)).2) ∨ ∃ y, (ps_close C (ps_range C j (ps_nm C (p + 1)).2)).1 = some [y] ∧ ∃ M', q_MO_readPart M = some (1, M') ∧ mc M0 C n M' (ps_close C (ps_range C j (ps_nm C (p + 1)).2)).2 3 x R S (I ++ [y])))) := by
  obtain ⟨i1, i2, i3, i4, i5, i6, i7, i8⟩ := h.ints (by have := h.2.1.2.1; have := h.2.2.1; omega)
  have h3 := h.rd' 3
  have h4 := h3.at' (q := p + 1) hp
  have ed : p_MO_digit ((p_MO_here M).1) = 0 := by
    rw [pm_dig h.2.1 h.2.2.2.1 h.2.2.1, if_neg (by omega)]
  have e40 : ¬ (p_MO_here M).1 = 40 := fun z => absurd ((h.here (c := 40) (by omega) (by omega)).mp z) (by omega)
  have e64 : (p_MO_here M).1 = 64 := (h.here (c := 64) (by omega) (by omega)).mpr hc
  have e6 : ¬ (mo_f M 24 3).1 23 = 6 := by
    show ¬ M.1 23 = 6
    rw [h.2.2.2.2.2.1]
    exact fun z => absurd ((nI_eq (a := R.length) (b := 6) (by omega) (by omega)).mp z) (by omega)
  have f22 : (mo_f M 24 3).1 22 + 1 = nI (p + 1) := by
    show M.1 22 + 1 = _
    rw [h.2.2.2.1, nI_1]
  have eN := pm_name h3.2.1 (p := p + 1) hp
  have hq : (ps_nm C (p + 1)).2 ≤ n := ps_nm_in h.2.1.2.2.2.1 hp
  have h5 := h3.at' hq
  have eq : q_MO_readPart M = (if pm_f (ps_nm C (p + 1)).1 < 7 then (if pm_f (ps_nm C (p + 1)).1 < 0 then some (0, mo_f (mo_f M 24 3) 22 (nI (ps_nm C (p + 1)).2)) else (fs_let (p_MO_readRange (mo_f (mo_f M 24 3) 22 (nI (ps_nm C (p + 1)).2)) (pm_f (ps_nm C (p + 1)).1)) (fun R501 => (if R501.1 = 0 then some (0, R501.2) else some (1, R501.2))))) else (fs_let (p_MO_openOne (mo_f (mo_f M 24 3) 22 (nI (ps_nm C (p + 1)).2)) (pm_f (ps_nm C (p + 1)).1)) (fun R503 => fs_okp (R503.1 = 0 ∨ R503.1 = 1) (some (R503.1, R503.2))))) := by
    unfold q_MO_readPart
    rw [fs_okp_pos ⟨by omega, by omega⟩, if_pos ed, if_neg e40, if_pos e64]
    unfold q_MO_readPart_J39
    have g9 : (mo_f M 24 3).1 9 = M.1 9 := rfl
    rw [if_neg e6, if_neg e40, f22, g9, fs_okp_pos ⟨by rw [nI_toInt (by omega)]; omega, by rw [nI_toInt (by omega)]; omega, by omega⟩]
    rw [show p_MO_readName (mo_f (mo_f M 24 3) 22 (nI (p + 1))) = _ from eN]
    unfold fs_let
    dsimp only
    obtain ⟨j1, j2, j3, j4, j5, j6, j7, j8⟩ := h5.ints (by omega)
    have j1' : ((mo_f (mo_f M 24 3) 22 (nI (ps_nm C (p + 1)).2)).1 22).toInt = _ := j1
    have j2' : ((mo_f (mo_f M 24 3) 22 (nI (ps_nm C (p + 1)).2)).1 9).toInt = _ := j2
    have j3' : ((mo_f (mo_f M 24 3) 22 (nI (ps_nm C (p + 1)).2)).1 23).toInt = _ := j3
    have j4' : ((mo_f (mo_f M 24 3) 22 (nI (ps_nm C (p + 1)).2)).1 29).toInt = _ := j4
    have j5' : ((mo_f (mo_f M 24 3) 22 (nI (ps_nm C (p + 1)).2)).1 30).toInt = _ := j5
    have k1 : (0 ≤ ((mo_f (mo_f M 24 (nI 3)) 22 (nI (ps_nm C (p + 1)).2)).1 22).toInt) ∧ (((mo_f (mo_f M 24 (nI 3)) 22 (nI (ps_nm C (p + 1)).2)).1 22).toInt ≤ 90) ∧ (((mo_f (mo_f M 24 (nI 3)) 22 (nI (ps_nm C (p + 1)).2)).1 9).toInt ≤ 40) ∧ (0 ≤ ((mo_f (mo_f M 24 (nI 3)) 22 (nI (ps_nm C (p + 1)).2)).1 30).toInt) ∧ (((mo_f (mo_f M 24 (nI 3)) 22 (nI (ps_nm C (p + 1)).2)).1 30).toInt < 40) := ⟨by omega, by omega, by omega, by omega, by omega⟩
    have k2 : (0 ≤ ((mo_f (mo_f M 24 (nI 3)) 22 (nI (ps_nm C (p + 1)).2)).1 23).toInt) ∧ (((mo_f (mo_f M 24 (nI 3)) 22 (nI (ps_nm C (p + 1)).2)).1 23).toInt ≤ 6) ∧ (0 ≤ ((mo_f (mo_f M 24 (nI 3)) 22 (nI (ps_nm C (p + 1)).2)).1 29).toInt) ∧ (((mo_f (mo_f M 24 (nI 3)) 22 (nI (ps_nm C (p + 1)).2)).1 29).toInt < 44) := ⟨by omega, by omega, by omega, by omega⟩
    rw [fs_okp_pos k1, fs_okp_pos k2]
    rfl
  cases ej : (ps_nm C (p + 1)).1 with
  | none =>
    refine Or.inl ⟨rfl, mo_f (mo_f M 24 3) 22 (nI (ps_nm C (p + 1)).2), ?_, mo_f_at _ _ _, h5.1⟩
    rw [eq, ej, if_pos (show pm_f none < 7 by decide), if_pos (show pm_f none < 0 by decide)]
  | some j =>
    have hj8 := ps_nm_lt ej
    refine Or.inr ⟨j, rfl, ?_⟩
    have ep : pm_f (some j) = nI (j + 2) := rfl
    rw [ej, ep] at eq
    by_cases hj5 : 5 ≤ j
    · obtain ⟨o1, o2⟩ := h5.brk h6 (by omega) (w := j + 2) (by omega)
      rw [show 100 + (j + 2) = 102 + j by omega] at o2
      refine Or.inl ⟨hj5, hj8, _, ?_, o2⟩
      rw [if_neg (show ¬ nI (j + 2) < 7 from nI_nlt (b := 7) (by omega) (by omega))] at eq
      unfold fs_let at eq
      refine eq.trans ((fs_okp_pos (Or.inr o1)).trans ?_)
      exact congrArg some (Prod.ext o1 rfl)
    · refine Or.inr ⟨by omega, ?_⟩
      rw [if_pos (show nI (j + 2) < 7 from nI_lt (b := 7) (by omega) (by omega)), if_neg (nI_pos (by omega))] at eq
      unfold fs_let at eq
      generalize (ps_nm C (p + 1)).2 = q at *
      obtain ⟨r1, r2, r3⟩ := pm_reference h3.2.1 (p := q) hq
      have r1' : p_MO_readReference (mo_f (mo_f M 24 3) 22 (nI q)) = _ := r1
      unfold p_MO_readRange at eq
      rw [r1'] at eq
      dsimp only at eq
      unfold ps_close ps_range
      cases ea : ps_ref C q with
      | mk oa qa =>
        rw [ea] at eq r2 r3
        dsimp only at eq r2 r3
        have h6' := h3.at' r2
        cases oa with
        | none =>
          refine Or.inl ⟨rfl, mo_f (mo_f M 24 3) 22 (nI qa), ?_, mo_f_at _ _ _, h6'.1⟩
          rw [eq, if_pos (show pm_r none < 0 by decide)]
          exact if_pos rfl
        | some a =>
          have ha := r3 a rfl
          rw [if_neg (show ¬ pm_r (some a) < 0 from nI_pos (by omega))] at eq
          show _ ∨ _
          simp only [ps_then]
          unfold ps_ch
          have e58 : (p_MO_here (mo_f (mo_f M 24 (nI 3)) 22 (nI qa))).1 = 58 ↔ C qa = 58 := h6'.here (c := 58) (by omega) (by omega)
          by_cases h58 : C qa = 58
          · rw [if_pos h58]
            dsimp only
            have hqa : qa + 1 ≤ n := ps_lt_of h.2.1.2.2.2.1 (by omega)
            obtain ⟨s1, s2, s3⟩ := pm_reference h3.2.1 (p := qa + 1) hqa
            have s1' : p_MO_readReference (mo_f (mo_f M 24 (nI 3)) 22 (nI (qa + 1))) = _ := s1
            rw [if_pos (e58.mpr h58), mo_f_at, nI_1, mo_ff, s1'] at eq
            dsimp only at eq
            cases eb : ps_ref C (qa + 1) with
            | mk ob qb =>
              rw [eb] at eq s2 s3
              dsimp only at eq s2 s3
              have h7' := h3.at' s2
              cases ob with
              | none =>
                refine Or.inl ⟨rfl, mo_f (mo_f M 24 3) 22 (nI qb), ?_, mo_f_at _ _ _, h7'.1⟩
                rw [eq, if_pos (show pm_r none < 0 by decide)]
                exact if_pos rfl
              | some b =>
                have hb := s3 b rfl
                rw [if_neg (show ¬ pm_r (some b) < 0 from nI_pos (by omega))] at eq
                have e41 : (p_MO_here (mo_f (mo_f M 24 (nI 3)) 22 (nI qb))).1 = 41 ↔ C qb = 41 := h7'.here (c := 41) (by omega) (by omega)
                dsimp only
                by_cases h41 : C qb = 41
                · rw [if_pos h41]
                  have hqb : qb + 1 ≤ n := ps_lt_of h.2.1.2.2.2.1 (by omega)
                  have h8' := (h3.at' hqb).addG (by omega) (nI (j + 2)) (nI a) (nI b) (nI_le (a := 2) (by omega) (by omega))
                  refine Or.inr ⟨_, rfl, _, ?_, h8'⟩
                  have eI : (mo_f (mo_f M 24 (nI 3)) 22 (nI qb)).1 30 = nI I.length := h7'.2.2.2.2.2.2.2.2.1
                  rw [if_pos (e41.mpr h41), mc_idx eI (by omega), mo_f_at, nI_1, mo_ff] at eq
                  exact eq.trans (if_neg (show ¬ (1 : Int32) = 0 by decide))
                · rw [if_neg h41]
                  refine Or.inl ⟨rfl, mo_f (mo_f M 24 3) 22 (nI qb), ?_, mo_f_at _ _ _, h7'.1⟩
                  rw [eq, if_neg (fun z => h41 (e41.mp z))]
                  exact if_pos rfl
          · rw [if_neg h58]
            refine Or.inl ⟨rfl, mo_f (mo_f M 24 3) 22 (nI qa), ?_, mo_f_at _ _ _, h6'.1⟩
            rw [eq, if_neg (fun z => h58 (e58.mp z))]
            exact if_pos rfl
