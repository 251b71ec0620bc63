/-! Pure: the reference's steps at signs, brackets' ends and commas. -/
theorem mc.here' {M0 : mo_S} {C : Nat → Nat} {n : Nat} {M : mo_S} {p rd : Nat} {x : Fr} {R : List Fr} {S : List Nat} {I : List It} (h : mc M0 C n M p rd x R S I) (hp : p < n) : (p_MO_here M).1 = nI (C p) ∧ C p < 128 := by
  refine ⟨?_, (h.2.1.2.2.1 p hp).2⟩
  rw [pm_here h.2.1 h.2.2.2.1 h.2.2.1, if_pos hp]
theorem st_3 {M0 : mo_S} {C : Nat → Nat} {n : Nat} {M : mo_S} {p : Nat} {x : Fr} {R : List Fr} {S : List Nat} {I : List It} (h : mc M0 C n M p 3 x R S I) {r : Int32 × mo_S} (e : q_MO_readOperator M = some r) (h01 : r.1 = 0 ∨ r.1 = 1) : q_MO_readOne M = some r := by
  unfold q_MO_readOne
  have e3 : M.1 24 = 3 := h.2.2.2.2.1
  rw [if_pos e3, e]
  exact fs_okp_pos h01
theorem st_101 {M0 : mo_S} {C : Nat → Nat} {n : Nat} {M : mo_S} {p rd c lev : Nat} {x : Fr} {R : List Fr} {D S : List Nat} {I : List It} (h : mc M0 C n M p rd x R (D ++ S) I) (hp : p < n) (hSI : (D ++ S).length + I.length ≤ p) (hc : c < 128) (hl0 : 0 < lev) (hl : lev ≤ 5) (hD : ∀ d ∈ D, lev ≤ str d) (hs : sg_stop lev S) : ∃ M', q_MO_readOperator_J101 (nI c) (nI lev) M = some (1, M') ∧ mc M0 C n M' (p + 1) (if lev = 1 then 0 else 1) x R (c :: S) (I ++ sg_it D) := by
  obtain ⟨i1, i2, i3, i4, i5, i6, i7, i8⟩ := h.ints (by have := h.2.1.2.1; omega)
  have hl1 : D.length ≤ 40 := by rw [List.length_append] at hSI; omega
  have hl2 : S.length ≤ 40 := by rw [List.length_append] at hSI; omega
  have hX := mc.settle hl0 hl hs D 45 h hD (by omega) (by omega)
  have hY := hX.push (c := c) (by omega) hc
  unfold q_MO_readOperator_J101
  rw [fs_okp_pos ⟨by omega, by omega, by omega⟩]
  unfold fs_let
  dsimp only
  have e29 : ((p_MO_settle M (nI lev)).1 29).toInt = S.length := by
    rw [show (p_MO_settle M (nI lev)).1 29 = nI S.length from hX.2.2.2.2.2.2.2.1, nI_toInt (by omega)]
  rw [fs_okp_pos ⟨by omega, by omega⟩]
  have e1 : nI lev = 1 ↔ lev = 1 := nI_eq (b := 1) (by omega) (by omega)
  have e22 : (p_MO_pushSign (p_MO_settle M (nI lev)) (nI c)).1 22 + 1 = nI (p + 1) := by
    rw [show (p_MO_pushSign (p_MO_settle M (nI lev)) (nI c)).1 22 = nI p from hY.2.2.2.1, nI_1]
  by_cases hl9 : lev = 1
  · rw [if_pos (e1.mpr hl9), if_pos hl9]
    refine ⟨_, ?_, (hY.rd' 0).at' (q := p + 1) hp⟩
    unfold q_MO_readOperator_J122 q_MO_readOperator_J125
    exact congrArg (fun z => some ((1 : Int32), mo_f (mo_f (p_MO_pushSign (p_MO_settle M (nI lev)) (nI c)) 24 0) 22 z)) e22
  · rw [if_neg (fun z => hl9 (e1.mp z)), if_neg hl9]
    refine ⟨_, ?_, (hY.rd' 1).at' (q := p + 1) hp⟩
    unfold q_MO_readOperator_J122 q_MO_readOperator_J125
    exact congrArg (fun z => some ((1 : Int32), mo_f (mo_f (p_MO_pushSign (p_MO_settle M (nI lev)) (nI c)) 24 1) 22 z)) e22
theorem mc.sgl {M0 : mo_S} {C : Nat → Nat} {n : Nat} {M : mo_S} {p rd w g : Nat} {s : Bool} {R : List Fr} {S : List Nat} {I : List It} (h : mc M0 C n M p rd (w, g, s) R S I) : M.2.1 27 R.length = (if s then 1 else 0) ∧ M.2.1 25 R.length = nI w ∧ M.2.1 26 R.length = nI g := ⟨h.2.2.2.2.2.2.2.2.2.1.1.2.2, h.2.2.2.2.2.2.2.2.2.1.1.1, h.2.2.2.2.2.2.2.2.2.1.1.2.1⟩
theorem st_op {M0 : mo_S} {C : Nat → Nat} {n : Nat} {M : mo_S} {p w g lev : Nat} {s : Bool} {R : List Fr} {D S : List Nat} {I : List It} (h : mc M0 C n M p 3 (w, g, s) R (D ++ S) I) (hp : p < n) (hSI : (D ++ S).length + I.length ≤ p) (hl : str (C p) = lev) (hl0 : 0 < lev) (hc : C p ≠ 33) (hc2 : C p ≠ 10) (h2 : lev = 2 → s = false) (hD : ∀ d ∈ D, lev ≤ str d) (hs : sg_stop lev S) : ∃ M', q_MO_readOne M = some (1, M') ∧ mc M0 C n M' (p + 1) (if lev = 1 then 0 else 1) (w, g, if lev < 3 then lev == 2 else s) R (C p :: S) (I ++ sg_it D) := by
  obtain ⟨i1, i2, i3, i4, i5, i6, i7, i8⟩ := h.ints (by have := h.2.1.2.1; omega)
  obtain ⟨hh, h128⟩ := h.here' hp
  have hl5 : lev ≤ 5 := by rw [← hl]; exact str_le _
  have n41 : ¬ nI (C p) = 41 := fun z => by
    rw [(nI_eq (b := 41) (by omega) (by omega)).mp z] at hl
    exact absurd hl (by have : str 41 = 0 := by decide
                        omega)
  have n44 : ¬ nI (C p) = 44 := fun z => by
    rw [(nI_eq (b := 44) (by omega) (by omega)).mp z] at hl
    exact absurd hl (by have : str 44 = 0 := by decide
                        omega)
  have n10 : ¬ nI (C p) = 10 := fun z => hc2 ((nI_eq (b := 10) (by omega) (by omega)).mp z)
  have n33 : ¬ nI (C p) = 33 := fun z => hc ((nI_eq (b := 33) (by omega) (by omega)).mp z)
  have n0 : ¬ nI lev = 0 := nI_ne0 hl0 (by omega)
  have e2 : nI lev = 2 ↔ lev = 2 := nI_eq (b := 2) (by omega) (by omega)
  have e3 : (3 : Int32) ≤ nI lev ↔ 3 ≤ lev := nI_leI (a := 3) (by omega) (by omega)
  have hst : p_MO_strength (nI (C p)) = nI lev := by rw [str_ok _ h128, hl]
  have e23 := h.2.2.2.2.2.1
  have key : ∃ M', q_MO_readOperator_J77 (nI (C p)) (nI lev) M = some (1, M') ∧ mc M0 C n M' (p + 1) (if lev = 1 then 0 else 1) (w, g, if lev < 3 then lev == 2 else s) R (C p :: S) (I ++ sg_it D) := by
    unfold q_MO_readOperator_J77
    by_cases g3 : 3 ≤ lev
    · rw [if_pos (e3.mpr g3), if_neg (by omega : ¬ lev < 3)]
      exact st_101 h hp hSI h128 hl0 hl5 hD hs
    · rw [if_neg (fun z => g3 (e3.mp z)), if_pos (by omega : lev < 3)]
      by_cases g2 : lev = 2
      · rw [if_pos (e2.mpr g2)]
        unfold q_MO_readOperator_J100
        rw [fs_okp_pos h.in8, e23, nI_clamp (by omega), nar_1]
        have hA := h.single true (v := 1) rfl
        rw [show (lev == 2) = true by rw [g2]; rfl]
        exact st_101 hA hp hSI h128 hl0 hl5 hD hs
      · rw [if_neg (fun z => g2 (e2.mp z))]
        unfold q_MO_readOperator_J100
        rw [fs_okp_pos h.in8, e23, nI_clamp (by omega), nar_0]
        have hA := h.single false (v := 0) rfl
        rw [show (lev == 2) = false by simp [g2]]
        exact st_101 hA hp hSI h128 hl0 hl5 hD hs
  obtain ⟨M', k1, k2⟩ := key
  refine ⟨M', st_3 h ?_ (Or.inr rfl), k2⟩
  unfold q_MO_readOperator
  rw [fs_okp_pos ⟨by omega, by omega⟩, hh, if_neg n41, if_neg n44, hst, if_neg n0, if_neg n10, if_neg n33]
  by_cases g2 : lev = 2
  · rw [if_pos (e2.mpr g2), fs_okp_pos h.in8, e23, nI_clamp (by omega), h.sgl.1, h2 g2]
    rw [if_pos (show (if false = true then (1 : Int32) else 0) = 0 from rfl)]
    exact k1
  · rw [if_neg (fun z => g2 (e2.mp z))]
    exact k1
theorem st_opbad {M0 : mo_S} {C : Nat → Nat} {n : Nat} {M : mo_S} {p w g : Nat} {s : Bool} {R : List Fr} {S : List Nat} {I : List It} (h : mc M0 C n M p 3 (w, g, s) R S I) (hp : p < n) (hSI : S.length + I.length ≤ p) (h41 : C p ≠ 41) (h44 : C p ≠ 44) (hb : str (C p) = 0 ∨ C p = 10 ∨ C p = 33 ∨ (str (C p) = 2 ∧ s = true)) : q_MO_readOne M = some (0, M) := by
  obtain ⟨i1, i2, i3, i4, i5, i6, i7, i8⟩ := h.ints (by have := h.2.1.2.1; omega)
  obtain ⟨hh, h128⟩ := h.here' hp
  have n41 : ¬ nI (C p) = 41 := fun z => h41 ((nI_eq (b := 41) (by omega) (by omega)).mp z)
  have n44 : ¬ nI (C p) = 44 := fun z => h44 ((nI_eq (b := 44) (by omega) (by omega)).mp z)
  have hst := str_ok _ h128
  have hs5 := str_le (C p)
  refine st_3 h ?_ (Or.inl rfl)
  unfold q_MO_readOperator
  rw [fs_okp_pos ⟨by omega, by omega⟩, hh, if_neg n41, if_neg n44, hst]
  by_cases b0 : str (C p) = 0
  · rw [b0]
    exact if_pos rfl
  · rw [if_neg (nI_ne0 (by omega) (by omega))]
    by_cases b1 : C p = 10
    · rw [b1]
      exact if_pos rfl
    · rw [if_neg (show ¬ nI (C p) = 10 from fun z => b1 ((nI_eq (b := 10) (by omega) (by omega)).mp z))]
      by_cases b2 : C p = 33
      · rw [b2]
        exact if_pos rfl
      · rw [if_neg (show ¬ nI (C p) = 33 from fun z => b2 ((nI_eq (b := 33) (by omega) (by omega)).mp z))]
        have b3 : str (C p) = 2 ∧ s = true := by
          rcases hb with z | z | z | z
          · exact absurd z b0
          · exact absurd z b1
          · exact absurd z b2
          · exact z
        rw [b3.1, if_pos (show nI 2 = 2 from rfl), fs_okp_pos h.in8, h.2.2.2.2.2.1, nI_clamp (by omega), h.sgl.1, b3.2]
        exact if_neg (by decide)
theorem mc.close {M0 : mo_S} {C : Nat → Nat} {n : Nat} {M : mo_S} {p rd b : Nat} {x y : Fr} {R : List Fr} {S : List Nat} {I : List It} (h : mc M0 C n M p rd x (y :: R) (b :: S) I) {v1 v2 : Int32} : mc M0 C n (mo_f (mo_f (mo_i (mo_i M 26 (R.length + 1) v1) 27 (R.length + 1) v2) 23 (nI R.length)) 29 (nI S.length)) p rd y R S I := by
  obtain ⟨h1, h2, h3, h4, h5, h6, h7, h8, h9, h10, h11, h12⟩ := h
  simp only [List.length_cons] at h7
  refine ⟨(((h1.i (by omega)).i (by omega)).f (by decide)).f (by decide), (((h2.i (by decide) (by decide)).i (by decide) (by decide)).f (by decide)).f (by decide), h3, h4, h5, rfl, by omega, rfl, h9, ?_, ?_, ?_⟩
  · refine h10.2.kept fun j k a b hk => ?_
    simp only [List.length_cons] at hk
    show (mo_i (mo_i M 26 _ v1) 27 _ v2).2.1 j k = _
    rw [mo_i_at, if_neg (by omega), mo_i_at, if_neg (by omega)]
  · refine h11.2.kept fun k hk => ?_
    show (mo_i (mo_i M 26 _ v1) 27 _ v2).2.1 28 k = _
    rw [mo_i_at, if_neg (by omega), mo_i_at, if_neg (by omega)]
  · intro k z hz
    refine (h12 k z hz).kept (fun j a b => ?_) rfl
    show (mo_i (mo_i M 26 _ v1) 27 _ v2).2.1 j _ = _
    rw [mo_i_at, if_neg (by omega), mo_i_at, if_neg (by omega)]
theorem st_end {M0 : mo_S} {C : Nat → Nat} {n : Nat} {M : mo_S} {p : Nat} {x : Fr} {R : List Fr} {S : List Nat} {I : List It} (h : mc M0 C n M p 3 x R S I) (hp : p < n) (hSI : S.length + I.length ≤ p) {cl : Nat} (hcl : (C p = 41 ∧ cl = 1) ∨ (C p = 44 ∧ cl = 0)) {r : Int32 × mo_S} (e : q_MO_readEnd M (nI cl) = some r) (h0 : r.1 = 0 → r = (0, M)) (h1 : r.1 ≠ 0 → r.2.1 22 = nI p) : q_MO_readOne M = some (if r.1 = 0 then (0, M) else (1, mo_f r.2 22 (nI (p + 1)))) := by
  obtain ⟨i1, i2, i3, i4, i5, i6, i7, i8⟩ := h.ints (by have := h.2.1.2.1; omega)
  obtain ⟨hh, h128⟩ := h.here' hp
  have ej : q_MO_readOperator_J34 (nI cl) M = some (if r.1 = 0 then (0, M) else (1, mo_f r.2 22 (nI (p + 1)))) := by
    unfold q_MO_readOperator_J34
    rw [e]
    show (if r.1 = 0 then some (0, r.2) else q_MO_readOperator_J125 r.2) = _
    by_cases hr : r.1 = 0
    · rw [if_pos hr, if_pos hr, h0 hr]
    · rw [if_neg hr, if_neg hr]
      unfold q_MO_readOperator_J125
      rw [h1 hr, nI_1]
  refine st_3 h ?_ ?_
  · unfold q_MO_readOperator
    rw [fs_okp_pos ⟨by omega, by omega⟩, hh]
    rcases hcl with ⟨c1, c2⟩ | ⟨c1, c2⟩
    · rw [c1, if_pos (show nI 41 = 41 from rfl)]
      unfold q_MO_readOperator_J22
      rw [if_pos (show nI 41 = 41 from rfl)]
      rw [c2] at ej
      exact ej
    · rw [c1, if_neg (show ¬ nI 44 = 41 by decide), if_pos (show nI 44 = 44 from rfl)]
      unfold q_MO_readOperator_J22
      rw [if_neg (show ¬ nI 44 = 41 by decide)]
      rw [c2] at ej
      exact ej
  · by_cases hr : r.1 = 0
    · rw [if_pos hr]; exact Or.inl rfl
    · rw [if_neg hr]; exact Or.inr rfl
/-- readEnd's beginning -/
theorem st_e26 {M0 : mo_S} {C : Nat → Nat} {n : Nat} {M : mo_S} {p rd w g : Nat} {s : Bool} {R : List Fr} {S : List Nat} {I : List It} (h : mc M0 C n M p rd (w, g, s) R S I) (hw : w < 128) (z : Int32) : q_MO_readEnd M z = q_MO_readEnd_J26 z (if R.length ≠ 0 ∧ w = 9 then 1 else 0) M := by
  have h7 := h.2.2.2.2.2.2.1
  have e23 := h.2.2.2.2.2.1
  unfold q_MO_readEnd
  by_cases hR : R.length = 0
  · rw [e23, if_pos (by rw [hR]; decide), if_neg (by omega)]
    rfl
  · rw [if_neg (by rw [e23]; exact nI_nle (by omega) (by omega)), fs_okp_pos h.in8, e23, nI_clamp (by omega), h.sgl.2.1]
    have e9 : nI w = 9 ↔ w = 9 := nI_eq (b := 9) (by omega) (by omega)
    by_cases h9 : w = 9
    · rw [if_pos (e9.mpr h9), if_pos ⟨hR, h9⟩]
    · rw [if_neg (fun z => h9 (e9.mp z)), if_neg (fun z => h9 z.2)]
      rfl
theorem st_closebad {M0 : mo_S} {C : Nat → Nat} {n : Nat} {M : mo_S} {p w g : Nat} {s : Bool} {R : List Fr} {S : List Nat} {I : List It} (h : mc M0 C n M p 3 (w, g, s) R S I) (hp : p < n) (hSI : S.length + I.length ≤ p) (hw : w < 128) (hc : C p = 41) (hb : R.length = 0 ∨ (w = 9 ∧ g < 2)) : q_MO_readOne M = some (0, M) := by
  have h7 := h.2.2.2.2.2.2.1
  have e23 := h.2.2.2.2.2.1
  have e : q_MO_readEnd M (nI 1) = some (0, M) := by
    rw [st_e26 h hw]
    unfold q_MO_readEnd_J26
    rw [if_neg (show ¬ nI 1 = 0 by decide)]
    by_cases hR : R.length = 0
    · rw [if_pos (show M.1 23 = 0 by rw [e23, hR]; rfl)]
    · obtain ⟨h9, hg2⟩ : w = 9 ∧ g < 2 := by omega
      have ew : (if R.length ≠ 0 ∧ w = 9 then (1 : Int32) else 0) = 1 := if_pos ⟨hR, h9⟩
      rw [if_neg (show ¬ M.1 23 = 0 by rw [e23]; exact nI_ne0 (by omega) (by omega)), ew, if_neg (show ¬ (1 : Int32) = 0 by decide), fs_okp_pos h.in8, e23, nI_clamp (by omega), h.sgl.2.2]
      exact if_neg (nI_ge (b := 2) (by omega) (by omega))
  have := st_end h hp hSI (Or.inl ⟨hc, rfl⟩) e (fun _ => rfl) (fun z => absurd rfl z)
  exact this.trans (congrArg some (if_pos rfl))
theorem st_commabad {M0 : mo_S} {C : Nat → Nat} {n : Nat} {M : mo_S} {p w g : Nat} {s : Bool} {R : List Fr} {S : List Nat} {I : List It} (h : mc M0 C n M p 3 (w, g, s) R S I) (hp : p < n) (hSI : S.length + I.length ≤ p) (hw : w < 128) (hc : C p = 44) (hb : R.length = 0 ∨ w ≠ 9 ∨ g = 2) : q_MO_readOne M = some (0, M) := by
  have h7 := h.2.2.2.2.2.2.1
  have e23 := h.2.2.2.2.2.1
  have e : q_MO_readEnd M (nI 0) = some (0, M) := by
    rw [st_e26 h hw]
    unfold q_MO_readEnd_J26
    rw [if_pos (show nI 0 = 0 from rfl)]
    by_cases hR : R.length ≠ 0 ∧ w = 9
    · have hg2 : g = 2 := by omega
      have ew : (if R.length ≠ 0 ∧ w = 9 then (1 : Int32) else 0) = 1 := if_pos hR
      rw [ew, if_neg (show ¬ (1 : Int32) = 0 by decide), fs_okp_pos h.in8, e23, nI_clamp (by omega), h.sgl.2.2, hg2]
      exact if_pos rfl
    · have ew : (if R.length ≠ 0 ∧ w = 9 then (1 : Int32) else 0) = 0 := if_neg hR
      rw [ew]
      exact if_pos rfl
  have := st_end h hp hSI (Or.inr ⟨hc, rfl⟩) e (fun _ => rfl) (fun z => absurd rfl z)
  exact this.trans (congrArg some (if_pos rfl))
theorem st_close {M0 : mo_S} {C : Nat → Nat} {n : Nat} {M : mo_S} {p w g b : Nat} {s : Bool} {y : Fr} {R : List Fr} {D S : List Nat} {I : List It} (h : mc M0 C n M p 3 (w, g, s) (y :: R) (D ++ b :: S) I) (hp : p < n) (hSI : (D ++ b :: S).length + I.length ≤ p) (hw : w < 128) (hc : C p = 41) (hb : w = 9 → g = 2) (hD : ∀ d ∈ D, 1 ≤ str d) (hb0 : str b = 0) (hb1 : b = 101 ∨ (106 < b ∧ b < 128)) : ∃ M', q_MO_readOne M = some (1, M') ∧ mc M0 C n M' (p + 1) 3 y R S (I ++ sg_it D ++ (if b = 101 then [] else [(nI (b - 100), 0, 0, 0)])) := by
  have h7 := h.2.2.2.2.2.2.1
  have e23 := h.2.2.2.2.2.1
  obtain ⟨i1, i2, i3, i4, i5, i6, i7, i8⟩ := h.ints (by have := h.2.1.2.1; omega)
  have hlen : D.length + (S.length + 1) + I.length ≤ p := by
    rw [List.length_append] at hSI
    exact hSI
  have hX := mc.settle (by omega) (by omega) (show sg_stop 1 (b :: S) by show str b < 1; omega) D 45 h hD (by omega) (by omega)
  have hXs : p_MO_settle_L0 45 (nI 1) M = p_MO_settle M 1 := rfl
  rw [hXs] at hX
  simp only [List.length_cons] at h7 e23 i8 i3 i4
  have hIl : (I ++ sg_it D).length = I.length + D.length := by
    rw [List.length_append]
    unfold sg_it
    rw [List.length_map]
  have x23 : (p_MO_settle M 1).1 23 = nI (R.length + 1) := hX.2.2.2.2.2.1
  have x29 : (p_MO_settle M 1).1 29 = nI (S.length + 1) := hX.2.2.2.2.2.2.2.1
  have x30 : (p_MO_settle M 1).1 30 = nI (I ++ sg_it D).length := hX.2.2.2.2.2.2.2.2.1
  have xs : (p_MO_settle M 1).2.1 28 S.length = nI b := hX.2.2.2.2.2.2.2.2.2.2.1.1.1
  have hC := hX.close (v1 := ((p_MO_settle M 1).2.1 26 (R.length + 1)) + 1) (v2 := 0)
  have e77 : ∃ M', q_MO_readEnd_J77 1 M = some (1, M') ∧ mc M0 C n M' p 3 y R S (I ++ sg_it D ++ (if b = 101 then [] else [(nI (b - 100), 0, 0, 0)])) := by
    unfold q_MO_readEnd_J77
    rw [fs_okp_pos ⟨by omega, by omega, by simp only [List.length_append, List.length_cons] at hSI i4 ⊢; omega⟩]
    unfold fs_let
    dsimp only
    rw [fs_okp_pos hX.in8, fs_okp_pos hX.in8, fs_okp_pos hX.in8, if_neg (by decide), x23, x29, nI_pred, nI_pred, nI_clamp (by omega), nI_clamp (by omega), xs, nar_0]
    have hin : vp_in (nI S.length) 44 := nI_in (by omega) (by omega)
    rw [fs_okp_pos hin]
    have eb : nI b ≤ 101 ↔ b ≤ 101 := nI_leI (b := 101) (by omega) (by omega)
    by_cases hbb : b = 101
    · rw [if_pos (eb.mpr (by omega)), if_pos hbb, List.append_nil]
      exact ⟨_, rfl, hC⟩
    · rw [if_neg (fun z => by have := eb.mp z; omega), if_neg hbb]
      rw [fs_okp_pos hin, x30, nI_toInt (by omega), fs_okp_pos ⟨by omega, by omega⟩]
      rw [show (100 : Int32) = nI 100 from rfl, nI_sub (by omega)]
      exact ⟨_, rfl, hC.addS (by omega) _ (nI_lt (a := 6) (by omega) (by omega))⟩
  obtain ⟨M', k1, k2⟩ := e77
  have e : q_MO_readEnd M (nI 1) = some (1, M') := by
    rw [st_e26 h hw]
    unfold q_MO_readEnd_J26
    rw [if_neg (show ¬ nI 1 = 0 by decide), if_neg (show ¬ M.1 23 = 0 by rw [e23]; exact nI_ne0 (by omega) (by omega))]
    by_cases h9 : w = 9
    · have ew : (if (y :: R).length ≠ 0 ∧ w = 9 then (1 : Int32) else 0) = 1 := if_pos ⟨by simp, h9⟩
      rw [ew, if_neg (show ¬ (1 : Int32) = 0 by decide), fs_okp_pos h.in8, e23, nI_clamp (by omega)]
      rw [show M.2.1 26 (R.length + 1) = nI g from h.sgl.2.2, hb h9]
      rw [if_pos (show (2 : Int32) ≤ nI 2 by decide)]
      exact k1
    · have ew : (if (y :: R).length ≠ 0 ∧ w = 9 then (1 : Int32) else 0) = 0 := if_neg (fun z => h9 z.2)
      rw [ew, if_pos rfl]
      exact k1
  have := st_end h hp hSI (Or.inl ⟨hc, rfl⟩) e (fun z => absurd z (show ¬ (1 : Int32) = 0 by decide)) (fun _ => k2.2.2.2.1)
  exact ⟨_, this.trans (congrArg some (if_neg (show ¬ (1 : Int32) = 0 by decide))), k2.at' hp⟩
theorem st_comma {M0 : mo_S} {C : Nat → Nat} {n : Nat} {M : mo_S} {p g : Nat} {s : Bool} {R : List Fr} {D S : List Nat} {I : List It} (h : mc M0 C n M p 3 (9, g, s) R (D ++ S) I) (hR : R.length ≠ 0) (hp : p < n) (hSI : (D ++ S).length + I.length ≤ p) (hg : g < 2) (hc : C p = 44) (hD : ∀ d ∈ D, 1 ≤ str d) (hs : sg_stop 1 S) : ∃ M', q_MO_readOne M = some (1, M') ∧ mc M0 C n M' (p + 1) 0 (9, g + 1, false) R S (I ++ sg_it D) := by
  have h7 := h.2.2.2.2.2.2.1
  have e23 := h.2.2.2.2.2.1
  obtain ⟨i1, i2, i3, i4, i5, i6, i7, i8⟩ := h.ints (by have := h.2.1.2.1; omega)
  have hlen : D.length + S.length + I.length ≤ p := by
    rw [List.length_append] at hSI
    exact hSI
  have hX := mc.settle (by omega) (by omega) hs D 45 h hD (by omega) (by omega)
  have hXs : p_MO_settle_L0 45 (nI 1) M = p_MO_settle M 1 := rfl
  rw [hXs] at hX
  have x23 : (p_MO_settle M 1).1 23 = nI R.length := hX.2.2.2.2.2.1
  have e77 : ∃ M', q_MO_readEnd_J77 0 M = some (1, M') ∧ mc M0 C n M' p 0 (9, g + 1, false) R S (I ++ sg_it D) := by
    unfold q_MO_readEnd_J77
    rw [fs_okp_pos ⟨by omega, by omega, by omega⟩]
    unfold fs_let
    dsimp only
    rw [fs_okp_pos hX.in8, fs_okp_pos hX.in8, fs_okp_pos hX.in8, if_pos rfl, x23, nI_clamp (by omega), hX.sgl.2.2, nI_1, nar_0]
    exact ⟨_, rfl, ((hX.arg (g + 1)).single false (v := 0) rfl).rd' 0⟩
  obtain ⟨M', k1, k2⟩ := e77
  have e : q_MO_readEnd M (nI 0) = some (1, M') := by
    rw [st_e26 h (by omega)]
    unfold q_MO_readEnd_J26
    have ew : (if R.length ≠ 0 ∧ 9 = 9 then (1 : Int32) else 0) = 1 := if_pos ⟨hR, rfl⟩
    rw [if_pos (show nI 0 = 0 from rfl), ew, if_neg (show ¬ (1 : Int32) = 0 by decide), fs_okp_pos h.in8, e23, nI_clamp (by omega), h.sgl.2.2, if_neg]
    · exact k1
    · exact fun z => absurd ((nI_eq (a := g) (b := 2) (by omega) (by omega)).mp z) (by omega)
  have := st_end h hp hSI (Or.inr ⟨hc, rfl⟩) e (fun z => absurd z (show ¬ (1 : Int32) = 0 by decide)) (fun _ => k2.2.2.2.1)
  exact ⟨_, this.trans (congrArg some (if_neg (show ¬ (1 : Int32) = 0 by decide))), k2.at' hp⟩
