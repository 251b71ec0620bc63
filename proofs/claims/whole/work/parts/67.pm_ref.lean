/-! Pure: the reference reads a reference and a name. -/
theorem nI_sub {a b : Nat} (h : b ≤ a) : nI a - nI b = nI (a - b) := by
  have e := nI_add (a - b) b
  rw [Nat.sub_add_cancel h] at e
  rw [← e, Int32.add_sub_cancel]
theorem nI_mul (a b : Nat) : nI a * nI b = nI (a * b) := (Int32.ofNat_mul a b).symm
theorem pm_ci0 {M : mo_S} {C : Nat → Nat} {n q c : Nat} (h : pm_L M C n) (hq : q ≤ n) (h0 : 0 < c) (hc : c < 128) : (p_MO_here (mo_f M 22 (nI q))).1 = nI c ↔ C q = c := pm_ci (h.f (by decide)) (mo_f_at _ _ _) hq h0 hc
theorem pm_v0 {M : mo_S} {C : Nat → Nat} {n q : Nat} (h : pm_L M C n) (hq : q ≤ n) (h0 : C q ≠ 0) : q + 1 ≤ n ∧ C q < 128 ∧ (p_MO_here (mo_f M 22 (nI q))).1 = nI (C q) := pm_lt (h.f (by decide)) (mo_f_at _ _ _) hq h0
theorem pm_lt0 {M : mo_S} {C : Nat → Nat} {n q c : Nat} (h : pm_L M C n) (hq : q ≤ n) (h0 : 0 < c) (hc : c < 128) : (p_MO_here (mo_f M 22 (nI q))).1 < nI c ↔ C q < c := by
  rw [pm_here (h.f (by decide)) (mo_f_at _ _ _) hq]
  by_cases hz : q < n
  · rw [if_pos hz]
    have := (h.2.2.1 q hz).2
    exact nI_ltI (by omega) (by omega)
  · rw [if_neg hz, h.2.2.2.1 q (by omega)]
    refine ⟨fun _ => h0, fun _ => ?_⟩
    exact Int32.lt_iff_toInt_lt.mpr (by rw [nI_toInt (by omega)]; show (-1 : Int) < _; omega)
theorem pm_le0 {M : mo_S} {C : Nat → Nat} {n q c : Nat} (h : pm_L M C n) (hq : q ≤ n) (h0 : 0 < c) (hc : c < 127) : (p_MO_here (mo_f M 22 (nI q))).1 ≤ nI c ↔ C q ≤ c := by
  rw [pm_here (h.f (by decide)) (mo_f_at _ _ _) hq]
  by_cases hz : q < n
  · rw [if_pos hz]
    have := (h.2.2.1 q hz).2
    exact nI_leI (by omega) (by omega)
  · rw [if_neg hz, h.2.2.2.1 q (by omega)]
    refine ⟨fun _ => by omega, fun _ => ?_⟩
    exact Int32.le_iff_toInt_le.mpr (by rw [nI_toInt (by omega)]; show (-1 : Int) ≤ _; omega)
theorem pm_dig0 {M : mo_S} {C : Nat → Nat} {n q : Nat} (h : pm_L M C n) (hq : q ≤ n) : p_MO_digit ((p_MO_here (mo_f M 22 (nI q))).1) = 0 ↔ ¬ (48 ≤ C q ∧ C q ≤ 57) := by
  rw [pm_dig (h.f (by decide)) (mo_f_at _ _ _) hq]
  by_cases hd : 48 ≤ C q ∧ C q ≤ 57
  · rw [if_pos hd]
    exact ⟨fun z => absurd z (by decide), fun z => absurd hd z⟩
  · rw [if_neg hd]
    exact ⟨fun _ => hd, fun _ => rfl⟩
theorem pm_col {r col row : Nat} (h : 97 ≤ col) : (nI r + (nI col - 97)) + (8 * nI row) = nI (r + (col - 97) + 8 * row) := by
  rw [show (97 : Int32) = nI 97 from rfl, show (8 : Int32) = nI 8 from rfl, nI_sub h, nI_mul, nI_add, nI_add]
theorem pm_col2 {r col row : Nat} (h : 97 ≤ col) : ((nI r + (nI col - 97)) + 256) + (8 * nI row) = nI (r + (col - 97) + 256 + 8 * row) := by
  rw [show (97 : Int32) = nI 97 from rfl, show (8 : Int32) = nI 8 from rfl, show (256 : Int32) = nI 256 from rfl, nI_sub h, nI_mul, nI_add, nI_add, nI_add]
def pm_r (x : Option Nat) : Int32 := match x with | none => -1 | some v => nI v

theorem pm_reference {M : mo_S} {C : Nat → Nat} {n p : Nat} (h : pm_L M C n) (hk0 : p ≤ n) :
    p_MO_readReference (mo_f M 22 (nI p)) = (pm_r (ps_ref C p).1, mo_f M 22 (nI (ps_ref C p).2)) ∧ (ps_ref C p).2 ≤ n ∧ ∀ x, (ps_ref C p).1 = some x → x < 512 := by
  unfold p_MO_readReference
  simp only [mo_f_at, mo_ff, nI_1]
  have h36 : (p_MO_here (mo_f M 22 (nI p))).1 = 36 ↔ C p = 36 := pm_ci0 (c := 36) h hk0 (by omega) (by omega)
  by_cases hA0 : C p = 36
  · have hk1 := (pm_v0 h hk0 (by omega)).1
    have hdl : ps_dl C p = 1 := by unfold ps_dl; rw [if_pos hA0]
    unfold ps_ref
    rw [if_pos (h36.mpr hA0), hdl]
    have e97 : (p_MO_here (mo_f M 22 (nI (p + 1)))).1 < 97 ↔ C (p + 1) < 97 := pm_lt0 (c := 97) h hk1 (by omega) (by omega)
    have e104 : (p_MO_here (mo_f M 22 (nI (p + 1)))).1 ≤ 104 ↔ C (p + 1) ≤ 104 := pm_le0 (c := 104) h hk1 (by omega) (by omega)
    by_cases hc : 97 ≤ C (p + 1) ∧ C (p + 1) ≤ 104
    · rw [if_neg (fun z => Nat.not_lt.mpr hc.1 (e97.mp z)), if_pos (e104.mpr hc.2), if_pos hc]
      obtain ⟨hk2, hz, hv⟩ := pm_v0 h hk1 (by omega)
      rw [hv]
      have f36 : (p_MO_here (mo_f M 22 (nI (p + 1 + 1)))).1 = 36 ↔ C (p + 1 + 1) = 36 := pm_ci0 (c := 36) h hk2 (by omega) (by omega)
      unfold ps_rf2 ps_dl
      by_cases hB : C (p + 1 + 1) = 36
      · rw [if_pos (f36.mpr hB), if_pos hB]
        have hk3 := (pm_v0 h hk2 (by omega)).1
        have hr := pm_dig0 h hk3
        by_cases hd : 48 ≤ C (p + 1 + 1 + 1) ∧ C (p + 1 + 1 + 1) ≤ 57
        · rw [if_neg (fun z => (hr.mp z) hd)]
          have h48 : (p_MO_here (mo_f M 22 (nI (p + 1 + 1 + 1)))).1 = 48 ↔ C (p + 1 + 1 + 1) = 48 := pm_ci0 (c := 48) h hk3 (by omega) (by omega)
          by_cases h8 : C (p + 1 + 1 + 1) = 48
          · rw [if_pos (h48.mpr h8), if_neg (by omega)]
            exact ⟨rfl, hk3, fun x e => by cases e⟩
          · have hd2 : 49 ≤ C (p + 1 + 1 + 1) ∧ C (p + 1 + 1 + 1) ≤ 57 := by omega
            rw [if_neg (fun z => h8 (h48.mp z)), if_pos hd2]
            obtain ⟨g1, g2, g3⟩ := pm_v0 h hk3 (by omega)
            have h10 : (p_MO_here (mo_f M 22 (nI (p + 1 + 1 + 1 + 1)))).1 = 48 ↔ C (p + 1 + 1 + 1 + 1) = 48 := pm_ci0 (c := 48) h g1 (by omega) (by omega)
            rw [g3, show (49 : Int32) = nI 49 from rfl, nI_sub (by omega)]
            by_cases h9 : C (p + 1 + 1 + 1) = 49
            · rw [if_pos (show nI (C (p + 1 + 1 + 1) - 49) = 0 from by rw [h9]; rfl)]
              by_cases hA : C (p + 1 + 1 + 1 + 1) = 48
              · have g4 := (pm_v0 h g1 (by omega)).1
                rw [if_pos (h10.mpr hA), if_pos ⟨h9, hA⟩]
                refine ⟨Prod.ext ?_ rfl, g4, fun x e => ?_⟩
                · refine (pm_col2 (r := 128) (row := 9) hc.1).trans ?_
                  show nI _ = nI _
                  congr 1; omega
                · have e := Option.some.inj e; omega
              · rw [if_neg (fun z => hA (h10.mp z)), if_neg (fun z => hA z.2)]
                refine ⟨Prod.ext ?_ rfl, g1, fun x e => ?_⟩
                · refine (pm_col2 (r := 128) hc.1).trans ?_
                  show nI _ = nI _
                  congr 1; omega
                · have e := Option.some.inj e; omega
            · rw [if_neg (show ¬ nI (C (p + 1 + 1 + 1) - 49) = 0 from fun z => h9 (by
                have := (nI_eq (a := C (p + 1 + 1 + 1) - 49) (b := 0) (by omega) (by omega)).mp z
                omega)), if_neg (fun z => h9 z.1)]
              refine ⟨Prod.ext ?_ rfl, g1, fun x e => ?_⟩
              · refine (pm_col2 (r := 128) hc.1).trans ?_
                show nI _ = nI _
                congr 1; omega
              · have e := Option.some.inj e; omega
        · rw [if_pos (hr.mpr hd), if_neg (by omega)]
          exact ⟨rfl, hk3, fun x e => by cases e⟩
      · rw [if_neg (fun z => hB (f36.mp z)), if_neg hB, Nat.add_zero (p + 1 + 1)]
        have hr := pm_dig0 h hk2
        by_cases hd : 48 ≤ C (p + 1 + 1) ∧ C (p + 1 + 1) ≤ 57
        · rw [if_neg (fun z => (hr.mp z) hd)]
          have h48 : (p_MO_here (mo_f M 22 (nI (p + 1 + 1)))).1 = 48 ↔ C (p + 1 + 1) = 48 := pm_ci0 (c := 48) h hk2 (by omega) (by omega)
          by_cases h8 : C (p + 1 + 1) = 48
          · rw [if_pos (h48.mpr h8), if_neg (by omega)]
            exact ⟨rfl, hk2, fun x e => by cases e⟩
          · have hd2 : 49 ≤ C (p + 1 + 1) ∧ C (p + 1 + 1) ≤ 57 := by omega
            rw [if_neg (fun z => h8 (h48.mp z)), if_pos hd2]
            obtain ⟨g1, g2, g3⟩ := pm_v0 h hk2 (by omega)
            have h10 : (p_MO_here (mo_f M 22 (nI (p + 1 + 1 + 1)))).1 = 48 ↔ C (p + 1 + 1 + 1) = 48 := pm_ci0 (c := 48) h g1 (by omega) (by omega)
            rw [g3, show (49 : Int32) = nI 49 from rfl, nI_sub (by omega)]
            by_cases h9 : C (p + 1 + 1) = 49
            · rw [if_pos (show nI (C (p + 1 + 1) - 49) = 0 from by rw [h9]; rfl)]
              by_cases hA : C (p + 1 + 1 + 1) = 48
              · have g4 := (pm_v0 h g1 (by omega)).1
                rw [if_pos (h10.mpr hA), if_pos ⟨h9, hA⟩]
                refine ⟨Prod.ext ?_ rfl, g4, fun x e => ?_⟩
                · refine (pm_col (r := 128) (row := 9) hc.1).trans ?_
                  show nI _ = nI _
                  congr 1; omega
                · have e := Option.some.inj e; omega
              · rw [if_neg (fun z => hA (h10.mp z)), if_neg (fun z => hA z.2)]
                refine ⟨Prod.ext ?_ rfl, g1, fun x e => ?_⟩
                · refine (pm_col (r := 128) hc.1).trans ?_
                  show nI _ = nI _
                  congr 1; omega
                · have e := Option.some.inj e; omega
            · rw [if_neg (show ¬ nI (C (p + 1 + 1) - 49) = 0 from fun z => h9 (by
                have := (nI_eq (a := C (p + 1 + 1) - 49) (b := 0) (by omega) (by omega)).mp z
                omega)), if_neg (fun z => h9 z.1)]
              refine ⟨Prod.ext ?_ rfl, g1, fun x e => ?_⟩
              · refine (pm_col (r := 128) hc.1).trans ?_
                show nI _ = nI _
                congr 1; omega
              · have e := Option.some.inj e; omega
        · rw [if_pos (hr.mpr hd), if_neg (by omega)]
          exact ⟨rfl, hk2, fun x e => by cases e⟩
    · rw [if_neg hc]
      refine ⟨?_, hk1, fun x e => by cases e⟩
      by_cases h7 : C (p + 1) < 97
      · rw [if_pos (e97.mpr h7)]; rfl
      · rw [if_neg (fun z => h7 (e97.mp z)), if_neg (fun z => hc ⟨by omega, e104.mp z⟩)]; rfl
  · have hdl : ps_dl C p = 0 := by unfold ps_dl; rw [if_neg hA0]
    unfold ps_ref
    rw [if_neg (fun z => hA0 (h36.mp z)), hdl, Nat.add_zero p]
    have e97 : (p_MO_here (mo_f M 22 (nI (p)))).1 < 97 ↔ C (p) < 97 := pm_lt0 (c := 97) h hk0 (by omega) (by omega)
    have e104 : (p_MO_here (mo_f M 22 (nI (p)))).1 ≤ 104 ↔ C (p) ≤ 104 := pm_le0 (c := 104) h hk0 (by omega) (by omega)
    by_cases hc : 97 ≤ C (p) ∧ C (p) ≤ 104
    · rw [if_neg (fun z => Nat.not_lt.mpr hc.1 (e97.mp z)), if_pos (e104.mpr hc.2), if_pos hc]
      obtain ⟨hk1, hz, hv⟩ := pm_v0 h hk0 (by omega)
      rw [hv]
      have f36 : (p_MO_here (mo_f M 22 (nI (p + 1)))).1 = 36 ↔ C (p + 1) = 36 := pm_ci0 (c := 36) h hk1 (by omega) (by omega)
      unfold ps_rf2 ps_dl
      by_cases hB : C (p + 1) = 36
      · rw [if_pos (f36.mpr hB), if_pos hB]
        have hk2 := (pm_v0 h hk1 (by omega)).1
        have hr := pm_dig0 h hk2
        by_cases hd : 48 ≤ C (p + 1 + 1) ∧ C (p + 1 + 1) ≤ 57
        · rw [if_neg (fun z => (hr.mp z) hd)]
          have h48 : (p_MO_here (mo_f M 22 (nI (p + 1 + 1)))).1 = 48 ↔ C (p + 1 + 1) = 48 := pm_ci0 (c := 48) h hk2 (by omega) (by omega)
          by_cases h8 : C (p + 1 + 1) = 48
          · rw [if_pos (h48.mpr h8), if_neg (by omega)]
            exact ⟨rfl, hk2, fun x e => by cases e⟩
          · have hd2 : 49 ≤ C (p + 1 + 1) ∧ C (p + 1 + 1) ≤ 57 := by omega
            rw [if_neg (fun z => h8 (h48.mp z)), if_pos hd2]
            obtain ⟨g1, g2, g3⟩ := pm_v0 h hk2 (by omega)
            have h10 : (p_MO_here (mo_f M 22 (nI (p + 1 + 1 + 1)))).1 = 48 ↔ C (p + 1 + 1 + 1) = 48 := pm_ci0 (c := 48) h g1 (by omega) (by omega)
            rw [g3, show (49 : Int32) = nI 49 from rfl, nI_sub (by omega)]
            by_cases h9 : C (p + 1 + 1) = 49
            · rw [if_pos (show nI (C (p + 1 + 1) - 49) = 0 from by rw [h9]; rfl)]
              by_cases hA : C (p + 1 + 1 + 1) = 48
              · have g4 := (pm_v0 h g1 (by omega)).1
                rw [if_pos (h10.mpr hA), if_pos ⟨h9, hA⟩]
                refine ⟨Prod.ext ?_ rfl, g4, fun x e => ?_⟩
                · refine (pm_col2 (r := 0) (row := 9) hc.1).trans ?_
                  show nI _ = nI _
                  congr 1; omega
                · have e := Option.some.inj e; omega
              · rw [if_neg (fun z => hA (h10.mp z)), if_neg (fun z => hA z.2)]
                refine ⟨Prod.ext ?_ rfl, g1, fun x e => ?_⟩
                · refine (pm_col2 (r := 0) hc.1).trans ?_
                  show nI _ = nI _
                  congr 1; omega
                · have e := Option.some.inj e; omega
            · rw [if_neg (show ¬ nI (C (p + 1 + 1) - 49) = 0 from fun z => h9 (by
                have := (nI_eq (a := C (p + 1 + 1) - 49) (b := 0) (by omega) (by omega)).mp z
                omega)), if_neg (fun z => h9 z.1)]
              refine ⟨Prod.ext ?_ rfl, g1, fun x e => ?_⟩
              · refine (pm_col2 (r := 0) hc.1).trans ?_
                show nI _ = nI _
                congr 1; omega
              · have e := Option.some.inj e; omega
        · rw [if_pos (hr.mpr hd), if_neg (by omega)]
          exact ⟨rfl, hk2, fun x e => by cases e⟩
      · rw [if_neg (fun z => hB (f36.mp z)), if_neg hB, Nat.add_zero (p + 1)]
        have hr := pm_dig0 h hk1
        by_cases hd : 48 ≤ C (p + 1) ∧ C (p + 1) ≤ 57
        · rw [if_neg (fun z => (hr.mp z) hd)]
          have h48 : (p_MO_here (mo_f M 22 (nI (p + 1)))).1 = 48 ↔ C (p + 1) = 48 := pm_ci0 (c := 48) h hk1 (by omega) (by omega)
          by_cases h8 : C (p + 1) = 48
          · rw [if_pos (h48.mpr h8), if_neg (by omega)]
            exact ⟨rfl, hk1, fun x e => by cases e⟩
          · have hd2 : 49 ≤ C (p + 1) ∧ C (p + 1) ≤ 57 := by omega
            rw [if_neg (fun z => h8 (h48.mp z)), if_pos hd2]
            obtain ⟨g1, g2, g3⟩ := pm_v0 h hk1 (by omega)
            have h10 : (p_MO_here (mo_f M 22 (nI (p + 1 + 1)))).1 = 48 ↔ C (p + 1 + 1) = 48 := pm_ci0 (c := 48) h g1 (by omega) (by omega)
            rw [g3, show (49 : Int32) = nI 49 from rfl, nI_sub (by omega)]
            by_cases h9 : C (p + 1) = 49
            · rw [if_pos (show nI (C (p + 1) - 49) = 0 from by rw [h9]; rfl)]
              by_cases hA : C (p + 1 + 1) = 48
              · have g4 := (pm_v0 h g1 (by omega)).1
                rw [if_pos (h10.mpr hA), if_pos ⟨h9, hA⟩]
                refine ⟨Prod.ext ?_ rfl, g4, fun x e => ?_⟩
                · refine (pm_col (r := 0) (row := 9) hc.1).trans ?_
                  show nI _ = nI _
                  congr 1; omega
                · have e := Option.some.inj e; omega
              · rw [if_neg (fun z => hA (h10.mp z)), if_neg (fun z => hA z.2)]
                refine ⟨Prod.ext ?_ rfl, g1, fun x e => ?_⟩
                · refine (pm_col (r := 0) hc.1).trans ?_
                  show nI _ = nI _
                  congr 1; omega
                · have e := Option.some.inj e; omega
            · rw [if_neg (show ¬ nI (C (p + 1) - 49) = 0 from fun z => h9 (by
                have := (nI_eq (a := C (p + 1) - 49) (b := 0) (by omega) (by omega)).mp z
                omega)), if_neg (fun z => h9 z.1)]
              refine ⟨Prod.ext ?_ rfl, g1, fun x e => ?_⟩
              · refine (pm_col (r := 0) hc.1).trans ?_
                show nI _ = nI _
                congr 1; omega
              · have e := Option.some.inj e; omega
        · rw [if_pos (hr.mpr hd), if_neg (by omega)]
          exact ⟨rfl, hk1, fun x e => by cases e⟩
    · rw [if_neg hc]
      refine ⟨?_, hk0, fun x e => by cases e⟩
      by_cases h7 : C (p) < 97
      · rw [if_pos (e97.mpr h7)]; rfl
      · rw [if_neg (fun z => h7 (e97.mp z)), if_neg (fun z => hc ⟨by omega, e104.mp z⟩)]; rfl
