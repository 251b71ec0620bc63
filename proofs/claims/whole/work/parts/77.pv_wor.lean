/-! Pure: the class's sums, extremes and worths. -/
theorem ga_get {gf : Nat → UInt64} {D : List UInt64} {i : Nat} (h : pre gf D) (hi : i < D.length) : gf i = D[i] := h i _ (List.getElem?_eq_getElem hi)
theorem sum_L5 {E : fs_E} {h : fs_Hp} {ga : Nat} {gf : Nat → UInt64} {D : List UInt64} {Post : fs_Ps} (hg : gaF E h ga gf) (hp : pre gf D) (hl : D.length ≤ 80) (hn : ∀ d ∈ D, nn d) : ∀ (k i : Nat) (s : UInt64), i + k = D.length → nb s → (∀ d, vrel d (sumV ((D.drop i).map ck) s) → Post (.inl (some (.double d))) h) → w_OV_sum_L5 E (fun y110 h111 => Post (.inl (some (.double y110))) h111) Post (k + 1) ga (nI D.length) s (nI i) h := by
  intro k
  induction k with
  | zero =>
    intro i s hi hs hK
    rw [w_OV_sum_L5]
    dsimp only
    rw [if_pos (nI_le (by omega) (by omega))]
    refine hK s ?_
    rw [List.drop_of_length_le (by omega)]
    exact vrel.ok hs
  | succ k ih =>
    intro i s hi hs hK
    have hil : i < D.length := by omega
    have hin : vp_in (nI i) 80 := nI_in (by omega) (by omega)
    have hd := hn _ (List.getElem_mem hil)
    rw [w_OV_sum_L5]
    dsimp only
    rw [if_neg (nI_ge (by omega) (by omega))]
    refine fs_ad_of hg hin ?_
    rw [nI_clamp (by omega), ga_get hp hil]
    rw [List.drop_eq_getElem_cons hil, List.map_cons] at hK
    refine isBad_v (vrel.ck hd) (fun hb hv => ?_) (fun hv => ?_)
    · refine fs_ki_of ?_
      rw [if_pos rfl]
      refine fs_ad_of hg hin ?_
      rw [nI_clamp (by omega), ga_get hp hil]
      have hs2 := nn_add hs hb
      rw [hv, sumV] at hK
      refine ⟨nn_n64 hs2, ?_⟩
      by_cases hb2 : nb (FP.dadd s D[i])
      · refine isBad_ok hb2 (fs_ki_of ?_)
        rw [if_pos rfl, nI_1]
        rw [tg_ok hb2, if_pos rfl] at hK
        exact ih (i + 1) _ (by omega) hb2 hK
      · refine isBad_bad hs2 hb2 (fs_ki_of ?_)
        rw [if_neg (by decide)]
        rw [tg_bad hs2 hb2, if_neg (by decide)] at hK
        exact hK _ vrel.bad
    · refine fs_ki_of ?_
      rw [if_neg (by decide)]
      rw [hv] at hK
      exact hK _ vrel.bad
theorem cls_sum {E : fs_E} {h : fs_Hp} {ga : Nat} {gf : Nat → UInt64} {D : List UInt64} {Post : fs_Ps} (hg : gaF E h ga gf) (hp : pre gf D) (hl : D.length ≤ 80) (hn : ∀ d ∈ D, nn d) (hK : ∀ d, vrel d (sumV (D.map ck) FP.dconst0) → Post (.inl (some (.double d))) h) : w_OV_sum E h ga (nI D.length) Post := ⟨D.length + 1, sum_L5 hg hp hl hn D.length 0 FP.dconst0 (by omega) nb_0 hK⟩
theorem cls_avg {E : fs_E} {h : fs_Hp} {ga : Nat} {gf : Nat → UInt64} {D : List UInt64} {Post : fs_Ps} (hg : gaF E h ga gf) (hp : pre gf D) (hl : D.length ≤ 80) (hn : ∀ d ∈ D, nn d) (hK : ∀ d, vrel d (rgW 6 (D.map ck)) → Post (.inl (some (.double d))) h) : w_OV_average E h ga (nI D.length) Post := by
  refine cls_sum hg hp hl hn fun d hd => fs_kd_of ?_
  have eW : rgW 6 (D.map ck) = if D.length = 0 then none else (sumV (D.map ck) FP.dconst0).map fun s => FP.ddiv s (FP.i2d (nI D.length)) := by
    unfold rgW
    rw [if_neg (by decide), if_neg (by decide), if_pos rfl, List.length_map]
  rw [eW] at hK
  by_cases h0 : D.length = 0
  · rw [if_pos (show nI D.length = 0 by rw [h0]; rfl)]
    rw [if_pos h0] at hK
    exact hK _ vrel.bad
  · rw [if_neg (nI_ne0 (by omega) (by omega))]
    rw [if_neg h0] at hK
    refine isBad_v hd (fun hb hv => fs_ki_of ?_) (fun hv => fs_ki_of ?_)
    · rw [if_pos rfl]
      have hb2 := nb_avg (n := D.length) hb (by omega) (by omega)
      rw [hv] at hK
      exact ⟨nn_n64 hb2.nn, hK _ (vrel.ok hb2)⟩
    · rw [if_neg (by decide)]
      rw [hv] at hK
      exact hK _ vrel.bad
theorem ext_L7 {E : fs_E} {h : fs_Hp} {ga r j : Nat} {l : List Value} {gf : Nat → UInt64} {D : List UInt64} {Post : fs_Ps} (hE : fs_In E) (hj : j < 8) (hr : h r = some (.inr (9, .ref (E.2 j) :: l))) (hg : gaF E h ga gf) (hp : pre gf D) (hl : D.length ≤ 80) (hn : ∀ d ∈ D, nn d) : ∀ (k i : Nat) (z : UInt64) (b : Option UInt64), i + k = D.length → ((b = none ∧ i = 0 ∧ z = 4836865999795912704) ∨ (b = some z ∧ nb z ∧ 0 < i)) → (∀ d, vrel d (extV (j == 1) ((D.drop i).map ck) b) → Post (.inl (some (.double d))) h) → w_OV_extreme_L7 E (fun y115 h116 => Post (.inl (some (.double y115))) h116) Post (k + 1) r ga (nI D.length) z (nI i) h := by
  intro k
  induction k with
  | zero =>
    intro i z b hi hb hK
    rw [w_OV_extreme_L7]
    dsimp only
    rw [if_pos (nI_le (by omega) (by omega))]
    refine hK z ?_
    rw [List.drop_of_length_le (by omega)]
    rcases hb with ⟨b1, b2, b3⟩ | ⟨b1, b2, b3⟩
    · rw [b1, b3]; exact vrel.bad
    · rw [b1]; exact vrel.ok b2
  | succ k ih =>
    intro i z b hi hb hK
    have hil : i < D.length := by omega
    have hin : vp_in (nI i) 80 := nI_in (by omega) (by omega)
    have hd := hn _ (List.getElem_mem hil)
    rw [w_OV_extreme_L7]
    dsimp only
    rw [if_neg (nI_ge (by omega) (by omega))]
    refine fs_ad_of hg hin ?_
    rw [nI_clamp (by omega), ga_get hp hil]
    rw [List.drop_eq_getElem_cons hil, List.map_cons] at hK
    have key : ∀ w : Int32, nb D[i] → ck D[i] = some D[i] → w = (if btr (j == 1) D[i] z then 1 else 0) → w_OV_extreme_L7_J68 (w_OV_extreme_L7 E (fun y115 h116 => Post (.inl (some (.double y115))) h116) Post (k + 1)) E (fun y115 h116 => Post (.inl (some (.double y115))) h116) Post r ga (nI D.length) z (nI i) w h := by
      intro w hb1 hv hw
      rw [hv] at hK
      have take : (b = none ∨ btr (j == 1) D[i] z = true) → w_OV_extreme_L7_J80 (w_OV_extreme_L7 E (fun y115 h116 => Post (.inl (some (.double y115))) h116) Post (k + 1)) E (fun y115 h116 => Post (.inl (some (.double y115))) h116) Post r ga (nI D.length) (nI i) h := by
        intro ht
        unfold w_OV_extreme_L7_J80
        refine fs_ad_of hg hin ?_
        rw [nI_clamp (by omega), ga_get hp hil, nI_1]
        refine ih (i + 1) D[i] (some D[i]) (by omega) (Or.inr ⟨rfl, hb1, by omega⟩) ?_
        rcases hb with ⟨b1, b2, b3⟩ | ⟨b1, b2, b3⟩
        · rw [b1] at hK
          exact hK
        · rw [b1] at hK ht
          have : btr (j == 1) D[i] z = true := by
            rcases ht with t | t
            · cases t
            · exact t
          rw [extV, this] at hK
          exact hK
      unfold w_OV_extreme_L7_J68
      rcases hb with ⟨b1, b2, b3⟩ | ⟨b1, b2, b3⟩
      · rw [if_pos (show nI i = 0 by rw [b2]; rfl)]
        exact take (Or.inl b1)
      · rw [if_neg (nI_ne0 b3 (by omega))]
        by_cases hbt : btr (j == 1) D[i] z = true
        · rw [hbt] at hw
          rw [if_neg (by rw [hw]; decide)]
          exact take (Or.inr hbt)
        · have hbf : btr (j == 1) D[i] z = false := by simpa using hbt
          rw [hbf] at hw
          rw [if_pos (by rw [hw]; rfl), nI_1]
          refine ih (i + 1) z (some z) (by omega) (Or.inr ⟨rfl, b2, by omega⟩) ?_
          rw [b1, extV, hbf] at hK
          exact hK
    refine isBad_v (vrel.ck hd) (fun hb1 hv => fs_ki_of ?_) (fun hv => fs_ki_of ?_)
    · rw [if_pos rfl]
      refine fs_gr_of hr rfl ?_
      by_cases hj1 : j = 1
      · rw [if_pos (by rw [hj1])]
        refine fs_ad_of hg hin ?_
        rw [nI_clamp (by omega), ga_get hp hil]
        have ej : (j == 1) = true := by rw [hj1]; rfl
        by_cases hc : 0 ≤ Op.cmpValue (FP.dcmp D[i] z) .g
        · rw [if_pos hc]
          refine key 0 hb1 hv ?_
          rw [ej]
          simp [btr, hc]
        · rw [if_neg hc]
          refine key 1 hb1 hv ?_
          rw [ej]
          simp [btr, hc]
      · rw [if_neg (fun e => hj1 (hE j 1 hj (by omega) e))]
        refine fs_ad_of hg hin ?_
        rw [nI_clamp (by omega), ga_get hp hil]
        have ej : (j == 1) = false := by simp [hj1]
        by_cases hc : Op.cmpValue (FP.dcmp D[i] z) .l ≤ 0
        · rw [if_pos hc]
          refine key 0 hb1 hv ?_
          rw [ej]
          simp [btr, hc]
        · rw [if_neg hc]
          refine key 1 hb1 hv ?_
          rw [ej]
          simp [btr, hc]
    · rw [if_neg (by decide)]
      rw [hv] at hK
      exact hK _ vrel.bad
theorem cls_ext {E : fs_E} {h : fs_Hp} {ga r j : Nat} {l : List Value} {gf : Nat → UInt64} {D : List UInt64} {Post : fs_Ps} (hE : fs_In E) (hj : j < 8) (hr : h r = some (.inr (9, .ref (E.2 j) :: l))) (hg : gaF E h ga gf) (hp : pre gf D) (hl : D.length ≤ 80) (hn : ∀ d ∈ D, nn d) (hK : ∀ d, vrel d (extV (j == 1) (D.map ck) none) → Post (.inl (some (.double d))) h) : w_OV_extreme E h r ga (nI D.length) Post := ⟨D.length + 1, ext_L7 hE hj hr hg hp hl hn D.length 0 _ none (by omega) (Or.inl ⟨rfl, rfl, rfl⟩) hK⟩
theorem colsD_len (bf : Nat → Int32) (vf : Nat → UInt64) (rk r0 k c : Nat) : (colsD bf vf rk r0 k c).length ≤ rk * k := by
  have := colsV_len (cvC bf vf) rk r0 k c
  rw [colsD_V, List.length_map] at this
  exact this
/-- what a worth leaves and gives -/
def wK (E : fs_E) (ga : Nat) (h : fs_Hp) (v : Vl) (Post : fs_Ps) : Prop := ∀ d h' gf', vrel d v → gx ga h h' → gaF E h' ga gf' → Post (.inl (some (.double d))) h'
theorem cls_ov {E : fs_E} {h : fs_Hp} {ce fil fo va re ga od r a b j C1 W1 C2 W2 : Nat} {st : Int32} {bf : Nat → Int32} {vf gf : Nat → UInt64} {Post : fs_Ps} {self : fs_E → fs_Hp → Nat → Nat → fs_Ps → Prop} (hE : fs_In E) (hj : j < 5) (hc : ceF E h ce fil fo va re ga od st bf vf) (hg : gaF E h ga gf) (ho : ovF E h r a b j C1 W1 C2 W2) (hC1 : C1 < 8) (hC2 : C2 < 8) (hW1 : W1 < 10) (hW2 : W2 < 10) (hK : wK E ga h (rgW (nI (j + 2)) (colsV (cvC bf vf) (max W1 W2 + 1 - min W1 W2) (min W1 W2) (max C1 C2 + 1 - min C1 C2) (min C1 C2))) Post) : w_OV_worth self E h r ce Post := by
  refine ⟨ho.isc, ?_⟩
  have ho' := ho
  obtain ⟨i, i1, i2, cf1, rf1, cf2, rf2, e1, e2, e3⟩ := ho'
  refine fs_gr_of e1 rfl (fs_gi_of e2 rfl ?_)
  rw [if_pos rfl]
  refine fs_gr_of e1 rfl (fs_gi_of e3 rfl ?_)
  rw [if_pos rfl]
  refine fs_ki_of ?_
  rw [if_pos rfl]
  refine ⟨ho.isc, ho.isc, ov_left ho hC1 hC2 (fs_ki_of ⟨max C1 C2 + 1 - min C1 C2 + 1, ?_⟩)⟩
  refine ga_L7 hc hg ho hC1 hC2 hW1 hW2 _ _ [] h gf gx.rf hg (fun i d hd => by cases hd) (by omega) (Nat.zero_le _) ?_
  intro h' gf' hx hg' hp
  rw [List.nil_append] at hp ⊢
  refine fs_ki_of ?_
  have hnn : ∀ d ∈ colsD bf vf (max W1 W2 + 1 - min W1 W2) (min W1 W2) (max C1 C2 + 1 - min C1 C2) (min C1 C2), nn d := fun d hd => colsD_nn hc.2.2.2.2 (by omega) _ _ d (by omega) hd
  have hlen : (colsD bf vf (max W1 W2 + 1 - min W1 W2) (min W1 W2) (max C1 C2 + 1 - min C1 C2) (min C1 C2)).length ≤ 80 := by
    refine Nat.le_trans (colsD_len _ _ _ _ _ _) ?_
    have a1 : max W1 W2 + 1 - min W1 W2 ≤ 10 := by omega
    have a2 : max C1 C2 + 1 - min C1 C2 ≤ 8 := by omega
    exact Nat.mul_le_mul a1 a2
  rw [colsD_V] at hK
  generalize colsD bf vf (max W1 W2 + 1 - min W1 W2) (min W1 W2) (max C1 C2 + 1 - min C1 C2) (min C1 C2) = D at *
  have hr' : h' r = some (.inr (9, [.ref (E.2 j), .ref a, .ref b, .ref i])) := (hx r (hg.ne e1)).trans e1
  have hc' := hc.kept hg hx
  refine fs_gr_of hr' rfl ?_
  by_cases j3 : j = 3
  · rw [if_pos (by rw [j3])]
    refine hK _ h' gf' ?_ hx hg'
    unfold rgW
    rw [j3, if_pos (show nI (3 + 2) = 5 from rfl), List.length_map]
    exact vrel.ok (nb_i2d (by omega))
  · rw [if_neg (fun e => j3 (hE j 3 (by omega) (by omega) e))]
    have n5 : ¬ nI (j + 2) = 5 := fun z => j3 (by have := (nI_eq (a := j + 2) (b := 5) (by omega) (by omega)).mp z; omega)
    refine fs_gr_of hr' rfl ?_
    by_cases j0 : j = 0
    · rw [if_pos (by rw [j0])]
      refine fs_gr_of hc'.1 rfl (cls_sum hg' hp hlen hnn fun d hd => fs_kd_of (hK d h' gf' ?_ hx hg'))
      unfold rgW
      rw [if_neg n5, if_pos (by rw [j0]; rfl)]
      exact hd
    · rw [if_neg (fun e => j0 (hE j 0 (by omega) (by omega) e))]
      have n2 : ¬ nI (j + 2) = 2 := fun z => j0 (by have := (nI_eq (a := j + 2) (b := 2) (by omega) (by omega)).mp z; omega)
      refine fs_gr_of hr' rfl ?_
      by_cases j4 : j = 4
      · rw [if_pos (by rw [j4])]
        refine fs_gr_of hc'.1 rfl (cls_avg hg' hp hlen hnn fun d hd => fs_kd_of (hK d h' gf' ?_ hx hg'))
        rw [j4]
        exact hd
      · rw [if_neg (fun e => j4 (hE j 4 (by omega) (by omega) e))]
        have n6 : ¬ nI (j + 2) = 6 := fun z => j4 (by have := (nI_eq (a := j + 2) (b := 6) (by omega) (by omega)).mp z; omega)
        refine fs_gr_of hc'.1 rfl ⟨fs_isc_of hr', cls_ext hE (by omega) hr' hg' hp hlen hnn fun d hd => fs_kd_of (hK d h' gf' ?_ hx hg')⟩
        unfold rgW
        rw [if_neg n5, if_neg n2, if_neg n6]
        have ej : (nI (j + 2) == 3) = (j == 1) := by
          have : j = 1 ∨ j = 2 := by omega
          rcases this with rfl | rfl <;> decide
        rw [ej]
        exact hd
