/-! Pure: the class's sums, extremes and worths. -/
theorem ga_get {gf : Nat → UInt64} {D : List UInt64} {i : Nat} (h : pre gf D) (hi : i < D.length) : gf i = D[i] := h i _ (List.getElem?_eq_getElem hi)
theorem isNaN_no {E : fs_E} {h : fs_Hp} {d : UInt64} {Post : fs_Ps} (hd : nn d) (k : Post (.inl (some (.int 0))) h) : w_SH_isNaN E h d Post := by
  unfold w_SH_isNaN
  have e : FP.dcmp d d = some (compare (FP.Core.dkey d) (FP.Core.dkey d)) := FP.Core.dcmp_key hd hd
  rw [e, if_pos ((cmpV_eq _ _ _).mpr rfl)]
  exact k
theorem pv2_div (x y : UInt64) : pv2 47 x y = if Op.cmpValue (FP.dcmp y FP.dconst0) .l = 0 then none else ck (FP.ddiv x y) := by
  unfold pv2
  rw [if_neg (by decide), if_neg (by decide), if_neg (by decide), if_pos rfl]
theorem pv2_add (x y : UInt64) : pv2 43 x y = ck (FP.dadd x y) := by
  unfold pv2
  rw [if_neg (by decide), if_pos rfl]
/-- what workedOut gives -/
theorem worked {E : fs_E} {h : fs_Hp} {x y : UInt64} {s : Int32} {v1 v2 : Vl} {Post : fs_Ps} (hs : s = 42 ∨ s = 43 ∨ s = 45 ∨ s = 47) (hx : vrel x v1) (hy : vrel y v2) (hK : ∀ d, vrel d (pv2o s v1 v2) → Post (.inl (some (.double d))) h) : w_SH_workedOut E h x s y Post := by
  unfold w_SH_workedOut
  refine isBad_v hx (fun hb hv => fs_ki_of ?_) (fun hv => fs_ki_of ?_)
  · rw [if_pos rfl]
    refine isBad_v hy (fun hb2 hv2 => fs_ki_of ?_) (fun hv2 => fs_ki_of ?_)
    · rw [if_pos rfl]
      rw [hv, hv2] at hK
      have hK' : ∀ d, vrel d (pv2 s x y) → Post (.inl (some (.double d))) h := hK
      have hJ : ¬ (s = 47 ∧ Op.cmpValue (FP.dcmp y FP.dconst0) .l = 0) → w_SH_workedOut_J30 E Post x s y h := by
        intro hz
        unfold w_SH_workedOut_J30
        refine isNaN_no hb.nn (fs_ki_of ?_)
        rw [if_pos rfl]
        refine isNaN_no hb2.nn (fs_ki_of ?_)
        rw [if_pos rfl]
        unfold pv2 at hK'
        by_cases s42 : s = 42
        · rw [if_pos s42]
          rw [if_pos s42] at hK'
          have := nn_mul hb hb2
          exact ⟨nn_n64 this, hK' _ (vrel.ck this)⟩
        · rw [if_neg s42]
          rw [if_neg s42] at hK'
          by_cases s43 : s = 43
          · rw [if_pos s43]
            rw [if_pos s43] at hK'
            have := nn_add hb hb2
            exact ⟨nn_n64 this, hK' _ (vrel.ck this)⟩
          · rw [if_neg s43]
            rw [if_neg s43] at hK'
            by_cases s45 : s = 45
            · rw [if_pos s45]
              rw [if_pos s45] at hK'
              have := nn_sub hb hb2
              exact ⟨nn_n64 this, hK' _ (vrel.ck this)⟩
            · rw [if_neg s45]
              rw [if_neg s45] at hK'
              have s47 : s = 47 := by
                rcases hs with e | e | e | e
                · exact absurd e s42
                · exact absurd e s43
                · exact absurd e s45
                · exact e
              rw [if_pos s47, if_neg (fun z => hz ⟨s47, z⟩)] at hK'
              have := nn_div hb hb2 (fun z => hz ⟨s47, z⟩)
              exact ⟨nn_n64 this, hK' _ (vrel.ck this)⟩
      by_cases s47 : s = 47
      · rw [if_pos s47]
        by_cases hz : Op.cmpValue (FP.dcmp y FP.dconst0) .l = 0
        · rw [if_pos hz]
          rw [s47, pv2_div, if_pos hz] at hK'
          exact hK' _ vrel.bad
        · rw [if_neg hz]
          exact hJ fun z => hz z.2
      · rw [if_neg s47]
        exact hJ fun z => s47 z.1
    · rw [if_neg (by decide)]
      rw [hv, hv2] at hK
      exact hK _ vrel.bad
  · rw [if_neg (by decide)]
    rw [hv] at hK
    exact hK _ vrel.bad
/-- a sum that goes on over BAD -/
def sumO (l : List Vl) (v : Vl) : Vl := match v with | none => none | some s => sumV l s
theorem sumO_cons (c : Vl) (l : List Vl) (v : Vl) : sumO (c :: l) v = sumO l (pv2o 43 v c) := by
  cases v with
  | none => cases c <;> rfl
  | some s =>
    cases c with
    | none => rfl
    | some d =>
      show sumV (some d :: l) s = sumO l (pv2 43 s d)
      rw [pv2_add, sumV]
      unfold ck
      by_cases ht : p_MO_tooGreat (FP.dadd s d) = 0
      · rw [if_pos ht, if_pos ht]
        rfl
      · rw [if_neg ht, if_neg ht]
        rfl
theorem sum_L5 {E : fs_E} {h : fs_Hp} {ga : Nat} {gf : Nat → UInt64} {D : List UInt64} {Post : fs_Ps} (hg : gaF E h ga gf) (hp : pre gf D) (hl : D.length ≤ 80) (hn : ∀ d ∈ D, nn d) : ∀ (k i : Nat) (s : UInt64) (v : Vl), i + k = D.length → vrel s v → (∀ d, vrel d (sumO ((D.drop i).map ck) v) → Post (.inl (some (.double d))) h) → w_OV_sum_L5 E (fun y105 h106 => Post (.inl (some (.double y105))) h106) Post (k + 1) ga (nI D.length) s (nI i) h := by
  intro k
  induction k with
  | zero =>
    intro i s v hi hs hK
    rw [w_OV_sum_L5]
    dsimp only
    rw [if_pos (nI_le (by omega) (by omega))]
    refine hK s ?_
    rw [List.drop_of_length_le (by omega)]
    cases v <;> exact hs
  | succ k ih =>
    intro i s v hi hs hK
    have hil : i < D.length := by omega
    have hin : vp_in (nI i) 80 := nI_in (by omega) (by omega)
    have hd := hn _ (List.getElem_mem hil)
    rw [w_OV_sum_L5]
    dsimp only
    rw [if_neg (nI_ge (by omega) (by omega))]
    refine fs_ad_of hg hin ?_
    rw [nI_clamp (by omega), ga_get hp hil]
    rw [List.drop_eq_getElem_cons hil, List.map_cons, sumO_cons] at hK
    refine worked (Or.inr (Or.inl rfl)) hs (vrel.ck hd) fun d hd2 => fs_kd_of ?_
    rw [nI_1]
    exact ih (i + 1) d _ (by omega) hd2 hK
theorem cls_sum {E : fs_E} {h : fs_Hp} {ga : Nat} {gf : Nat → UInt64} {D : List UInt64} {Post : fs_Ps} (hg : gaF E h ga gf) (hp : pre gf D) (hl : D.length ≤ 80) (hn : ∀ d ∈ D, nn d) (hK : ∀ d, vrel d (sumV (D.map ck) FP.dconst0) → Post (.inl (some (.double d))) h) : w_OV_sum E h ga (nI D.length) Post := ⟨D.length + 1, sum_L5 hg hp hl hn D.length 0 FP.dconst0 (some FP.dconst0) (by omega) (vrel.ok nb_0) hK⟩
theorem i2d_nz {n : Nat} (h0 : 0 < n) (h : n ≤ 1000) : ¬ Op.cmpValue (FP.dcmp (FP.i2d (nI n)) FP.dconst0) .l = 0 := by
  have hb := FP.Core.i2d_big (v := nI n) (by rw [nI_toInt (by omega)]; omega)
  have e : FP.dcmp (FP.i2d (nI n)) FP.dconst0 = some (compare (FP.Core.dkey (FP.i2d (nI n))) (FP.Core.dkey FP.dconst0)) := FP.Core.dcmp_key (nb_i2d h).nn nb_0.nn
  have e0 : FP.Core.dkey FP.dconst0 = 0 := by decide +kernel
  have h1 : 1023 * 2 ^ 52 ≤ (FP.i2d (nI n)).toNat % 2 ^ 63 := hb.1
  rw [e, e0]
  intro z
  have z1 := (cmpV_eq _ _ _).mp z
  have h2 := (FP.i2d (nI n)).toNat_lt
  unfold FP.Core.dkey at z1
  split at z1 <;> omega
theorem i2d_z : Op.cmpValue (FP.dcmp (FP.i2d (nI 0)) FP.dconst0) .l = 0 := by decide +kernel
theorem avg_eq {D : List UInt64} {d : UInt64} (hl : D.length ≤ 80) (hd : vrel d (sumV (D.map ck) FP.dconst0)) : pv2o 47 (sumV (D.map ck) FP.dconst0) (some (FP.i2d (nI D.length))) = rgW 6 (D.map ck) := by
  have eW : rgW 6 (D.map ck) = if D.length = 0 then none else (sumV (D.map ck) FP.dconst0).map fun s => FP.ddiv s (FP.i2d (nI D.length)) := by
    unfold rgW
    rw [if_neg (by decide), if_neg (by decide), if_pos rfl, List.length_map]
  rw [eW]
  rcases hd with ⟨a, b⟩ | ⟨_, _, b⟩
  · rw [b]
    show pv2 47 d (FP.i2d (nI D.length)) = _
    rw [pv2_div]
    by_cases h0 : D.length = 0
    · rw [if_pos h0, if_pos (by rw [h0]; exact i2d_z)]
    · rw [if_neg h0, if_neg (i2d_nz (by omega) (by omega)), ck_ok (nb_avg a (by omega) (by omega))]
      rfl
  · rw [b]
    by_cases h0 : D.length = 0
    · rw [if_pos h0]
      rfl
    · rw [if_neg h0]
      rfl
theorem ext_L7 {E : fs_E} {h : fs_Hp} {ga r j : Nat} {l : List Value} {gf : Nat → UInt64} {D : List UInt64} {Post : fs_Ps} (hE : fs_In E) (hj : j < 8) (hr : h r = some (.inr (9, .ref (E.2 j) :: l))) (hg : gaF E h ga gf) (hp : pre gf D) (hl : D.length ≤ 80) (hn : ∀ d ∈ D, nn d) : ∀ (k i : Nat) (z : UInt64) (b : Option UInt64), i + k = D.length → ((b = none ∧ i = 0 ∧ z = 4836865999795912704) ∨ (b = some z ∧ nb z ∧ 0 < i)) → (∀ d, vrel d (extV (j == 1) ((D.drop i).map ck) b) → Post (.inl (some (.double d))) h) → w_OV_extreme_L7 E (fun y115 h116 => Post (.inl (some (.double y115))) h116) Post (k + 1) r ga (nI D.length) z (nI i) h := by
  intro k
  induction k with
  | zero =>
    intro i z b hi hb hK
    rw [w_OV_extreme_L7]
    dsimp only
    rw [if_pos (nI_le (by omega) (by omega))]
    refine hK z ?_
    rw [List.drop_of_length_le (by omega)]
    rcases hb with ⟨b1, b2, b3⟩ | ⟨b1, b2, b3⟩
    · rw [b1, b3]; exact vrel.bad
    · rw [b1]; exact vrel.ok b2
  | succ k ih =>
    intro i z b hi hb hK
    have hil : i < D.length := by omega
    have hin : vp_in (nI i) 80 := nI_in (by omega) (by omega)
    have hd := hn _ (List.getElem_mem hil)
    rw [w_OV_extreme_L7]
    dsimp only
    rw [if_neg (nI_ge (by omega) (by omega))]
    refine fs_ad_of hg hin ?_
    rw [nI_clamp (by omega), ga_get hp hil]
    rw [List.drop_eq_getElem_cons hil, List.map_cons] at hK
    have key : ∀ w : Int32, nb D[i] → ck D[i] = some D[i] → w = (if btr (j == 1) D[i] z then 1 else 0) → w_OV_extreme_L7_J68 (w_OV_extreme_L7 E (fun y115 h116 => Post (.inl (some (.double y115))) h116) Post (k + 1)) E (fun y115 h116 => Post (.inl (some (.double y115))) h116) Post r ga (nI D.length) z (nI i) w h := by
      intro w hb1 hv hw
      rw [hv] at hK
      have take : (b = none ∨ btr (j == 1) D[i] z = true) → w_OV_extreme_L7_J80 (w_OV_extreme_L7 E (fun y115 h116 => Post (.inl (some (.double y115))) h116) Post (k + 1)) E (fun y115 h116 => Post (.inl (some (.double y115))) h116) Post r ga (nI D.length) (nI i) h := by
        intro ht
        unfold w_OV_extreme_L7_J80
        refine fs_ad_of hg hin ?_
        rw [nI_clamp (by omega), ga_get hp hil, nI_1]
        refine ih (i + 1) D[i] (some D[i]) (by omega) (Or.inr ⟨rfl, hb1, by omega⟩) ?_
        rcases hb with ⟨b1, b2, b3⟩ | ⟨b1, b2, b3⟩
        · rw [b1] at hK
          exact hK
        · rw [b1] at hK ht
          have : btr (j == 1) D[i] z = true := by
            rcases ht with t | t
            · cases t
            · exact t
          rw [extV, this] at hK
          exact hK
      unfold w_OV_extreme_L7_J68
      rcases hb with ⟨b1, b2, b3⟩ | ⟨b1, b2, b3⟩
      · rw [if_pos (show nI i = 0 by rw [b2]; rfl)]
        exact take (Or.inl b1)
      · rw [if_neg (nI_ne0 b3 (by omega))]
        by_cases hbt : btr (j == 1) D[i] z = true
        · rw [hbt] at hw
          rw [if_neg (by rw [hw]; decide)]
          exact take (Or.inr hbt)
        · have hbf : btr (j == 1) D[i] z = false := by simpa using hbt
          rw [hbf] at hw
          rw [if_pos (by rw [hw]; rfl), nI_1]
          refine ih (i + 1) z (some z) (by omega) (Or.inr ⟨rfl, b2, by omega⟩) ?_
          rw [b1, extV, hbf] at hK
          exact hK
    refine isBad_v (vrel.ck hd) (fun hb1 hv => fs_ki_of ?_) (fun hv => fs_ki_of ?_)
    · rw [if_pos rfl]
      refine fs_gr_of hr rfl ?_
      by_cases hj1 : j = 1
      · rw [if_pos (by rw [hj1])]
        refine fs_ad_of hg hin ?_
        rw [nI_clamp (by omega), ga_get hp hil]
        have ej : (j == 1) = true := by rw [hj1]; rfl
        by_cases hc : 0 ≤ Op.cmpValue (FP.dcmp D[i] z) .g
        · rw [if_pos hc]
          refine key 0 hb1 hv ?_
          rw [ej]
          simp [btr, hc]
        · rw [if_neg hc]
          refine key 1 hb1 hv ?_
          rw [ej]
          simp [btr, hc]
      · rw [if_neg (fun e => hj1 (hE j 1 hj (by omega) e))]
        refine fs_ad_of hg hin ?_
        rw [nI_clamp (by omega), ga_get hp hil]
        have ej : (j == 1) = false := by simp [hj1]
        by_cases hc : Op.cmpValue (FP.dcmp D[i] z) .l ≤ 0
        · rw [if_pos hc]
          refine key 0 hb1 hv ?_
          rw [ej]
          simp [btr, hc]
        · rw [if_neg hc]
          refine key 1 hb1 hv ?_
          rw [ej]
          simp [btr, hc]
    · rw [if_neg (by decide)]
      rw [hv] at hK
      exact hK _ vrel.bad
theorem cls_ext {E : fs_E} {h : fs_Hp} {ga r j : Nat} {l : List Value} {gf : Nat → UInt64} {D : List UInt64} {Post : fs_Ps} (hE : fs_In E) (hj : j < 8) (hr : h r = some (.inr (9, .ref (E.2 j) :: l))) (hg : gaF E h ga gf) (hp : pre gf D) (hl : D.length ≤ 80) (hn : ∀ d ∈ D, nn d) (hK : ∀ d, vrel d (extV (j == 1) (D.map ck) none) → Post (.inl (some (.double d))) h) : w_OV_extreme E h r ga (nI D.length) Post := ⟨D.length + 1, ext_L7 hE hj hr hg hp hl hn D.length 0 _ none (by omega) (Or.inl ⟨rfl, rfl, rfl⟩) hK⟩
theorem colsD_len (bf : Nat → Int32) (vf : Nat → UInt64) (rk r0 k c : Nat) : (colsD bf vf rk r0 k c).length ≤ rk * k := by
  have := colsV_len (cvC bf vf) rk r0 k c
  rw [colsD_V, List.length_map] at this
  exact this
/-- what a worth leaves and gives -/
def wK (E : fs_E) (ga : Nat) (h : fs_Hp) (v : Vl) (Post : fs_Ps) : Prop := ∀ d h' gf', vrel d v → gx ga h h' → gaF E h' ga gf' → Post (.inl (some (.double d))) h'
theorem cls_ov {E : fs_E} {h : fs_Hp} {ce fil fo va re ga od r a b j C1 W1 C2 W2 : Nat} {st : Int32} {bf : Nat → Int32} {vf gf : Nat → UInt64} {Post : fs_Ps} {self : fs_E → fs_Hp → Nat → Nat → fs_Ps → Prop} (hE : fs_In E) (hj : j < 5) (hc : ceF E h ce fil fo va re ga od st bf vf) (hg : gaF E h ga gf) (ho : ovF E h r a b j C1 W1 C2 W2) (hC1 : C1 < 8) (hC2 : C2 < 8) (hW1 : W1 < 10) (hW2 : W2 < 10) (hK : wK E ga h (rgW (nI (j + 2)) (colsV (cvC bf vf) (max W1 W2 + 1 - min W1 W2) (min W1 W2) (max C1 C2 + 1 - min C1 C2) (min C1 C2))) Post) : w_OV_worth self E h r ce Post := by
  refine ⟨ho.isc, ?_⟩
  have ho' := ho
  obtain ⟨i, i1, i2, cf1, rf1, cf2, rf2, e1, e2, e3⟩ := ho'
  refine fs_gr_of e1 rfl (fs_gi_of e2 rfl ?_)
  rw [if_pos rfl]
  refine fs_gr_of e1 rfl (fs_gi_of e3 rfl ?_)
  rw [if_pos rfl]
  refine fs_ki_of ?_
  rw [if_pos rfl]
  refine ⟨ho.isc, ho.isc, ov_left ho hC1 hC2 (fs_ki_of ⟨max C1 C2 + 1 - min C1 C2 + 1, ?_⟩)⟩
  refine ga_L7 hc hg ho hC1 hC2 hW1 hW2 _ _ [] h gf gx.rf hg (fun i d hd => by cases hd) (by omega) (Nat.zero_le _) ?_
  intro h' gf' hx hg' hp
  rw [List.nil_append] at hp ⊢
  refine fs_ki_of ?_
  have hnn : ∀ d ∈ colsD bf vf (max W1 W2 + 1 - min W1 W2) (min W1 W2) (max C1 C2 + 1 - min C1 C2) (min C1 C2), nn d := fun d hd => colsD_nn hc.2.2.2.2 (by omega) _ _ d (by omega) hd
  have hlen : (colsD bf vf (max W1 W2 + 1 - min W1 W2) (min W1 W2) (max C1 C2 + 1 - min C1 C2) (min C1 C2)).length ≤ 80 := by
    refine Nat.le_trans (colsD_len _ _ _ _ _ _) ?_
    have a1 : max W1 W2 + 1 - min W1 W2 ≤ 10 := by omega
    have a2 : max C1 C2 + 1 - min C1 C2 ≤ 8 := by omega
    exact Nat.mul_le_mul a1 a2
  rw [colsD_V] at hK
  generalize colsD bf vf (max W1 W2 + 1 - min W1 W2) (min W1 W2) (max C1 C2 + 1 - min C1 C2) (min C1 C2) = D at *
  have hr' : h' r = some (.inr (9, [.ref (E.2 j), .ref a, .ref b, .ref i])) := (hx r (hg.ne e1)).trans e1
  have hc' := hc.kept hg hx
  refine fs_gr_of hr' rfl ?_
  by_cases j3 : j = 3
  · rw [if_pos (by rw [j3])]
    refine hK _ h' gf' ?_ hx hg'
    unfold rgW
    rw [j3, if_pos (show nI (3 + 2) = 5 from rfl), List.length_map]
    exact vrel.ok (nb_i2d (by omega))
  · rw [if_neg (fun e => j3 (hE j 3 (by omega) (by omega) e))]
    have n5 : ¬ nI (j + 2) = 5 := fun z => j3 (by have := (nI_eq (a := j + 2) (b := 5) (by omega) (by omega)).mp z; omega)
    refine fs_gr_of hr' rfl ?_
    have hext : (j = 1 ∨ j = 2) → w_OV_worth_J50 self E Post r ce (nI D.length) h' := by
      intro j12
      unfold w_OV_worth_J50
      have n2 : ¬ nI (j + 2) = 2 := fun z => by have := (nI_eq (a := j + 2) (b := 2) (by omega) (by omega)).mp z; omega
      have n6 : ¬ nI (j + 2) = 6 := fun z => by have := (nI_eq (a := j + 2) (b := 6) (by omega) (by omega)).mp z; omega
      refine fs_gr_of hc'.1 rfl ⟨fs_isc_of hr', cls_ext hE (by omega) hr' hg' hp hlen hnn fun d hd => fs_kd_of (hK d h' gf' ?_ hx hg')⟩
      unfold rgW
      rw [if_neg n5, if_neg n2, if_neg n6]
      have ej : (nI (j + 2) == 3) = (j == 1) := by
        rcases j12 with rfl | rfl <;> decide
      rw [ej]
      exact hd
    by_cases j1 : j = 1
    · rw [if_pos (by rw [j1])]
      exact hext (Or.inl j1)
    · rw [if_neg (fun e => j1 (hE j 1 (by omega) (by omega) e))]
      refine fs_gr_of hr' rfl ?_
      by_cases j2 : j = 2
      · rw [if_pos (by rw [j2])]
        exact hext (Or.inr j2)
      · rw [if_neg (fun e => j2 (hE j 2 (by omega) (by omega) e))]
        refine fs_gr_of hc'.1 rfl (cls_sum hg' hp hlen hnn fun d hd => fs_kd_of (fs_gr_of hr' rfl ?_))
        by_cases j0 : j = 0
        · rw [if_pos (by rw [j0])]
          refine hK d h' gf' ?_ hx hg'
          unfold rgW
          rw [if_neg n5, if_pos (by rw [j0]; rfl)]
          exact hd
        · rw [if_neg (fun e => j0 (hE j 0 (by omega) (by omega) e))]
          have j4 : j = 4 := by omega
          refine worked (Or.inr (Or.inr (Or.inr rfl))) hd (vrel.ok (nb_i2d (by omega))) fun z hz => fs_kd_of (hK z h' gf' ?_ hx hg')
          rw [avg_eq hlen hd] at hz
          rw [j4]
          exact hz
