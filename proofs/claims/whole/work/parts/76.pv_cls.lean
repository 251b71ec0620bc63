/-! Pure: what the class's parts are worth. -/
theorem rf_dec : ∀ C, C < 8 → ∀ W, W < 10 → ∀ A, A < 2 → ∀ B, B < 2 → rgcol (nI (C + 8 * W + 128 * A + 256 * B)) = C ∧ rgrow (nI (C + 8 * W + 128 * A + 256 * B)) = W ∧ p_MO_lost (nI (C + 8 * W + 128 * A + 256 * B)) = 0 := by decide +kernel
theorem rf_512 : p_MO_lost 512 = 1 := by decide
/-- what a worth needs of the cells' object -/
def ceF (E : fs_E) (h : fs_Hp) (ce fil fo va re ga od : Nat) (st : Int32) (bf : Nat → Int32) (vf : Nat → UInt64) : Prop := h ce = some (.inr (2, [.ref fil, .ref fo, .ref va, .ref re, .ref ga, .ref od, .int st])) ∧ h fil = some (.inl (E.1.2 3, 80, .inl bf)) ∧ h va = some (.inl (E.1.2 2, 80, .inr (.inr (.inr (.inl vf))))) ∧ ga ≠ va ∧ ∀ k, k < 80 → nn (vf k)
def gaF (E : fs_E) (h : fs_Hp) (ga : Nat) (gf : Nat → UInt64) : Prop := h ga = some (.inl (E.1.2 2, 80, .inr (.inr (.inr (.inl gf)))))
/-- nothing changes but at ga -/
def gx (ga : Nat) (h h' : fs_Hp) : Prop := ∀ q, q ≠ ga → h' q = h q
theorem gx.rf {ga : Nat} {h : fs_Hp} : gx ga h h := fun _ _ => rfl
theorem gx.trans {ga : Nat} {h h1 h2 : fs_Hp} (a : gx ga h h1) (b : gx ga h1 h2) : gx ga h h2 := fun q hq => (b q hq).trans (a q hq)
theorem gaF.ne {E : fs_E} {h : fs_Hp} {ga a ci : Nat} {fs : List Value} {gf : Nat → UInt64} (hg : gaF E h ga gf) (ha : h a = some (.inr (ci, fs))) : a ≠ ga := fun e => by
  unfold gaF at hg
  rw [e, hg] at ha
  cases ha
theorem gaF.neI {E : fs_E} {h : fs_Hp} {ga a n : Nat} {cA : ClassId} {f : Nat → Int32} {gf : Nat → UInt64} (hg : gaF E h ga gf) (ha : h a = some (.inl (cA, n, .inl f))) : a ≠ ga := fun e => by
  unfold gaF at hg
  rw [e, hg] at ha
  cases ha
theorem gaF.neR {E : fs_E} {h : fs_Hp} {ga a n : Nat} {cA : ClassId} {f : Nat → Option Nat} {gf : Nat → UInt64} (hg : gaF E h ga gf) (ha : h a = some (.inl (cA, n, .inr (.inr (.inr (.inr f)))))) : a ≠ ga := fun e => by
  unfold gaF at hg
  rw [e, hg] at ha
  cases ha
theorem ceF.kept {E : fs_E} {h h' : fs_Hp} {ce fil fo va re ga od : Nat} {st : Int32} {bf : Nat → Int32} {vf gf : Nat → UInt64} (a : ceF E h ce fil fo va re ga od st bf vf) (hg : gaF E h ga gf) (hx : gx ga h h') : ceF E h' ce fil fo va re ga od st bf vf := ⟨(hx ce (hg.ne a.1)).trans a.1, (hx fil (hg.neI a.2.1)).trans a.2.1, (hx va (Ne.symm a.2.2.2.1)).trans a.2.2.1, a.2.2.2⟩
/-- the class's VALUES as they stand -/
def cvC (bf : Nat → Int32) (vf : Nat → UInt64) (c r : Nat) : Option Vl := if bf (r * 8 + c) = 0 then none else some (ck (vf (r * 8 + c)))
theorem cvC_ok {bf : Nat → Int32} {vf : Nat → UInt64} (h : ∀ k, k < 80 → nn (vf k)) {c r : Nat} (hc : c < 8) (hr : r < 10) {d : UInt64} (e : cvC bf vf c r = some (some d)) : nb d := by
  unfold cvC at e
  split at e
  · cases e
  · exact (ck_nb (h _ (by omega)) (Option.some.inj e)).1
def rowsD (bf : Nat → Int32) (vf : Nat → UInt64) (c : Nat) : Nat → Nat → List UInt64
  | 0, _ => []
  | k + 1, r => if bf (r * 8 + c) = 0 then rowsD bf vf c k (r + 1) else vf (r * 8 + c) :: rowsD bf vf c k (r + 1)
def colsD (bf : Nat → Int32) (vf : Nat → UInt64) (rk r0 : Nat) : Nat → Nat → List UInt64
  | 0, _ => []
  | k + 1, c => rowsD bf vf c rk r0 ++ colsD bf vf rk r0 k (c + 1)
theorem rowsD_V (bf : Nat → Int32) (vf : Nat → UInt64) (c : Nat) : ∀ k r, rowsV (cvC bf vf) c k r = (rowsD bf vf c k r).map ck := by
  intro k
  induction k with
  | zero => intro r; rfl
  | succ k ih =>
    intro r
    rw [rowsV, rowsD]
    unfold cvC
    by_cases hb : bf (r * 8 + c) = 0
    · rw [if_pos hb, if_pos hb]
      exact ih (r + 1)
    · rw [if_neg hb, if_neg hb, List.map_cons, ← ih (r + 1)]
      rfl
theorem colsD_V (bf : Nat → Int32) (vf : Nat → UInt64) (rk r0 : Nat) : ∀ k c, colsV (cvC bf vf) rk r0 k c = (colsD bf vf rk r0 k c).map ck := by
  intro k
  induction k with
  | zero => intro r; rfl
  | succ k ih =>
    intro c
    rw [colsV, colsD, List.map_append, rowsD_V, ih]
theorem rowsD_nn {bf : Nat → Int32} {vf : Nat → UInt64} (h : ∀ k, k < 80 → nn (vf k)) {c : Nat} (hc : c < 8) : ∀ k r d, r + k ≤ 10 → d ∈ rowsD bf vf c k r → nn d := by
  intro k
  induction k with
  | zero => intro r d _ hd; cases hd
  | succ k ih =>
    intro r d hr hd
    rw [rowsD] at hd
    split at hd
    · exact ih _ _ (by omega) hd
    · rcases List.mem_cons.mp hd with e | e
      · rw [e]; exact h _ (by omega)
      · exact ih _ _ (by omega) e
theorem colsD_nn {bf : Nat → Int32} {vf : Nat → UInt64} (h : ∀ k, k < 80 → nn (vf k)) {rk r0 : Nat} (hr : r0 + rk ≤ 10) : ∀ k c d, c + k ≤ 8 → d ∈ colsD bf vf rk r0 k c → nn d := by
  intro k
  induction k with
  | zero => intro r d _ hd; cases hd
  | succ k ih =>
    intro c d hc hd
    rw [colsD] at hd
    rcases List.mem_append.mp hd with e | e
    · exact rowsD_nn h (by omega) rk r0 d hr e
    · exact ih _ _ (by omega) e
/-- a range's corners in the heap -/
def ovF (E : fs_E) (h : fs_Hp) (r a b : Nat) (j C1 W1 C2 W2 : Nat) : Prop := ∃ (i i1 i2 : Nat) (cf1 rf1 cf2 rf2 : Int32), h r = some (.inr (9, [.ref (E.2 j), .ref a, .ref b, .ref i])) ∧ h a = some (.inr (5, [.int cf1, .int rf1, .int (nI C1), .int (nI W1), .int 0, .ref i1])) ∧ h b = some (.inr (5, [.int cf2, .int rf2, .int (nI C2), .int (nI W2), .int 0, .ref i2]))
theorem ovF.kept {E : fs_E} {h h' : fs_Hp} {r a b j C1 W1 C2 W2 ga : Nat} {gf : Nat → UInt64} (o : ovF E h r a b j C1 W1 C2 W2) (hg : gaF E h ga gf) (hx : gx ga h h') : ovF E h' r a b j C1 W1 C2 W2 := by
  obtain ⟨i, i1, i2, cf1, rf1, cf2, rf2, h1, h2, h3⟩ := o
  exact ⟨i, i1, i2, cf1, rf1, cf2, rf2, (hx r (hg.ne h1)).trans h1, (hx a (hg.ne h2)).trans h2, (hx b (hg.ne h3)).trans h3⟩
theorem nI_min {a b : Nat} (ha : a < 2 ^ 31) (hb : b < 2 ^ 31) : (if nI b < nI a then nI b else nI a) = nI (min a b) := by
  by_cases h : b < a
  · rw [if_pos (nI_lt h ha), Nat.min_eq_right (by omega)]
  · rw [if_neg (nI_nlt (by omega) hb), Nat.min_eq_left (by omega)]
theorem ov_left {E : fs_E} {h : fs_Hp} {r a b j C1 W1 C2 W2 : Nat} {Post : fs_Ps} (o : ovF E h r a b j C1 W1 C2 W2) (h1 : C1 < 8) (h2 : C2 < 8) (k : Post (.inl (some (.int (nI (min C1 C2))))) h) : w_OV_left E h r Post := by
  obtain ⟨i, i1, i2, cf1, rf1, cf2, rf2, e1, e2, e3⟩ := o
  refine fs_gr_of e1 rfl (fs_gi_of e2 rfl (fs_gr_of e1 rfl (fs_gi_of e3 rfl ?_)))
  rw [nI_min (by omega) (by omega)]
  exact k
theorem ov_right {E : fs_E} {h : fs_Hp} {r a b j C1 W1 C2 W2 : Nat} {Post : fs_Ps} (o : ovF E h r a b j C1 W1 C2 W2) (h1 : C1 < 8) (h2 : C2 < 8) (k : Post (.inl (some (.int (nI (max C1 C2))))) h) : w_OV_right E h r Post := by
  obtain ⟨i, i1, i2, cf1, rf1, cf2, rf2, e1, e2, e3⟩ := o
  refine fs_gr_of e1 rfl (fs_gi_of e2 rfl (fs_gr_of e1 rfl (fs_gi_of e3 rfl ?_)))
  rw [nI_max (by omega) (by omega)]
  exact k
theorem ov_top {E : fs_E} {h : fs_Hp} {r a b j C1 W1 C2 W2 : Nat} {Post : fs_Ps} (o : ovF E h r a b j C1 W1 C2 W2) (h1 : W1 < 10) (h2 : W2 < 10) (k : Post (.inl (some (.int (nI (min W1 W2))))) h) : w_OV_top E h r Post := by
  obtain ⟨i, i1, i2, cf1, rf1, cf2, rf2, e1, e2, e3⟩ := o
  refine fs_gr_of e1 rfl (fs_gi_of e2 rfl (fs_gr_of e1 rfl (fs_gi_of e3 rfl ?_)))
  rw [nI_min (by omega) (by omega)]
  exact k
theorem ov_bottom {E : fs_E} {h : fs_Hp} {r a b j C1 W1 C2 W2 : Nat} {Post : fs_Ps} (o : ovF E h r a b j C1 W1 C2 W2) (h1 : W1 < 10) (h2 : W2 < 10) (k : Post (.inl (some (.int (nI (max W1 W2))))) h) : w_OV_bottom E h r Post := by
  obtain ⟨i, i1, i2, cf1, rf1, cf2, rf2, e1, e2, e3⟩ := o
  refine fs_gr_of e1 rfl (fs_gi_of e2 rfl (fs_gr_of e1 rfl (fs_gi_of e3 rfl ?_)))
  rw [nI_max (by omega) (by omega)]
  exact k
theorem ovF.isc {E : fs_E} {h : fs_Hp} {r a b j C1 W1 C2 W2 : Nat} (o : ovF E h r a b j C1 W1 C2 W2) : fs_isc h r 9 := by
  obtain ⟨i, i1, i2, cf1, rf1, cf2, rf2, e1, e2, e3⟩ := o
  exact fs_isc_of e1
def pre (gf : Nat → UInt64) (D : List UInt64) : Prop := ∀ i d, D[i]? = some d → gf i = d
theorem pre.add {gf : Nat → UInt64} {D : List UInt64} {x : UInt64} (h : pre gf D) : pre (vf_upd gf D.length x) (D ++ [x]) := by
  intro i d hd
  unfold vf_upd
  by_cases hi : i < D.length
  · rw [List.getElem?_append_left hi] at hd
    rw [if_neg (by omega)]
    exact h i d hd
  · have := (List.getElem?_eq_some_iff.mp hd).1
    rw [List.length_append] at this
    have e : i = D.length := by simp at this; omega
    subst e
    rw [List.getElem?_concat_length] at hd
    cases hd
    rw [if_pos rfl]
theorem cell80 {c r : Nat} (hc : c < 8) (hr : r < 10) : (nI r * 8) + nI c = nI (r * 8 + c) ∧ vp_in (nI (r * 8 + c)) 80 ∧ (nI (r * 8 + c)).toNatClampNeg = r * 8 + c := by
  refine ⟨?_, nI_in (by omega) (by omega), nI_clamp (by omega)⟩
  rw [show (8 : Int32) = nI 8 from rfl, nI_mul, nI_add]
theorem ga_L21 {E : fs_E} {h0 : fs_Hp} {ce fil fo va re ga od r a b j C1 W1 C2 W2 c : Nat} {st : Int32} {bf : Nat → Int32} {vf gf0 : Nat → UInt64} {K : Int32 → fs_Hp → Prop} {Post : fs_Ps} (hc : ceF E h0 ce fil fo va re ga od st bf vf) (hg0 : gaF E h0 ga gf0) (ho : ovF E h0 r a b j C1 W1 C2 W2) (hW1 : W1 < 10) (hW2 : W2 < 10) (hc8 : c < 8) : ∀ (k rr : Nat) (D : List UInt64) (h : fs_Hp) (gf : Nat → UInt64), gx ga h0 h → gaF E h ga gf → pre gf D → rr + k = max W1 W2 + 1 → D.length ≤ 10 * c + rr → (∀ h' gf', gx ga h0 h' → gaF E h' ga gf' → pre gf' (D ++ rowsD bf vf c k rr) → K (nI (D ++ rowsD bf vf c k rr).length) h') → w_OV_gather_L21 E K Post (k + 1) r ce (nI D.length) (nI c) (nI rr) h := by
  intro k
  induction k with
  | zero =>
    intro rr D h gf hx hg hp hr hl hK
    rw [w_OV_gather_L21]
    refine ⟨(ho.kept hg0 hx).isc, ov_bottom (ho.kept hg0 hx) hW1 hW2 (fs_ki_of ?_)⟩
    rw [if_pos (nI_lt (by omega) (by omega))]
    have := hK h gf hx hg (by rw [rowsD, List.append_nil]; exact hp)
    rw [rowsD, List.append_nil] at this
    exact this
  | succ k ih =>
    intro rr D h gf hx hg hp hr hl hK
    have hc' := hc.kept hg0 hx
    rw [w_OV_gather_L21]
    refine ⟨(ho.kept hg0 hx).isc, ov_bottom (ho.kept hg0 hx) hW1 hW2 (fs_ki_of ?_)⟩
    obtain ⟨c1, c2, c3⟩ := cell80 hc8 (show rr < 10 by omega)
    rw [if_neg (nI_nlt (by omega) (by omega))]
    refine fs_gr_of hc'.1 rfl ?_
    rw [c1]
    refine fs_ai_of hc'.2.1 c2 ?_
    rw [c3]
    rw [rowsD] at hK
    by_cases hb : bf (rr * 8 + c) = 0
    · rw [if_pos hb]
      rw [if_pos hb] at hK
      rw [nI_1]
      exact ih (rr + 1) D h gf hx hg hp (by omega) (by omega) hK
    · rw [if_neg hb]
      rw [if_neg hb] at hK
      refine fs_gr_of hc'.1 rfl (fs_gr_of hc'.1 rfl (fs_ad_of hc'.2.2.1 c2 ?_))
      rw [c3]
      refine fs_sd_of hg (nI_in (by omega) (by omega)) ?_
      rw [nI_clamp (by omega), nI_1, nI_1]
      have e1 : D.length + 1 = (D ++ [vf (rr * 8 + c)]).length := by rw [List.length_append]; rfl
      rw [e1]
      refine ih (rr + 1) (D ++ [vf (rr * 8 + c)]) _ (vf_upd gf D.length (vf (rr * 8 + c))) (hx.trans fun q hq => fs_up_ne hq) (by unfold gaF; simp [fs_up]) hp.add (by omega) (by rw [← e1]; omega) ?_
      intro h' gf' z1 z2 z3
      rw [List.append_assoc] at z3 ⊢
      exact hK h' gf' z1 z2 z3
theorem ga_L7 {E : fs_E} {h0 : fs_Hp} {ce fil fo va re ga od r a b j C1 W1 C2 W2 : Nat} {st : Int32} {bf : Nat → Int32} {vf gf0 : Nat → UInt64} {K : Int32 → fs_Hp → Prop} {Post : fs_Ps} (hc : ceF E h0 ce fil fo va re ga od st bf vf) (hg0 : gaF E h0 ga gf0) (ho : ovF E h0 r a b j C1 W1 C2 W2) (hC1 : C1 < 8) (hC2 : C2 < 8) (hW1 : W1 < 10) (hW2 : W2 < 10) : ∀ (k c : Nat) (D : List UInt64) (h : fs_Hp) (gf : Nat → UInt64), gx ga h0 h → gaF E h ga gf → pre gf D → c + k = max C1 C2 + 1 → D.length ≤ 10 * c → (∀ h' gf', gx ga h0 h' → gaF E h' ga gf' → pre gf' (D ++ colsD bf vf (max W1 W2 + 1 - min W1 W2) (min W1 W2) k c) → K (nI (D ++ colsD bf vf (max W1 W2 + 1 - min W1 W2) (min W1 W2) k c).length) h') → w_OV_gather_L7 E K Post (k + 1) r ce (nI D.length) (nI c) h := by
  intro k
  induction k with
  | zero =>
    intro c D h gf hx hg hp hr hl hK
    rw [w_OV_gather_L7]
    refine ⟨(ho.kept hg0 hx).isc, ov_right (ho.kept hg0 hx) hC1 hC2 (fs_ki_of ?_)⟩
    rw [if_pos (nI_lt (by omega) (by omega))]
    have := hK h gf hx hg (by rw [colsD, List.append_nil]; exact hp)
    rw [colsD, List.append_nil] at this
    exact this
  | succ k ih =>
    intro c D h gf hx hg hp hr hl hK
    rw [w_OV_gather_L7]
    have ho' := ho.kept hg0 hx
    refine ⟨ho'.isc, ov_right ho' hC1 hC2 (fs_ki_of ?_)⟩
    rw [if_neg (nI_nlt (by omega) (by omega))]
    refine ⟨ho'.isc, ov_top ho' hW1 hW2 (fs_ki_of ⟨max W1 W2 + 1 - min W1 W2 + 1, ?_⟩)⟩
    refine ga_L21 hc hg0 ho hW1 hW2 (by omega) _ _ D h gf hx hg hp (by omega) (by omega) ?_
    intro h' gf' z1 z2 z3
    rw [nI_1]
    have hlen : (rowsD bf vf c (max W1 W2 + 1 - min W1 W2) (min W1 W2)).length ≤ max W1 W2 + 1 - min W1 W2 := by
      have := rowsV_len (cvC bf vf) c (max W1 W2 + 1 - min W1 W2) (min W1 W2)
      rw [rowsD_V, List.length_map] at this
      exact this
    refine ih (c + 1) _ h' gf' z1 z2 z3 (by omega) (by rw [List.length_append]; omega) ?_
    intro h2 gf2 y1 y2 y3
    rw [colsD] at hK
    rw [List.append_assoc] at y3 ⊢
    exact hK h2 gf2 y1 y2 y3
