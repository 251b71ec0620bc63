/-! Pure: the class's formulas follow the rows, in place. -/
/-- references of F may change, nothing else -/
def ch5 (F : List Nat) (h h' : fs_Hp) : Prop := ∀ q, h' q = h q ∨ (q ∈ F ∧ (∃ fs, h q = some (.inr (5, fs))) ∧ ∃ fs, h' q = some (.inr (5, fs)))
theorem ch5.rf {F : List Nat} {h : fs_Hp} : ch5 F h h := fun _ => Or.inl rfl
theorem ch5.trans {F F1 F2 : List Nat} {h h1 h2 : fs_Hp} (a : ch5 F1 h h1) (b : ch5 F2 h1 h2) (s1 : ∀ q ∈ F1, q ∈ F) (s2 : ∀ q ∈ F2, q ∈ F) : ch5 F h h2 := by
  intro q
  rcases b q with e | ⟨m, ⟨fs, e1⟩, e2⟩
  · rcases a q with e' | ⟨m', e3, ⟨fs', e4⟩⟩
    · exact Or.inl (e.trans e')
    · exact Or.inr ⟨s1 q m', e3, fs', e.trans e4⟩
  · rcases a q with e' | ⟨m', e3, _⟩
    · exact Or.inr ⟨s2 q m, ⟨fs, by rw [← e']; exact e1⟩, e2⟩
    · exact Or.inr ⟨s2 q m, e3, e2⟩
theorem ch5.mono {F F1 : List Nat} {h h1 : fs_Hp} (a : ch5 F1 h h1) (s1 : ∀ q ∈ F1, q ∈ F) : ch5 F h h1 := fun q => by
  rcases a q with e | ⟨m, e⟩
  · exact Or.inl e
  · exact Or.inr ⟨s1 q m, e⟩
theorem ch5.out {F : List Nat} {h h' : fs_Hp} (a : ch5 F h h') {q : Nat} (hq : q ∉ F) : h' q = h q := by
  rcases a q with e | ⟨m, _⟩
  · exact e
  · exact absurd m hq
theorem ch5.obj {F : List Nat} {h h' : fs_Hp} (a : ch5 F h h') {q c : Nat} {fs : List Value} (e : h q = some (.inr (c, fs))) (hc : c ≠ 5) : h' q = h q := by
  rcases a q with e' | ⟨_, ⟨fs', e1⟩, _⟩
  · exact e'
  · rw [e] at e1; cases e1; exact absurd rfl hc
theorem ch5.arr {F : List Nat} {h h' : fs_Hp} (a : ch5 F h h') {q : Nat} {x : ClassId × vp_A} (e : h q = some (.inl x)) : h' q = h q := by
  rcases a q with e' | ⟨_, ⟨fs', e1⟩, _⟩
  · exact e'
  · rw [e] at e1; cases e1
theorem kd_app {n : Nat} {E : fs_E} {h : fs_Hp} {g : Nat → Option Nat} : ∀ (D T : List Kd) (j : Nat), kd n E h g j (D ++ T) ↔ kd n E h g j D ∧ kd n E h g (j + D.length) T := by
  intro D
  induction D with
  | nil => intro T j; exact ⟨fun h => ⟨trivial, h⟩, fun h => h.2⟩
  | cons x D ih =>
    intro T j
    show (_ ∧ _ ∧ kd n E h g (j + 1) (D ++ T)) ↔ ((_ ∧ _ ∧ kd n E h g (j + 1) D) ∧ _)
    rw [ih T (j + 1), List.length_cons, show j + 1 + D.length = j + (D.length + 1) by omega]
    exact ⟨fun h => ⟨⟨h.1, h.2.1, h.2.2.1⟩, h.2.2.2⟩, fun h => ⟨h.1.1, h.1.2.1, h.1.2.2, h.2⟩⟩
theorem kF_app : ∀ (D T : List Kd), kF (D ++ T) = kF D ++ kF T := by
  intro D
  induction D with
  | nil => intro T; rfl
  | cons x D ih =>
    intro T
    show x.2.2 ++ kF (D ++ T) = (x.2.2 ++ kF D) ++ kF T
    rw [ih, List.append_assoc]
theorem kL_app : ∀ (D T : List Kd), kL (D ++ T) = kL D ++ kL T := by
  intro D
  induction D with
  | nil => intro T; rfl
  | cons x D ih =>
    intro T
    show x.2.1 ++ kL (D ++ T) = (x.2.1 ++ kL D) ++ kL T
    rw [ih, List.append_assoc]
theorem gx.ch5 {a : Nat} {h h' : fs_Hp} {F : List Nat} {fs fs' : List Value} (g : gx a h h') (e : h a = some (.inr (5, fs))) (e' : h' a = some (.inr (5, fs'))) (hF : a ∈ F) : ch5 F h h' := fun q => by
  by_cases hq : q = a
  · exact Or.inr ⟨by rw [hq]; exact hF, ⟨fs, by rw [hq]; exact e⟩, ⟨fs', by rw [hq]; exact e'⟩⟩
  · exact Or.inl (g q hq)
theorem ov_in {self : fs_E → fs_Hp → Nat → Int32 → fs_Ps → Prop} {E : fs_E} {h : fs_Hp} {r0 a b i1 i2 r : Nat} {v0 v3 : Value} {cf1 rf1 c1 w1 lo1 x cf2 rf2 c2 w2 lo2 y : Int32} {Post : fs_Ps} (hr : r < 10) (h0 : h r0 = some (.inr (9, [v0, .ref a, .ref b, v3]))) (ha : h a = some (re5 cf1 rf1 c1 (w1, lo1) i1)) (hb : h b = some (re5 cf2 rf2 c2 (w2, lo2) i2)) (ta : tr_code cf1 rf1 c1 w1 lo1 x) (tb : tr_code cf2 rf2 c2 w2 lo2 y) (hab : a ≠ b) (K : ∀ h' p q, h' a = some (re5 cf1 rf1 c1 p i1) → tr_code cf1 rf1 c1 p.1 p.2 (rgI r x y).1 → h' b = some (re5 cf2 rf2 c2 q i2) → tr_code cf2 rf2 c2 q.1 q.2 (rgI r x y).2 → (∀ z, z ≠ a → z ≠ b → h' z = h z) → Post (.inl none) h') : w_OV_followRowIn self E h r0 (nI r) Post := by
  have n0a : r0 ≠ a := fun z => by rw [z, ha] at h0; unfold re5 at h0; cases h0
  have n0b : r0 ≠ b := fun z => by rw [z, hb] at h0; unfold re5 at h0; cases h0
  unfold w_OV_followRowIn
  refine ⟨fs_isc_of h0, ov_isLost h0 ha hb (fs_ki_of ?_)⟩
  have j35 : ∀ z2 w0 : Int32, (∀ h', h' a = some (re5 cf1 rf1 c1 (reI (nI r) w1 lo1) i1) → h' b = some (re5 cf2 rf2 c2 (reI (nI r) w2 lo2) i2) → h' r0 = h r0 → (∀ z, z ≠ a → z ≠ b → h' z = h z) → (if z2 = 0 then Post (.inl none) h' else (if w0 = 0 then w_OV_keepAtLastRow E h' b (fs_kv (fun h108 => Post (.inl none) h108) (fun C_ h_ => Post (.inr C_) h_)) else w_OV_keepAtLastRow E h' a (fs_kv (fun h110 => Post (.inl none) h110) (fun C_ h_ => Post (.inr C_) h_))))) → w_OV_followRowIn_J35 self E Post r0 (nI r) z2 w0 h := by
    intro z2 w0 hk
    unfold w_OV_followRowIn_J35
    refine fs_gr_of h0 rfl ⟨fs_isc_of ha, re_in_d ha fun h1 e1 g1 => fs_kv_of ?_⟩
    have h01 : h1 r0 = some (.inr (9, [v0, .ref a, .ref b, v3])) := (g1 r0 n0a).trans h0
    have hb1 : h1 b = some (re5 cf2 rf2 c2 (w2, lo2) i2) := (g1 b (Ne.symm hab)).trans hb
    refine fs_gr_of h01 rfl ⟨fs_isc_of hb1, re_in_d hb1 fun h2 e2 g2 => fs_kv_of ?_⟩
    have h02 : h2 r0 = some (.inr (9, [v0, .ref a, .ref b, v3])) := (g2 r0 n0b).trans h01
    have := hk h2 ((g2 a hab).trans e1) e2 ((g2 r0 n0b).trans (g1 r0 n0a)) (fun z z1 z2 => (g2 z z2).trans (g1 z z1))
    by_cases hz : z2 = 0
    · rw [if_pos hz] at this ⊢; exact this
    · rw [if_neg hz] at this ⊢
      by_cases hw : w0 = 0
      · rw [if_pos hw] at this ⊢; exact fs_gr_of h02 rfl this
      · rw [if_neg hw] at this ⊢; exact fs_gr_of h02 rfl this
  have j12 : ∀ z2 : Int32, (if w1 ≤ w2 then w_OV_followRowIn_J35 self E Post r0 (nI r) z2 0 h else w_OV_followRowIn_J35 self E Post r0 (nI r) z2 1 h) → w_OV_followRowIn_J12 self E Post r0 (nI r) z2 h := by
    intro z2 hk
    unfold w_OV_followRowIn_J12
    exact fs_gr_of h0 rfl (fs_gi_of ha rfl (fs_gr_of h0 rfl (fs_gi_of hb rfl hk)))
  have lost : ¬ (p_MO_lost x = 0 ∧ p_MO_lost y = 0) → w_OV_followRowIn_J12 self E Post r0 (nI r) 0 h := by
    intro hl
    have e : rgI r x y = (shx (fI0 r) x, shx (fI0 r) y) := by
      unfold rgI
      rw [if_neg hl]
    have fin : ∀ w0, w_OV_followRowIn_J35 self E Post r0 (nI r) 0 w0 h := fun w0 => j35 0 w0 fun h' e1 e2 e3 e4 => by
      rw [if_pos rfl]
      exact K h' _ _ e1 (by rw [e]; exact code_in hr ta) e2 (by rw [e]; exact code_in hr tb) e4
    refine j12 0 ?_
    split
    · exact fin 0
    · exact fin 1
  rcases ta.dec with ⟨l1, l2⟩ | ⟨l1, l2, C1, W1, m1, m2, m3, m4, m5, m6⟩
  · rw [if_neg (show ¬ lo1 = 0 by rw [l1]; decide), if_neg (show ¬ (1 : Int32) = 0 by decide)]
    exact lost fun z => by rw [l2] at z; exact absurd z.1 (by decide)
  · rw [if_pos l1]
    rcases tb.dec with ⟨k1, k2⟩ | ⟨k1, k2, C2, W2, n1, n2, n3, n4, n5, n6⟩
    · rw [if_neg (show ¬ lo2 = 0 by rw [k1]; decide), if_neg (show ¬ (1 : Int32) = 0 by decide)]
      exact lost fun z => by rw [k2] at z; exact absurd z.2 (by decide)
    · rw [if_pos k1, if_pos rfl]
      have e : rgI r x y = if W1 ≤ W2 then (shx (fI0 r) x, shx (fI1 r) y) else (shx (fI1 r) x, shx (fI0 r) y) := by
        unfold rgI
        rw [if_pos ⟨l2, k2⟩, m6, n6]
      refine j12 1 ?_
      rw [m4, n4]
      by_cases hle : W1 ≤ W2
      · rw [if_pos (nI_le hle (by omega))]
        rw [if_pos hle] at e
        refine j35 1 0 fun h' e1 e2 e3 e4 => ?_
        rw [if_neg (show ¬ (1 : Int32) = 0 by decide), if_pos rfl]
        refine ov_keep e2 fun h2 d1 d2 => fs_kv_of (K h2 _ _ ((d2 a hab).trans e1) (by rw [e]; exact code_in hr ta) d1 (by rw [e]; exact code_keep hr tb k1) fun z z1 z2 => (d2 z z2).trans (e4 z z1 z2))
      · rw [if_neg (nI_ge (by omega) (by omega))]
        rw [if_neg hle] at e
        refine j35 1 1 fun h' e1 e2 e3 e4 => ?_
        rw [if_neg (show ¬ (1 : Int32) = 0 by decide), if_neg (show ¬ (1 : Int32) = 0 by decide)]
        refine ov_keep e1 fun h2 d1 d2 => fs_kv_of (K h2 _ _ d1 (by rw [e]; exact code_keep hr ta l1) ((d2 b (Ne.symm hab)).trans e2) (by rw [e]; exact code_in hr tb) fun z z1 z2 => (d2 z z1).trans (e4 z z1 z2))
theorem row_dec {h : fs_Hp} {z i W : Nat} {cf rf c lo : Int32} {K : fs_Hp → Prop} (hz : h z = some (re5 cf rf c (nI W, lo) i)) (hW : 0 < W) (hK : ∀ h', h' z = some (re5 cf rf c (nI (W - 1), lo) i) → gx z h h' → K h') : fs_gi h z 5 3 (fun x => fs_pw h z 5 3 (.int (x - 1)) K) := by
  unfold re5 at hz
  refine fs_gi_of hz rfl (fs_pw_of hz (Nat.le_of_ble_eq_true rfl) (hK _ ?_ gx_up))
  rw [show (nI W - 1 : Int32) = nI (W - 1) from nI_sub (b := 1) hW]
  exact fs_up_self
/-- top and bottom of a RANGE that loses a row -/
theorem ov_two {self : fs_E → fs_Hp → Nat → Int32 → fs_Ps → Prop} {E : fs_E} {h : fs_Hp} {t u i1 i2 r W1 W2 : Nat} {cf1 rf1 c1 lo1 cf2 rf2 c2 lo2 : Int32} {Post : fs_Ps} (hW1 : W1 < 10) (hW2 : W2 < 10) (hlt : W1 < W2) (hr : r < 10) (ht : h t = some (re5 cf1 rf1 c1 (nI W1, lo1) i1)) (hu : h u = some (re5 cf2 rf2 c2 (nI W2, lo2) i2)) (htu : t ≠ u) (K : ∀ h', h' t = some (re5 cf1 rf1 c1 (nI (if r < W1 then W1 - 1 else W1), lo1) i1) → h' u = some (re5 cf2 rf2 c2 (nI (if r ≤ W2 then W2 - 1 else W2), lo2) i2) → (∀ z, z ≠ t → z ≠ u → h' z = h z) → Post (.inl none) h') : w_OV_followRowOut_J98 self E Post (nI r) t u h := by
  have j117 : ∀ h1, h1 t = some (re5 cf1 rf1 c1 (nI (if r < W1 then W1 - 1 else W1), lo1) i1) → h1 u = some (re5 cf2 rf2 c2 (nI W2, lo2) i2) → gx t h h1 → w_OV_followRowOut_J117 self E Post (nI r) u h1 := by
    intro h1 e1 e2 g
    unfold w_OV_followRowOut_J117
    have e2' := e2
    unfold re5 at e2'
    refine fs_gi_of e2' rfl ?_
    by_cases h2 : W2 < r
    · rw [if_pos (nI_lt h2 (by omega))]
      exact K h1 e1 (by rw [if_neg (show ¬ r ≤ W2 by omega)]; exact e2) fun z z1 _ => g z z1
    · rw [if_neg (nI_nlt (by omega) (by omega))]
      exact row_dec e2 (by omega) fun h3 d1 d2 => K h3 ((d2 t htu).trans e1) (by rw [if_pos (show r ≤ W2 by omega)]; exact d1) fun z z1 z2 => (d2 z z2).trans (g z z1)
  unfold w_OV_followRowOut_J98
  have ht' := ht
  unfold re5 at ht'
  refine fs_gi_of ht' rfl ?_
  by_cases h1 : W1 ≤ r
  · rw [if_pos (nI_le h1 (by omega))]
    exact j117 h (by rw [if_neg (by omega)]; exact ht) hu gx.rf
  · rw [if_neg (nI_ge (by omega) (by omega))]
    exact row_dec ht (by omega) fun h3 d1 d2 => j117 h3 (by rw [if_pos (by omega)]; exact d1) ((d2 u (Ne.symm htu)).trans hu) d2
theorem fD1_e (r W : Nat) : fD1 r W = some (if r < W then W - 1 else W) := by unfold fD1; split <;> rfl
theorem fD2_e (r W : Nat) : fD2 r W = some (if r ≤ W then W - 1 else W) := by unfold fD2; split <;> rfl
theorem ov_out {self : fs_E → fs_Hp → Nat → Int32 → fs_Ps → Prop} {E : fs_E} {h : fs_Hp} {r0 a b i1 i2 r : Nat} {v0 v3 : Value} {cf1 rf1 c1 w1 lo1 x cf2 rf2 c2 w2 lo2 y : Int32} {Post : fs_Ps} (hr : r < 10) (h0 : h r0 = some (.inr (9, [v0, .ref a, .ref b, v3]))) (ha : h a = some (re5 cf1 rf1 c1 (w1, lo1) i1)) (hb : h b = some (re5 cf2 rf2 c2 (w2, lo2) i2)) (ta : tr_code cf1 rf1 c1 w1 lo1 x) (tb : tr_code cf2 rf2 c2 w2 lo2 y) (hab : a ≠ b) (K : ∀ h' p q, h' a = some (re5 cf1 rf1 c1 p i1) → tr_code cf1 rf1 c1 p.1 p.2 (rgO r x y).1 → h' b = some (re5 cf2 rf2 c2 q i2) → tr_code cf2 rf2 c2 q.1 q.2 (rgO r x y).2 → (∀ z, z ≠ a → z ≠ b → h' z = h z) → Post (.inl none) h') : w_OV_followRowOut self E h r0 (nI r) Post := by
  have n0a : r0 ≠ a := fun z => by rw [z, ha] at h0; unfold re5 at h0; cases h0
  unfold w_OV_followRowOut
  refine ⟨fs_isc_of h0, ov_isLost h0 ha hb (fs_ki_of ?_)⟩
  have j24 : rgO r x y = (shx (fD0 r) x, shx (fD0 r) y) → w_OV_followRowOut_J24 self E Post r0 (nI r) h := by
    intro e
    unfold w_OV_followRowOut_J24
    refine fs_gr_of h0 rfl ⟨fs_isc_of ha, re_out_d ha fun h1 e1 g1 => fs_kv_of ?_⟩
    have h01 : h1 r0 = some (.inr (9, [v0, .ref a, .ref b, v3])) := (g1 r0 n0a).trans h0
    have hb1 : h1 b = some (re5 cf2 rf2 c2 (w2, lo2) i2) := (g1 b (Ne.symm hab)).trans hb
    refine fs_gr_of h01 rfl ⟨fs_isc_of hb1, re_out_d hb1 fun h2 e2 g2 => fs_kv_of ?_⟩
    exact K h2 _ _ ((g2 a hab).trans e1) (by rw [e]; exact code_out hr ta) e2 (by rw [e]; exact code_out hr tb) fun z z1 z2 => (g2 z z2).trans (g1 z z1)
  have lost : ¬ (p_MO_lost x = 0 ∧ p_MO_lost y = 0) → w_OV_followRowOut_J24 self E Post r0 (nI r) h := by
    intro hl
    refine j24 ?_
    unfold rgO
    rw [if_neg hl]
  rcases ta.dec with ⟨l1, l2⟩ | ⟨l1, l2, C1, W1, m1, m2, m3, m4, m5, m6⟩
  · rw [if_neg (show ¬ lo1 = 0 by rw [l1]; decide), if_neg (show ¬ (1 : Int32) = 0 by decide)]
    exact lost fun z => by rw [l2] at z; exact absurd z.1 (by decide)
  · rw [if_pos l1]
    rcases tb.dec with ⟨k1, k2⟩ | ⟨k1, k2, C2, W2, n1, n2, n3, n4, n5, n6⟩
    · rw [if_neg (show ¬ lo2 = 0 by rw [k1]; decide), if_neg (show ¬ (1 : Int32) = 0 by decide)]
      exact lost fun z => by rw [k2] at z; exact absurd z.2 (by decide)
    · rw [if_pos k1, if_pos rfl]
      subst l1
      subst k1
      rw [m4] at ha ta
      rw [n4] at hb tb
      have e : rgO r x y = if W1 = W2 then (shx (fD0 r) x, shx (fD0 r) y) else if W1 ≤ W2 then (shx (fD1 r) x, shx (fD2 r) y) else (shx (fD2 r) x, shx (fD1 r) y) := by
        unfold rgO
        rw [if_pos ⟨l2, k2⟩, m6, n6]
      refine fs_gr_of h0 rfl (fs_gi_of ha rfl (fs_gr_of h0 rfl (fs_gi_of hb rfl ?_)))
      by_cases heq : W1 = W2
      · rw [if_pos (show nI W1 = nI W2 by rw [heq])]
        rw [if_pos heq] at e
        have := j24 e
        exact this
      · have hne : ¬ nI W1 = nI W2 := fun z => heq (by
          have h1 := nI_clamp (n := W1) (by omega)
          rw [z, nI_clamp (by omega)] at h1
          omega)
        rw [if_neg hne]
        rw [if_neg heq] at e
        refine fs_gr_of h0 rfl (fs_gi_of ha rfl (fs_gr_of h0 rfl (fs_gi_of hb rfl ?_)))
        by_cases hle : W2 ≤ W1
        · rw [if_pos (nI_le hle (by omega))]
          rw [if_neg (by omega)] at e
          refine fs_gr_of h0 rfl ?_
          unfold w_OV_followRowOut_J69
          refine fs_gr_of h0 rfl (fs_gi_of ha rfl (fs_gr_of h0 rfl (fs_gi_of hb rfl ?_)))
          rw [if_pos (nI_le hle (by omega))]
          refine fs_gr_of h0 rfl (ov_two (r := r) n2 m2 (by omega) hr hb ha (Ne.symm hab) fun h' e1 e2 e3 => ?_)
          refine K h' (nI (if r ≤ W1 then W1 - 1 else W1), 0) (nI (if r < W2 then W2 - 1 else W2), 0) e2 ?_ e1 ?_ fun z z1 z2 => e3 z z2 z1
          · rw [e]; exact code_row ta m6 (fD2_e r W1) (by split <;> omega)
          · rw [e]; exact code_row tb n6 (fD1_e r W2) (by split <;> omega)
        · rw [if_neg (nI_ge (by omega) (by omega))]
          rw [if_pos (by omega)] at e
          refine fs_gr_of h0 rfl ?_
          unfold w_OV_followRowOut_J69
          refine fs_gr_of h0 rfl (fs_gi_of ha rfl (fs_gr_of h0 rfl (fs_gi_of hb rfl ?_)))
          rw [if_neg (nI_ge (by omega) (by omega))]
          refine fs_gr_of h0 rfl (ov_two (r := r) m2 n2 (by omega) hr ha hb hab fun h' e1 e2 e3 => ?_)
          refine K h' (nI (if r < W1 then W1 - 1 else W1), 0) (nI (if r ≤ W2 then W2 - 1 else W2), 0) e1 ?_ e2 ?_ e3
          · rw [e]; exact code_row ta m6 (fD1_e r W1) (by split <;> omega)
          · rw [e]; exact code_row tb n6 (fD2_e r W2) (by split <;> omega)
theorem pt_in {n mm : Nat} {E : fs_E} {r0 c i m r : Nat} {fs : List Value} {g : Nat → Option Nat} {K : fs_Hp → Prop} {Post : fs_Ps} (hc : 4 ≤ c ∧ c ≤ 9) (hc5 : c ≠ 5) (hi : fs[fs_pi c]? = some (.ref i)) (hm : m < 100) (rec : ∀ {h : fs_Hp} {q : Nat} {L : List It} {F : List Nat} {Post : fs_Ps}, rp n E h q L F → F.Nodup → (∀ h', rp n E h' q (L.map (itI r)) F → ch5 F h h' → Post (.inl none) h') → w_N_followRowIn mm E h q (nI r) Post) : ∀ (T D : List Kd) (h : fs_Hp), D.length + T.length = m → h r0 = some (.inr (c, fs)) → tr_in E h i m g → kd n E h g 0 (D ++ T) → (kF (D ++ T)).Nodup → (∀ h' T', T'.length = T.length → kL T' = (kL T).map (itI r) → kF T' = kF T → kd n E h' g 0 (D ++ T') → ch5 (kF T) h h' → K h') → w_PT_followRowIn_L2 (w_N_followRowIn mm) E K Post (T.length + 1) r0 (nI r) (nI D.length) h := by
  intro T
  induction T with
  | nil =>
    intro D h hj h1 h2 h3 h4 hK
    rw [List.length_nil] at hj
    rw [w_PT_followRowIn_L2]
    refine fs_gP_of h1 hc hi (fs_an_of h2 ?_)
    rw [if_pos (show Int32.ofNat m ≤ nI D.length from nI_le (by omega) (by omega))]
    exact hK h [] rfl rfl rfl h3 ch5.rf
  | cons x T ih =>
    intro D h hj h1 h2 h3 h4 hK
    rw [List.length_cons] at hj
    obtain ⟨k1, k2⟩ := (kd_app D (x :: T) 0).mp h3
    rw [Nat.zero_add] at k2
    rw [kF_app] at h4
    have nd := List.nodup_append.mp h4
    have ndx := List.nodup_append.mp (show (x.2.2 ++ kF T).Nodup from nd.2.1)
    rw [w_PT_followRowIn_L2]
    refine fs_gP_of h1 hc hi (fs_an_of h2 ?_)
    rw [if_neg (show ¬ Int32.ofNat m ≤ nI D.length from nI_ge (by omega) (by omega))]
    refine fs_gP_of h1 hc hi (fs_aq_of h2 (nI_in (by omega) (by omega)) ?_)
    rw [nI_clamp (by omega), k2.1]
    dsimp only
    refine rec k2.2.1 ndx.1 fun h' b1 b2 => fs_kv_of ?_
    have hlen : D.length + 1 = (D ++ [(x.1, x.2.1.map (itI r), x.2.2)]).length := by rw [List.length_append]; rfl
    rw [nI_1, hlen]
    have hkF : kF [(x.1, x.2.1.map (itI r), x.2.2)] = x.2.2 := List.append_nil _
    refine ih (D ++ [(x.1, x.2.1.map (itI r), x.2.2)]) h' (by rw [← hlen]; omega) ((b2.obj h1 hc5).trans h1) (h2.kept (b2.arr h2)) ?_ ?_ fun h2' T' t1 t2 t3 t4 t5 => hK h2' ((x.1, x.2.1.map (itI r), x.2.2) :: T') (by rw [List.length_cons, List.length_cons, t1]) ?_ ?_ ?_ ?_
    · rw [List.append_assoc, kd_app, Nat.zero_add]
      refine ⟨k1.kept fun q hq => b2.out fun z => nd.2.2 q hq q (List.mem_append_left _ z) rfl, k2.1, b1, k2.2.2.kept fun q hq => b2.out fun z => ndx.2.2 q z q hq rfl⟩
    · rw [List.append_assoc, kF_app]
      exact h4
    · show x.2.1.map (itI r) ++ kL T' = (x.2.1 ++ kL T).map (itI r)
      rw [t2, List.map_append]
    · show x.2.2 ++ kF T' = x.2.2 ++ kF T
      rw [t3]
    · rw [List.append_assoc] at t4
      exact t4
    · exact b2.trans t5 (fun q hq => List.mem_append_left _ hq) fun q hq => List.mem_append_right _ hq
theorem cls_in {r : Nat} (hr : r < 10) : ∀ (n mm : Nat) {E : fs_E} {h : fs_Hp} {r0 : Nat} {L : List It} {F : List Nat} {Post : fs_Ps}, n ≤ mm → rp n E h r0 L F → F.Nodup → (∀ h', rp n E h' r0 (L.map (itI r)) F → ch5 F h h' → Post (.inl none) h') → w_N_followRowIn mm E h r0 (nI r) Post := by
  intro n
  induction n with
  | zero => intro mm E h r0 L F Post _ a; exact a.elim
  | succ n ih =>
    intro mm E h r0 L F Post hmm tr hnd hK
    obtain ⟨mm, rfl⟩ : ∃ q, mm = q + 1 := ⟨mm - 1, by omega⟩
    rw [w_N_followRowIn]
    unfold w_V_followRowIn
    rcases rp_node tr with ⟨x, ⟨cf, rf, c, w, lo, i, g, h1, h2, h3, rfl⟩, rfl⟩ | ⟨j, a, b, i, g, x, y, Fa, Fb, h0, h1, h2, h3, h4, ⟨cf1, rf1, c1, w1, lo1, i1, g1, a1, a2, a3, rfl⟩, ⟨cf2, rf2, c2, w2, lo2, i2, g2, b1, b2, b3, rfl⟩, rfl, rfl⟩ | ⟨c, i, fs, g, T, tl, h1, h2, h3, h4, h5, rfl, rfl, h8, hl3, h9⟩
    · refine Or.inr (Or.inl ⟨fs_isc_of h1, re_in (lo := lo) h1 fun h' e1 e2 => ?_⟩)
      refine hK h' ?_ (e2.ch5 h1 e1 (by simp))
      refine Or.inr (Or.inl ⟨shx (fI0 r) x, ⟨cf, rf, c, _, _, i, g, e1, h2.kept (e2 i fun z => ?_), code_in hr h3, rfl⟩, rfl⟩)
      rw [z] at h2
      unfold tr_in at h2
      rw [h1] at h2
      cases h2
    · refine Or.inr (Or.inr (Or.inr (Or.inr (Or.inr ⟨fs_isc_of h1, ?_⟩))))
      have hab : a ≠ b := by
        intro z
        simp [z] at hnd
      have nA : ∀ {q : Nat} {x : ClassId × vp_A}, h q = some (.inl x) → q ≠ a ∧ q ≠ b := fun e => ⟨fun z => (by rw [z, a1] at e; cases e), fun z => (by rw [z, b1] at e; cases e)⟩
      have n0 : r0 ≠ a ∧ r0 ≠ b := ⟨fun z => (by rw [z, a1] at h1; cases h1), fun z => (by rw [z, b1] at h1; cases h1)⟩
      refine ov_in (lo1 := lo1) (lo2 := lo2) hr h1 a1 b1 a3 b3 hab fun h' p q e1 e2 e3 e4 e5 => ?_
      refine hK h' ?_ fun z => ?_
      · have keep : ∀ {q : Nat} {m : Nat} {g : Nat → Option Nat}, tr_in E h q m g → tr_in E h' q m g := fun t => t.kept (e5 _ (nA t).1 (nA t).2)
        rw [List.map_cons, List.map_nil, show itI r (nI (j + 2), x, y, 0) = (nI (j + 2), (rgI r x y).1, (rgI r x y).2, 0) from itsh_rg _ _ h0 x y]
        exact Or.inr (Or.inr (Or.inr (Or.inr (Or.inr (Or.inr ⟨j, a, b, i, g, _, _, _, _, h0, (e5 r0 n0.1 n0.2).trans h1, keep h2, h3, h4, ⟨cf1, rf1, c1, p.1, p.2, i1, g1, e1, keep a2, e2, rfl⟩, ⟨cf2, rf2, c2, q.1, q.2, i2, g2, e3, keep b2, e4, rfl⟩, rfl, rfl⟩)))))
      · by_cases za : z = a
        · exact Or.inr ⟨by rw [za]; simp, ⟨_, by rw [za]; exact a1⟩, ⟨_, by rw [za]; exact e1⟩⟩
        · by_cases zb : z = b
          · exact Or.inr ⟨by rw [zb]; simp, ⟨_, by rw [zb]; exact b1⟩, ⟨_, by rw [zb]; exact e3⟩⟩
          · exact Or.inl (e5 z za zb)
    · have hc : 4 ≤ c ∧ c ≤ 9 ∧ c ≠ 5 := by omega
      have hnd' := (List.nodup_cons.mp (List.nodup_cons.mp hnd).2)
      have key : w_PT_followRowIn (w_N_followRowIn mm) E h r0 (nI r) Post := by
        refine ⟨T.length + 1, ?_⟩
        refine pt_in (r := r) ⟨hc.1, hc.2.1⟩ hc.2.2 h3 (by omega) (fun a b c => ih mm (by omega) a b c) T [] h (by rw [List.length_nil]; omega) h2 h4 h5 hnd'.2 fun h' T' t1 t2 t3 t4 t5 => ?_
        have e1 := t5.obj h2 hc.2.2
        have e2 := t5.arr h4
        have := h9 h' T' t1 e1 e2 t4
        rw [t2, t3] at this
        refine hK h' ?_ (t5.mono fun q hq => by simp [hq])
        rw [List.map_append, List.map_cons, List.map_nil, show itI r tl = tl from itsh_tl _ _ h8]
        exact this
      rcases h1 with rfl | rfl | rfl | rfl
      · exact Or.inl ⟨fs_isc_of h2, key⟩
      · exact Or.inr (Or.inr (Or.inl ⟨fs_isc_of h2, key⟩))
      · exact Or.inr (Or.inr (Or.inr (Or.inl ⟨fs_isc_of h2, key⟩)))
      · exact Or.inr (Or.inr (Or.inr (Or.inr (Or.inl ⟨fs_isc_of h2, key⟩))))
theorem pt_out {n mm : Nat} {E : fs_E} {r0 c i m r : Nat} {fs : List Value} {g : Nat → Option Nat} {K : fs_Hp → Prop} {Post : fs_Ps} (hc : 4 ≤ c ∧ c ≤ 9) (hc5 : c ≠ 5) (hi : fs[fs_pi c]? = some (.ref i)) (hm : m < 100) (rec : ∀ {h : fs_Hp} {q : Nat} {L : List It} {F : List Nat} {Post : fs_Ps}, rp n E h q L F → F.Nodup → (∀ h', rp n E h' q (L.map (itO r)) F → ch5 F h h' → Post (.inl none) h') → w_N_followRowOut mm E h q (nI r) Post) : ∀ (T D : List Kd) (h : fs_Hp), D.length + T.length = m → h r0 = some (.inr (c, fs)) → tr_in E h i m g → kd n E h g 0 (D ++ T) → (kF (D ++ T)).Nodup → (∀ h' T', T'.length = T.length → kL T' = (kL T).map (itO r) → kF T' = kF T → kd n E h' g 0 (D ++ T') → ch5 (kF T) h h' → K h') → w_PT_followRowOut_L2 (w_N_followRowOut mm) E K Post (T.length + 1) r0 (nI r) (nI D.length) h := by
  intro T
  induction T with
  | nil =>
    intro D h hj h1 h2 h3 h4 hK
    rw [List.length_nil] at hj
    rw [w_PT_followRowOut_L2]
    refine fs_gP_of h1 hc hi (fs_an_of h2 ?_)
    rw [if_pos (show Int32.ofNat m ≤ nI D.length from nI_le (by omega) (by omega))]
    exact hK h [] rfl rfl rfl h3 ch5.rf
  | cons x T ih =>
    intro D h hj h1 h2 h3 h4 hK
    rw [List.length_cons] at hj
    obtain ⟨k1, k2⟩ := (kd_app D (x :: T) 0).mp h3
    rw [Nat.zero_add] at k2
    rw [kF_app] at h4
    have nd := List.nodup_append.mp h4
    have ndx := List.nodup_append.mp (show (x.2.2 ++ kF T).Nodup from nd.2.1)
    rw [w_PT_followRowOut_L2]
    refine fs_gP_of h1 hc hi (fs_an_of h2 ?_)
    rw [if_neg (show ¬ Int32.ofNat m ≤ nI D.length from nI_ge (by omega) (by omega))]
    refine fs_gP_of h1 hc hi (fs_aq_of h2 (nI_in (by omega) (by omega)) ?_)
    rw [nI_clamp (by omega), k2.1]
    dsimp only
    refine rec k2.2.1 ndx.1 fun h' b1 b2 => fs_kv_of ?_
    have hlen : D.length + 1 = (D ++ [(x.1, x.2.1.map (itO r), x.2.2)]).length := by rw [List.length_append]; rfl
    rw [nI_1, hlen]
    have hkF : kF [(x.1, x.2.1.map (itO r), x.2.2)] = x.2.2 := List.append_nil _
    refine ih (D ++ [(x.1, x.2.1.map (itO r), x.2.2)]) h' (by rw [← hlen]; omega) ((b2.obj h1 hc5).trans h1) (h2.kept (b2.arr h2)) ?_ ?_ fun h2' T' t1 t2 t3 t4 t5 => hK h2' ((x.1, x.2.1.map (itO r), x.2.2) :: T') (by rw [List.length_cons, List.length_cons, t1]) ?_ ?_ ?_ ?_
    · rw [List.append_assoc, kd_app, Nat.zero_add]
      refine ⟨k1.kept fun q hq => b2.out fun z => nd.2.2 q hq q (List.mem_append_left _ z) rfl, k2.1, b1, k2.2.2.kept fun q hq => b2.out fun z => ndx.2.2 q z q hq rfl⟩
    · rw [List.append_assoc, kF_app]
      exact h4
    · show x.2.1.map (itO r) ++ kL T' = (x.2.1 ++ kL T).map (itO r)
      rw [t2, List.map_append]
    · show x.2.2 ++ kF T' = x.2.2 ++ kF T
      rw [t3]
    · rw [List.append_assoc] at t4
      exact t4
    · exact b2.trans t5 (fun q hq => List.mem_append_left _ hq) fun q hq => List.mem_append_right _ hq
theorem cls_out {r : Nat} (hr : r < 10) : ∀ (n mm : Nat) {E : fs_E} {h : fs_Hp} {r0 : Nat} {L : List It} {F : List Nat} {Post : fs_Ps}, n ≤ mm → rp n E h r0 L F → F.Nodup → (∀ h', rp n E h' r0 (L.map (itO r)) F → ch5 F h h' → Post (.inl none) h') → w_N_followRowOut mm E h r0 (nI r) Post := by
  intro n
  induction n with
  | zero => intro mm E h r0 L F Post _ a; exact a.elim
  | succ n ih =>
    intro mm E h r0 L F Post hmm tr hnd hK
    obtain ⟨mm, rfl⟩ : ∃ q, mm = q + 1 := ⟨mm - 1, by omega⟩
    rw [w_N_followRowOut]
    unfold w_V_followRowOut
    rcases rp_node tr with ⟨x, ⟨cf, rf, c, w, lo, i, g, h1, h2, h3, rfl⟩, rfl⟩ | ⟨j, a, b, i, g, x, y, Fa, Fb, h0, h1, h2, h3, h4, ⟨cf1, rf1, c1, w1, lo1, i1, g1, a1, a2, a3, rfl⟩, ⟨cf2, rf2, c2, w2, lo2, i2, g2, b1, b2, b3, rfl⟩, rfl, rfl⟩ | ⟨c, i, fs, g, T, tl, h1, h2, h3, h4, h5, rfl, rfl, h8, hl3, h9⟩
    · refine Or.inr (Or.inl ⟨fs_isc_of h1, re_out (lo := lo) h1 fun h' e1 e2 => ?_⟩)
      refine hK h' ?_ (e2.ch5 h1 e1 (by simp))
      refine Or.inr (Or.inl ⟨shx (fD0 r) x, ⟨cf, rf, c, _, _, i, g, e1, h2.kept (e2 i fun z => ?_), code_out hr h3, rfl⟩, rfl⟩)
      rw [z] at h2
      unfold tr_in at h2
      rw [h1] at h2
      cases h2
    · refine Or.inr (Or.inr (Or.inr (Or.inr (Or.inr ⟨fs_isc_of h1, ?_⟩))))
      have hab : a ≠ b := by
        intro z
        simp [z] at hnd
      have nA : ∀ {q : Nat} {x : ClassId × vp_A}, h q = some (.inl x) → q ≠ a ∧ q ≠ b := fun e => ⟨fun z => (by rw [z, a1] at e; cases e), fun z => (by rw [z, b1] at e; cases e)⟩
      have n0 : r0 ≠ a ∧ r0 ≠ b := ⟨fun z => (by rw [z, a1] at h1; cases h1), fun z => (by rw [z, b1] at h1; cases h1)⟩
      refine ov_out (lo1 := lo1) (lo2 := lo2) hr h1 a1 b1 a3 b3 hab fun h' p q e1 e2 e3 e4 e5 => ?_
      refine hK h' ?_ fun z => ?_
      · have keep : ∀ {q : Nat} {m : Nat} {g : Nat → Option Nat}, tr_in E h q m g → tr_in E h' q m g := fun t => t.kept (e5 _ (nA t).1 (nA t).2)
        rw [List.map_cons, List.map_nil, show itO r (nI (j + 2), x, y, 0) = (nI (j + 2), (rgO r x y).1, (rgO r x y).2, 0) from itsh_rg _ _ h0 x y]
        exact Or.inr (Or.inr (Or.inr (Or.inr (Or.inr (Or.inr ⟨j, a, b, i, g, _, _, _, _, h0, (e5 r0 n0.1 n0.2).trans h1, keep h2, h3, h4, ⟨cf1, rf1, c1, p.1, p.2, i1, g1, e1, keep a2, e2, rfl⟩, ⟨cf2, rf2, c2, q.1, q.2, i2, g2, e3, keep b2, e4, rfl⟩, rfl, rfl⟩)))))
      · by_cases za : z = a
        · exact Or.inr ⟨by rw [za]; simp, ⟨_, by rw [za]; exact a1⟩, ⟨_, by rw [za]; exact e1⟩⟩
        · by_cases zb : z = b
          · exact Or.inr ⟨by rw [zb]; simp, ⟨_, by rw [zb]; exact b1⟩, ⟨_, by rw [zb]; exact e3⟩⟩
          · exact Or.inl (e5 z za zb)
    · have hc : 4 ≤ c ∧ c ≤ 9 ∧ c ≠ 5 := by omega
      have hnd' := (List.nodup_cons.mp (List.nodup_cons.mp hnd).2)
      have key : w_PT_followRowOut (w_N_followRowOut mm) E h r0 (nI r) Post := by
        refine ⟨T.length + 1, ?_⟩
        refine pt_out (r := r) ⟨hc.1, hc.2.1⟩ hc.2.2 h3 (by omega) (fun a b c => ih mm (by omega) a b c) T [] h (by rw [List.length_nil]; omega) h2 h4 h5 hnd'.2 fun h' T' t1 t2 t3 t4 t5 => ?_
        have e1 := t5.obj h2 hc.2.2
        have e2 := t5.arr h4
        have := h9 h' T' t1 e1 e2 t4
        rw [t2, t3] at this
        refine hK h' ?_ (t5.mono fun q hq => by simp [hq])
        rw [List.map_append, List.map_cons, List.map_nil, show itO r tl = tl from itsh_tl _ _ h8]
        exact this
      rcases h1 with rfl | rfl | rfl | rfl
      · exact Or.inl ⟨fs_isc_of h2, key⟩
      · exact Or.inr (Or.inr (Or.inl ⟨fs_isc_of h2, key⟩))
      · exact Or.inr (Or.inr (Or.inr (Or.inl ⟨fs_isc_of h2, key⟩)))
      · exact Or.inr (Or.inr (Or.inr (Or.inr (Or.inl ⟨fs_isc_of h2, key⟩))))
