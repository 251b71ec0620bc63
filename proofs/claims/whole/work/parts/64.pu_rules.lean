/-! Pure: the class reads a formula. -/
theorem pa_S.base {E : fs_E} {h h1 h' : fs_Hp} {ln ch : Nat} {f : Nat → Int32} {n p0 p1 q o r : Nat} {L : List It} {F : List Nat} {e : va_E} (hS : pa_S E h1 ln ch f n p1 q o h' r L F) (hx : pa_x ln h h1) (hl : h1 ln = some e) (hp : p0 ≤ p1) : pa_S E h ln ch f n p0 q o h' r L F :=
  ⟨hS.1, hx.trans hS.2.1, hS.2.2.1.more _ (by omega), hS.2.2.2.1, fun a ha => pa_fresh hx hl a (hS.2.2.2.2 a ha)⟩
theorem ps_most_ge {g : Nat → Nat} : ∀ k j, j < k → g j ≤ ps_most g k := by
  intro k
  induction k with
  | zero => intro j h; omega
  | succ k ih =>
    intro j h
    rw [ps_most]
    by_cases hj : j = k
    · subst hj
      omega
    · have := ih j (by omega)
      omega
theorem ps_nm_3 {C : Nat → Nat} {p j : Nat} (h : (ps_nm C p).1 = some j) : p + 3 ≤ (ps_nm C p).2 := by
  obtain ⟨h1, h2⟩ := ps_last_lt (P := fun j => ps_same C (ps_ob j) p == (ps_ob j).length) 8 j h
  have h3 : ps_same C (ps_ob j) p = (ps_ob j).length := eq_of_beq h2
  have h4 := (ps_ob_f j h1).2.2.2.1
  have h5 := ps_most_ge (g := fun j => ps_same C (ps_ob j) p) 8 j h1
  have h6 : ps_same C (ps_ob j) p ≤ ps_most (fun j => ps_same C (ps_ob j) p) 8 := h5
  show p + 3 ≤ p + ps_most (fun j => ps_same C (ps_ob j) p) 8
  omega
/-- a bracket is closed behind what was read -/
theorem cp_close {E : fs_E} {h h1 : fs_Hp} {ln ch : Nat} {f : Nat → Int32} {n p0 p1 o : Nat} {r : ps_R (List It)} {Post : fs_Ps} {e : va_E} (hx : pa_x ln h h1) (hl1 : h1 ln = some e) (hln : h ln ≠ none) (hp : p0 ≤ p1) (hr : p1 ≤ r.2) (hK : pa_K E h ln ch f n p0 o (ps_close (pa_n f n) r) Post) :
    pa_K E h1 ln ch f n p1 (o + 1) r (fs_ko (fun h117 => fs_isc h117 ln 1 ∧ (w_LN_closed E h117 ln none (fs_ko (fun h119 => Post (.inl (some (.null))) h119) (fun a120 h119 => Post (.inl (some (.ref a120))) h119) (fun C_ h_ => Post (.inr C_) h_)))) (fun a118 h117 => fs_isc h117 ln 1 ∧ (w_LN_closed E h117 ln (some a118) (fs_ko (fun h121 => Post (.inl (some (.null))) h121) (fun a122 h121 => Post (.inl (some (.ref a122))) h121) (fun C_ h_ => Post (.inr C_) h_)))) (fun C_ h_ => Post (.inr C_) h_)) := by
  refine pa_K.of (fun e0 h' o' hl2 hx2 => fs_koN ⟨hl2.isc, ?_⟩) (fun L e0 h' q F hS => fs_koS ⟨hS.1.isc, ?_⟩)
  · have e1 : ps_close (pa_n f n) r = (none, r.2) := ps_then_none e0
    rw [e1] at hK
    unfold w_LN_closed
    exact fs_koN (hK.1 rfl h' o' hl2 (hx.trans hx2))
  · have e1 : ps_close (pa_n f n) r = ps_ch (pa_n f n) 41 r.2 fun q1 => (some L, q1) := ps_then_some e0
    rw [e1] at hK
    refine cp_closed (hS.base hx hl1 hp) hln (by omega) (pa_K.of (fun z h9 o9 a b => fs_koN (hK.1 z h9 o9 a b)) (fun L9 z h9 q9 F9 hS9 => fs_koS (hK.ok z hS9)))
theorem ps_close_le {C : Nat → Nat} {r : ps_R (List It)} : r.2 ≤ (ps_close C r).2 := ps_then_le fun _ _ => ps_ch_le (Nat.le_succ _)
theorem fs_lg_5 : ∀ j, j < 8 → (fs_lg j = 0 ↔ j < 5) := by decide
theorem cp_call {E : fs_E} {h : fs_Hp} {ln ch : Nat} {f : Nat → Int32} {n p p0 o b mc ms : Nat} {self : Nat → Nat → fs_E → fs_Hp → Nat → fs_Ps → Prop} {P : Nat → Nat → ps_R (List It)} {Post : fs_Ps} (hX : pa_X E ln ch f n (b + 1) self P) (hbo : b ≤ o) (hge : ∀ o q, ps_ge q (P o q)) (hp0 : p0 ≤ p) (ho : o < 6) (hl : pa_L E h ln ch f n p o) (hm : 2 * ((ps_call (P (o + 1)) (pa_n f n) p).2 - p) ≤ mc) (hs : 6 * ((ps_call (P (o + 1)) (pa_n f n) p).2 - p) ≤ ms) (hK : pa_K E h ln ch f n p0 o (ps_call (P (o + 1)) (pa_n f n) p) Post) : w_LN_call self mc ms E h ln Post := by
  have hln := hl.some
  unfold w_LN_call
  refine ⟨hl.isc, cp_name hl (fun e0 h1 hl1 hx1 => fs_koN ?_) (fun j e0 h1 hl1 hx1 => fs_koS ?_)⟩
  · have e1 : ps_call (P (o + 1)) (pa_n f n) p = (none, (ps_nm (pa_n f n) p).2) := ps_then_none e0
    rw [e1] at hK
    exact hK.1 rfl h1 o hl1 hx1
  · have hj := ps_nm_lt e0
    have h3 := ps_nm_3 e0
    have e1 : ps_call (P (o + 1)) (pa_n f n) p = ps_close (pa_n f n) (if j < 5 then ps_range (pa_n f n) j (ps_nm (pa_n f n) p).2 else ps_args (P (o + 1)) (pa_n f n) j (ps_nm (pa_n f n) p).2) := ps_then_some e0
    generalize (ps_nm (pa_n f n) p).2 = q at *
    refine fs_gi_of hl1.1 rfl (fs_pw_of hl1.1 (Nat.le_of_ble_eq_true rfl) ?_)
    have e9 : nI o + 1 = nI (o + 1) := nI_1 o
    rw [e9]
    have hl2 := hl1.at (q := q) (u := o + 1) hl1.2.2.2.1 (by omega)
    have hx2 : pa_x ln h (fs_up h1 ln (.inr (1, [.ref ch, .int (nI n), .int (nI q), .int (nI (o + 1))]))) := hx1.trans pa_x.up
    refine ⟨j, hj, rfl, ?_⟩
    by_cases h5 : j < 5
    · rw [if_pos ((fs_lg_5 j hj).mpr h5)]
      rw [if_pos h5] at e1
      have b1 : (ps_range (pa_n f n) j q).2 ≤ (ps_call (P (o + 1)) (pa_n f n) p).2 := by
        rw [e1]
        exact ps_close_le
      have b2 : q ≤ (ps_range (pa_n f n) j q).2 := ps_range_ge.1
      rw [e1] at hK
      refine ⟨2 * ((ps_range (pa_n f n) j q).2 - q), 6 * ((ps_range (pa_n f n) j q).2 - q), by omega, by omega, hl2.isc, cp_range h5 hl2 (Nat.le_refl _) (Nat.le_refl _) (cp_close hx2 hl2.1 hln (by omega) b2 hK)⟩
    · rw [if_neg (fun z => h5 ((fs_lg_5 j hj).mp z))]
      rw [if_neg h5] at e1
      have b1 : (ps_args (P (o + 1)) (pa_n f n) j q).2 ≤ (ps_call (P (o + 1)) (pa_n f n) p).2 := by
        rw [e1]
        exact ps_close_le
      have b2 : q ≤ (ps_args (P (o + 1)) (pa_n f n) j q).2 := (ps_args_ge (hge (o + 1))).1
      rw [e1] at hK
      refine ⟨2 * ((ps_args (P (o + 1)) (pa_n f n) j q).2 - q) + 2, 6 * ((ps_args (P (o + 1)) (pa_n f n) j q).2 - q) + 5, by omega, by omega, hl2.isc, cp_logics (p0 := q - 1) hX (show b + 1 ≤ o + 1 by omega) hge (by omega) (by omega) hj hl2 (Nat.le_refl _) (Nat.le_refl _) (cp_close hx2 hl2.1 hln (by omega) (by omega) hK)⟩
theorem pa_K.ko {E : fs_E} {h : fs_Hp} {ln ch : Nat} {f : Nat → Int32} {n p o : Nat} {r : ps_R (List It)} {Post : fs_Ps} (hK : pa_K E h ln ch f n p o r Post) : pa_K E h ln ch f n p o r (fs_ko (fun h142 => Post (.inl (some (.null))) h142) (fun a143 h142 => Post (.inl (some (.ref a143))) h142) (fun C_ h_ => Post (.inr C_) h_)) :=
  pa_K.of (fun e0 h' o' a b => fs_koN (hK.1 e0 h' o' a b)) (fun L e0 h' q F hS => fs_koS (hK.ok e0 hS))
/-- a reference that stands alone -/
theorem cp_alone {E : fs_E} {h : fs_Hp} {ln ch : Nat} {f : Nat → Int32} {n p o : Nat} {Post : fs_Ps} (hK : pa_K E h ln ch f n p o (ps_then (ps_ref (pa_n f n) p) fun x q => (some [(1, nI x, 0, 0)], q)) Post) : pa_KR E h ln ch f n o (ps_ref (pa_n f n) p) (fs_ko (fun h142 => Post (.inl (some (.null))) h142) (fun a143 h142 => Post (.inl (some (.ref a143))) h142) (fun C_ h_ => Post (.inr C_) h_)) := by
  refine ⟨fun e0 h' a b => fs_koN ?_, fun x e0 h' q F a b c d e => fs_koS ?_⟩
  · rw [ps_then_none e0] at hK
    exact hK.1 rfl h' o a b
  · have g : p < (ps_ref (pa_n f n) p).2 := ps_ref_ge.2 (by rw [e0]; exact fun z => by cases z)
    rw [ps_then_some e0] at hK
    refine hK.ok rfl ⟨a, b, ?_, d, e⟩
    obtain ⟨k, hk⟩ : ∃ k, (ps_ref (pa_n f n) p).2 - p = k + 1 := ⟨(ps_ref (pa_n f n) p).2 - p - 1, by omega⟩
    show rp ((ps_ref (pa_n f n) p).2 - p) _ _ _ _ _
    rw [hk]
    exact Or.inr (Or.inl ⟨nI x, c, rfl⟩)
theorem cp_part {E : fs_E} {ln ch : Nat} {f : Nat → Int32} {n b : Nat} {self : Nat → Nat → fs_E → fs_Hp → Nat → fs_Ps → Prop} {P : Nat → Nat → ps_R (List It)} (hX : pa_X E ln ch f n (b + 1) self P) (hge : ∀ o q, ps_ge q (P o q)) : pa_X E ln ch f n b (w_LN_part self) (ps_part P (pa_n f n)) := by
  intro h p o mc ms Post hbo hl hm hs hK
  have hln := hl.some
  unfold w_LN_part
  unfold ps_part at hm hs hK
  refine ⟨hl.isc, pa_nextIsDigit hl (fun hd => fs_ki_of ?_) (fun hd => fs_ki_of ?_)⟩
  · have hd2 := (pa_di hl).mp hd
    rw [if_pos hd2] at hm hs hK
    rw [if_neg (by decide)]
    exact ⟨_, _, hm, hs, hl.isc, cp_num hl hd2 (Nat.le_refl _) (Nat.le_refl _) hK.ko⟩
  · have hd2 : ¬ (48 ≤ pa_n f n p ∧ pa_n f n p ≤ 57) := fun z => hd ((pa_di hl).mpr z)
    rw [if_neg hd2] at hm hs hK
    rw [if_pos rfl]
    have href : (pa_n f n p = 36 ∨ (97 ≤ pa_n f n p ∧ pa_n f n p ≤ 104)) → ∃ c107 s108 : Nat, c107 ≤ mc ∧ s108 ≤ ms ∧ (fs_isc h ln 1 ∧ (w_LN_reference c107 s108 E h ln (fs_ko (fun h109 => Post (.inl (some (.null))) h109) (fun a110 h109 => Post (.inl (some (.ref a110))) h109) (fun C_ h_ => Post (.inr C_) h_)))) := by
      intro hc
      rw [if_pos hc] at hm hs hK
      have b1 : (ps_ref (pa_n f n) p).2 ≤ (ps_then (ps_ref (pa_n f n) p) fun x q => ((some [(1, nI x, 0, 0)], q) : ps_R (List It))).2 := ps_then_le fun _ _ => Nat.le_refl _
      exact ⟨2 * ((ps_ref (pa_n f n) p).2 - p), 6 * ((ps_ref (pa_n f n) p).2 - p), by omega, by omega, hl.isc, cp_ref hl (Nat.le_refl _) (Nat.le_refl _) (cp_alone hK)⟩
    refine ⟨hl.isc, pa_next hl (fs_ki_of ?_)⟩
    by_cases h36 : pa_n f n p = 36
    · have z9 : pa_c f n p = 36 := (pa_ci (c := 36) hl (by omega) (by omega)).mpr h36
      rw [if_pos z9]
      exact href (Or.inl h36)
    · have z9 : ¬ pa_c f n p = 36 := fun z => h36 ((pa_ci (c := 36) hl (by omega) (by omega)).mp z)
      rw [if_neg z9]
      refine ⟨hl.isc, pa_nextIsColumn hl (fun hc => fs_ki_of ?_) (fun hc => fs_ki_of ?_)⟩
      · rw [if_neg (by decide)]
        exact href (Or.inr ((pa_co hl).mp hc))
      · rw [if_pos rfl]
        have hc2 : ¬ (pa_n f n p = 36 ∨ (97 ≤ pa_n f n p ∧ pa_n f n p ≤ 104)) := fun z => z.elim h36 (fun w => hc ((pa_co hl).mpr w))
        rw [if_neg hc2] at hm hs hK
        refine fs_gi_of hl.1 rfl ?_
        have ho6 := hl.2.2.2.2.1
        by_cases ho : o < 6
        · rw [if_pos (show nI o < 6 from nI_lt (a := o) (b := 6) ho (by decide))]
          rw [if_neg (by omega)] at hm hs hK
          refine ⟨hl.isc, pa_take2 (c := 40) hl (by omega) (by omega) (fun h1 hl1 hx1 => fs_ki_of ?_)⟩
          by_cases h40 : pa_n f n p = 40
          · rw [if_pos h40] at hl1 hm hs hK
            rw [if_pos h40, if_neg (show ¬ nI 1 = 0 by decide)]
            refine fs_gi_of hl1.1 rfl (fs_pw_of hl1.1 (Nat.le_of_ble_eq_true rfl) ?_)
            have e9 : nI o + 1 = nI (o + 1) := nI_1 o
            rw [e9]
            have hl2 := hl1.at (q := p + 1) (u := o + 1) hl1.2.2.2.1 (by omega)
            have hx2 : pa_x ln h (fs_up h1 ln (.inr (1, [.ref ch, .int (nI n), .int (nI (p + 1)), .int (nI (o + 1))]))) := hx1.trans pa_x.up
            have b1 : (P (o + 1) (p + 1)).2 ≤ (ps_close (pa_n f n) (P (o + 1) (p + 1))).2 := ps_close_le
            have b2 : p + 1 ≤ (P (o + 1) (p + 1)).2 := (hge (o + 1) (p + 1)).1
            exact ⟨2 * ((P (o + 1) (p + 1)).2 - (p + 1)), 6 * ((P (o + 1) (p + 1)).2 - (p + 1)), by omega, by omega, hl2.isc, hX _ (p + 1) (o + 1) _ _ _ (show b + 1 ≤ o + 1 by omega) hl2 (Nat.le_refl _) (Nat.le_refl _) (cp_close hx2 hl2.1 hln (Nat.le_succ p) b2 hK)⟩
          · rw [if_neg h40] at hl1 hm hs hK
            rw [if_neg h40, if_pos (show nI 0 = 0 by decide)]
            refine ⟨hl1.isc, pa_take2 (c := 64) hl1 (by omega) (by omega) (fun h2 hl2 hx2 => fs_ki_of ?_)⟩
            by_cases h64 : pa_n f n p = 64
            · have h64' : pa_n f n (p + 0) = 64 := h64
              rw [if_pos h64'] at hl2
              rw [if_pos h64] at hm hs hK
              rw [if_pos h64', if_neg (show ¬ nI 1 = 0 by decide)]
              have hl2 : pa_L E h2 ln ch f n (p + 1) o := hl2
              have hx3 : pa_x ln h h2 := hx1.trans hx2
              have b2 : p + 1 ≤ (ps_call (P (o + 1)) (pa_n f n) (p + 1)).2 := (ps_call_ge (hge (o + 1))).1
              refine ⟨2 * ((ps_call (P (o + 1)) (pa_n f n) (p + 1)).2 - (p + 1)), 6 * ((ps_call (P (o + 1)) (pa_n f n) (p + 1)).2 - (p + 1)), by omega, by omega, hl2.isc, cp_call (p0 := p + 1) hX hbo hge (Nat.le_refl _) ho hl2 (Nat.le_refl _) (Nat.le_refl _) (pa_K.of (fun e0 h' o' a b => fs_koN (hK.1 e0 h' o' a (hx3.trans b))) (fun L e0 h' q F hS => fs_koS (hK.ok e0 (hS.base hx3 hl2.1 (Nat.le_succ p)))))⟩
            · have h64' : ¬ pa_n f n (p + 0) = 64 := h64
              rw [if_neg h64'] at hl2
              rw [if_neg h64] at hm hs hK
              rw [if_neg h64', if_pos (show nI 0 = 0 by decide)]
              exact hK.1 rfl h2 o hl2 (hx1.trans hx2)
        · rw [if_neg (show ¬ nI o < 6 from nI_nlt (a := o) (b := 6) (by omega) (by omega))]
          rw [if_pos (by omega)] at hm hs hK
          exact hK.1 rfl h o hl pa_x.rf
theorem cp_signed {E : fs_E} {ln ch : Nat} {f : Nat → Int32} {n b : Nat} {self : Nat → Nat → fs_E → fs_Hp → Nat → fs_Ps → Prop} {P : Nat → Nat → ps_R (List It)} (hX : pa_X E ln ch f n (b + 1) self P) (hge : ∀ o q, ps_ge q (P o q)) : pa_X E ln ch f n b (w_LN_signed self) (ps_signed P (pa_n f n)) := by
  intro h p o mc ms Post hbo hl hm hs hK
  have hln := hl.some
  unfold w_LN_signed
  unfold ps_signed at hm hs hK
  refine ⟨hl.isc, pa_take2 (c := 45) hl (by omega) (by omega) (fun h1 hl1 hx1 => fs_ki_of ?_)⟩
  by_cases hc : pa_n f n p = 45
  · rw [if_pos hc] at hl1 hm hs hK
    rw [if_pos hc, if_neg (show ¬ nI 1 = 0 by decide)]
    have b1 : (ps_part P (pa_n f n) o (p + 1)).2 ≤ (ps_then (ps_part P (pa_n f n) o (p + 1)) fun L q => ((some (L ++ [(10, 0, 0, 0)]), q) : ps_R (List It))).2 := ps_then_le fun _ _ => Nat.le_refl _
    have b2 := (ps_part_ge (C := pa_n f n) (o := o) (p := p + 1) hge).1
    refine ⟨2 * ((ps_part P (pa_n f n) o (p + 1)).2 - (p + 1)), 6 * ((ps_part P (pa_n f n) o (p + 1)).2 - (p + 1)), by omega, by omega, hl1.isc, cp_part hX hge _ (p + 1) o _ _ _ hbo hl1 (Nat.le_refl _) (Nat.le_refl _) (pa_K.of (fun e0 h' o' a b => fs_koN ⟨0, 0, by omega, by omega, ?_⟩) (fun L e0 h' q F hS => fs_koS ⟨2, 3, by omega, by omega, ?_⟩))⟩
    · unfold w_LN_single
      rw [ps_then_none e0] at hK
      exact fs_koN (hK.1 rfl h' o' a (hx1.trans b))
    · rw [ps_then_some e0] at hK
      generalize (ps_part P (pa_n f n) o (p + 1)).2 = q9 at *
      refine mk_single hS.2.2.1 (Or.inl ⟨rfl, rfl⟩) (Nat.le_refl _) (Nat.le_refl _) (fun h2 r i he hr hi hne hrp => fs_koS (hK.ok rfl (F := r :: i :: F) ?_))
      exact pa_S.one (L1 := []) (r1 := 0) (p1 := 0) (Or.inr trivial) hS.1 (hx1.trans hS.2.1) hS.2.2.2.1 (fun a ha => pa_fresh hx1 hl1.1 a (hS.2.2.2.2 a ha)) (fun a ha => hS.2.2.1.some _ a ha) he hr hi hne hrp (by show q9 - (p + 1) + 1 ≤ q9 - p; omega)
  · rw [if_neg hc] at hl1 hm hs hK
    rw [if_neg hc, if_pos (show nI 0 = 0 by decide)]
    refine ⟨_, _, hm, hs, hl1.isc, cp_part hX hge _ p o _ _ _ hbo hl1 (Nat.le_refl _) (Nat.le_refl _) (pa_K.of (fun e0 h' o' a b => fs_koN (hK.1 e0 h' o' a (hx1.trans b))) (fun L e0 h' q F hS => fs_koS (hK.ok e0 (hS.base hx1 hl1.1 (Nat.le_refl _)))))⟩
