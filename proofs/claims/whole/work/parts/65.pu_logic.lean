/-! Pure: the class reads a formula, from products up. -/
theorem cp_product {E : fs_E} {ln ch : Nat} {f : Nat → Int32} {n b : Nat} {self : Nat → Nat → fs_E → fs_Hp → Nat → fs_Ps → Prop} {P : Nat → Nat → ps_R (List It)} (hX : pa_X E ln ch f n (b + 1) self P) (hge : ∀ o q, ps_ge q (P o q)) : pa_X E ln ch f n b (w_LN_product self) (ps_product P (pa_n f n)) := by
  intro h p o mc ms Post hbo hl hm hs hK
  have hln := hl.some
  unfold w_LN_product
  unfold ps_product at hm hs hK
  have hge2 : ∀ o q, ps_ge q (ps_signed P (pa_n f n) o q) := fun o q => ps_signed_ge hge
  have g1 := hge2 o p
  have b1 : (ps_signed P (pa_n f n) o p).2 ≤ (ps_loop (ps_signed P (pa_n f n) o) (pa_n f n) 42 47 40 (ps_signed P (pa_n f n) o p)).2 := by
    rw [ps_loop]
    refine ps_then_le fun L e => ?_
    split
    · refine (ps_loop_ge (fun q => hge2 o q) 39 (ps_signed P (pa_n f n) o p).2 _ (ps_then_ge (Nat.le_trans (Nat.le_succ _) (hge2 o _).1) fun L2 q2 e2 h2 => ⟨h2, fun _ => ?_⟩)).1
      have h4 := (hge2 o ((ps_signed P (pa_n f n) o p).2 + 1)).1
      rw [e2] at h4
      exact h4
    · exact Nat.le_refl _
  refine ⟨2 * ((ps_signed P (pa_n f n) o p).2 - p), 6 * ((ps_signed P (pa_n f n) o p).2 - p), by omega, by omega, hl.isc, cp_signed hX hge h p o _ _ _ hbo hl (Nat.le_refl _) (Nat.le_refl _) (pa_K.of (fun e0 h' o' a b => fs_koN ⟨1, ?_⟩) (fun L e0 h' q F hS => fs_koS ⟨41, ?_⟩))⟩
  · rw [ps_loop, ps_then_none e0] at hK
    rw [w_LN_product_L7]
    dsimp only
    rw [if_neg (show ¬ (40 : Int32) ≤ 0 by decide)]
    exact hK.1 rfl h' o' a b
  · have g2 : p < (ps_signed P (pa_n f n) o p).2 := g1.2 (by rw [e0]; exact fun z => by cases z)
    have e1 : ps_signed P (pa_n f n) o p = (some L, (ps_signed P (pa_n f n) o p).2) := Prod.ext e0 rfl
    generalize hq9 : (ps_signed P (pa_n f n) o p).2 = q9 at *
    rw [e1] at hm hs hK b1
    refine cp_loop_product (p0 := p) (o := o) (cp_signed hX hge) hbo hge2 hln 40 0 q9 q _ _ h' L F (by omega) g2 hS (by omega) (by omega) (fun z h9 o9 b1 b2 a b => hK.1 z h9 o9 a b) (fun L' z h9 r9 b1 b2 F9 hS9 => hK.ok z hS9)
theorem cp_terms {E : fs_E} {ln ch : Nat} {f : Nat → Int32} {n b : Nat} {self : Nat → Nat → fs_E → fs_Hp → Nat → fs_Ps → Prop} {P : Nat → Nat → ps_R (List It)} (hX : pa_X E ln ch f n (b + 1) self P) (hge : ∀ o q, ps_ge q (P o q)) : pa_X E ln ch f n b (w_LN_terms self) (ps_terms P (pa_n f n)) := by
  intro h p o mc ms Post hbo hl hm hs hK
  have hln := hl.some
  unfold w_LN_terms
  unfold ps_terms at hm hs hK
  have hge2 : ∀ o q, ps_ge q (ps_product P (pa_n f n) o q) := fun o q => ps_product_ge hge
  have g1 := hge2 o p
  have b1 : (ps_product P (pa_n f n) o p).2 ≤ (ps_loop (ps_product P (pa_n f n) o) (pa_n f n) 43 45 40 (ps_product P (pa_n f n) o p)).2 := by
    rw [ps_loop]
    refine ps_then_le fun L e => ?_
    split
    · refine (ps_loop_ge (fun q => hge2 o q) 39 (ps_product P (pa_n f n) o p).2 _ (ps_then_ge (Nat.le_trans (Nat.le_succ _) (hge2 o _).1) fun L2 q2 e2 h2 => ⟨h2, fun _ => ?_⟩)).1
      have h4 := (hge2 o ((ps_product P (pa_n f n) o p).2 + 1)).1
      rw [e2] at h4
      exact h4
    · exact Nat.le_refl _
  refine ⟨2 * ((ps_product P (pa_n f n) o p).2 - p), 6 * ((ps_product P (pa_n f n) o p).2 - p), by omega, by omega, hl.isc, cp_product hX hge h p o _ _ _ hbo hl (Nat.le_refl _) (Nat.le_refl _) (pa_K.of (fun e0 h' o' a b => fs_koN ⟨1, ?_⟩) (fun L e0 h' q F hS => fs_koS ⟨41, ?_⟩))⟩
  · rw [ps_loop, ps_then_none e0] at hK
    rw [w_LN_terms_L7]
    dsimp only
    rw [if_neg (show ¬ (40 : Int32) ≤ 0 by decide)]
    exact hK.1 rfl h' o' a b
  · have g2 : p < (ps_product P (pa_n f n) o p).2 := g1.2 (by rw [e0]; exact fun z => by cases z)
    have e1 : ps_product P (pa_n f n) o p = (some L, (ps_product P (pa_n f n) o p).2) := Prod.ext e0 rfl
    generalize hq9 : (ps_product P (pa_n f n) o p).2 = q9 at *
    rw [e1] at hm hs hK b1
    refine cp_loop_terms (p0 := p) (o := o) (cp_product hX hge) hbo hge2 hln 40 0 q9 q _ _ h' L F (by omega) g2 hS (by omega) (by omega) (fun z h9 o9 b1 b2 a b => hK.1 z h9 o9 a b) (fun L' z h9 r9 b1 b2 F9 hS9 => hK.ok z hS9)
theorem cp_comparison {E : fs_E} {ln ch : Nat} {f : Nat → Int32} {n b : Nat} {self : Nat → Nat → fs_E → fs_Hp → Nat → fs_Ps → Prop} {P : Nat → Nat → ps_R (List It)} (hX : pa_X E ln ch f n (b + 1) self P) (hge : ∀ o q, ps_ge q (P o q)) : pa_X E ln ch f n b (w_LN_comparison self) (ps_cmp P (pa_n f n)) := by
  intro h p o mc ms Post hbo hl hm hs hK
  have hln := hl.some
  have hT := cp_terms hX hge
  unfold w_LN_comparison
  unfold ps_cmp at hm hs hK
  refine ⟨hl.isc, pa_take2 (c := 33) hl (by omega) (by omega) (fun h1 hl1 hx1 => fs_ki_of ?_)⟩
  by_cases hc : pa_n f n p = 33
  · rw [if_pos hc] at hl1 hm hs hK
    rw [if_pos hc, if_neg (show ¬ nI 1 = 0 by decide)]
    have b1 : (ps_terms P (pa_n f n) o (p + 1)).2 ≤ (ps_then (ps_terms P (pa_n f n) o (p + 1)) fun L q => ((some (L ++ [(33, 0, 0, 0)]), q) : ps_R (List It))).2 := ps_then_le fun _ _ => Nat.le_refl _
    have b2 := (ps_terms_ge (C := pa_n f n) (o := o) (p := p + 1) hge).1
    refine ⟨2 * ((ps_terms P (pa_n f n) o (p + 1)).2 - (p + 1)), 6 * ((ps_terms P (pa_n f n) o (p + 1)).2 - (p + 1)), by omega, by omega, hl1.isc, hT _ (p + 1) o _ _ _ hbo hl1 (Nat.le_refl _) (Nat.le_refl _) (pa_K.of (fun e0 h' o' a b => fs_koN ⟨0, 0, by omega, by omega, ?_⟩) (fun L e0 h' q F hS => fs_koS ⟨2, 3, by omega, by omega, ?_⟩))⟩
    · unfold w_LN_single
      rw [ps_then_none e0] at hK
      exact fs_koN (hK.1 rfl h' o' a (hx1.trans b))
    · rw [ps_then_some e0] at hK
      generalize (ps_terms P (pa_n f n) o (p + 1)).2 = q9 at *
      refine mk_single hS.2.2.1 (Or.inr ⟨rfl, rfl⟩) (Nat.le_refl _) (Nat.le_refl _) (fun h2 r i he hr hi hne hrp => fs_koS (hK.ok rfl (F := r :: i :: F) ?_))
      exact pa_S.one (L1 := []) (r1 := 0) (p1 := 0) (Or.inr trivial) hS.1 (hx1.trans hS.2.1) hS.2.2.2.1 (fun a ha => pa_fresh hx1 hl1.1 a (hS.2.2.2.2 a ha)) (fun a ha => hS.2.2.1.some _ a ha) he hr hi hne hrp (by show q9 - (p + 1) + 1 ≤ q9 - p; omega)
  · rw [if_neg hc] at hl1 hm hs hK
    rw [if_neg hc, if_pos (show nI 0 = 0 by decide)]
    have hl1 : pa_L E h1 ln ch f n p o := hl1
    have g1 := ps_terms_ge (C := pa_n f n) (o := o) (p := p) hge
    have b1 : (ps_terms P (pa_n f n) o p).2 ≤ (ps_then (ps_terms P (pa_n f n) o p) fun L q => if (pa_n f n q = 61 ∨ pa_n f n q = 35) ∨ (pa_n f n q = 60 ∨ pa_n f n q = 62) then ps_then (ps_terms P (pa_n f n) o (q + 1)) fun L2 q2 => ((some (L ++ L2 ++ [(nI (pa_n f n q), 0, 0, 0)]), q2) : ps_R (List It)) else (some L, q)).2 := by
      refine ps_then_le fun L e => ?_
      split
      · exact Nat.le_trans (Nat.le_trans (Nat.le_succ _) (ps_terms_ge hge).1) (ps_then_le fun _ _ => Nat.le_refl _)
      · exact Nat.le_refl _
    have b0 : p ≤ (ps_terms P (pa_n f n) o p).2 := g1.1
    refine ⟨2 * ((ps_terms P (pa_n f n) o p).2 - p), 6 * ((ps_terms P (pa_n f n) o p).2 - p), by omega, by omega, hl1.isc, hT _ p o _ _ _ hbo hl1 (Nat.le_refl _) (Nat.le_refl _) (pa_K.of (fun e0 h' o' a b => fs_koN ?_) (fun L e0 h' r F hS => fs_koS ?_))⟩
    · rw [ps_then_none e0] at hK
      exact hK.1 rfl h' o' a (hx1.trans b)
    · have g2 : p < (ps_terms P (pa_n f n) o p).2 := g1.2 (by rw [e0]; exact fun z => by cases z)
      rw [ps_then_some e0] at hm hs hK b1
      generalize (ps_terms P (pa_n f n) o p).2 = q at *
      have hS0 := hS.base (p0 := p) hx1 hl1.1 (Nat.le_refl _)
      have hl2 := hS.1
      have hJ : ((pa_n f n q = 61 ∨ pa_n f n q = 35) ∨ (pa_n f n q = 60 ∨ pa_n f n q = 62)) → w_LN_comparison_J52 self E Post ln r (mc - 2 * (q - p)) (ms - 6 * (q - p)) h' := by
        intro hcc
        rw [if_pos hcc] at hm hs hK b1
        unfold w_LN_comparison_J52
        obtain ⟨hqn, hlt, e⟩ := pa_lt hl2 (by omega)
        refine ⟨hl2.isc, pa_takeNext hl2 hqn (fun hl3 => fs_ki_of ?_)⟩
        have hx3 : pa_x ln h' (pa_up h' ln ch n (q + 1) o) := pa_x.up
        rw [e]
        have g3 := ps_terms_ge (C := pa_n f n) (o := o) (p := q + 1) hge
        have b2 : q + 1 ≤ (ps_terms P (pa_n f n) o (q + 1)).2 := g3.1
        have b3 : (ps_terms P (pa_n f n) o (q + 1)).2 ≤ (ps_then (ps_terms P (pa_n f n) o (q + 1)) fun L2 q2 => ((some (L ++ L2 ++ [(nI (pa_n f n q), 0, 0, 0)]), q2) : ps_R (List It))).2 := ps_then_le fun _ _ => Nat.le_refl _
        refine ⟨2 * ((ps_terms P (pa_n f n) o (q + 1)).2 - (q + 1)), 6 * ((ps_terms P (pa_n f n) o (q + 1)).2 - (q + 1)), by omega, by omega, hl3.isc, hT _ (q + 1) o _ _ _ hbo hl3 (Nat.le_refl _) (Nat.le_refl _) (pa_K.of (fun e1 h4 o' a b => fs_koN ⟨0, 0, by omega, by omega, ?_⟩) (fun L2 e1 h4 r2 F2 hS2 => fs_koS ⟨2, 4, by omega, by omega, ?_⟩))⟩
        · rw [ps_then_none e1] at hK
          unfold w_LN_pair
          exact fs_koN (hK.1 rfl h4 o' a (hS0.2.1.trans (hx3.trans b)))
        · have g4 : q + 1 < (ps_terms P (pa_n f n) o (q + 1)).2 := g3.2 (by rw [e1]; exact fun z => by cases z)
          rw [ps_then_some e1] at hK hm hs b3
          generalize (ps_terms P (pa_n f n) o (q + 1)).2 = q2 at *
          have t1 : rp (q2 - p - 1) E h4 r L F := hS0.on hln (hx3.trans hS2.2.1) (by omega)
          have t2 : rp (q2 - p - 1) E h4 r2 L2 F2 := hS2.2.2.1.more _ (by omega)
          refine mk_pair t1 t2 ?_ hlt (by omega) (by omega) (fun h3 r3 i3 he hr hi3 hne hrp => fs_koS (hK.ok rfl (F := r3 :: i3 :: (F ++ F2)) ?_))
          · rcases hcc with (hc | hc) | (hc | hc)
            · rw [hc]
              exact tr_sg_61
            · rw [hc]
              exact tr_sg_35
            · rw [hc]
              exact tr_sg_60
            · rw [hc]
              exact tr_sg_62
          · have hx9 : pa_x ln h h4 := hS0.2.1.trans (hx3.trans hS2.2.1)
            have hF2 : ∀ a ∈ F2, h a = none := fun a ha => pa_fresh (hS0.2.1.trans hx3) hl3.1 a (hS2.2.2.2.2 a ha)
            have hdis : ∀ a ∈ F, a ∉ F2 := fun a ha ha2 => by
              have z1 := hS2.2.2.2.2 a ha2
              have z2 : pa_up h' ln ch n (q + 1) o a = h' a := hx3 a (fun z => hln (z ▸ hS0.2.2.2.2 a ha)) (hS0.2.2.1.some _ a ha)
              rw [z2] at z1
              exact hS0.2.2.1.some _ a ha z1
            refine pa_S.one (L1 := []) (r1 := 0) (p1 := 0) (Or.inr trivial) hS2.1 hx9 ?_ ?_ ?_ he hr hi3 hne hrp (by show q2 - p - 1 + 1 ≤ q2 - p; omega)
            · exact List.nodup_append.mpr ⟨hS0.2.2.2.1, hS2.2.2.2.1, fun a ha b hb z => hdis a ha (z ▸ hb)⟩
            · intro a ha
              rcases List.mem_append.mp ha with ha | ha
              · exact hS0.2.2.2.2 a ha
              · exact hF2 a ha
            · intro a ha
              rcases List.mem_append.mp ha with ha | ha
              · exact t1.some _ a ha
              · exact t2.some _ a ha
      refine ⟨hl2.isc, pa_nextIs hl2 (fs_ki_of ?_)⟩
      by_cases hc1 : pa_n f n q = 61 ∨ pa_n f n q = 35
      · have hc2 : pa_c f n q = 61 ∨ pa_c f n q = 35 := hc1.imp (fun z => (pa_ci (c := 61) hl2 (by omega) (by omega)).mpr z) (fun z => (pa_ci (c := 35) hl2 (by omega) (by omega)).mpr z)
        rw [if_pos hc2, if_neg (by decide)]
        exact hJ (Or.inl hc1)
      · have hc2 : ¬ (pa_c f n q = 61 ∨ pa_c f n q = 35) := fun z => hc1 (z.imp (fun z => (pa_ci (c := 61) hl2 (by omega) (by omega)).mp z) (fun z => (pa_ci (c := 35) hl2 (by omega) (by omega)).mp z))
        rw [if_neg hc2, if_pos rfl]
        refine ⟨hl2.isc, pa_nextIs hl2 (fs_ki_of ?_)⟩
        by_cases hc3 : pa_n f n q = 60 ∨ pa_n f n q = 62
        · have hc4 : pa_c f n q = 60 ∨ pa_c f n q = 62 := hc3.imp (fun z => (pa_ci (c := 60) hl2 (by omega) (by omega)).mpr z) (fun z => (pa_ci (c := 62) hl2 (by omega) (by omega)).mpr z)
          rw [if_pos hc4, if_neg (by decide)]
          exact hJ (Or.inr hc3)
        · have hc4 : ¬ (pa_c f n q = 60 ∨ pa_c f n q = 62) := fun z => hc3 (z.imp (fun z => (pa_ci (c := 60) hl2 (by omega) (by omega)).mp z) (fun z => (pa_ci (c := 62) hl2 (by omega) (by omega)).mp z))
          rw [if_neg hc4, if_pos rfl]
          rw [if_neg (fun z => z.elim hc1 hc3)] at hK
          exact hK.ok rfl hS0
theorem cp_logic {E : fs_E} {ln ch : Nat} {f : Nat → Int32} {n b : Nat} {self : Nat → Nat → fs_E → fs_Hp → Nat → fs_Ps → Prop} {P : Nat → Nat → ps_R (List It)} (hX : pa_X E ln ch f n (b + 1) self P) (hge : ∀ o q, ps_ge q (P o q)) : pa_X E ln ch f n b (w_LN_logic self) (ps_lg P (pa_n f n)) := by
  intro h p o mc ms Post hbo hl hm hs hK
  have hln := hl.some
  unfold w_LN_logic
  unfold ps_lg at hm hs hK
  have hge2 : ∀ o q, ps_ge q (ps_cmp P (pa_n f n) o q) := fun o q => ps_cmp_ge hge
  have g1 := hge2 o p
  have b1 : (ps_cmp P (pa_n f n) o p).2 ≤ (ps_loop (ps_cmp P (pa_n f n) o) (pa_n f n) 38 124 40 (ps_cmp P (pa_n f n) o p)).2 := by
    rw [ps_loop]
    refine ps_then_le fun L e => ?_
    split
    · refine (ps_loop_ge (fun q => hge2 o q) 39 (ps_cmp P (pa_n f n) o p).2 _ (ps_then_ge (Nat.le_trans (Nat.le_succ _) (hge2 o _).1) fun L2 q2 e2 h2 => ⟨h2, fun _ => ?_⟩)).1
      have h4 := (hge2 o ((ps_cmp P (pa_n f n) o p).2 + 1)).1
      rw [e2] at h4
      exact h4
    · exact Nat.le_refl _
  refine ⟨2 * ((ps_cmp P (pa_n f n) o p).2 - p), 6 * ((ps_cmp P (pa_n f n) o p).2 - p), by omega, by omega, hl.isc, cp_comparison hX hge h p o _ _ _ hbo hl (Nat.le_refl _) (Nat.le_refl _) (pa_K.of (fun e0 h' o' a b => fs_koN ⟨1, ?_⟩) (fun L e0 h' q F hS => fs_koS ⟨41, ?_⟩))⟩
  · rw [ps_loop, ps_then_none e0] at hK
    rw [w_LN_logic_L7]
    dsimp only
    rw [if_neg (show ¬ (40 : Int32) ≤ 0 by decide)]
    exact hK.1 rfl h' o' a b
  · have g2 : p < (ps_cmp P (pa_n f n) o p).2 := g1.2 (by rw [e0]; exact fun z => by cases z)
    have e1 : ps_cmp P (pa_n f n) o p = (some L, (ps_cmp P (pa_n f n) o p).2) := Prod.ext e0 rfl
    generalize hq9 : (ps_cmp P (pa_n f n) o p).2 = q9 at *
    rw [e1] at hm hs hK b1
    refine cp_loop_logic (p0 := p) (o := o) (cp_comparison hX hge) hbo hge2 hln 40 0 q9 q _ _ h' L F (by omega) g2 hS (by omega) (by omega) (fun z h9 o9 b1 b2 a b => hK.1 z h9 o9 a b) (fun L' z h9 r9 b1 b2 F9 hS9 => hK.ok z hS9)
theorem pa_X.less {E : fs_E} {ln ch : Nat} {f : Nat → Int32} {n b b' : Nat} {W : Nat → Nat → fs_E → fs_Hp → Nat → fs_Ps → Prop} {P : Nat → Nat → ps_R (List It)} (h : pa_X E ln ch f n b W P) (hb : b ≤ b') : pa_X E ln ch f n b' W P := fun h9 p o mc ms Post ho => h h9 p o mc ms Post (Nat.le_trans hb ho)
theorem cp_logicN {E : fs_E} {ln ch : Nat} {f : Nat → Int32} {n : Nat} : ∀ m : Nat, pa_X E ln ch f n (7 - m) (w_N_logic m) (ps_logic (pa_n f n) m) := by
  intro m
  induction m with
  | zero =>
    intro h p o mc ms Post ho hl
    have := hl.2.2.2.2.1
    omega
  | succ m ih => exact cp_logic (ih.less (by omega)) (ps_logic_ge m)
/-! Nothing is read behind the line's end. -/
def ps_in {α : Type} (n : Nat) (r : ps_R α) : Prop := r.2 ≤ n
theorem ps_lt_of {C : Nat → Nat} {n p : Nat} (h0 : ∀ q, n ≤ q → C q = 0) (h : C p ≠ 0) : p < n := by
  by_cases z : p < n
  · exact z
  · exact absurd (h0 p (by omega)) h
theorem ps_then_in {α β : Type} {n : Nat} {r : ps_R α} {k : α → Nat → ps_R β} (h : r.2 ≤ n) (hk : ∀ v, r.1 = some v → (k v r.2).2 ≤ n) : (ps_then r k).2 ≤ n := by
  cases hz : r.1 with
  | none => rw [ps_then_none hz]; exact h
  | some v => rw [ps_then_some hz]; exact hk v hz
theorem ps_ch_in {β : Type} {C : Nat → Nat} {n c q : Nat} {k : Nat → ps_R β} (h0 : ∀ q, n ≤ q → C q = 0) (hc : c ≠ 0) (h : q ≤ n) (hk : q + 1 ≤ n → (k (q + 1)).2 ≤ n) : (ps_ch C c q k).2 ≤ n := by
  unfold ps_ch
  split
  · next e => exact hk (ps_lt_of h0 (by rw [e]; exact hc))
  · exact h
theorem ps_dg_in {C : Nat → Nat} {n : Nat} (h0 : ∀ q, n ≤ q → C q = 0) : ∀ k p d, p ≤ n → (ps_dg C k p d).2 ≤ n := by
  intro k
  induction k with
  | zero => intro p d h; exact h
  | succ k ih =>
    intro p d h
    rw [ps_dg]
    split
    · next e => exact ih _ _ (ps_lt_of h0 (by omega))
    · exact h
theorem ps_num_in {C : Nat → Nat} {n p : Nat} (h0 : ∀ q, n ≤ q → C q = 0) (h : p ≤ n) : (ps_num C p).2 ≤ n := by
  have h1 := ps_dg_in h0 9 p 0 h
  unfold ps_num
  split
  · next e =>
    have h2 : (ps_dg C 9 p 0).2 + 1 ≤ n := ps_lt_of h0 (by rw [e]; decide)
    have h3 := ps_dg_in h0 4 ((ps_dg C 9 p 0).2 + 1) (ps_dg C 9 p 0).1 h2
    split
    · exact h2
    · exact h3
  · exact h1
theorem ps_dl_in {C : Nat → Nat} {n p : Nat} (h0 : ∀ q, n ≤ q → C q = 0) (h : p ≤ n) : p + ps_dl C p ≤ n := by
  unfold ps_dl
  split
  · next e => exact ps_lt_of h0 (by rw [e]; decide)
  · exact h
theorem ps_ref_in {C : Nat → Nat} {n p : Nat} (h0 : ∀ q, n ≤ q → C q = 0) (h : p ≤ n) : (ps_ref C p).2 ≤ n := by
  have h1 := ps_dl_in h0 h
  unfold ps_ref
  split
  · next e =>
    have h2 : p + ps_dl C p + 1 ≤ n := ps_lt_of h0 (by omega)
    have h3 := ps_dl_in h0 h2
    unfold ps_rf2
    split
    · next e2 =>
      have h4 : p + ps_dl C p + 1 + ps_dl C (p + ps_dl C p + 1) + 1 ≤ n := ps_lt_of h0 (by omega)
      split
      · next e3 =>
        have h5 : p + ps_dl C p + 1 + ps_dl C (p + ps_dl C p + 1) + 1 + 1 ≤ n := ps_lt_of h0 (by omega)
        exact h5
      · exact h4
    · exact h3
  · exact h1
theorem ps_nm_in {C : Nat → Nat} {n p : Nat} (h0 : ∀ q, n ≤ q → C q = 0) (h : p ≤ n) : (ps_nm C p).2 ≤ n := by
  have h1 := ps_most_le (g := fun j => ps_same C (ps_ob j) p) (M := n - p) 8 (fun j hj => by
    have := ps_same_le (C := C) (n := n) h0 (ps_ob j) p (fun c hc => ((ps_ob_f j hj).2.2.2.2 c hc).1) h
    show ps_same C (ps_ob j) p ≤ n - p
    omega)
  show p + ps_most (fun j => ps_same C (ps_ob j) p) 8 ≤ n
  omega
theorem ps_close_in {C : Nat → Nat} {n : Nat} {r : ps_R (List It)} (h0 : ∀ q, n ≤ q → C q = 0) (h : r.2 ≤ n) : (ps_close C r).2 ≤ n := ps_then_in h fun _ _ => ps_ch_in h0 (by decide) h fun z => z
theorem ps_range_in {C : Nat → Nat} {n j p : Nat} (h0 : ∀ q, n ≤ q → C q = 0) (h : p ≤ n) : (ps_range C j p).2 ≤ n := ps_then_in (ps_ref_in h0 h) fun _ _ => ps_ch_in h0 (by decide) (ps_ref_in h0 h) fun z => ps_then_in (ps_ref_in h0 z) fun _ _ => ps_ref_in h0 z
theorem ps_args_in {self : Nat → ps_R (List It)} {C : Nat → Nat} {n j p : Nat} (h0 : ∀ q, n ≤ q → C q = 0) (hs : ∀ q, q ≤ n → (self q).2 ≤ n) (h : p ≤ n) : (ps_args self C j p).2 ≤ n := by
  unfold ps_args
  split
  · exact ps_then_in (hs p h) fun _ _ => ps_ch_in h0 (by decide) (hs p h) fun z => ps_then_in (hs _ z) fun _ _ => ps_ch_in h0 (by decide) (hs _ z) fun w => ps_then_in (hs _ w) fun _ _ => hs _ w
  · exact ps_then_in (hs p h) fun _ _ => hs p h
theorem ps_call_in {self : Nat → ps_R (List It)} {C : Nat → Nat} {n p : Nat} (h0 : ∀ q, n ≤ q → C q = 0) (hs : ∀ q, q ≤ n → (self q).2 ≤ n) (h : p ≤ n) : (ps_call self C p).2 ≤ n := by
  refine ps_then_in (ps_nm_in h0 h) fun j _ => ps_close_in h0 ?_
  split
  · exact ps_range_in h0 (ps_nm_in h0 h)
  · exact ps_args_in h0 hs (ps_nm_in h0 h)
theorem ps_part_in {self : Nat → Nat → ps_R (List It)} {C : Nat → Nat} {n o p : Nat} (h0 : ∀ q, n ≤ q → C q = 0) (hs : ∀ o q, q ≤ n → (self o q).2 ≤ n) (h : p ≤ n) : (ps_part self C o p).2 ≤ n := by
  unfold ps_part
  split
  · exact ps_num_in h0 h
  · split
    · exact ps_then_in (ps_ref_in h0 h) fun _ _ => ps_ref_in h0 h
    · split
      · exact h
      · split
        · next e => exact ps_close_in h0 (hs _ _ (ps_lt_of h0 (by rw [e]; decide)))
        · split
          · next e => exact ps_call_in h0 (hs _) (ps_lt_of h0 (by rw [e]; decide))
          · exact h
theorem ps_signed_in {self : Nat → Nat → ps_R (List It)} {C : Nat → Nat} {n o p : Nat} (h0 : ∀ q, n ≤ q → C q = 0) (hs : ∀ o q, q ≤ n → (self o q).2 ≤ n) (h : p ≤ n) : (ps_signed self C o p).2 ≤ n := by
  unfold ps_signed
  split
  · next e =>
    have h1 := ps_part_in (o := o) h0 hs (ps_lt_of h0 (show C p ≠ 0 by rw [e]; decide))
    exact ps_then_in h1 fun _ _ => h1
  · exact ps_part_in h0 hs h
theorem ps_loop_in {X : Nat → ps_R (List It)} {C : Nat → Nat} {n s1 s2 : Nat} (h0 : ∀ q, n ≤ q → C q = 0) (z1 : s1 ≠ 0) (z2 : s2 ≠ 0) (hX : ∀ q, q ≤ n → (X q).2 ≤ n) : ∀ (k : Nat) (r : ps_R (List It)), r.2 ≤ n → (ps_loop X C s1 s2 k r).2 ≤ n := by
  intro k
  induction k with
  | zero => intro r h; exact h
  | succ k ih =>
    intro r h
    rw [ps_loop]
    refine ps_then_in h fun L e => ?_
    split
    · next e2 =>
      have h1 := hX _ (ps_lt_of h0 (show C r.2 ≠ 0 by rcases e2 with e2 | e2 <;> rw [e2] <;> assumption))
      exact ih _ (ps_then_in h1 fun _ _ => h1)
    · exact h
theorem ps_product_in {self : Nat → Nat → ps_R (List It)} {C : Nat → Nat} {n o p : Nat} (h0 : ∀ q, n ≤ q → C q = 0) (hs : ∀ o q, q ≤ n → (self o q).2 ≤ n) (h : p ≤ n) : (ps_product self C o p).2 ≤ n := ps_loop_in h0 (by decide) (by decide) (fun q hq => ps_signed_in h0 hs hq) 40 _ (ps_signed_in h0 hs h)
theorem ps_terms_in {self : Nat → Nat → ps_R (List It)} {C : Nat → Nat} {n o p : Nat} (h0 : ∀ q, n ≤ q → C q = 0) (hs : ∀ o q, q ≤ n → (self o q).2 ≤ n) (h : p ≤ n) : (ps_terms self C o p).2 ≤ n := ps_loop_in h0 (by decide) (by decide) (fun q hq => ps_product_in h0 hs hq) 40 _ (ps_product_in h0 hs h)
theorem ps_cmp_in {self : Nat → Nat → ps_R (List It)} {C : Nat → Nat} {n o p : Nat} (h0 : ∀ q, n ≤ q → C q = 0) (hs : ∀ o q, q ≤ n → (self o q).2 ≤ n) (h : p ≤ n) : (ps_cmp self C o p).2 ≤ n := by
  unfold ps_cmp
  split
  · next e =>
    have h1 := ps_terms_in (o := o) h0 hs (ps_lt_of h0 (show C p ≠ 0 by rw [e]; decide))
    exact ps_then_in h1 fun _ _ => h1
  · have h1 := ps_terms_in (o := o) h0 hs h
    refine ps_then_in h1 fun L e => ?_
    split
    · next e2 =>
      have h2 := ps_terms_in (o := o) h0 hs (ps_lt_of h0 (show C (ps_terms self C o p).2 ≠ 0 by rcases e2 with (e2 | e2) | (e2 | e2) <;> rw [e2] <;> decide))
      exact ps_then_in h2 fun _ _ => h2
    · exact h1
theorem ps_logic_le {C : Nat → Nat} {n : Nat} (h0 : ∀ q, n ≤ q → C q = 0) : ∀ (m o p : Nat), p ≤ n → (ps_logic C m o p).2 ≤ n := by
  intro m
  induction m with
  | zero => intro o p h; exact h
  | succ m ih => intro o p h; exact ps_loop_in h0 (by decide) (by decide) (fun q hq => ps_cmp_in h0 ih hq) 40 _ (ps_cmp_in h0 ih h)
/-- the whole line -/
def ps_read (C : Nat → Nat) (n : Nat) : ps_R (List It) := ps_then (ps_logic C 8 0 0) fun L q => if q = n then (some L, q) else (none, q)
theorem cp_read {E : fs_E} {h : fs_Hp} {ln ch at0 op0 : Nat} {x2 x3 : Int32} {f : Nat → Int32} {n mc ms : Nat} {Post : fs_Ps} (h1 : h ln = some (.inr (1, [.ref ch, .int (nI n), .int x2, .int x3]))) (h2 : h ch = some (.inl (E.1.2 4, 40, .inl f))) (hn : n ≤ 40) (hf : ∀ i : Nat, i < n → ∃ c : Nat, c < 128 ∧ f i = nI c) (hm : 80 ≤ mc) (hs : 240 ≤ ms) (hK : pa_K E h ln ch f n 0 0 (ps_read (pa_n f n) n) Post) : w_LN_read mc ms E h ln Post := by
  have hne : ch ≠ ln := fun z => by
    rw [z, h1] at h2
    cases h2
  unfold w_LN_read
  refine fs_pw_of h1 (Nat.le_of_ble_eq_true rfl) (fs_pw_of fs_up_self (Nat.le_of_ble_eq_true rfl) ?_)
  have hl : pa_L E (fs_up (fs_up h ln (.inr (1, [.ref ch, .int (nI n), .int 0, .int x3]))) ln (.inr (1, [.ref ch, .int (nI n), .int 0, .int 0]))) ln ch f n 0 0 := ⟨fs_up_self, fs_up_at hne (fs_up_at hne h2), hn, Nat.zero_le _, Nat.zero_le _, hf⟩
  have hx : pa_x ln h (fs_up (fs_up h ln (.inr (1, [.ref ch, .int (nI n), .int 0, .int x3]))) ln (.inr (1, [.ref ch, .int (nI n), .int 0, .int 0]))) := pa_x.up.trans pa_x.up
  have hb : (ps_logic (pa_n f n) 8 0 0).2 ≤ n ∨ True := Or.inr trivial
  have hle : (ps_logic (pa_n f n) 8 0 0).2 ≤ 40 := Nat.le_trans (ps_logic_le pa_n0 8 0 0 (Nat.zero_le n)) hn
  refine ⟨80, 240, hm, hs, hl.isc, cp_logicN 8 _ 0 0 80 240 _ (by omega) hl (by omega) (by omega) (pa_K.of (fun e0 h' o' a b => fs_koN ?_) (fun L e0 h' q F hS => fs_koS ?_))⟩
  · have e1 : ps_read (pa_n f n) n = (none, (ps_logic (pa_n f n) 8 0 0).2) := ps_then_none e0
    rw [e1] at hK
    refine fs_gi_of a.1 rfl (fs_gi_of a.1 rfl ?_)
    have hK1 := hK.1 rfl h' o' a (hx.trans b)
    split <;> exact hK1
  · have e1 : ps_read (pa_n f n) n = if (ps_logic (pa_n f n) 8 0 0).2 = n then (some L, (ps_logic (pa_n f n) 8 0 0).2) else (none, (ps_logic (pa_n f n) 8 0 0).2) := ps_then_some e0
    refine fs_gi_of hS.1.1 rfl (fs_gi_of hS.1.1 rfl ?_)
    have hq := hS.1.2.2.2.1
    by_cases hc : (ps_logic (pa_n f n) 8 0 0).2 = n
    · rw [if_pos hc] at e1
      rw [if_pos (by rw [hc])]
      rw [e1] at hK
      exact hK.ok rfl (hS.base hx hl.1 (Nat.le_refl _))
    · rw [if_neg hc] at e1
      rw [if_neg (fun z => hc ((nI_eq (by omega) (by omega)).mp z))]
      rw [e1] at hK
      exact hK.1 rfl h' 0 hS.1 (hx.trans hS.2.1)
