/-! Pure: the class reads what stands in a name's brackets. -/
theorem tr_rf.isP {E : fs_E} {h : fs_Hp} {r : Nat} {x : Int32} {F : List Nat} (a : tr_rf E h r x F) : fs_isP h r := by
  obtain ⟨cf, rf, c, w, lo, i, g, h1, -⟩ := a
  exact fs_isP_of h1 (by omega)
theorem fs_isP_ext {h h' : fs_Hp} {a : Nat} (hp : fs_isP h a) (he : ∀ q, h q ≠ none → h' q = h q) : fs_isP h' a := by
  obtain ⟨c, fs, e1, e2⟩ := fs_isP_some hp
  exact fs_isP_of ((he a (by rw [e1]; exact fun z => by cases z)).trans e1) e2
theorem fs_up_ext {h : fs_Hp} {a : Nat} {e : va_E} (ha : h a = none) : ∀ q, h q ≠ none → fs_up h a e q = h q := fun q hq => fs_up_ne fun z => hq (z ▸ ha)
theorem ps_then_le {α β : Type} {r : ps_R α} {k : α → Nat → ps_R β} (h : ∀ v, r.1 = some v → r.2 ≤ (k v r.2).2) : r.2 ≤ (ps_then r k).2 := by
  cases hz : r.1 with
  | none => rw [ps_then_none hz]; exact Nat.le_refl _
  | some v => rw [ps_then_some hz]; exact h v hz
theorem ps_ch_le {β : Type} {C : Nat → Nat} {c q : Nat} {k : Nat → ps_R β} (h : q ≤ (k (q + 1)).2) : q ≤ (ps_ch C c q k).2 := by
  unfold ps_ch
  split
  · exact h
  · exact Nat.le_refl _
theorem ps_ch_pos {β : Type} {C : Nat → Nat} {c q : Nat} {k : Nat → ps_R β} (h : C q = c) : ps_ch C c q k = k (q + 1) := by
  unfold ps_ch
  rw [if_pos h]
theorem ps_ch_neg {β : Type} {C : Nat → Nat} {c q : Nat} {k : Nat → ps_R β} (h : ¬ C q = c) : ps_ch C c q k = (none, q) := by
  unfold ps_ch
  rw [if_neg h]
theorem cp_range {E : fs_E} {h : fs_Hp} {ln ch : Nat} {f : Nat → Int32} {n p o mc ms j : Nat} {Post : fs_Ps} (hj : j < 5) (hl : pa_L E h ln ch f n p o) (hm : 2 * ((ps_range (pa_n f n) j p).2 - p) ≤ mc) (hs : 6 * ((ps_range (pa_n f n) j p).2 - p) ≤ ms) (hK : pa_K E h ln ch f n p o (ps_range (pa_n f n) j p) Post) : w_LN_overRange mc ms E h ln (E.2 j) Post := by
  have hln := hl.some
  have g1 := ps_ref_ge (C := pa_n f n) (p := p)
  have hb : (ps_ref (pa_n f n) p).2 ≤ (ps_range (pa_n f n) j p).2 := ps_then_le fun x _ => ps_ch_le (Nat.le_trans (Nat.le_trans (Nat.le_succ _) ps_ref_ge.1) (ps_then_le fun _ _ => Nat.le_refl _))
  unfold w_LN_overRange
  refine ⟨2 * ((ps_ref (pa_n f n) p).2 - p), 6 * ((ps_ref (pa_n f n) p).2 - p), by omega, by omega, hl.isc, cp_ref hl (Nat.le_refl _) (Nat.le_refl _) ⟨fun e0 h1 hl1 hx1 => fs_koN ?_, fun x e0 h1 a Fa hl1 hx1 ta na fa => fs_koS ⟨hl1.isc, pa_take2 (c := 58) hl1 (by omega) (by omega) (fun h2 hl2 hx2 => fs_ki_of ?_)⟩⟩⟩
  · have e : ps_range (pa_n f n) j p = (none, (ps_ref (pa_n f n) p).2) := ps_then_none e0
    rw [e] at hK
    exact hK.1 rfl h1 o hl1 hx1
  · have e : ps_range (pa_n f n) j p = ps_ch (pa_n f n) 58 (ps_ref (pa_n f n) p).2 fun q2 => ps_then (ps_ref (pa_n f n) q2) fun y q3 => (some [(nI (j + 2), nI x, nI y, 0)], q3) := ps_then_some e0
    have gx : p < (ps_ref (pa_n f n) p).2 := g1.2 (by rw [e0]; exact fun z => by cases z)
    generalize (ps_ref (pa_n f n) p).2 = q1 at *
    by_cases hc : pa_n f n q1 = 58
    · rw [ps_ch_pos hc] at e
      rw [if_pos hc] at hl2
      rw [if_pos hc, if_neg (show ¬ nI 1 = 0 by decide)]
      have g3 := ps_ref_ge (C := pa_n f n) (p := q1 + 1)
      have hb2 : (ps_ref (pa_n f n) (q1 + 1)).2 ≤ (ps_range (pa_n f n) j p).2 := by
        rw [e]
        exact ps_then_le fun _ _ => Nat.le_refl _
      have g3' : q1 + 1 ≤ (ps_ref (pa_n f n) (q1 + 1)).2 := g3.1
      refine ⟨2 * ((ps_ref (pa_n f n) (q1 + 1)).2 - (q1 + 1)), 6 * ((ps_ref (pa_n f n) (q1 + 1)).2 - (q1 + 1)), by omega, by omega, hl2.isc, cp_ref hl2 (Nat.le_refl _) (Nat.le_refl _) ⟨fun e1 h3 hl3 hx3 => fs_koN ?_, fun y e1 h3 b Fb hl3 hx3 tb nb fb => fs_koS ?_⟩⟩
      · rw [ps_then_none e1] at e
        rw [e] at hK
        exact hK.1 rfl h3 o hl3 (hx1.trans (hx2.trans hx3))
      · rw [ps_then_some e1] at e
        rw [e] at hK hm hs
        generalize (ps_ref (pa_n f n) (q1 + 1)).2 = q3 at *
        have hm2 : 2 * (q3 - p) ≤ mc := hm
        have hs2 : 6 * (q3 - p) ≤ ms := hs
        have ta2 : tr_rf E h3 a (nI x) Fa := ta.kept (fun z hz => (hx2.trans hx3) z (fun w => hln (w ▸ fa z hz)) (ta.some z hz))
        have hx9 : pa_x ln h h3 := hx1.trans (hx2.trans hx3)
        have hdis : ∀ z ∈ Fa, z ∉ Fb := fun z hz hz2 => by
          have z1 := fb z hz2
          have z2 : h2 z = h1 z := hx2 z (fun w => hln (w ▸ fa z hz)) (ta.some z hz)
          rw [z2] at z1
          exact ta.some z hz z1
        refine ⟨by omega, by omega, fun r hr => ⟨1, 2, by omega, by omega, mk_OV fs_up_self (Nat.le_refl _) (Nat.le_refl _) (fs_isP_ext ta2.isP (fs_up_ext hr)) (fs_isP_ext tb.isP (fs_up_ext hr)) (fun i g h' hi hne e1 e2 e3 e3' e4 => fs_kv_of ?_)⟩⟩
        have he := mk_ext hr hi e4
        have hi2 := (up_none hi).2
        obtain ⟨k, hk⟩ : ∃ k, q3 - p = k + 1 := ⟨q3 - p - 1, by omega⟩
        refine hK.ok rfl (F := r :: i :: (Fa ++ Fb)) (pa_S.one (L1 := []) (r1 := 0) (p1 := 0) (k := k + 1) (Or.inr trivial) hl3 hx9 ?_ ?_ ?_ he hr hi2 (Ne.symm hne) ?_ (by show k + 1 ≤ q3 - p; omega))
        · exact List.nodup_append.mpr ⟨na, nb, fun a ha b hb z => hdis a ha (z ▸ hb)⟩
        · intro z hz
          rcases List.mem_append.mp hz with hz | hz
          · exact fa z hz
          · exact pa_fresh (hx1.trans hx2) hl2.1 z (fb z hz)
        · intro z hz
          rcases List.mem_append.mp hz with hz | hz
          · exact ta2.some z hz
          · exact tb.some z hz
        · exact Or.inr (Or.inr (Or.inr (Or.inr (Or.inr (Or.inr ⟨j, a, b, i, g, nI x, nI y, Fa, Fb, hj, e1, e2, e3, e3', ta2.kept (fun z hz => he z (ta2.some z hz)), tb.kept (fun z hz => he z (tb.some z hz)), rfl, rfl⟩)))))
    · rw [ps_ch_neg hc] at e
      rw [if_neg hc] at hl2
      rw [if_neg hc, if_pos (show nI 0 = 0 by decide)]
      rw [e] at hK
      exact hK.1 rfl h2 o hl2 (hx1.trans hx2)
/-- one argument more -/
theorem cp_arg {E : fs_E} {h : fs_Hp} {ln ch : Nat} {f : Nat → Int32} {n p o b bc bs z1 z m i : Nat} {g : Nat → Option Nat} {self : Nat → Nat → fs_E → fs_Hp → Nat → fs_Ps → Prop} {self1 : Nat → Nat → Nat → Int32 → Nat → Nat → fs_Hp → Prop} {P : Nat → Nat → ps_R (List It)} {K : Nat → Nat → fs_Hp → Prop} {Post : fs_Ps} (hX : pa_X E ln ch f n b self P) (hbo : b ≤ o) (hl : pa_L E h ln ch f n p o) (hz : tr_in E h z m g) (hi : i < m) (hm3 : m ≤ 3) (hm : 2 * ((P o p).2 - p) ≤ bc) (hs : 6 * ((P o p).2 - p) ≤ bs)
    (hN : (P o p).1 = none → ∀ (h' : fs_Hp) (o' : Nat), pa_L E h' ln ch f n (P o p).2 o' → (∀ a, a ≠ ln → a ≠ z → h a ≠ none → h' a = h a) → Post (.inl (some .null)) h')
    (hY : ∀ L, (P o p).1 = some L → ∀ (h' : fs_Hp) (r : Nat) (F : List Nat), pa_L E h' ln ch f n (P o p).2 o → (∀ a, a ≠ ln → a ≠ z → h a ≠ none → h' a = h a) → tr_in E h' z m (va_up g i (some r)) → rp ((P o p).2 - p) E h' r L F → F.Nodup → (∀ a ∈ F, h a = none) → self1 ln z1 z (nI (i + 1)) (bc - 2 * ((P o p).2 - p)) (bs - 6 * ((P o p).2 - p)) h') : w_LN_overLogics_L10_J31 self self1 E K Post ln z1 z (nI i) bc bs h := by
  have hzn : h z ≠ none := by
    rw [hz]
    exact fun w => by cases w
  have hzl : z ≠ ln := fun w => by
    have := hl.1
    rw [← w, hz] at this
    cases this
  have hin : vp_in (nI i) m := vp_in_nI hi (by omega)
  unfold w_LN_overLogics_L10_J31
  refine ⟨2 * ((P o p).2 - p), 6 * ((P o p).2 - p), hm, hs, hl.isc, hX h p o _ _ _ hbo hl (Nat.le_refl _) (Nat.le_refl _) (pa_K.of (fun e0 h' o' hl1 hx1 => fs_koN ?_) (fun L e0 h' r F hS => fs_koS ⟨hS.2.2.1.isP, ?_⟩))⟩
  · have hz1 : tr_in E h' z m g := (hx1 z hzl hzn).trans hz
    refine fs_sq_of hz1 hin (fs_aq_of fs_up_self hin ?_)
    rw [nI_clamp (by omega)]
    have e9 : va_up g i none i = none := by simp [va_up]
    rw [e9]
    have hl2 : pa_L E (fs_up h' z (.inl (E.1.2 6, m, .inr (.inr (.inr (.inr (va_up g i none))))))) ln ch f n (P o p).2 o' := by
      exact ⟨fs_up_at (Ne.symm hzl) hl1.1, fs_up_at (fs_nek hl1.2.1 hz1 (Nat.ne_of_beq_eq_false rfl)) hl1.2.1, hl1.2.2⟩
    exact hN e0 _ o' hl2 (fun a g1 g2 g3 => by rw [fs_up_ne g2]; exact hx1 a g1 g3)
  · have hz1 : tr_in E h' z m g := (hS.2.1 z hzl hzn).trans hz
    refine fs_sq_of hz1 hin (fs_aq_of fs_up_self hin ?_)
    rw [nI_clamp (by omega)]
    have e9 : va_up g i (some r) i = some r := by simp [va_up]
    rw [e9]
    have hl2 : pa_L E (fs_up h' z (.inl (E.1.2 6, m, .inr (.inr (.inr (.inr (va_up g i (some r)))))))) ln ch f n (P o p).2 o := by
      exact ⟨fs_up_at (Ne.symm hzl) hS.1.1, fs_up_at (fs_nek hS.1.2.1 hz1 (Nat.ne_of_beq_eq_false rfl)) hS.1.2.1, hS.1.2.2⟩
    have e8 : nI i + 1 = nI (i + 1) := nI_1 i
    show self1 ln z1 z (nI i + 1) _ _ _
    rw [e8]
    refine hY L e0 _ r F hl2 (fun a g1 g2 g3 => by rw [fs_up_ne g2]; exact hS.2.1 a g1 g3) fs_up_self (hS.2.2.1.kept _ fun a ha => ?_) hS.2.2.2.1 hS.2.2.2.2
    have hn : a ≠ z := fun w => hzn (w ▸ hS.2.2.2.2 a ha)
    rw [fs_up_ne hn]
/-- the array of arguments is there: the call is made -/
theorem cp_mkCall {E : fs_E} {h0 h : fs_Hp} {ln ch : Nat} {f : Nat → Int32} {n p0 q o bc bs z j k : Nat} {L : List It} {F : List Nat} {Post : fs_Ps} (hl : pa_L E h ln ch f n q o) (hx : pa_x ln h0 h) (hz : h z ≠ none) (hz0 : h0 z = none) (hzF : z ∉ F) (hF : F.Nodup) (hf : ∀ a ∈ F, h0 a = none) (hso : ∀ a ∈ F, h a ≠ none) (hb : 1 ≤ bc) (hb2 : 2 ≤ bs) (hk : k ≤ q - p0)
    (hrp : ∀ (h' : fs_Hp) (r : Nat), (∀ a, h a ≠ none → h' a = h a) → h' r = some (.inr (8, [.ref (E.2 j), .ref z])) → rp k E h' r L (r :: z :: F))
    (hK : ∀ (h' : fs_Hp) (r : Nat) (F' : List Nat), pa_S E h0 ln ch f n p0 q o h' r L F' → Post (.inl (some (.ref r))) h') :
    1 ≤ bc ∧ 2 ≤ bs ∧ ∀ a128 : Nat, h a128 = none → (fun h129 : fs_Hp => w_CA_init E h129 a128 (E.2 j) z (fs_kv (fun h130 => Post (.inl (some (.ref a128))) h130) (fun C_ h_ => Post (.inr C_) h_))) (fs_up h a128 (.inr (8, [.null, .null]))) := by
  refine ⟨hb, hb2, fun a ha => mk_CA fs_up_self (fs_kv_of ?_)⟩
  have he : ∀ x, h x ≠ none → fs_up (fs_up (fs_up h a (.inr (8, [.null, .null]))) a (.inr (8, [.null, .ref z]))) a (.inr (8, [.ref (E.2 j), .ref z])) x = h x := fun x hx => by
    have hn : x ≠ a := fun w => hx (w ▸ ha)
    rw [fs_up_ne hn, fs_up_ne hn, fs_up_ne hn]
  have hR := hrp _ a he fs_up_self
  refine hK _ a (a :: z :: F) ⟨hl.ext he, fun x g1 g2 => ?_, hR.more _ hk, ?_, ?_⟩
  · have g3 := hx x g1 g2
    rw [he x (by rw [g3]; exact g2), g3]
  · have n1 : a ∉ F := fun w => hso a w ha
    have n2 : a ≠ z := fun w => hz (w ▸ ha)
    simp [n1, n2, hzF, hF]
  · intro x hx9
    simp only [List.mem_cons] at hx9
    rcases hx9 with rfl | rfl | hx9
    · exact pa_fresh hx hl.1 x ha
    · exact hz0
    · exact hf x hx9
theorem cp_logics {E : fs_E} {h : fs_Hp} {ln ch : Nat} {f : Nat → Int32} {n p p0 o b mc ms j : Nat} {self : Nat → Nat → fs_E → fs_Hp → Nat → fs_Ps → Prop} {P : Nat → Nat → ps_R (List It)} {Post : fs_Ps} (hX : pa_X E ln ch f n b self P) (hbo : b ≤ o) (hge : ∀ o q, ps_ge q (P o q)) (hp0 : p0 < p) (hj5 : 5 ≤ j) (hj8 : j < 8) (hl : pa_L E h ln ch f n p o) (hm : 2 * ((ps_args (P o) (pa_n f n) j p).2 - p) + 2 ≤ mc) (hs : 6 * ((ps_args (P o) (pa_n f n) j p).2 - p) + 5 ≤ ms) (hK : pa_K E h ln ch f n p0 o (ps_args (P o) (pa_n f n) j p) Post) : w_LN_overLogics self mc ms E h ln (E.2 j) Post := by
  have hln := hl.some
  unfold w_LN_overLogics
  by_cases h7 : j = 7
  · subst h7
    have elg : Int32.toNatClampNeg (fs_lg 7) = 3 := by decide
    refine ⟨7, by omega, rfl, by decide, by decide, by omega, by rw [elg]; omega, fun z hz => ⟨4, ?_⟩⟩
    rw [elg]
    have hzl : z ≠ ln := fun w => hln (w ▸ hz)
    have hz1 : tr_in E (fs_up h z (.inl (E.1.2 6, 3, .inr (.inr (.inr (.inr (fun _ => none))))))) z 3 (fun _ => none) := fs_up_self
    have hl1 : pa_L E (fs_up h z (.inl (E.1.2 6, 3, .inr (.inr (.inr (.inr (fun _ => none))))))) ln ch f n p o := hl.new hz
    have hx1 : pa_x ln h (fs_up h z (.inl (E.1.2 6, 3, .inr (.inr (.inr (.inr (fun _ => none))))))) := pa_x.rf.new hz
    generalize fs_up h z (.inl (E.1.2 6, 3, .inr (.inr (.inr (.inr (fun _ => none)))))) = h1 at hz1 hl1 hx1 ⊢
    have eA : ps_args (P o) (pa_n f n) 7 p = ps_then (P o p) fun L1 q1 => ps_ch (pa_n f n) 44 q1 fun q2 => ps_then (P o q2) fun L2 q3 => ps_ch (pa_n f n) 44 q3 fun q4 => ps_then (P o q4) fun L3 q5 => (some (L1 ++ L2 ++ L3 ++ [(9, 0, 0, 0)]), q5) := if_pos rfl
    have b1 : (P o p).2 ≤ (ps_args (P o) (pa_n f n) 7 p).2 := by
      rw [eA]
      exact ps_then_le fun _ _ => ps_ch_le (Nat.le_trans (Nat.le_trans (Nat.le_succ _) (hge _ _).1) (ps_then_le fun _ _ => ps_ch_le (Nat.le_trans (Nat.le_trans (Nat.le_succ _) (hge _ _).1) (ps_then_le fun _ _ => Nat.le_refl _))))
    have c1 : p ≤ (P o p).2 := (hge o p).1
    rw [w_LN_overLogics_L10]
    dsimp only
    refine fs_an_of hz1 ?_
    dsimp only
    rw [if_neg (show ¬ Int32.ofNat 3 ≤ 0 by decide), if_pos (show (0 : Int32) ≤ 0 by decide)]
    refine cp_arg (i := 0) hX hbo hl1 hz1 (by omega) (by omega) (by omega) (by omega) (fun e0 h' o' hl2 hx2 => ?_) (fun L1 e0 h2 r1 F1 hl2 hx2 hz2 t1 n1 f1 => ?_)
    · rw [ps_then_none e0] at eA
      rw [eA] at hK
      exact hK.1 rfl h' o' hl2 (fun a g1 g2 => by
        have g3 := hx1 a g1 g2
        rw [hx2 a g1 (fun w => g2 (w ▸ hz)) (by rw [g3]; exact g2), g3])
    · rw [ps_then_some e0] at eA
      have c1' : p < (P o p).2 := (hge o p).2 (by rw [e0]; exact fun w => by cases w)
      generalize (P o p).2 = q1 at *
      have hx12 : pa_x ln h h2 := fun a g1 g2 => by
        have g3 := hx1 a g1 g2
        rw [hx2 a g1 (fun w => g2 (w ▸ hz)) (by rw [g3]; exact g2), g3]
      rw [w_LN_overLogics_L10]
      dsimp only
      refine fs_an_of hz2 ?_
      dsimp only
      rw [if_neg (show ¬ Int32.ofNat 3 ≤ nI (0 + 1) by decide), if_neg (show ¬ nI (0 + 1) ≤ 0 by decide)]
      refine ⟨hl2.isc, pa_take2 (c := 44) hl2 (by omega) (by omega) (fun h3 hl3 hx3 => fs_ki_of ?_)⟩
      have hz3 : tr_in E h3 z 3 (va_up (fun _ => none) 0 (some r1)) := (hx3 z hzl (by rw [hz2]; exact fun w => by cases w)).trans hz2
      by_cases hc : pa_n f n q1 = 44
      · rw [ps_ch_pos hc] at eA
        rw [if_pos hc] at hl3
        rw [if_pos hc, if_neg (show ¬ nI 1 = 0 by decide)]
        have c2 : q1 + 1 ≤ (P o (q1 + 1)).2 := (hge o (q1 + 1)).1
        have b2 : (P o (q1 + 1)).2 ≤ (ps_args (P o) (pa_n f n) 7 p).2 := by
          rw [eA]
          exact ps_then_le fun _ _ => ps_ch_le (Nat.le_trans (Nat.le_trans (Nat.le_succ _) (hge _ _).1) (ps_then_le fun _ _ => Nat.le_refl _))
        refine cp_arg (i := 1) hX hbo hl3 hz3 (by omega) (by omega) (by omega) (by omega) (fun e1 h' o' hl4 hx4 => ?_) (fun L2 e1 h4 r2 F2 hl4 hx4 hz4 t2 n2 f2 => ?_)
        · rw [ps_then_none e1] at eA
          rw [eA] at hK
          exact hK.1 rfl h' o' hl4 (fun a g1 g2 => by
            have g3 := (hx12.trans hx3) a g1 g2
            rw [hx4 a g1 (fun w => g2 (w ▸ hz)) (by rw [g3]; exact g2), g3])
        · rw [ps_then_some e1] at eA
          have c2' : q1 + 1 < (P o (q1 + 1)).2 := (hge o (q1 + 1)).2 (by rw [e1]; exact fun w => by cases w)
          generalize (P o (q1 + 1)).2 = q3 at *
          have hx14 : pa_x ln h h4 := fun a g1 g2 => by
            have g3 := (hx12.trans hx3) a g1 g2
            rw [hx4 a g1 (fun w => g2 (w ▸ hz)) (by rw [g3]; exact g2), g3]
          rw [w_LN_overLogics_L10]
          dsimp only
          refine fs_an_of hz4 ?_
          dsimp only
          rw [if_neg (show ¬ Int32.ofNat 3 ≤ nI (1 + 1) by decide), if_neg (show ¬ nI (1 + 1) ≤ 0 by decide)]
          refine ⟨hl4.isc, pa_take2 (c := 44) hl4 (by omega) (by omega) (fun h5 hl5 hx5 => fs_ki_of ?_)⟩
          have hz5 : tr_in E h5 z 3 (va_up (va_up (fun _ => none) 0 (some r1)) 1 (some r2)) := (hx5 z hzl (by rw [hz4]; exact fun w => by cases w)).trans hz4
          by_cases hc3 : pa_n f n q3 = 44
          · rw [ps_ch_pos hc3] at eA
            rw [if_pos hc3] at hl5
            rw [if_pos hc3, if_neg (show ¬ nI 1 = 0 by decide)]
            have c3 : q3 + 1 ≤ (P o (q3 + 1)).2 := (hge o (q3 + 1)).1
            have b3 : (P o (q3 + 1)).2 ≤ (ps_args (P o) (pa_n f n) 7 p).2 := by
              rw [eA]
              exact ps_then_le fun _ _ => Nat.le_refl _
            refine cp_arg (i := 2) hX hbo hl5 hz5 (by omega) (by omega) (by omega) (by omega) (fun e2 h' o' hl6 hx6 => ?_) (fun L3 e2 h6 r3 F3 hl6 hx6 hz6 t3 n3 f3 => ?_)
            · rw [ps_then_none e2] at eA
              rw [eA] at hK
              exact hK.1 rfl h' o' hl6 (fun a g1 g2 => by
                have g3 := (hx14.trans hx5) a g1 g2
                rw [hx6 a g1 (fun w => g2 (w ▸ hz)) (by rw [g3]; exact g2), g3])
            · rw [ps_then_some e2] at eA
              have c3' : q3 + 1 < (P o (q3 + 1)).2 := (hge o (q3 + 1)).2 (by rw [e2]; exact fun w => by cases w)
              rw [eA] at hK hm hs
              generalize (P o (q3 + 1)).2 = q5 at *
              have hm2 : 2 * (q5 - p) + 2 ≤ mc := hm
              have hs2 : 6 * (q5 - p) + 5 ≤ ms := hs
              have hx16 : pa_x ln h h6 := fun a g1 g2 => by
                have g3 := (hx14.trans hx5) a g1 g2
                rw [hx6 a g1 (fun w => g2 (w ▸ hz)) (by rw [g3]; exact g2), g3]
              have hzn1 : h1 z ≠ none := by rw [hz1]; exact fun w => by cases w
              have hzn3 : h3 z ≠ none := by rw [hz3]; exact fun w => by cases w
              have hzn5 : h5 z ≠ none := by rw [hz5]; exact fun w => by cases w
              -- nothing of the earlier arguments changes
              have k1 : ∀ a ∈ F1, a ≠ ln ∧ a ≠ z ∧ h2 a ≠ none := fun a ha => ⟨fun w => hl1.some (w ▸ f1 a ha), fun w => hzn1 (w ▸ f1 a ha), t1.some _ a ha⟩
              have s13 : ∀ a ∈ F1, h3 a = h2 a := fun a ha => hx3 a (k1 a ha).1 (k1 a ha).2.2
              have s14 : ∀ a ∈ F1, h4 a = h2 a := fun a ha => (hx4 a (k1 a ha).1 (k1 a ha).2.1 (by rw [s13 a ha]; exact (k1 a ha).2.2)).trans (s13 a ha)
              have s15 : ∀ a ∈ F1, h5 a = h2 a := fun a ha => (hx5 a (k1 a ha).1 (by rw [s14 a ha]; exact (k1 a ha).2.2)).trans (s14 a ha)
              have s16 : ∀ a ∈ F1, h6 a = h2 a := fun a ha => (hx6 a (k1 a ha).1 (k1 a ha).2.1 (by rw [s15 a ha]; exact (k1 a ha).2.2)).trans (s15 a ha)
              have k2 : ∀ a ∈ F2, a ≠ ln ∧ a ≠ z ∧ h4 a ≠ none := fun a ha => ⟨fun w => hl3.some (w ▸ f2 a ha), fun w => hzn3 (w ▸ f2 a ha), t2.some _ a ha⟩
              have s25 : ∀ a ∈ F2, h5 a = h4 a := fun a ha => hx5 a (k2 a ha).1 (k2 a ha).2.2
              have s26 : ∀ a ∈ F2, h6 a = h4 a := fun a ha => (hx6 a (k2 a ha).1 (k2 a ha).2.1 (by rw [s25 a ha]; exact (k2 a ha).2.2)).trans (s25 a ha)
              have u1 : rp (q5 - p - 1) E h6 r1 L1 F1 := (t1.kept _ s16).more _ (by omega)
              have u2 : rp (q5 - p - 1) E h6 r2 L2 F2 := (t2.kept _ s26).more _ (by omega)
              have u3 : rp (q5 - p - 1) E h6 r3 L3 F3 := t3.more _ (by omega)
              have d12 : ∀ a ∈ F1, a ∉ F2 := fun a ha ha2 => by
                have := f2 a ha2
                rw [s13 a ha] at this
                exact (k1 a ha).2.2 this
              have d13 : ∀ a ∈ F1, a ∉ F3 := fun a ha ha2 => by
                have := f3 a ha2
                rw [s15 a ha] at this
                exact (k1 a ha).2.2 this
              have d23 : ∀ a ∈ F2, a ∉ F3 := fun a ha ha2 => by
                have := f3 a ha2
                rw [s25 a ha] at this
                exact (k2 a ha).2.2 this
              rw [w_LN_overLogics_L10]
              dsimp only
              refine fs_an_of hz6 ?_
              dsimp only
              rw [if_pos (show Int32.ofNat 3 ≤ nI (2 + 1) by decide)]
              refine cp_mkCall (k := (q5 - p - 1) + 1) (F := F1 ++ F2 ++ F3) (p0 := p0) hl6 hx16 (by rw [hz6]; exact fun w => by cases w) hz ?_ ?_ ?_ ?_ (by omega) (by omega) (by omega) (fun h' r he er => ?_) (fun h' r F' hS => hK.ok rfl hS)
              · intro w
                simp only [List.mem_append] at w
                rcases w with (w | w) | w
                · exact (k1 z w).2.1 rfl
                · exact (k2 z w).2.1 rfl
                · exact hzn5 (f3 z w)
              · refine List.nodup_append.mpr ⟨List.nodup_append.mpr ⟨n1, n2, fun a ha b hb w => d12 a ha (w ▸ hb)⟩, n3, fun a ha b hb w => ?_⟩
                rcases List.mem_append.mp ha with ha | ha
                · exact d13 a ha (w ▸ hb)
                · exact d23 a ha (w ▸ hb)
              · intro a ha
                simp only [List.mem_append] at ha
                rcases ha with (ha | ha) | ha
                · exact pa_fresh hx1 hl1.1 a (f1 a ha)
                · exact pa_fresh (hx12.trans hx3) hl3.1 a (f2 a ha)
                · exact pa_fresh (hx14.trans hx5) hl5.1 a (f3 a ha)
              · intro a ha
                simp only [List.mem_append] at ha
                rcases ha with (ha | ha) | ha
                · exact u1.some _ a ha
                · exact u2.some _ a ha
                · exact u3.some _ a ha
              · exact Or.inr (Or.inr (Or.inr (Or.inr (Or.inr (Or.inl ⟨z, r1, r2, r3, va_up (va_up (va_up (fun _ => none) 0 (some r1)) 1 (some r2)) 2 (some r3), L1, L2, L3, F1, F2, F3, er, (he z (by rw [hz6]; exact fun w => by cases w)).trans hz6, by simp [va_up], by simp [va_up], by simp [va_up], u1.kept _ (fun a ha => he a (u1.some _ a ha)), u2.kept _ (fun a ha => he a (u2.some _ a ha)), u3.kept _ (fun a ha => he a (u3.some _ a ha)), rfl, rfl⟩)))))
          · rw [ps_ch_neg hc3] at eA
            rw [if_neg hc3] at hl5
            rw [if_neg hc3, if_pos (show nI 0 = 0 by decide)]
            rw [eA] at hK
            exact hK.1 rfl h5 o hl5 (hx14.trans hx5)
      · rw [ps_ch_neg hc] at eA
        rw [if_neg hc] at hl3
        rw [if_neg hc, if_pos (show nI 0 = 0 by decide)]
        rw [eA] at hK
        exact hK.1 rfl h3 o hl3 (hx12.trans hx3)
  · have hj2 : j = 5 ∨ j = 6 := by omega
    have elg : Int32.toNatClampNeg (fs_lg j) = 1 := by rcases hj2 with rfl | rfl <;> decide
    have elg2 : ¬ fs_lg j < 0 := by rcases hj2 with rfl | rfl <;> decide
    refine ⟨j, by omega, rfl, elg2, by rw [elg]; decide, by omega, by rw [elg]; omega, fun z hz => ⟨2, ?_⟩⟩
    rw [elg]
    have hzl : z ≠ ln := fun w => hln (w ▸ hz)
    have hz1 : tr_in E (fs_up h z (.inl (E.1.2 6, 1, .inr (.inr (.inr (.inr (fun _ => none))))))) z 1 (fun _ => none) := fs_up_self
    have hl1 : pa_L E (fs_up h z (.inl (E.1.2 6, 1, .inr (.inr (.inr (.inr (fun _ => none))))))) ln ch f n p o := hl.new hz
    have hx1 : pa_x ln h (fs_up h z (.inl (E.1.2 6, 1, .inr (.inr (.inr (.inr (fun _ => none))))))) := pa_x.rf.new hz
    generalize fs_up h z (.inl (E.1.2 6, 1, .inr (.inr (.inr (.inr (fun _ => none)))))) = h1 at hz1 hl1 hx1 ⊢
    have eA : ps_args (P o) (pa_n f n) j p = ps_then (P o p) fun L1 q1 => (some (L1 ++ [(nI (j + 2), 0, 0, 0)]), q1) := if_neg h7
    have b1 : (P o p).2 ≤ (ps_args (P o) (pa_n f n) j p).2 := by
      rw [eA]
      exact ps_then_le fun _ _ => Nat.le_refl _
    have c1 : p ≤ (P o p).2 := (hge o p).1
    rw [w_LN_overLogics_L10]
    dsimp only
    refine fs_an_of hz1 ?_
    dsimp only
    rw [if_neg (show ¬ Int32.ofNat 1 ≤ 0 by decide), if_pos (show (0 : Int32) ≤ 0 by decide)]
    refine cp_arg (i := 0) hX hbo hl1 hz1 (by omega) (by omega) (by omega) (by omega) (fun e0 h' o' hl2 hx2 => ?_) (fun L1 e0 h2 r1 F1 hl2 hx2 hz2 t1 n1 f1 => ?_)
    · rw [ps_then_none e0] at eA
      rw [eA] at hK
      exact hK.1 rfl h' o' hl2 (fun a g1 g2 => by
        have g3 := hx1 a g1 g2
        rw [hx2 a g1 (fun w => g2 (w ▸ hz)) (by rw [g3]; exact g2), g3])
    · rw [ps_then_some e0] at eA
      have c1' : p < (P o p).2 := (hge o p).2 (by rw [e0]; exact fun w => by cases w)
      rw [eA] at hK hm hs
      generalize (P o p).2 = q1 at *
      have hm2 : 2 * (q1 - p) + 2 ≤ mc := hm
      have hs2 : 6 * (q1 - p) + 5 ≤ ms := hs
      have hx12 : pa_x ln h h2 := fun a g1 g2 => by
        have g3 := hx1 a g1 g2
        rw [hx2 a g1 (fun w => g2 (w ▸ hz)) (by rw [g3]; exact g2), g3]
      have hzn1 : h1 z ≠ none := by rw [hz1]; exact fun w => by cases w
      rw [w_LN_overLogics_L10]
      dsimp only
      refine fs_an_of hz2 ?_
      dsimp only
      rw [if_pos (show Int32.ofNat 1 ≤ nI (0 + 1) by decide)]
      have hrpk : ∀ (h' : fs_Hp) (r : Nat), (∀ a, h2 a ≠ none → h' a = h2 a) → h' r = some (.inr (8, [.ref (E.2 j), .ref z])) → rp ((q1 - p) + 1) E h' r (L1 ++ [(nI (j + 2), 0, 0, 0)]) (r :: z :: F1) := fun h' r he er => Or.inr (Or.inr (Or.inr (Or.inr (Or.inl ⟨j, z, r1, va_up (fun _ => none) 0 (some r1), L1, F1, hj2, er, (he z (by rw [hz2]; exact fun w => by cases w)).trans hz2, by simp [va_up], t1.kept _ (fun a ha => he a (t1.some _ a ha)), rfl, rfl⟩))))
      refine cp_mkCall (k := (q1 - p) + 1) (F := F1) (p0 := p0) hl2 hx12 (by rw [hz2]; exact fun w => by cases w) hz (fun w => hzn1 (f1 z w)) n1 (fun a ha => pa_fresh hx1 hl1.1 a (f1 a ha)) (fun a ha => t1.some _ a ha) (by omega) (by omega) (by omega) hrpk (fun h' r F' hS => hK.ok rfl hS)
