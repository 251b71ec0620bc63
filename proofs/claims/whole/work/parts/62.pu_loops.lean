/-! Pure: the class reads a formula by the rules. -/
/-- a part was read from p0 to q: it lies in h', new over h0 -/
def pa_S (E : fs_E) (h0 : fs_Hp) (ln ch : Nat) (f : Nat → Int32) (n p0 q o : Nat) (h' : fs_Hp) (r : Nat) (L : List It) (F : List Nat) : Prop :=
  pa_L E h' ln ch f n q o ∧ pa_x ln h0 h' ∧ rp (q - p0) E h' r L F ∧ F.Nodup ∧ ∀ a ∈ F, h0 a = none
theorem pa_K.of {E : fs_E} {h : fs_Hp} {ln ch : Nat} {f : Nat → Int32} {n p o : Nat} {r : ps_R (List It)} {Post : fs_Ps} (h1 : r.1 = none → ∀ (h' : fs_Hp) (o' : Nat), pa_L E h' ln ch f n r.2 o' → pa_x ln h h' → Post (.inl (some .null)) h') (h2 : ∀ L, r.1 = some L → ∀ (h' : fs_Hp) (q : Nat) (F : List Nat), pa_S E h ln ch f n p r.2 o h' q L F → Post (.inl (some (.ref q))) h') : pa_K E h ln ch f n p o r Post :=
  ⟨h1, fun L e h' q F a b c d e9 => h2 L e h' q F ⟨a, b, c, d, e9⟩⟩
theorem pa_K.ok {E : fs_E} {h : fs_Hp} {ln ch : Nat} {f : Nat → Int32} {n p o : Nat} {r : ps_R (List It)} {Post : fs_Ps} (hK : pa_K E h ln ch f n p o r Post) {L : List It} (e : r.1 = some L) {h' : fs_Hp} {q : Nat} {F : List Nat} (hS : pa_S E h ln ch f n p r.2 o h' q L F) : Post (.inl (some (.ref q))) h' := hK.2 L e h' q F hS.1 hS.2.1 hS.2.2.1 hS.2.2.2.1 hS.2.2.2.2
def pa_X (E : fs_E) (ln ch : Nat) (f : Nat → Int32) (n : Nat) (b : Nat) (W : Nat → Nat → fs_E → fs_Hp → Nat → fs_Ps → Prop) (P : Nat → Nat → ps_R (List It)) : Prop :=
  ∀ (h : fs_Hp) (p o mc ms : Nat) (Post : fs_Ps), b ≤ o → pa_L E h ln ch f n p o → 2 * ((P o p).2 - p) ≤ mc → 6 * ((P o p).2 - p) ≤ ms → pa_K E h ln ch f n p o (P o p) Post → W mc ms E h ln Post
/-- a tree that lies in h, h being new over h0, lies in all that comes -/
theorem pa_S.on {E : fs_E} {h0 h1 h2 : fs_Hp} {ln ch : Nat} {f : Nat → Int32} {n p0 q o k r : Nat} {L : List It} {F : List Nat} (hS : pa_S E h0 ln ch f n p0 q o h1 r L F) (hln : h0 ln ≠ none) (hx : pa_x ln h1 h2) (hk : q - p0 ≤ k) : rp k E h2 r L F :=
  (hS.2.2.1.kept _ (fun a ha => hx a (fun z => hln (z ▸ hS.2.2.2.2 a ha)) (hS.2.2.1.some _ a ha))).more _ hk
theorem pa_L.some {E : fs_E} {h : fs_Hp} {ln ch : Nat} {f : Nat → Int32} {n p o : Nat} (hl : pa_L E h ln ch f n p o) : h ln ≠ none := by
  rw [hl.1]
  exact fun z => by cases z
theorem mk_single {E : fs_E} {h : fs_Hp} {k q mc ms : Nat} {s w : Int32} {L : List It} {F : List Nat} {Post : fs_Ps} (hq : rp k E h q L F) (hs : (s = 45 ∧ w = 10) ∨ (s = 33 ∧ w = 33)) (hm : 2 ≤ mc) (hms : 3 ≤ ms)
    (K : ∀ (h' : fs_Hp) (r i : Nat), (∀ a, h a ≠ none → h' a = h a) → h r = none → h i = none → r ≠ i → rp (k + 1) E h' r (L ++ [(w, 0, 0, 0)]) (r :: i :: F) → Post (.inl (some (.ref r))) h') : w_LN_single mc ms E h s (some q) Post := by
  have hc : narrow .char (.int s) = .int s ∧ fits .char (.int s) = true := by
    rcases hs with ⟨rfl, -⟩ | ⟨rfl, -⟩
    · exact tr_char (c := 45) (by decide)
    · exact tr_char (c := 33) (by decide)
  unfold w_LN_single
  refine ⟨by omega, by omega, fun a ha => ⟨mc - 1, ms - 2, Nat.le_refl _, Nat.le_refl _, mk_SI fs_up_self (by omega) (by omega) ?_ hc (fun i g h' hi hne e1 e2 e3 e4 => fs_kv_of ?_)⟩⟩
  · obtain ⟨c, fs, e1, e2⟩ := fs_isP_some hq.isP
    exact fs_isP_of (fs_up_at (fun z => by rw [z, ha] at e1; cases e1) e1) e2
  have he := mk_ext ha hi e4
  refine K h' a i he ha (up_none hi).2 (Ne.symm hne) ?_
  exact Or.inr (Or.inr (Or.inl ⟨s, w, i, q, g, L, F, e1, e2, e3, hq.kept _ (fun x hx => he x (hq.some _ x hx)), hs, rfl, rfl⟩))
theorem mk_pair {E : fs_E} {h : fs_Hp} {k q1 q2 c mc ms : Nat} {L1 L2 : List It} {F1 F2 : List Nat} {Post : fs_Ps} (hq1 : rp k E h q1 L1 F1) (hq2 : rp k E h q2 L2 F2) (hs : tr_sg (nI c)) (hc : c < 128) (hm : 2 ≤ mc) (hms : 4 ≤ ms)
    (K : ∀ (h' : fs_Hp) (r i : Nat), (∀ a, h a ≠ none → h' a = h a) → h r = none → h i = none → r ≠ i → rp (k + 1) E h' r (L1 ++ L2 ++ [(nI c, 0, 0, 0)]) (r :: i :: (F1 ++ F2)) → Post (.inl (some (.ref r))) h') : w_LN_pair mc ms E h (nI c) (some q1) (some q2) Post := by
  unfold w_LN_pair
  refine ⟨by omega, by omega, fun a ha => ⟨mc - 1, ms - 2, Nat.le_refl _, Nat.le_refl _, mk_PA fs_up_self (by omega) (by omega) ?_ ?_ (tr_char hc) (fun i g h' hi hne e1 e2 e3 e3' e4 => fs_kv_of ?_)⟩⟩
  · obtain ⟨c, fs, e1, e2⟩ := fs_isP_some hq1.isP
    exact fs_isP_of (fs_up_at (fun z => by rw [z, ha] at e1; cases e1) e1) e2
  · obtain ⟨c, fs, e1, e2⟩ := fs_isP_some hq2.isP
    exact fs_isP_of (fs_up_at (fun z => by rw [z, ha] at e1; cases e1) e1) e2
  have he := mk_ext ha hi e4
  refine K h' a i he ha (up_none hi).2 (Ne.symm hne) ?_
  exact Or.inr (Or.inr (Or.inr (Or.inl ⟨nI c, i, q1, q2, g, L1, L2, F1, F2, e1, e2, e3, e3', hq1.kept _ (fun x hx => he x (hq1.some _ x hx)), hq2.kept _ (fun x hx => he x (hq2.some _ x hx)), hs, rfl, rfl⟩)))
/-- one more over one tree -/
theorem pa_S.one {E : fs_E} {h0 h1 h' : fs_Hp} {ln ch : Nat} {f : Nat → Int32} {n p0 p1 q o r i k : Nat} {L1 L : List It} {F : List Nat} {r1 : Nat} (hS : pa_S E h1 ln ch f n p1 q o h1 r1 L1 F ∨ True) (hl : pa_L E h1 ln ch f n q o) (hx : pa_x ln h0 h1) (hF : F.Nodup) (hf : ∀ a ∈ F, h0 a = none) (hso : ∀ a ∈ F, h1 a ≠ none) (he : ∀ a, h1 a ≠ none → h' a = h1 a) (hr : h1 r = none) (hi : h1 i = none) (hne : r ≠ i) (hrp : rp k E h' r L (r :: i :: F)) (hk : k ≤ q - p0) : pa_S E h0 ln ch f n p0 q o h' r L (r :: i :: F) := by
  refine ⟨hl.ext he, fun a g1 g2 => ?_, hrp.more _ hk, ?_, fun a ha => ?_⟩
  · have g3 := hx a g1 g2
    rw [he a (by rw [g3]; exact g2), g3]
  · have n1 : r ∉ F := fun z => hso r z hr
    have n2 : i ∉ F := fun z => hso i z hi
    simp [hne, n1, n2, hF]
  · simp only [List.mem_cons] at ha
    rcases ha with rfl | rfl | ha
    · exact pa_fresh hx hl.1 a hr
    · exact pa_fresh hx hl.1 a hi
    · exact hf a ha
theorem cp_closed {E : fs_E} {h0 h : fs_Hp} {ln ch : Nat} {f : Nat → Int32} {n p0 q o a : Nat} {L : List It} {F : List Nat} {Post : fs_Ps} (hS : pa_S E h0 ln ch f n p0 q (o + 1) h a L F) (hln : h0 ln ≠ none) (hp : p0 ≤ q)
    (hK : pa_K E h0 ln ch f n p0 o (ps_ch (pa_n f n) 41 q fun q1 => (some L, q1)) Post) : w_LN_closed E h ln (some a) Post := by
  have hl := hS.1
  unfold w_LN_closed
  refine ⟨hl.isc, pa_take2 (c := 41) hl (by omega) (by omega) (fun h1 hl1 hx1 => fs_ki_of ?_)⟩
  unfold ps_ch at hK
  by_cases hc : pa_n f n q = 41
  · rw [if_pos hc] at hl1 hK
    rw [if_pos hc, if_neg (show ¬ nI 1 = 0 by decide)]
    refine fs_gi_of hl1.1 rfl (fs_pw_of hl1.1 (Nat.le_of_ble_eq_true rfl) ?_)
    have e : nI (o + 1) - 1 = nI o := nI_pred o
    rw [e]
    have ho : o ≤ 6 := by have := hl1.2.2.2.2.1; omega
    have hl2 := hl1.at (q := q + 1) hl1.2.2.2.1 ho
    have hx2 : pa_x ln h (fs_up h1 ln (.inr (1, [.ref ch, .int (nI n), .int (nI (q + 1)), .int (nI o)]))) := hx1.trans pa_x.up
    refine hK.ok rfl ⟨hl2, hS.2.1.trans hx2, ?_, hS.2.2.2.1, hS.2.2.2.2⟩
    exact hS.on hln hx2 (by show q - p0 ≤ q + 1 - p0; omega)
  · rw [if_neg hc] at hl1 hK
    rw [if_neg hc, if_pos (show nI 0 = 0 by decide)]
    exact hK.1 rfl h1 (o + 1) hl1 (hS.2.1.trans hx1)
theorem ps_then_none {α β : Type} {r : ps_R α} {k : α → Nat → ps_R β} (h : r.1 = none) : ps_then r k = (none, r.2) := by
  obtain ⟨o, q⟩ := r
  cases h
  rfl
theorem ps_then_some {α β : Type} {r : ps_R α} {v : α} {k : α → Nat → ps_R β} (h : r.1 = some v) : ps_then r k = k v r.2 := by
  obtain ⟨o, q⟩ := r
  cases h
  rfl
theorem tr_sg_42 : tr_sg (nI 42) := by
  unfold tr_sg
  decide
theorem tr_sg_47 : tr_sg (nI 47) := by
  unfold tr_sg
  decide
theorem tr_sg_43 : tr_sg (nI 43) := by
  unfold tr_sg
  decide
theorem tr_sg_45 : tr_sg (nI 45) := by
  unfold tr_sg
  decide
theorem tr_sg_38 : tr_sg (nI 38) := by
  unfold tr_sg
  decide
theorem tr_sg_124 : tr_sg (nI 124) := by
  unfold tr_sg
  decide
theorem tr_sg_61 : tr_sg (nI 61) := by
  unfold tr_sg
  decide
theorem tr_sg_35 : tr_sg (nI 35) := by
  unfold tr_sg
  decide
theorem tr_sg_60 : tr_sg (nI 60) := by
  unfold tr_sg
  decide
theorem tr_sg_62 : tr_sg (nI 62) := by
  unfold tr_sg
  decide
theorem tr_sg_dec : tr_sg (nI 42) ∧ tr_sg (nI 47) ∧ tr_sg (nI 43) ∧ tr_sg (nI 45) ∧ tr_sg (nI 38) ∧ tr_sg (nI 124) ∧ tr_sg (nI 61) ∧ tr_sg (nI 35) ∧ tr_sg (nI 60) ∧ tr_sg (nI 62) := ⟨tr_sg_42, tr_sg_47, tr_sg_43, tr_sg_45, tr_sg_38, tr_sg_124, tr_sg_61, tr_sg_35, tr_sg_60, tr_sg_62⟩
theorem ps_loop_some {X : Nat → ps_R (List It)} {C : Nat → Nat} {s1 s2 k q : Nat} {L : List It} : ps_loop X C s1 s2 (k + 1) (some L, q) = if C q = s1 ∨ C q = s2 then ps_loop X C s1 s2 k (ps_then (X (q + 1)) fun L2 q2 => (some (L ++ L2 ++ [(nI (C q), 0, 0, 0)]), q2)) else (some L, q) := rfl
theorem cp_loop_product {E : fs_E} {h0 : fs_Hp} {ln ch : Nat} {f : Nat → Int32} {n p0 o b : Nat} {self : Nat → Nat → fs_E → fs_Hp → Nat → fs_Ps → Prop} {P : Nat → Nat → ps_R (List It)} {K : Option Nat → Nat → Nat → fs_Hp → Prop} {Post : fs_Ps} (hX : pa_X E ln ch f n b (w_LN_signed self) P) (hbo : b ≤ o) (hge : ∀ o q, ps_ge q (P o q)) (hln : h0 ln ≠ none) :
    ∀ (k i q r bc bs : Nat) (h : fs_Hp) (L : List It) (F : List Nat), i + k = 40 → p0 < q → pa_S E h0 ln ch f n p0 q o h r L F → 2 * ((ps_loop (P o) (pa_n f n) 42 47 k (some L, q)).2 - q) ≤ bc → 6 * ((ps_loop (P o) (pa_n f n) 42 47 k (some L, q)).2 - q) ≤ bs →
    ((ps_loop (P o) (pa_n f n) 42 47 k (some L, q)).1 = none → ∀ (h' : fs_Hp) (o' bc' bs' : Nat), pa_L E h' ln ch f n (ps_loop (P o) (pa_n f n) 42 47 k (some L, q)).2 o' → pa_x ln h0 h' → K none bc' bs' h') →
    (∀ L', (ps_loop (P o) (pa_n f n) 42 47 k (some L, q)).1 = some L' → ∀ (h' : fs_Hp) (r' bc' bs' : Nat) (F' : List Nat), pa_S E h0 ln ch f n p0 (ps_loop (P o) (pa_n f n) 42 47 k (some L, q)).2 o h' r' L' F' → K (some r') bc' bs' h') →
    w_LN_product_L7 self E K Post (k + 1) ln (some r) (nI i) bc bs h := by
  intro k
  induction k with
  | zero =>
    intro i q r bc bs h L F hi hp hS hm hs hN hY
    rw [w_LN_product_L7]
    dsimp only
    rw [if_pos (show (40 : Int32) ≤ nI i from nI_le (a := 40) (b := i) (by omega) (by omega))]
    exact hY L rfl h r bc bs F hS
  | succ k ih =>
    intro i q r bc bs h L F hi hp hS hm hs hN hY
    have hl := hS.1
    rw [ps_loop_some] at hm hs hN hY
    rw [w_LN_product_L7]
    dsimp only
    rw [if_neg (show ¬ (40 : Int32) ≤ nI i from nI_ge (a := i) (b := 40) (by omega) (by omega))]
    refine ⟨hl.isc, pa_nextIs hl (fs_ki_of ?_)⟩
    by_cases hc : pa_n f n q = 42 ∨ pa_n f n q = 47
    · rw [if_pos hc] at hm hs hN hY
      have hc2 : pa_c f n q = 42 ∨ pa_c f n q = 47 := hc.imp (fun z => (pa_ci (c := 42) hl (by omega) (by omega)).mpr z) (fun z => (pa_ci (c := 47) hl (by omega) (by omega)).mpr z)
      rw [if_pos hc2, if_neg (by decide)]
      obtain ⟨hqn, hlt, e⟩ := pa_lt hl (by omega)
      refine ⟨hl.isc, pa_takeNext hl hqn (fun hl2 => fs_ki_of ?_)⟩
      have hx2 : pa_x ln h (pa_up h ln ch n (q + 1) o) := pa_x.up
      rw [e]
      have g1 := hge o (q + 1)
      have gl : ∀ r0 : ps_R (List It), ps_ge (P o (q + 1)).2 r0 → (P o (q + 1)).2 ≤ (ps_loop (P o) (pa_n f n) 42 47 k r0).2 := fun r0 hr0 => (ps_loop_ge (fun q => hge o q) k (P o (q + 1)).2 r0 hr0).1
      have gg : (P o (q + 1)).2 ≤ (ps_loop (P o) (pa_n f n) 42 47 k (ps_then (P o (q + 1)) fun L2 q2 => (some (L ++ L2 ++ [(nI (pa_n f n q), 0, 0, 0)]), q2))).2 := by
        cases hz : (P o (q + 1)).1 with
        | none =>
          rw [ps_then_none hz]
          cases k with
          | zero => exact Nat.le_refl _
          | succ k => rw [ps_loop, ps_then_none rfl]; exact Nat.le_refl _
        | some L2 =>
          rw [ps_then_some hz]
          have : ∀ kk (x : List It) (y : Nat), y ≤ (ps_loop (P o) (pa_n f n) 42 47 kk (some x, y)).2 := by
            intro kk
            induction kk with
            | zero => intro x y; exact Nat.le_refl _
            | succ kk ih2 =>
              intro x y
              rw [ps_loop_some]
              split
              · have g2 := (hge o (y + 1)).1
                cases hz2 : (P o (y + 1)).1 with
                | none =>
                  rw [ps_then_none hz2]
                  have : ∀ k3, (ps_loop (P o) (pa_n f n) 42 47 k3 (none, (P o (y + 1)).2)).2 = (P o (y + 1)).2 := by
                    intro k3
                    cases k3 with
                    | zero => rfl
                    | succ k3 => rw [ps_loop, ps_then_none rfl]
                  rw [this]
                  omega
                | some L3 =>
                  rw [ps_then_some hz2]
                  exact Nat.le_trans (by omega) (ih2 _ _)
              · exact Nat.le_refl _
          exact this k _ _
      refine ⟨2 * ((P o (q + 1)).2 - (q + 1)), 6 * ((P o (q + 1)).2 - (q + 1)), by omega, by omega, hl2.isc, hX _ (q + 1) o _ _ _ hbo hl2 (Nat.le_refl _) (Nat.le_refl _) (pa_K.of (fun e0 h' o' hl3 hx3 => ?_) (fun L2 e0 h' r2 F2 hS2 => ?_))⟩
      · rw [ps_then_none e0] at hN hm hs gg
        refine fs_koN ⟨0, 0, by omega, by omega, ?_⟩
        unfold w_LN_pair
        refine fs_koN ?_
        have e40 : ∀ (z : Int32) (b1 b2 : Nat), K none b1 b2 h' → w_LN_product_L7 self E K Post (k + 1) ln none z b1 b2 h' := by
          intro z b1 b2 hk
          rw [w_LN_product_L7]
          dsimp only
          split
          · exact hk
          · exact hk
        refine e40 _ _ _ (hN ?_ h' o' _ _ ?_ (hS.2.1.trans (hx2.trans hx3)))
        · cases k with
          | zero => rfl
          | succ k => rw [ps_loop, ps_then_none rfl]
        · have : (ps_loop (P o) (pa_n f n) 42 47 k (none, (P o (q + 1)).2)).2 = (P o (q + 1)).2 := by
            cases k with
            | zero => rfl
            | succ k => rw [ps_loop, ps_then_none rfl]
          rw [this]
          exact hl3
      · rw [ps_then_some e0] at hN hm hs hY gg
        have hq2 : q + 1 < (P o (q + 1)).2 := g1.2 (by rw [e0]; exact fun z => by cases z)
        generalize hq2' : (P o (q + 1)).2 = q2 at *
        have t1 : rp (q2 - p0 - 1) E h' r L F := hS.on hln (hx2.trans hS2.2.1) (by omega)
        have t2 : rp (q2 - p0 - 1) E h' r2 L2 F2 := hS2.2.2.1.more _ (by omega)
        refine fs_koS ⟨2, 4, by omega, by omega, mk_pair t1 t2 ?_ hlt (by omega) (by omega) (fun h3 r3 i3 he hr hi3 hne hrp => fs_koS ?_)⟩
        · rcases hc with hc | hc
          · rw [hc]
            exact tr_sg_dec.1
          · rw [hc]
            exact tr_sg_dec.2.1
        · have hx9 : pa_x ln h0 h' := hS.2.1.trans (hx2.trans hS2.2.1)
          have hF2 : ∀ a ∈ F2, h0 a = none := fun a ha => pa_fresh (hS.2.1.trans hx2) hl2.1 a (hS2.2.2.2.2 a ha)
          have hdis : ∀ a ∈ F, a ∉ F2 := fun a ha ha2 => by
            have z1 := hS2.2.2.2.2 a ha2
            have z2 : pa_up h ln ch n (q + 1) o a = h a := hx2 a (fun z => hln (z ▸ hS.2.2.2.2 a ha)) (hS.2.2.1.some _ a ha)
            rw [z2] at z1
            exact hS.2.2.1.some _ a ha z1
          have hS3 : pa_S E h0 ln ch f n p0 q2 o h3 r3 (L ++ L2 ++ [(nI (pa_n f n q), 0, 0, 0)]) (r3 :: i3 :: (F ++ F2)) := by
            refine pa_S.one (L1 := []) (r1 := 0) (p1 := 0) (Or.inr trivial) hS2.1 hx9 ?_ ?_ ?_ he hr hi3 hne hrp (by omega)
            · exact List.nodup_append.mpr ⟨hS.2.2.2.1, hS2.2.2.2.1, fun a ha b hb z => hdis a ha (z ▸ hb)⟩
            · intro a ha
              rcases List.mem_append.mp ha with ha | ha
              · exact hS.2.2.2.2 a ha
              · exact hF2 a ha
            · intro a ha
              rcases List.mem_append.mp ha with ha | ha
              · exact t1.some _ a ha
              · exact t2.some _ a ha
          have e9 : nI i + 1 = nI (i + 1) := nI_1 i
          rw [e9]
          refine ih (i + 1) q2 r3 _ _ h3 _ _ (by omega) (by omega) hS3 (by omega) (by omega) (fun z h9 o9 b1 b2 => hN z h9 o9 b1 b2) (fun L' z h9 r9 b1 b2 F9 => hY L' z h9 r9 b1 b2 F9)
    · rw [if_neg hc] at hm hs hN hY
      have hc2 : ¬ (pa_c f n q = 42 ∨ pa_c f n q = 47) := fun z => hc (z.imp (fun z => (pa_ci (c := 42) hl (by omega) (by omega)).mp z) (fun z => (pa_ci (c := 47) hl (by omega) (by omega)).mp z))
      rw [if_neg hc2, if_pos rfl]
      exact hY L rfl h r bc bs F hS
theorem cp_loop_terms {E : fs_E} {h0 : fs_Hp} {ln ch : Nat} {f : Nat → Int32} {n p0 o b : Nat} {self : Nat → Nat → fs_E → fs_Hp → Nat → fs_Ps → Prop} {P : Nat → Nat → ps_R (List It)} {K : Option Nat → Nat → Nat → fs_Hp → Prop} {Post : fs_Ps} (hX : pa_X E ln ch f n b (w_LN_product self) P) (hbo : b ≤ o) (hge : ∀ o q, ps_ge q (P o q)) (hln : h0 ln ≠ none) :
    ∀ (k i q r bc bs : Nat) (h : fs_Hp) (L : List It) (F : List Nat), i + k = 40 → p0 < q → pa_S E h0 ln ch f n p0 q o h r L F → 2 * ((ps_loop (P o) (pa_n f n) 43 45 k (some L, q)).2 - q) ≤ bc → 6 * ((ps_loop (P o) (pa_n f n) 43 45 k (some L, q)).2 - q) ≤ bs →
    ((ps_loop (P o) (pa_n f n) 43 45 k (some L, q)).1 = none → ∀ (h' : fs_Hp) (o' bc' bs' : Nat), pa_L E h' ln ch f n (ps_loop (P o) (pa_n f n) 43 45 k (some L, q)).2 o' → pa_x ln h0 h' → K none bc' bs' h') →
    (∀ L', (ps_loop (P o) (pa_n f n) 43 45 k (some L, q)).1 = some L' → ∀ (h' : fs_Hp) (r' bc' bs' : Nat) (F' : List Nat), pa_S E h0 ln ch f n p0 (ps_loop (P o) (pa_n f n) 43 45 k (some L, q)).2 o h' r' L' F' → K (some r') bc' bs' h') →
    w_LN_terms_L7 self E K Post (k + 1) ln (some r) (nI i) bc bs h := by
  intro k
  induction k with
  | zero =>
    intro i q r bc bs h L F hi hp hS hm hs hN hY
    rw [w_LN_terms_L7]
    dsimp only
    rw [if_pos (show (40 : Int32) ≤ nI i from nI_le (a := 40) (b := i) (by omega) (by omega))]
    exact hY L rfl h r bc bs F hS
  | succ k ih =>
    intro i q r bc bs h L F hi hp hS hm hs hN hY
    have hl := hS.1
    rw [ps_loop_some] at hm hs hN hY
    rw [w_LN_terms_L7]
    dsimp only
    rw [if_neg (show ¬ (40 : Int32) ≤ nI i from nI_ge (a := i) (b := 40) (by omega) (by omega))]
    refine ⟨hl.isc, pa_nextIs hl (fs_ki_of ?_)⟩
    by_cases hc : pa_n f n q = 43 ∨ pa_n f n q = 45
    · rw [if_pos hc] at hm hs hN hY
      have hc2 : pa_c f n q = 43 ∨ pa_c f n q = 45 := hc.imp (fun z => (pa_ci (c := 43) hl (by omega) (by omega)).mpr z) (fun z => (pa_ci (c := 45) hl (by omega) (by omega)).mpr z)
      rw [if_pos hc2, if_neg (by decide)]
      obtain ⟨hqn, hlt, e⟩ := pa_lt hl (by omega)
      refine ⟨hl.isc, pa_takeNext hl hqn (fun hl2 => fs_ki_of ?_)⟩
      have hx2 : pa_x ln h (pa_up h ln ch n (q + 1) o) := pa_x.up
      rw [e]
      have g1 := hge o (q + 1)
      have gl : ∀ r0 : ps_R (List It), ps_ge (P o (q + 1)).2 r0 → (P o (q + 1)).2 ≤ (ps_loop (P o) (pa_n f n) 43 45 k r0).2 := fun r0 hr0 => (ps_loop_ge (fun q => hge o q) k (P o (q + 1)).2 r0 hr0).1
      have gg : (P o (q + 1)).2 ≤ (ps_loop (P o) (pa_n f n) 43 45 k (ps_then (P o (q + 1)) fun L2 q2 => (some (L ++ L2 ++ [(nI (pa_n f n q), 0, 0, 0)]), q2))).2 := by
        cases hz : (P o (q + 1)).1 with
        | none =>
          rw [ps_then_none hz]
          cases k with
          | zero => exact Nat.le_refl _
          | succ k => rw [ps_loop, ps_then_none rfl]; exact Nat.le_refl _
        | some L2 =>
          rw [ps_then_some hz]
          have : ∀ kk (x : List It) (y : Nat), y ≤ (ps_loop (P o) (pa_n f n) 43 45 kk (some x, y)).2 := by
            intro kk
            induction kk with
            | zero => intro x y; exact Nat.le_refl _
            | succ kk ih2 =>
              intro x y
              rw [ps_loop_some]
              split
              · have g2 := (hge o (y + 1)).1
                cases hz2 : (P o (y + 1)).1 with
                | none =>
                  rw [ps_then_none hz2]
                  have : ∀ k3, (ps_loop (P o) (pa_n f n) 43 45 k3 (none, (P o (y + 1)).2)).2 = (P o (y + 1)).2 := by
                    intro k3
                    cases k3 with
                    | zero => rfl
                    | succ k3 => rw [ps_loop, ps_then_none rfl]
                  rw [this]
                  omega
                | some L3 =>
                  rw [ps_then_some hz2]
                  exact Nat.le_trans (by omega) (ih2 _ _)
              · exact Nat.le_refl _
          exact this k _ _
      refine ⟨2 * ((P o (q + 1)).2 - (q + 1)), 6 * ((P o (q + 1)).2 - (q + 1)), by omega, by omega, hl2.isc, hX _ (q + 1) o _ _ _ hbo hl2 (Nat.le_refl _) (Nat.le_refl _) (pa_K.of (fun e0 h' o' hl3 hx3 => ?_) (fun L2 e0 h' r2 F2 hS2 => ?_))⟩
      · rw [ps_then_none e0] at hN hm hs gg
        refine fs_koN ⟨0, 0, by omega, by omega, ?_⟩
        unfold w_LN_pair
        refine fs_koN ?_
        have e40 : ∀ (z : Int32) (b1 b2 : Nat), K none b1 b2 h' → w_LN_terms_L7 self E K Post (k + 1) ln none z b1 b2 h' := by
          intro z b1 b2 hk
          rw [w_LN_terms_L7]
          dsimp only
          split
          · exact hk
          · exact hk
        refine e40 _ _ _ (hN ?_ h' o' _ _ ?_ (hS.2.1.trans (hx2.trans hx3)))
        · cases k with
          | zero => rfl
          | succ k => rw [ps_loop, ps_then_none rfl]
        · have : (ps_loop (P o) (pa_n f n) 43 45 k (none, (P o (q + 1)).2)).2 = (P o (q + 1)).2 := by
            cases k with
            | zero => rfl
            | succ k => rw [ps_loop, ps_then_none rfl]
          rw [this]
          exact hl3
      · rw [ps_then_some e0] at hN hm hs hY gg
        have hq2 : q + 1 < (P o (q + 1)).2 := g1.2 (by rw [e0]; exact fun z => by cases z)
        generalize hq2' : (P o (q + 1)).2 = q2 at *
        have t1 : rp (q2 - p0 - 1) E h' r L F := hS.on hln (hx2.trans hS2.2.1) (by omega)
        have t2 : rp (q2 - p0 - 1) E h' r2 L2 F2 := hS2.2.2.1.more _ (by omega)
        refine fs_koS ⟨2, 4, by omega, by omega, mk_pair t1 t2 ?_ hlt (by omega) (by omega) (fun h3 r3 i3 he hr hi3 hne hrp => fs_koS ?_)⟩
        · rcases hc with hc | hc
          · rw [hc]
            exact tr_sg_dec.2.2.1
          · rw [hc]
            exact tr_sg_dec.2.2.2.1
        · have hx9 : pa_x ln h0 h' := hS.2.1.trans (hx2.trans hS2.2.1)
          have hF2 : ∀ a ∈ F2, h0 a = none := fun a ha => pa_fresh (hS.2.1.trans hx2) hl2.1 a (hS2.2.2.2.2 a ha)
          have hdis : ∀ a ∈ F, a ∉ F2 := fun a ha ha2 => by
            have z1 := hS2.2.2.2.2 a ha2
            have z2 : pa_up h ln ch n (q + 1) o a = h a := hx2 a (fun z => hln (z ▸ hS.2.2.2.2 a ha)) (hS.2.2.1.some _ a ha)
            rw [z2] at z1
            exact hS.2.2.1.some _ a ha z1
          have hS3 : pa_S E h0 ln ch f n p0 q2 o h3 r3 (L ++ L2 ++ [(nI (pa_n f n q), 0, 0, 0)]) (r3 :: i3 :: (F ++ F2)) := by
            refine pa_S.one (L1 := []) (r1 := 0) (p1 := 0) (Or.inr trivial) hS2.1 hx9 ?_ ?_ ?_ he hr hi3 hne hrp (by omega)
            · exact List.nodup_append.mpr ⟨hS.2.2.2.1, hS2.2.2.2.1, fun a ha b hb z => hdis a ha (z ▸ hb)⟩
            · intro a ha
              rcases List.mem_append.mp ha with ha | ha
              · exact hS.2.2.2.2 a ha
              · exact hF2 a ha
            · intro a ha
              rcases List.mem_append.mp ha with ha | ha
              · exact t1.some _ a ha
              · exact t2.some _ a ha
          have e9 : nI i + 1 = nI (i + 1) := nI_1 i
          rw [e9]
          refine ih (i + 1) q2 r3 _ _ h3 _ _ (by omega) (by omega) hS3 (by omega) (by omega) (fun z h9 o9 b1 b2 => hN z h9 o9 b1 b2) (fun L' z h9 r9 b1 b2 F9 => hY L' z h9 r9 b1 b2 F9)
    · rw [if_neg hc] at hm hs hN hY
      have hc2 : ¬ (pa_c f n q = 43 ∨ pa_c f n q = 45) := fun z => hc (z.imp (fun z => (pa_ci (c := 43) hl (by omega) (by omega)).mp z) (fun z => (pa_ci (c := 45) hl (by omega) (by omega)).mp z))
      rw [if_neg hc2, if_pos rfl]
      exact hY L rfl h r bc bs F hS
theorem cp_loop_logic {E : fs_E} {h0 : fs_Hp} {ln ch : Nat} {f : Nat → Int32} {n p0 o b : Nat} {self : Nat → Nat → fs_E → fs_Hp → Nat → fs_Ps → Prop} {P : Nat → Nat → ps_R (List It)} {K : Option Nat → Nat → Nat → fs_Hp → Prop} {Post : fs_Ps} (hX : pa_X E ln ch f n b (w_LN_comparison self) P) (hbo : b ≤ o) (hge : ∀ o q, ps_ge q (P o q)) (hln : h0 ln ≠ none) :
    ∀ (k i q r bc bs : Nat) (h : fs_Hp) (L : List It) (F : List Nat), i + k = 40 → p0 < q → pa_S E h0 ln ch f n p0 q o h r L F → 2 * ((ps_loop (P o) (pa_n f n) 38 124 k (some L, q)).2 - q) ≤ bc → 6 * ((ps_loop (P o) (pa_n f n) 38 124 k (some L, q)).2 - q) ≤ bs →
    ((ps_loop (P o) (pa_n f n) 38 124 k (some L, q)).1 = none → ∀ (h' : fs_Hp) (o' bc' bs' : Nat), pa_L E h' ln ch f n (ps_loop (P o) (pa_n f n) 38 124 k (some L, q)).2 o' → pa_x ln h0 h' → K none bc' bs' h') →
    (∀ L', (ps_loop (P o) (pa_n f n) 38 124 k (some L, q)).1 = some L' → ∀ (h' : fs_Hp) (r' bc' bs' : Nat) (F' : List Nat), pa_S E h0 ln ch f n p0 (ps_loop (P o) (pa_n f n) 38 124 k (some L, q)).2 o h' r' L' F' → K (some r') bc' bs' h') →
    w_LN_logic_L7 self E K Post (k + 1) ln (some r) (nI i) bc bs h := by
  intro k
  induction k with
  | zero =>
    intro i q r bc bs h L F hi hp hS hm hs hN hY
    rw [w_LN_logic_L7]
    dsimp only
    rw [if_pos (show (40 : Int32) ≤ nI i from nI_le (a := 40) (b := i) (by omega) (by omega))]
    exact hY L rfl h r bc bs F hS
  | succ k ih =>
    intro i q r bc bs h L F hi hp hS hm hs hN hY
    have hl := hS.1
    rw [ps_loop_some] at hm hs hN hY
    rw [w_LN_logic_L7]
    dsimp only
    rw [if_neg (show ¬ (40 : Int32) ≤ nI i from nI_ge (a := i) (b := 40) (by omega) (by omega))]
    refine ⟨hl.isc, pa_nextIs hl (fs_ki_of ?_)⟩
    by_cases hc : pa_n f n q = 38 ∨ pa_n f n q = 124
    · rw [if_pos hc] at hm hs hN hY
      have hc2 : pa_c f n q = 38 ∨ pa_c f n q = 124 := hc.imp (fun z => (pa_ci (c := 38) hl (by omega) (by omega)).mpr z) (fun z => (pa_ci (c := 124) hl (by omega) (by omega)).mpr z)
      rw [if_pos hc2, if_neg (by decide)]
      obtain ⟨hqn, hlt, e⟩ := pa_lt hl (by omega)
      refine ⟨hl.isc, pa_takeNext hl hqn (fun hl2 => fs_ki_of ?_)⟩
      have hx2 : pa_x ln h (pa_up h ln ch n (q + 1) o) := pa_x.up
      rw [e]
      have g1 := hge o (q + 1)
      have gl : ∀ r0 : ps_R (List It), ps_ge (P o (q + 1)).2 r0 → (P o (q + 1)).2 ≤ (ps_loop (P o) (pa_n f n) 38 124 k r0).2 := fun r0 hr0 => (ps_loop_ge (fun q => hge o q) k (P o (q + 1)).2 r0 hr0).1
      have gg : (P o (q + 1)).2 ≤ (ps_loop (P o) (pa_n f n) 38 124 k (ps_then (P o (q + 1)) fun L2 q2 => (some (L ++ L2 ++ [(nI (pa_n f n q), 0, 0, 0)]), q2))).2 := by
        cases hz : (P o (q + 1)).1 with
        | none =>
          rw [ps_then_none hz]
          cases k with
          | zero => exact Nat.le_refl _
          | succ k => rw [ps_loop, ps_then_none rfl]; exact Nat.le_refl _
        | some L2 =>
          rw [ps_then_some hz]
          have : ∀ kk (x : List It) (y : Nat), y ≤ (ps_loop (P o) (pa_n f n) 38 124 kk (some x, y)).2 := by
            intro kk
            induction kk with
            | zero => intro x y; exact Nat.le_refl _
            | succ kk ih2 =>
              intro x y
              rw [ps_loop_some]
              split
              · have g2 := (hge o (y + 1)).1
                cases hz2 : (P o (y + 1)).1 with
                | none =>
                  rw [ps_then_none hz2]
                  have : ∀ k3, (ps_loop (P o) (pa_n f n) 38 124 k3 (none, (P o (y + 1)).2)).2 = (P o (y + 1)).2 := by
                    intro k3
                    cases k3 with
                    | zero => rfl
                    | succ k3 => rw [ps_loop, ps_then_none rfl]
                  rw [this]
                  omega
                | some L3 =>
                  rw [ps_then_some hz2]
                  exact Nat.le_trans (by omega) (ih2 _ _)
              · exact Nat.le_refl _
          exact this k _ _
      refine ⟨2 * ((P o (q + 1)).2 - (q + 1)), 6 * ((P o (q + 1)).2 - (q + 1)), by omega, by omega, hl2.isc, hX _ (q + 1) o _ _ _ hbo hl2 (Nat.le_refl _) (Nat.le_refl _) (pa_K.of (fun e0 h' o' hl3 hx3 => ?_) (fun L2 e0 h' r2 F2 hS2 => ?_))⟩
      · rw [ps_then_none e0] at hN hm hs gg
        refine fs_koN ⟨0, 0, by omega, by omega, ?_⟩
        unfold w_LN_pair
        refine fs_koN ?_
        have e40 : ∀ (z : Int32) (b1 b2 : Nat), K none b1 b2 h' → w_LN_logic_L7 self E K Post (k + 1) ln none z b1 b2 h' := by
          intro z b1 b2 hk
          rw [w_LN_logic_L7]
          dsimp only
          split
          · exact hk
          · exact hk
        refine e40 _ _ _ (hN ?_ h' o' _ _ ?_ (hS.2.1.trans (hx2.trans hx3)))
        · cases k with
          | zero => rfl
          | succ k => rw [ps_loop, ps_then_none rfl]
        · have : (ps_loop (P o) (pa_n f n) 38 124 k (none, (P o (q + 1)).2)).2 = (P o (q + 1)).2 := by
            cases k with
            | zero => rfl
            | succ k => rw [ps_loop, ps_then_none rfl]
          rw [this]
          exact hl3
      · rw [ps_then_some e0] at hN hm hs hY gg
        have hq2 : q + 1 < (P o (q + 1)).2 := g1.2 (by rw [e0]; exact fun z => by cases z)
        generalize hq2' : (P o (q + 1)).2 = q2 at *
        have t1 : rp (q2 - p0 - 1) E h' r L F := hS.on hln (hx2.trans hS2.2.1) (by omega)
        have t2 : rp (q2 - p0 - 1) E h' r2 L2 F2 := hS2.2.2.1.more _ (by omega)
        refine fs_koS ⟨2, 4, by omega, by omega, mk_pair t1 t2 ?_ hlt (by omega) (by omega) (fun h3 r3 i3 he hr hi3 hne hrp => fs_koS ?_)⟩
        · rcases hc with hc | hc
          · rw [hc]
            exact tr_sg_dec.2.2.2.2.1
          · rw [hc]
            exact tr_sg_dec.2.2.2.2.2.1
        · have hx9 : pa_x ln h0 h' := hS.2.1.trans (hx2.trans hS2.2.1)
          have hF2 : ∀ a ∈ F2, h0 a = none := fun a ha => pa_fresh (hS.2.1.trans hx2) hl2.1 a (hS2.2.2.2.2 a ha)
          have hdis : ∀ a ∈ F, a ∉ F2 := fun a ha ha2 => by
            have z1 := hS2.2.2.2.2 a ha2
            have z2 : pa_up h ln ch n (q + 1) o a = h a := hx2 a (fun z => hln (z ▸ hS.2.2.2.2 a ha)) (hS.2.2.1.some _ a ha)
            rw [z2] at z1
            exact hS.2.2.1.some _ a ha z1
          have hS3 : pa_S E h0 ln ch f n p0 q2 o h3 r3 (L ++ L2 ++ [(nI (pa_n f n q), 0, 0, 0)]) (r3 :: i3 :: (F ++ F2)) := by
            refine pa_S.one (L1 := []) (r1 := 0) (p1 := 0) (Or.inr trivial) hS2.1 hx9 ?_ ?_ ?_ he hr hi3 hne hrp (by omega)
            · exact List.nodup_append.mpr ⟨hS.2.2.2.1, hS2.2.2.2.1, fun a ha b hb z => hdis a ha (z ▸ hb)⟩
            · intro a ha
              rcases List.mem_append.mp ha with ha | ha
              · exact hS.2.2.2.2 a ha
              · exact hF2 a ha
            · intro a ha
              rcases List.mem_append.mp ha with ha | ha
              · exact t1.some _ a ha
              · exact t2.some _ a ha
          have e9 : nI i + 1 = nI (i + 1) := nI_1 i
          rw [e9]
          refine ih (i + 1) q2 r3 _ _ h3 _ _ (by omega) (by omega) hS3 (by omega) (by omega) (fun z h9 o9 b1 b2 => hN z h9 o9 b1 b2) (fun L' z h9 r9 b1 b2 F9 => hY L' z h9 r9 b1 b2 F9)
    · rw [if_neg hc] at hm hs hN hY
      have hc2 : ¬ (pa_c f n q = 38 ∨ pa_c f n q = 124) := fun z => hc (z.imp (fun z => (pa_ci (c := 38) hl (by omega) (by omega)).mp z) (fun z => (pa_ci (c := 124) hl (by omega) (by omega)).mp z))
      rw [if_neg hc2, if_pos rfl]
      exact hY L rfl h r bc bs F hS
