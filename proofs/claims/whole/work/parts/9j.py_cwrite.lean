/-! Pure: the class writes a formula. -/
theorem gS.obj {E : fs_E} {h h' : fs_Hp} {sb v cap q c : Nat} {t : List Nat} {fs : List Value} (a : sbR E h sb v cap t) (g : gS sb v h h') (e : h q = some (.inr (c, fs))) (hc : c ≠ 11) : h' q = some (.inr (c, fs)) := by
  obtain ⟨f, x2, h1, h2, _⟩ := a
  refine (g q (fun z => ?_) (fun z => ?_) (by rw [e]; exact fun z => by cases z)).trans e
  · rw [z, h1] at e; cases e; exact hc rfl
  · rw [z, h2] at e; cases e
theorem gS.arr {E : fs_E} {h h' : fs_Hp} {sb v cap q m : Nat} {t : List Nat} {gg : Nat → Option Nat} (a : sbR E h sb v cap t) (g : gS sb v h h') (e : tr_in E h q m gg) : tr_in E h' q m gg := by
  obtain ⟨f, x2, h1, h2, _⟩ := a
  refine e.kept (g q (fun z => ?_) (fun z => ?_) (by unfold tr_in at e; rw [e]; exact fun z => by cases z))
  · unfold tr_in at e; rw [z, h1] at e; cases e
  · unfold tr_in at e; rw [z, h2] at e; exact ar_no e (by simp [akd])
/-- ready to write the pieces P, up to the text T; h0: where it all began -/
def Gd (E : fs_E) (h0 : fs_Hp) (sb v0 : Nat) (T : List Nat) (Cf : Nat) (P : Ck) (mc ms : Nat) (h : fs_Hp) : Prop := ∃ v cap t, sbR E h sb v cap t ∧ gS sb v0 h0 h ∧ (v = v0 ∨ h0 v = none) ∧ 11 ≤ cap ∧ T = t ++ P.flatten ∧ Cf = capC cap t.length P ∧ T.length ≤ 400 ∧ lev cap - lev Cf ≤ mc ∧ 802 * (lev cap - lev Cf) ≤ ms
theorem Gd.isc {E : fs_E} {h0 h : fs_Hp} {sb v0 Cf mc ms : Nat} {T : List Nat} {P : Ck} (g : Gd E h0 sb v0 T Cf P mc ms h) : fs_isc h sb 11 := by
  obtain ⟨v, cap, t, ⟨f, x2, h1, _⟩, _⟩ := g
  exact fs_isc_of h1
theorem Gd.step {E : fs_E} {h0 h : fs_Hp} {sb v0 Cf mc ms : Nat} {T u : List Nat} {Q : Ck} (g : Gd E h0 sb v0 T Cf (u :: Q) mc ms h) : ∃ (v cap : Nat) (t : List Nat) (c s : Nat), sbR E h sb v cap t ∧ 11 ≤ cap ∧ t.length + u.length ≤ 400 ∧ c ≤ mc ∧ s ≤ ms ∧ lev cap - lev (capN cap (t.length + u.length)) ≤ c ∧ 802 * (lev cap - lev (capN cap (t.length + u.length))) ≤ s ∧ ∀ h' v', sbR E h' sb v' (capN cap (t.length + u.length)) (t ++ u) → gS sb v h h' → (v' = v ∨ h v' = none) → Gd E h0 sb v0 T Cf Q (mc - c) (ms - s) h' := by
  obtain ⟨v, cap, t, a1, a2, a3, a4, a5, a6, a7, a8, a9⟩ := g
  have g1 := (capN_ge cap (t.length + u.length)).1
  have g2 := capC_ge Q (capN cap (t.length + u.length)) (t.length + u.length)
  have e6 : Cf = capC (capN cap (t.length + u.length)) (t.length + u.length) Q := a6
  rw [← e6] at g2
  obtain ⟨b1, b2⟩ := bud a8 g1 g2
  obtain ⟨b3, b4⟩ := bud2 a9 g1 g2
  have hlen : t.length + u.length ≤ 400 := by
    rw [a5, List.length_append, List.flatten_cons, List.length_append] at a7
    omega
  refine ⟨v, cap, t, _, _, a1, a4, hlen, b1, b3, Nat.le_refl _, Nat.le_refl _, fun h' v' c1 c2 c3 => ⟨v', _, t ++ u, c1, a2.trans a3 c2, ?_, Nat.le_trans a4 g1, ?_, ?_, a7, b2, b4⟩⟩
  · rcases c3 with z | z
    · rw [z]; exact a3
    · by_cases hv : v' = v0
      · exact Or.inl hv
      · refine Or.inr ?_
        cases e : h0 v' with
        | none => rfl
        | some y =>
          exfalso
          have hsb : v' ≠ sb := fun w => by
            obtain ⟨f, x2, k1, _⟩ := a1
            rw [w, k1] at z; cases z
          have := a2 v' hsb hv (by rw [e]; exact fun q => by cases q)
          rw [z, e] at this; cases this
  · rw [a5, List.flatten_cons, List.append_assoc]
  · rw [List.length_append]; exact e6
theorem Gd.obj {E : fs_E} {h0 h : fs_Hp} {sb v0 cap0 Cf mc ms q c : Nat} {T t0 : List Nat} {P : Ck} {fs : List Value} (g : Gd E h0 sb v0 T Cf P mc ms h) (a : sbR E h0 sb v0 cap0 t0) (e : h0 q = some (.inr (c, fs))) (hc : c ≠ 11) : h q = some (.inr (c, fs)) := by
  obtain ⟨v, cap, t, a1, a2, _⟩ := g
  exact gS.obj a a2 e hc
theorem Gd.arr {E : fs_E} {h0 h : fs_Hp} {sb v0 cap0 Cf mc ms q m : Nat} {T t0 : List Nat} {P : Ck} {gg : Nat → Option Nat} (g : Gd E h0 sb v0 T Cf P mc ms h) (a : sbR E h0 sb v0 cap0 t0) (e : tr_in E h0 q m gg) : tr_in E h q m gg := by
  obtain ⟨v, cap, t, a1, a2, _⟩ := g
  exact gS.arr a a2 e
theorem g_chr {E : fs_E} {h0 h : fs_Hp} {sb v0 Cf mc ms c : Nat} {T : List Nat} {Q : Ck} {Post : Nat → Nat → fs_Ps} (g : Gd E h0 sb v0 T Cf ([c] :: Q) mc ms h) (hc : c < 128) (K : ∀ c' s' h', Gd E h0 sb v0 T Cf Q (mc - c') (ms - s') h' → Post c' s' (.inl (some (.ref sb))) h') : ∃ c' s' : Nat, c' ≤ mc ∧ s' ≤ ms ∧ (fs_isc h sb 11 ∧ w_SB_append_882 c' s' E h sb (nI c) (Post c' s')) := by
  have hi := g.isc
  obtain ⟨v, cap, t, c', s', a1, a2, a3, a4, a5, a6, a7, a8⟩ := g.step
  exact ⟨c', s', a4, a5, hi, sb_chr a1 hc a3 a2 a6 a7 fun h' v' b1 b2 b3 => K c' s' h' (a8 h' v' b1 b2 b3)⟩
theorem g_str {E : fs_E} {h0 h : fs_Hp} {sb v0 Cf mc ms j : Nat} {T : List Nat} {Q : Ck} {Post : Nat → Nat → fs_Ps} (g : Gd E h0 sb v0 T Cf (ps_ob j :: Q) mc ms h) (hj : j < 8) (K : ∀ c' s' h', Gd E h0 sb v0 T Cf Q (mc - c') (ms - s') h' → Post c' s' (.inl (some (.ref sb))) h') : ∃ c' s' : Nat, c' ≤ mc ∧ s' ≤ ms ∧ (fs_isc h sb 11 ∧ w_SB_append_59e c' s' E h sb j (Post c' s')) := by
  have hi := g.isc
  obtain ⟨v, cap, t, c', s', a1, a2, a3, a4, a5, a6, a7, a8⟩ := g.step
  exact ⟨c', s', a4, a5, hi, sb_str a1 hj a3 a2 a6 a7 fun h' v' b1 b2 b3 => K c' s' h' (a8 h' v' b1 b2 b3)⟩
theorem g_int {E : fs_E} {h0 h : fs_Hp} {sb v0 Cf mc ms w : Nat} {T : List Nat} {Q : Ck} {Post : Nat → Nat → fs_Ps} (g : Gd E h0 sb v0 T Cf (dgl (dsz w) w :: Q) mc ms h) (hw : w < 1000000000) (K : ∀ c' s' h', Gd E h0 sb v0 T Cf Q (mc - c') (ms - s') h' → Post c' s' (.inl (some (.ref sb))) h') : ∃ c' s' : Nat, c' ≤ mc ∧ s' ≤ ms ∧ (fs_isc h sb 11 ∧ w_SB_append_7d3 c' s' E h sb (nI w) (Post c' s')) := by
  have hi := g.isc
  obtain ⟨v, cap, t, c', s', a1, a2, a3, a4, a5, a6, a7, a8⟩ := g.step
  rw [dgl_len] at a3 a6 a7 a8
  exact ⟨c', s', a4, a5, hi, sb_int a1 hw a3 a2 a6 a7 fun h' v' b1 b2 b3 => K c' s' h' (a8 h' v' b1 b2 b3)⟩
/-- a part of the writing -/
theorem g_sub {E : fs_E} {h0 h : fs_Hp} {sb v0 Cf mc ms : Nat} {T : List Nat} {P Q : Ck} (g : Gd E h0 sb v0 T Cf (P ++ Q) mc ms h) : ∃ T' Cf' c s, c ≤ mc ∧ s ≤ ms ∧ Gd E h0 sb v0 T' Cf' P c s h ∧ ∀ h' mc' ms', Gd E h0 sb v0 T' Cf' [] mc' ms' h' → Gd E h0 sb v0 T Cf Q (mc - c) (ms - s) h' := by
  obtain ⟨v, cap, t, a1, a2, a3, a4, a5, a6, a7, a8, a9⟩ := g
  rw [capC_app] at a6
  have g1 := capC_ge P cap t.length
  have g2 := capC_ge Q (capC cap t.length P) (t.length + P.flatten.length)
  rw [← a6] at g2
  obtain ⟨b1, b2⟩ := bud a8 g1 g2
  obtain ⟨b3, b4⟩ := bud2 a9 g1 g2
  refine ⟨t ++ P.flatten, capC cap t.length P, _, _, b1, b3, ⟨v, cap, t, a1, a2, a3, a4, rfl, rfl, ?_, Nat.le_refl _, Nat.le_refl _⟩, fun h' mc' ms' g' => ?_⟩
  · rw [a5, List.length_append, List.flatten_append, List.length_append] at a7
    rw [List.length_append]
    omega
  · obtain ⟨v', cap', t', c1, c2, c3, c4, c5, c6, c7, c8, c9⟩ := g'
    have e1 : t' = t ++ P.flatten := by
      rw [List.flatten_nil, List.append_nil] at c5
      exact c5.symm
    have e2 : cap' = capC cap t.length P := c6.symm
    subst e1
    subst e2
    refine ⟨v', _, _, c1, c2, c3, c4, ?_, ?_, a7, b2, b4⟩
    · rw [a5, List.flatten_append, List.append_assoc]
    · rw [a6, List.length_append]
theorem chr97 : ∀ C, C < 8 → (Int32.toUInt32 (97 + nI C) % 65536).toInt32 = nI (97 + C) := by decide
theorem x_bits {C W A B : Nat} (h1 : C < 8) (h2 : W < 10) (h3 : A < 2) (h4 : B < 2) : xA (nI (C + 8 * W + 128 * A + 256 * B)) = (A == 1) ∧ xB (nI (C + 8 * W + 128 * A + 256 * B)) = (B == 1) := by
  unfold xA xB
  rw [nI_clamp (by omega), show (C + 8 * W + 128 * A + 256 * B) / 128 % 2 = A by omega, show (C + 8 * W + 128 * A + 256 * B) / 256 % 2 = B by omega]
  exact ⟨rfl, rfl⟩
theorem wr_ref {self : Nat → Nat → fs_E → fs_Hp → Nat → Nat → fs_Ps → Prop} {E : fs_E} {h0 h : fs_Hp} {sb v0 cap0 Cf mc ms r : Nat} {T t0 : List Nat} {x : Int32} {F : List Nat} {Post : fs_Ps} (p : tr_rf E h0 r x F) (a : sbR E h0 sb v0 cap0 t0) (g : Gd E h0 sb v0 T Cf (rfC x) mc ms h) (K : ∀ h' mc' ms', Gd E h0 sb v0 T Cf [] mc' ms' h' → Post (.inl none) h') : w_RE_writeBare self mc ms E h r sb Post := by
  obtain ⟨cf, rf, c, w, lo, i, gg, h1, h2, h3, h4⟩ := p
  unfold w_RE_writeBare
  refine fs_gi_of (g.obj a h1 (by decide)) rfl ?_
  rcases h3.2 with ⟨l1, l2⟩ | ⟨l1, C, W, A, B, m1, m2, m3, m4, m5, m6, m7, m8, m9⟩
  · rw [if_neg (by rw [l1]; decide)]
    have e : rfC x = [[126]] := by
      unfold rfC
      rw [l2, rf_512, if_neg (by decide)]
    rw [e] at g
    exact g_chr (c := 126) g (by decide) fun c' s' h' g' => fs_kr_of (K h' _ _ g')
  · rw [if_pos l1]
    obtain ⟨d1, d2, d3⟩ := rf_dec C m1 W m2 A m3 B m4
    obtain ⟨xa, xb⟩ := x_bits m1 m2 m3 m4
    have e : rfC x = dolC (A == 1) ++ ([97 + C] :: (dolC (B == 1) ++ [dgl (dsz (W + 1)) (W + 1)])) := by
      unfold rfC
      rw [m9, d3, if_pos rfl, xa, xb, d1, d2, List.append_assoc, List.append_assoc]
      rfl
    rw [e] at g
    have j56 : ∀ mc ms h, Gd E h0 sb v0 T Cf [dgl (dsz (W + 1)) (W + 1)] mc ms h → w_RE_writeBare_J56 self E Post r sb mc ms h := by
      intro mc ms h g
      unfold w_RE_writeBare_J56
      refine fs_gi_of (g.obj a h1 (by decide)) rfl ?_
      rw [m8, nI_1]
      exact g_int g (by omega) fun c' s' h' g' => fs_kr_of (K h' _ _ g')
    have j29 : ∀ mc ms h, Gd E h0 sb v0 T Cf ([97 + C] :: (dolC (B == 1) ++ [dgl (dsz (W + 1)) (W + 1)])) mc ms h → w_RE_writeBare_J29 self E Post r sb mc ms h := by
      intro mc ms h g
      unfold w_RE_writeBare_J29
      refine fs_gi_of (g.obj a h1 (by decide)) rfl ?_
      rw [m7, chr97 C m1]
      refine g_chr g (by omega) fun c' s' h' g' => fs_kr_of (fs_gi_of (g'.obj a h1 (by decide)) rfl ?_)
      have hB : B = 0 ∨ B = 1 := by omega
      rcases hB with hB | hB
      · rw [if_pos (by rw [m6, hB]; rfl)]
        rw [hB] at g'
        exact j56 _ _ _ g'
      · rw [if_neg (by rw [m6, hB]; decide)]
        rw [hB] at g'
        exact g_chr (c := 36) g' (by decide) fun c2 s2 h2 g2 => fs_kr_of (j56 _ _ _ g2)
    refine fs_gi_of (g.obj a h1 (by decide)) rfl ?_
    have hA : A = 0 ∨ A = 1 := by omega
    rcases hA with hA | hA
    · rw [if_pos (by rw [m5, hA]; rfl)]
      rw [hA] at g
      exact j29 _ _ _ g
    · rw [if_neg (by rw [m5, hA]; decide)]
      rw [hA] at g
      exact g_chr (c := 36) g (by decide) fun c' s' h' g' => fs_kr_of (j29 _ _ _ g')
