/-! Pure: the class writes a formula, part by part. -/
theorem V_of {self : Nat → Nat → fs_E → fs_Hp → Nat → Nat → fs_Ps → Prop} {E : fs_E} {h : fs_Hp} {mc ms q sb c : Nat} {fs : List Value} {x : Int32} {Post : fs_Ps} (e : h q = some (.inr (c, fs))) (hc : 4 ≤ c ∧ c ≤ 9) (w : w_PT_write self mc ms E h q sb x Post) : w_V_write self mc ms E h q sb x Post := by
  have h1 : c = 4 ∨ c = 5 ∨ c = 6 ∨ c = 7 ∨ c = 8 ∨ c = 9 := by omega
  rcases h1 with rfl | rfl | rfl | rfl | rfl | rfl
  · exact Or.inl ⟨fs_isc_of e, w⟩
  · exact Or.inr (Or.inl ⟨fs_isc_of e, w⟩)
  · exact Or.inr (Or.inr (Or.inl ⟨fs_isc_of e, w⟩))
  · exact Or.inr (Or.inr (Or.inr (Or.inl ⟨fs_isc_of e, w⟩)))
  · exact Or.inr (Or.inr (Or.inr (Or.inr (Or.inl ⟨fs_isc_of e, w⟩))))
  · exact Or.inr (Or.inr (Or.inr (Or.inr (Or.inr ⟨fs_isc_of e, w⟩))))
theorem wr_PT {self : Nat → Nat → fs_E → fs_Hp → Nat → Nat → fs_Ps → Prop} {E : fs_E} {h0 h : fs_Hp} {sb v0 Cf mc ms r l need : Nat} {T : List Nat} {P : Ck} {Post : fs_Ps} (hl : l ≤ 5) (hn : need ≤ 5) (rule : ∀ Post, Post (.inl (some (.int (nI l)))) h → w_V_rule E h r Post) (bare : ∀ {T : List Nat} {Cf mc ms : Nat} {h : fs_Hp} {Post : fs_Ps}, Gd E h0 sb v0 T Cf P mc ms h → (∀ h' mc' ms', Gd E h0 sb v0 T Cf [] mc' ms' h' → Post (.inl none) h') → self mc ms E h r sb Post) (g : Gd E h0 sb v0 T Cf (brC need (P, l)) mc ms h) (K : ∀ h' mc' ms', Gd E h0 sb v0 T Cf [] mc' ms' h' → Post (.inl none) h') : w_PT_write self mc ms E h r sb (nI need) Post := by
  unfold w_PT_write
  refine rule _ (fs_ki_of ?_)
  by_cases hle : need ≤ l
  · rw [if_pos (nI_le hle (by omega))]
    have e : brC need (P, l) = P := by
      unfold brC
      rw [if_neg (by dsimp only; omega)]
    rw [e] at g
    unfold w_PT_write_J13
    rw [if_pos rfl]
    unfold w_PT_write_J25
    refine ⟨mc, ms, Nat.le_refl _, Nat.le_refl _, bare g fun h' mc' ms' g' => fs_kv_of ?_⟩
    rw [if_pos rfl]
    exact K h' mc' ms' g'
  · rw [if_neg (nI_ge (by omega) (by omega))]
    have e : brC need (P, l) = [40] :: (P ++ [[41]]) := by
      unfold brC
      rw [if_pos (by dsimp only; omega)]
    rw [e] at g
    unfold w_PT_write_J13
    rw [if_neg (show ¬ (1 : Int32) = 0 by decide)]
    refine g_chr (c := 40) g (by decide) fun c' s' h' g' => fs_kr_of ?_
    unfold w_PT_write_J25
    obtain ⟨T', Cf', c2, s2, b1, b2, b3, b4⟩ := g_sub g'
    refine ⟨c2, s2, b1, b2, bare b3 fun h2 mc2 ms2 g2 => fs_kv_of ?_⟩
    rw [if_neg (show ¬ (1 : Int32) = 0 by decide)]
    exact g_chr (c := 41) (b4 h2 mc2 ms2 g2) (by decide) fun c3 s3 h3 g3 => fs_kr_of (K h3 _ _ g3)
/-- what is known of a part's writing -/
def wrR (n : Nat) (E : fs_E) (h0 : fs_Hp) (r : Nat) (L : List It) (P : Ck) (l : Nat) : Prop := l ≤ 5 ∧ (∀ st, txs L st = (P, l) :: st) ∧ (∀ h Post, h r = h0 r → Post (.inl (some (.int (nI l)))) h → w_V_rule E h r Post) ∧ (∃ (c : Nat) (fs : List Value), 4 ≤ c ∧ c ≤ 9 ∧ h0 r = some (.inr (c, fs))) ∧ ∀ {sb v0 cap0 Cf mc ms : Nat} {T t0 : List Nat} {h : fs_Hp} {Post : fs_Ps}, sbR E h0 sb v0 cap0 t0 → Gd E h0 sb v0 T Cf P mc ms h → (∀ h' mc' ms', Gd E h0 sb v0 T Cf [] mc' ms' h' → Post (.inl none) h') → w_N_writeBare n mc ms E h r sb Post
/-- with brackets where they are needed -/
theorem wrR.V {n : Nat} {E : fs_E} {h0 h : fs_Hp} {r l need sb v0 cap0 Cf mc ms : Nat} {L : List It} {P : Ck} {T t0 : List Nat} {Post : fs_Ps} (w : wrR n E h0 r L P l) (hn : need ≤ 5) (a : sbR E h0 sb v0 cap0 t0) (g : Gd E h0 sb v0 T Cf (brC need (P, l)) mc ms h) (K : ∀ h' mc' ms', Gd E h0 sb v0 T Cf [] mc' ms' h' → Post (.inl none) h') : w_V_write (w_N_writeBare n) mc ms E h r sb (nI need) Post := by
  obtain ⟨w1, w2, w3, ⟨c, fs, c1, c2, c3⟩, w5⟩ := w
  have e := g.obj a c3 (by omega)
  exact V_of e ⟨c1, c2⟩ (wr_PT w1 hn (fun Post' k => w3 h Post' (e.trans c3.symm) k) (fun g' k' => w5 a g' k') g K)
theorem rule_sg {s : Int32} (hs : tr_sg s) : rul s ≤ 3 := by
  rcases hs with rfl | rfl | rfl | rfl | rfl | rfl | rfl | rfl | rfl | rfl <;> decide
theorem tx_two {s : Int32} (hs : tr_sg s) (a b : Ck × Nat) (t : List (Ck × Nat)) : tx1 (s, 0, 0, 0) (b :: a :: t) = (brC (if rul s = 1 then 2 else rul s) a ++ [[s.toNatClampNeg]] ++ brC (rul s + 1) b, rul s) :: t := by
  rcases hs with rfl | rfl | rfl | rfl | rfl | rfl | rfl | rfl | rfl | rfl <;> rfl
theorem pa_rule {E : fs_E} {h : fs_Hp} {r : Nat} {s : Int32} {l : List Value} {Post : fs_Ps} (hs : tr_sg s) (e : h r = some (.inr (7, .int s :: l))) (K : Post (.inl (some (.int (nI (rul s))))) h) : w_PA_rule E h r Post := by
  unfold w_PA_rule
  refine fs_gi_of e rfl ?_
  rcases hs with rfl | rfl | rfl | rfl | rfl | rfl | rfl | rfl | rfl | rfl <;> exact K
theorem sg_nat {s : Int32} (hs : tr_sg s) : nI s.toNatClampNeg = s ∧ s.toNatClampNeg < 128 := by
  rcases hs with rfl | rfl | rfl | rfl | rfl | rfl | rfl | rfl | rfl | rfl <;> decide
theorem wrR_one {n : Nat} {E : fs_E} {h0 : fs_Hp} {q1 : Nat} {L1 : List It} {P1 : Ck} {l1 : Nat} (w : wrR n E h0 q1 L1 P1 l1) (x : It) (st : List (Ck × Nat)) : txs (L1 ++ [x]) st = tx1 x ((P1, l1) :: st) := by
  rw [txs_app, w.2.1, txs_one]
/-- arguments in their brackets -/
abbrev Ag : Type := Nat × List It × Ck × Nat
def agP : Nat → List Ag → Ck
  | _, [] => []
  | j, x :: T => (if j = 0 then [] else [[44]]) ++ x.2.2.1 ++ agP (j + 1) T
theorem ca_L21 {n : Nat} {E : fs_E} {h0 : fs_Hp} {sb v0 cap0 Cf r i m : Nat} {T t0 : List Nat} {nm : Value} {gg : Nat → Option Nat} {K : Nat → Nat → fs_Hp → Prop} {Post : fs_Ps} {Q : Ck} (h1 : h0 r = some (.inr (8, [nm, .ref i]))) (h2 : tr_in E h0 i m gg) (hm : m ≤ 3) (a : sbR E h0 sb v0 cap0 t0) (hK : ∀ h' mc' ms', Gd E h0 sb v0 T Cf Q mc' ms' h' → K mc' ms' h') : ∀ (W : List Ag) (j mc ms : Nat) (h : fs_Hp), j + W.length = m → (∀ k x, W[k]? = some x → gg (j + k) = some x.1 ∧ wrR n E h0 x.1 x.2.1 x.2.2.1 x.2.2.2) → Gd E h0 sb v0 T Cf (agP j W ++ Q) mc ms h → w_CA_writeBare_L21 (w_N_writeBare n) E K Post (W.length + 1) r sb (nI j) mc ms h := by
  intro W
  induction W with
  | nil =>
    intro j mc ms h hj hW g
    rw [List.length_nil] at hj
    rw [w_CA_writeBare_L21]
    refine fs_gr_of (g.obj a h1 (by decide)) rfl (fs_an_of (g.arr a h2) ?_)
    rw [if_pos (show Int32.ofNat m ≤ nI j from nI_le (by omega) (by omega))]
    exact hK h mc ms g
  | cons x W ih =>
    intro j mc ms h hj hW g
    rw [List.length_cons] at hj
    obtain ⟨x1, x2⟩ := hW 0 x rfl
    have j41 : ∀ mc ms h, Gd E h0 sb v0 T Cf (x.2.2.1 ++ (agP (j + 1) W ++ Q)) mc ms h → w_CA_writeBare_L21_J41 (w_N_writeBare n) (w_CA_writeBare_L21 (w_N_writeBare n) E K Post (W.length + 1)) E K Post r sb (nI j) mc ms h := by
      intro mc ms h g
      unfold w_CA_writeBare_L21_J41
      refine fs_gr_of (g.obj a h1 (by decide)) rfl (fs_aq_of (g.arr a h2) (nI_in (by omega) (by omega)) ?_)
      rw [nI_clamp (by omega), show gg j = some x.1 from x1]
      try dsimp only
      obtain ⟨T', Cf', c2, s2, b1, b2, b3, b4⟩ := g_sub g
      refine ⟨c2, s2, b1, b2, x2.V (need := 0) (by omega) a b3 fun hA mcA msA gA => fs_kv_of ?_⟩
      rw [nI_1]
      exact ih (j + 1) _ _ hA (by omega) (fun k y hk => by
        have := hW (k + 1) y hk
        rw [show j + (k + 1) = j + 1 + k by omega] at this
        exact this) (b4 hA mcA msA gA)
    rw [w_CA_writeBare_L21]
    refine fs_gr_of (g.obj a h1 (by decide)) rfl (fs_an_of (g.arr a h2) ?_)
    rw [if_neg (show ¬ Int32.ofNat m ≤ nI j from nI_ge (by omega) (by omega))]
    rw [agP, List.append_assoc, List.append_assoc] at g
    by_cases hj0 : j = 0
    · rw [if_pos (by rw [hj0]; decide)]
      rw [if_pos hj0] at g
      exact j41 _ _ _ g
    · rw [if_neg (show ¬ nI j ≤ 0 from nI_ge (a := 0) (by omega) (by omega))]
      rw [if_neg hj0] at g
      exact g_chr (c := 44) g (by decide) fun c' s' h' g' => fs_kr_of (j41 _ _ _ g')
theorem wr_call {n : Nat} {E : fs_E} {h0 h : fs_Hp} {sb v0 cap0 Cf mc ms r i m j : Nat} {T t0 : List Nat} {gg : Nat → Option Nat} {Post : fs_Ps} (hj : j < 8) (h1 : h0 r = some (.inr (8, [.ref (E.2 j), .ref i]))) (h2 : tr_in E h0 i m gg) (hm : m ≤ 3) (a : sbR E h0 sb v0 cap0 t0) (W : List Ag) (hl : W.length = m) (hW : ∀ k x, W[k]? = some x → gg (0 + k) = some x.1 ∧ wrR n E h0 x.1 x.2.1 x.2.2.1 x.2.2.2) (g : Gd E h0 sb v0 T Cf ([64] :: ps_ob j :: (agP 0 W ++ [[41]])) mc ms h) (K : ∀ h' mc' ms', Gd E h0 sb v0 T Cf [] mc' ms' h' → Post (.inl none) h') : w_CA_writeBare (w_N_writeBare n) mc ms E h r sb Post := by
  unfold w_CA_writeBare
  refine g_chr (c := 64) g (by decide) fun c' s' h' g' => fs_kr_of (fs_gr_of (g'.obj a h1 (by decide)) rfl ⟨j, hj, rfl, ?_⟩)
  refine g_str g' hj fun c2 s2 h2' g2 => fs_kr_of ⟨W.length + 1, ?_⟩
  exact ca_L21 h1 h2 hm a (fun h3 mc3 ms3 g3 => g_chr (c := 41) g3 (by decide) fun c4 s4 h4 g4 => fs_kr_of (K h4 _ _ g4)) W 0 _ _ h2' (by omega) hW g2
theorem wr_over {n : Nat} {E : fs_E} {h0 h : fs_Hp} {sb v0 cap0 Cf mc ms r j p q : Nat} {i : Value} {T t0 : List Nat} {x y : Int32} {Fa Fb : List Nat} {Post : fs_Ps} (hj : j < 8) (h1 : h0 r = some (.inr (9, [.ref (E.2 j), .ref p, .ref q, i]))) (ta : tr_rf E h0 p x Fa) (tb : tr_rf E h0 q y Fb) (a : sbR E h0 sb v0 cap0 t0) (g : Gd E h0 sb v0 T Cf (rgC j x y) mc ms h) (K : ∀ h' mc' ms', Gd E h0 sb v0 T Cf [] mc' ms' h' → Post (.inl none) h') : w_OV_writeBare (w_N_writeBare (n + 1)) mc ms E h r sb Post := by
  have vr : ∀ {r x F T Cf mc ms h} {Post : fs_Ps}, tr_rf E h0 r x F → Gd E h0 sb v0 T Cf (rfC x) mc ms h → (∀ h' mc' ms', Gd E h0 sb v0 T Cf [] mc' ms' h' → Post (.inl none) h') → w_VR_write (w_N_writeBare (n + 1)) mc ms E h r sb 5 Post := by
    intro r x F T Cf mc ms h Post t g K
    obtain ⟨cf, rf, c, w, lo, i, gg, k1, k2, k3, k4⟩ := id t
    have e := g.obj a k1 (by decide)
    refine ⟨fs_isc_of e, wr_PT (l := 5) (need := 5) (P := rfC x) (by omega) (by omega) (fun Post' k => Or.inr (Or.inl ⟨fs_isc_of e, k⟩)) (fun g' k' => Or.inr (Or.inl ⟨fs_isc_of (g'.obj a k1 (by decide)), wr_ref t a g' k'⟩)) g K⟩
  have e : rgC j x y = [64] :: ps_ob j :: (rfC x ++ ([58] :: (rfC y ++ [[41]]))) := by
    unfold rgC
    simp only [List.append_assoc, List.cons_append, List.nil_append]
  rw [e] at g
  unfold w_OV_writeBare
  refine g_chr (c := 64) g (by decide) fun c' s' h' g' => fs_kr_of (fs_gr_of (g'.obj a h1 (by decide)) rfl ⟨j, hj, rfl, ?_⟩)
  refine g_str g' hj fun c2 s2 h2 g2 => fs_kr_of (fs_gr_of (g2.obj a h1 (by decide)) rfl ?_)
  obtain ⟨T', Cf', c3, s3, b1, b2, b3, b4⟩ := g_sub g2
  refine ⟨c3, s3, b1, b2, vr ta b3 fun hA mcA msA gA => fs_kv_of ?_⟩
  refine g_chr (c := 58) (b4 hA mcA msA gA) (by decide) fun c4 s4 h4 g4 => fs_kr_of (fs_gr_of (g4.obj a h1 (by decide)) rfl ?_)
  obtain ⟨T2, Cf2, c5, s5, d1, d2, d3, d4⟩ := g_sub g4
  refine ⟨c5, s5, d1, d2, vr tb d3 fun hB mcB msB gB => fs_kv_of ?_⟩
  exact g_chr (c := 41) (d4 hB mcB msB gB) (by decide) fun c6 s6 h6 g6 => fs_kr_of (K h6 _ _ g6)
theorem cls_bare {E : fs_E} {h0 : fs_Hp} : ∀ (n : Nat) {r : Nat} {L : List It} {F : List Nat}, rp n E h0 r L F → (∀ x ∈ L, numq x) → ∃ P l, wrR (n + 1) E h0 r L P l := by
  intro n
  induction n with
  | zero => intro r L F a; exact a.elim
  | succ n ih =>
    intro r L F a hq
    rcases a with a | a | a | a | a | a | a
    · obtain ⟨b, d, i, g, k0, k0', h1, h2, rfl, rfl⟩ := a
      obtain ⟨b', d', e1, e2, e3⟩ := hq _ (List.mem_singleton.mpr rfl) rfl
      have eb : b = b' := by
        have := congrArg (fun x : It => x.2.1) e3
        have h1 := nI_clamp (n := b) (by omega)
        rw [show nI b = nI b' from this, nI_clamp (by omega)] at h1
        omega
      have hp : 10 ^ b' ≤ 10000 := Nat.pow_le_pow_right (by decide) e1
      have ed : d = d' := by
        have := congrArg (fun x : It => x.2.2.2.toBitVec.toNat) e3
        have h3 : (lN d).toBitVec.toNat = (lN d').toBitVec.toNat := this
        rw [lN_toNat (by omega), lN_toNat (by omega)] at h3
        exact h3
      rw [← eb, ← ed] at e2
      refine ⟨nuC b d, 5, Nat.le_refl _, fun st => ?_, fun h Post e K => Or.inl ⟨fs_isc_of (e.trans h1), K⟩, ⟨4, _, by decide, by decide, h1⟩, fun a g K => Or.inl ⟨fs_isc_of (g.obj a h1 (by decide)), wr_num h1 (by omega) e2 a g K⟩⟩
      show tx1 (0, nI b, 0, lN d) st = _
      unfold tx1
      try dsimp only
      rw [if_pos rfl, nI_clamp (by omega), lN_toNat (by omega)]
    · obtain ⟨x, t, rfl⟩ := a
      obtain ⟨cf, rf, c, w, lo, i, gg, h1, h2, h3, h4⟩ := id t
      exact ⟨rfC x, 5, Nat.le_refl _, fun st => rfl, fun h Post e K => Or.inr (Or.inl ⟨fs_isc_of (e.trans h1), K⟩), ⟨5, _, by decide, by decide, h1⟩, fun a g K => Or.inr (Or.inl ⟨fs_isc_of (g.obj a h1 (by decide)), wr_ref t a g K⟩)⟩
    · obtain ⟨s, w, i, q1, g, L1, F1, h1, h2, h3, h4, h5, rfl, rfl⟩ := a
      obtain ⟨P1, l1, w1⟩ := ih h4 fun x hx => hq x (List.mem_append_left _ hx)
      rcases h5 with ⟨rfl, rfl⟩ | ⟨rfl, rfl⟩
      · refine ⟨[45] :: brC 5 (P1, l1), 4, by omega, fun st => by rw [wrR_one w1]; rfl, fun h Post e K => Or.inr (Or.inr (Or.inl ⟨fs_isc_of (e.trans h1), fs_gi_of (e.trans h1) rfl (by rw [if_pos rfl]; exact K)⟩)), ⟨6, _, by decide, by decide, h1⟩, fun a g' K => Or.inr (Or.inr (Or.inl ⟨fs_isc_of (g'.obj a h1 (by decide)), fs_gi_of (g'.obj a h1 (by decide)) rfl ?_⟩))⟩
        refine g_chr (c := 45) g' (by decide) fun c' s' h' g2 => fs_kr_of (fs_gr_of (g2.obj a h1 (by decide)) rfl (fs_aq_of (g2.arr a h2) (show vp_in (nI 0) 1 from nI_in (by omega) (by omega)) ?_))
        rw [vp_nar0, h3]
        try dsimp only
        refine fs_gi_of (g2.obj a h1 (by decide)) rfl ?_
        rw [if_pos rfl]
        exact ⟨_, _, Nat.le_refl _, Nat.le_refl _, w1.V (need := 5) (by omega) a g2 fun h3' mc' ms' g3 => fs_kv_of (K h3' mc' ms' g3)⟩
      · refine ⟨[33] :: brC 2 (P1, l1), 1, by omega, fun st => by rw [wrR_one w1]; rfl, fun h Post e K => Or.inr (Or.inr (Or.inl ⟨fs_isc_of (e.trans h1), fs_gi_of (e.trans h1) rfl (by rw [if_neg (show ¬ (33 : Int32) = 45 by decide)]; exact K)⟩)), ⟨6, _, by decide, by decide, h1⟩, fun a g' K => Or.inr (Or.inr (Or.inl ⟨fs_isc_of (g'.obj a h1 (by decide)), fs_gi_of (g'.obj a h1 (by decide)) rfl ?_⟩))⟩
        refine g_chr (c := 33) g' (by decide) fun c' s' h' g2 => fs_kr_of (fs_gr_of (g2.obj a h1 (by decide)) rfl (fs_aq_of (g2.arr a h2) (show vp_in (nI 0) 1 from nI_in (by omega) (by omega)) ?_))
        rw [vp_nar0, h3]
        try dsimp only
        refine fs_gi_of (g2.obj a h1 (by decide)) rfl ?_
        rw [if_neg (show ¬ (33 : Int32) = 45 by decide)]
        exact ⟨_, _, Nat.le_refl _, Nat.le_refl _, w1.V (need := 2) (by omega) a g2 fun h3' mc' ms' g3 => fs_kv_of (K h3' mc' ms' g3)⟩
    · obtain ⟨s, i, q1, q2, g, L1, L2, F1, F2, h1, h2, h3, h4, h5, h6, h7, rfl, rfl⟩ := a
      obtain ⟨P1, l1, w1⟩ := ih h5 fun x hx => hq x (List.mem_append_left _ (List.mem_append_left _ hx))
      obtain ⟨P2, l2, w2⟩ := ih h6 fun x hx => hq x (List.mem_append_left _ (List.mem_append_right _ hx))
      have hr3 := rule_sg h7
      obtain ⟨sn1, sn2⟩ := sg_nat h7
      refine ⟨brC (if rul s = 1 then 2 else rul s) (P1, l1) ++ [[s.toNatClampNeg]] ++ brC (rul s + 1) (P2, l2), rul s, by omega, fun st => ?_, fun h Post e K => Or.inr (Or.inr (Or.inr (Or.inl ⟨fs_isc_of (e.trans h1), pa_rule h7 (e.trans h1) K⟩))), ⟨7, _, by decide, by decide, h1⟩, fun {sb v0 cap0 Cf mc ms T t0 h Post} a g' K => Or.inr (Or.inr (Or.inr (Or.inl ⟨fs_isc_of (g'.obj a h1 (by decide)), fs_isc_of (g'.obj a h1 (by decide)), pa_rule h7 (g'.obj a h1 (by decide)) (fs_ki_of ?_)⟩)))⟩
      · rw [txs_app, txs_app, w1.2.1, w2.2.1, txs_one, tx_two h7]
      · refine fs_gr_of (g'.obj a h1 (by decide)) rfl (fs_aq_of (g'.arr a h2) (show vp_in (nI 0) 2 from nI_in (by omega) (by omega)) ?_)
        rw [vp_nar0, h3]
        try dsimp only
        have j22 : ∀ need, need ≤ 5 → need = (if rul s = 1 then 2 else rul s) → w_PA_writeBare_J22 (w_N_writeBare (n + 1)) E Post r sb (nI (rul s)) (nI need) sb (some q1) mc ms h := by
          intro need hn5 hneed
          unfold w_PA_writeBare_J22
          try dsimp only
          rw [List.append_assoc, ← hneed] at g'
          obtain ⟨T', Cf', c2, s2, b1, b2, b3, b4⟩ := g_sub g'
          refine ⟨c2, s2, b1, b2, w1.V hn5 a b3 fun hA mcA msA gA => fs_kv_of ?_⟩
          have g3 := b4 hA mcA msA gA
          refine fs_gi_of (g3.obj a h1 (by decide)) rfl ?_
          rw [← sn1]
          refine g_chr (c := s.toNatClampNeg) g3 sn2 fun c' s' h' g4 => fs_kr_of (fs_gr_of (g4.obj a h1 (by decide)) rfl (fs_aq_of (g4.arr a h2) (show vp_in (nI 1) 2 from nI_in (by omega) (by omega)) ?_))
          rw [vp_nar1, h4]
          try dsimp only
          rw [sn1, nI_1]
          exact ⟨_, _, Nat.le_refl _, Nat.le_refl _, w2.V (by omega) a g4 fun h3' mc' ms' g5 => fs_kv_of (K h3' mc' ms' g5)⟩
        by_cases h1r : rul s = 1
        · rw [if_pos (by rw [h1r]; rfl)]
          exact j22 2 (by omega) (by rw [if_pos h1r])
        · rw [if_neg (fun z => h1r (by
            have h1 := nI_clamp (n := rul s) (by omega)
            rw [z] at h1
            exact h1.symm.trans (by decide)))]
          exact j22 (rul s) (by omega) (by rw [if_neg h1r])
    · obtain ⟨j, i, q1, g, L1, F1, k0, h1, h2, h3, h4, rfl, rfl⟩ := a
      obtain ⟨P1, l1, w1⟩ := ih h4 fun x hx => hq x (List.mem_append_left _ hx)
      have hj8 : j < 8 := by omega
      refine ⟨[64] :: ps_ob j :: (P1 ++ [[41]]), 5, Nat.le_refl _, fun st => ?_, fun h Post e K => Or.inr (Or.inr (Or.inr (Or.inr (Or.inl ⟨fs_isc_of (e.trans h1), K⟩)))), ⟨8, _, by decide, by decide, h1⟩, fun a g' K => Or.inr (Or.inr (Or.inr (Or.inr (Or.inl ⟨fs_isc_of (g'.obj a h1 (by decide)), wr_call hj8 h1 h2 (by omega) a [(q1, L1, P1, l1)] rfl (fun k x hk => ?_) ?_ K⟩))))⟩
      · rw [wrR_one w1]
        rcases k0 with rfl | rfl <;> rfl
      · match k, hk with
        | 0, hk => cases hk; exact ⟨h3, w1⟩
      · have e : agP 0 [(q1, L1, P1, l1)] = P1 := by
          rw [agP, agP, List.append_nil, if_pos rfl, List.nil_append]
        rw [e]
        exact g'
    · obtain ⟨i, q1, q2, q3, g, L1, L2, L3, F1, F2, F3, h1, h2, h3, h4, h5, h6, h7, h8, rfl, rfl⟩ := a
      obtain ⟨P1, l1, w1⟩ := ih h6 fun x hx => hq x (List.mem_append_left _ (List.mem_append_left _ (List.mem_append_left _ hx)))
      obtain ⟨P2, l2, w2⟩ := ih h7 fun x hx => hq x (List.mem_append_left _ (List.mem_append_left _ (List.mem_append_right _ hx)))
      obtain ⟨P3, l3, w3⟩ := ih h8 fun x hx => hq x (List.mem_append_left _ (List.mem_append_right _ hx))
      refine ⟨[64] :: ps_ob 7 :: (P1 ++ [[44]] ++ P2 ++ [[44]] ++ P3 ++ [[41]]), 5, Nat.le_refl _, fun st => ?_, fun h Post e K => Or.inr (Or.inr (Or.inr (Or.inr (Or.inl ⟨fs_isc_of (e.trans h1), K⟩)))), ⟨8, _, by decide, by decide, h1⟩, fun a g' K => Or.inr (Or.inr (Or.inr (Or.inr (Or.inl ⟨fs_isc_of (g'.obj a h1 (by decide)), wr_call (by decide) h1 h2 (by omega) a [(q1, L1, P1, l1), (q2, L2, P2, l2), (q3, L3, P3, l3)] rfl (fun k x hk => ?_) ?_ K⟩))))⟩
      · rw [txs_app, txs_app, txs_app, w1.2.1, w2.2.1, w3.2.1]
        rfl
      · match k, hk with
        | 0, hk => cases hk; exact ⟨h3, w1⟩
        | 1, hk => cases hk; exact ⟨h4, w2⟩
        | 2, hk => cases hk; exact ⟨h5, w3⟩
      · have e : agP 0 [(q1, L1, P1, l1), (q2, L2, P2, l2), (q3, L3, P3, l3)] = P1 ++ [[44]] ++ P2 ++ [[44]] ++ P3 := by
          simp [agP]
        rw [e]
        exact g'
    · obtain ⟨j, p, q, i, g, x, y, Fa, Fb, k0, h1, h2, h3, h4, ta, tb, rfl, rfl⟩ := a
      refine ⟨rgC j x y, 5, Nat.le_refl _, fun st => ?_, fun h Post e K => Or.inr (Or.inr (Or.inr (Or.inr (Or.inr ⟨fs_isc_of (e.trans h1), K⟩)))), ⟨9, _, by decide, by decide, h1⟩, fun a g' K => Or.inr (Or.inr (Or.inr (Or.inr (Or.inr ⟨fs_isc_of (g'.obj a h1 (by decide)), wr_over (by omega) h1 ta tb a g' K⟩))))⟩
      obtain ⟨e1, e2, e3, e4, e5⟩ := it_rg j k0
      show tx1 (nI (j + 2), x, y, 0) st = _
      unfold tx1
      try dsimp only
      rw [if_neg e1, if_neg e2, if_pos e4, nI_clamp (by omega), Nat.add_sub_cancel]
