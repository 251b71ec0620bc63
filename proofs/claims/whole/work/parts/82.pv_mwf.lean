/-! Pure: the reference works a formula out. -/
theorem place44 {n : Nat} (h : n < 44) : vp_in (nI n) 44 ∧ (0 ≤ (nI n).toInt ∧ (nI n).toInt < 44) := by
  refine ⟨nI_in h (by omega), ?_⟩
  rw [nI_toInt (by omega)]
  omega
theorem wp_354 {M : mo_S} {t : List Vl} (hs : sk M t) (hl : t.length < 44) {f : Int32} {d : UInt64} (hf : f = 0 ∨ f = 1) (hn : nn d) : ∃ M', q_MO_workPair_J354 (nI t.length) f d M = some M' ∧ sk M' ((if f = 0 then ck d else none) :: t) ∧ wf M M' := by
  obtain ⟨p1, p2⟩ := place44 hl
  unfold q_MO_workPair_J354
  rcases hf with rfl | rfl
  · rw [if_pos rfl, if_pos rfl]
    by_cases hb : nb d
    · rw [if_pos (tg_ok hb), fs_okp_pos p2, ck_ok hb]
      exact ⟨_, rfl, hold_sk hs hl (Or.inl ⟨rfl, rfl, hb⟩)⟩
    · rw [if_neg (by rw [tg_bad hn hb]; decide), fs_okp_pos p2, ck_bad hn hb]
      exact ⟨_, rfl, hold_sk hs hl (Or.inr ⟨rfl, rfl⟩)⟩
  · rw [if_neg (by decide), if_neg (by decide), fs_okp_pos p2]
    exact ⟨_, rfl, hold_sk hs hl (Or.inr ⟨rfl, rfl⟩)⟩
theorem wp_tr {M : mo_S} {t : List Vl} (hs : sk M t) (hl : t.length < 44) {f w : Int32} (hf : f = 0 ∨ f = 1) : ∃ M', q_MO_workPair_J354 (nI t.length) f (p_MO_truth w) M = some M' ∧ sk M' ((if f = 0 then some (p_MO_truth w) else none) :: t) ∧ wf M M' := by
  have := wp_354 hs hl hf (nb_truth w).nn
  rw [ck_ok (nb_truth w)] at this
  exact this
theorem wp_42 {M : mo_S} {t : List Vl} (hs : sk M t) (hl : t.length < 44) {f s : Int32} {u v : UInt64} (hf : f = 0 ∨ f = 1) (hu : nb u) (hv : nb v) (hsg : tr_sg s) : ∃ M', q_MO_workPair_J42 s (nI t.length) u v f M = some M' ∧ sk M' ((if f = 0 then pv2 s u v else none) :: t) ∧ wf M M' := by
  have htr : ∀ w, pv2 s u v = some (p_MO_truth w) → ∃ M', q_MO_workPair_J354 (nI t.length) f (p_MO_truth w) M = some M' ∧ sk M' ((if f = 0 then pv2 s u v else none) :: t) ∧ wf M M' := by
    intro w e
    rw [e]
    exact wp_tr hs hl hf
  have hck : ∀ d, nn d → pv2 s u v = ck d → ∃ M', q_MO_workPair_J354 (nI t.length) f d M = some M' ∧ sk M' ((if f = 0 then pv2 s u v else none) :: t) ∧ wf M M' := by
    intro d hd e
    rw [e]
    exact wp_354 hs hl hf hd
  unfold q_MO_workPair_J42
  rcases hsg with rfl | rfl | rfl | rfl | rfl | rfl | rfl | rfl | rfl | rfl
  · rw [if_neg (by decide), if_pos rfl]
    by_cases h1 : Op.cmpValue (FP.dcmp u FP.dconst0) .l = 0
    · rw [if_pos h1]
      refine htr 0 ?_
      simp [pv2, pvh, h1]
    · rw [if_neg h1]
      by_cases h2 : Op.cmpValue (FP.dcmp v FP.dconst0) .l = 0
      · rw [if_pos h2]
        refine htr 0 ?_
        simp [pv2, pvh, h1, h2]
      · rw [if_neg h2]
        refine htr 1 ?_
        simp [pv2, pvh, h1, h2]
  · rw [if_neg (by decide), if_neg (by decide), if_neg (by decide), if_neg (by decide), if_neg (by decide), if_neg (by decide), if_neg (by decide), if_neg (by decide), if_neg (by decide)]
    by_cases h1 : Op.cmpValue (FP.dcmp u FP.dconst0) .l = 0
    · rw [if_pos h1]
      by_cases h2 : Op.cmpValue (FP.dcmp v FP.dconst0) .l = 0
      · rw [if_pos h2]
        refine htr 0 ?_
        simp [pv2, pvh, h1, h2]
      · rw [if_neg h2]
        refine htr 1 ?_
        simp [pv2, pvh, h1, h2]
    · rw [if_neg h1]
      refine htr 1 ?_
      simp [pv2, pvh, h1]
  · rw [if_neg (by decide), if_neg (by decide), if_neg (by decide), if_neg (by decide), if_neg (by decide), if_neg (by decide), if_neg (by decide), if_pos rfl]
    by_cases h1 : Op.cmpValue (FP.dcmp u v) .l = 0
    · rw [if_pos h1]
      refine htr 1 ?_
      simp [pv2, pvh, h1]
    · rw [if_neg h1]
      refine htr 0 ?_
      simp [pv2, pvh, h1]
  · rw [if_pos rfl]
    by_cases h1 : Op.cmpValue (FP.dcmp u v) .l = 0
    · rw [if_pos h1]
      refine htr 0 ?_
      simp [pv2, pvh, h1]
    · rw [if_neg h1]
      refine htr 1 ?_
      simp [pv2, pvh, h1]
  · rw [if_neg (by decide), if_neg (by decide), if_neg (by decide), if_neg (by decide), if_neg (by decide), if_neg (by decide), if_pos rfl]
    by_cases h1 : 0 ≤ Op.cmpValue (FP.dcmp u v) .g
    · rw [if_pos h1]
      refine htr 0 ?_
      simp [pv2, pvh, h1]
    · rw [if_neg h1]
      refine htr 1 ?_
      simp [pv2, pvh, h1]
  · rw [if_neg (by decide), if_neg (by decide), if_neg (by decide), if_neg (by decide), if_neg (by decide), if_neg (by decide), if_neg (by decide), if_neg (by decide), if_pos rfl]
    by_cases h1 : Op.cmpValue (FP.dcmp u v) .l ≤ 0
    · rw [if_pos h1]
      refine htr 0 ?_
      simp [pv2, pvh, h1]
    · rw [if_neg h1]
      refine htr 1 ?_
      simp [pv2, pvh, h1]
  · rw [if_neg (by decide), if_neg (by decide), if_neg (by decide), if_pos rfl, fs_okp_pos (nn_n64 (nn_add hu hv))]
    exact hck _ (nn_add hu hv) rfl
  · rw [if_neg (by decide), if_neg (by decide), if_neg (by decide), if_neg (by decide), if_pos rfl, fs_okp_pos (nn_n64 (nn_sub hu hv))]
    exact hck _ (nn_sub hu hv) rfl
  · rw [if_neg (by decide), if_neg (by decide), if_pos rfl, fs_okp_pos (nn_n64 (nn_mul hu hv))]
    exact hck _ (nn_mul hu hv) rfl
  · rw [if_neg (by decide), if_neg (by decide), if_neg (by decide), if_neg (by decide), if_neg (by decide), if_pos rfl]
    by_cases h1 : Op.cmpValue (FP.dcmp v FP.dconst0) .l = 0
    · rw [if_pos h1]
      have e : pv2 47 u v = none := by simp [pv2, h1]
      rw [e]
      have := wp_354 (f := 1) (d := FP.dconst0) hs hl (Or.inr rfl) nb_0.nn
      rw [if_neg (by decide)] at this
      rw [show (if f = 0 then (none : Vl) else none) = none by split <;> rfl]
      exact this
    · rw [if_neg h1, fs_okp_pos (nn_n64 (nn_div hu hv h1))]
      refine hck _ (nn_div hu hv h1) ?_
      simp [pv2, h1]
/-- what stands at a place -/
theorem sk_at {M : mo_S} {v : Vl} {t : List Vl} (h : sk M (v :: t)) : (∃ d, v = some d ∧ M.2.2.2 20 t.length = d ∧ M.2.1 21 t.length = 0 ∧ nb d) ∨ (v = none ∧ M.2.2.2 20 t.length = FP.dconst0 ∧ M.2.1 21 t.length = 1) := by
  cases v with
  | none => exact Or.inr ⟨rfl, h.1.2 rfl⟩
  | some d => exact Or.inl ⟨d, rfl, h.1.1 d rfl⟩
theorem wm_pair {M : mo_S} {t : List Vl} {a b : Vl} {s : Int32} (hs : sk M (b :: a :: t)) (hl : t.length + 1 < 44) (hsg : tr_sg s) : ∃ M', q_MO_workPair M s (nI t.length) = some M' ∧ sk M' (pv2o s a b :: t) ∧ wf M M' := by
  obtain ⟨p1, p2⟩ := place44 (n := t.length) (by omega)
  obtain ⟨p3, p4⟩ := place44 hl
  have hb := sk_at hs
  have ha := sk_at hs.2
  unfold q_MO_workPair
  rw [nI_1, fs_okp_pos p1, fs_okp_pos p3, fs_okp_pos p1, nI_clamp (by omega), nI_clamp (by omega)]
  have hb' : (∃ d, b = some d ∧ M.2.2.2 20 (t.length + 1) = d ∧ M.2.1 21 (t.length + 1) = 0 ∧ nb d) ∨ (b = none ∧ M.2.2.2 20 (t.length + 1) = FP.dconst0 ∧ M.2.1 21 (t.length + 1) = 1) := hb
  rcases ha with ⟨u, a1, a2, a3, a4⟩ | ⟨a1, a2, a3⟩
  · rw [if_pos a3, fs_okp_pos p3, a2]
    rcases hb' with ⟨v, b1, b2, b3, b4⟩ | ⟨b1, b2, b3⟩
    · rw [if_pos b3, b2]
      have := wp_42 (f := 0) hs.2.2 (by omega) (Or.inl rfl) a4 b4 hsg
      rw [if_pos rfl] at this
      rw [a1, b1]
      exact this
    · rw [if_neg (by rw [b3]; decide), b2]
      have := wp_42 (f := 1) hs.2.2 (by omega) (Or.inr rfl) a4 nb_0 hsg
      rw [if_neg (by decide)] at this
      rw [a1, b1]
      exact this
  · rw [if_neg (by rw [a3]; decide), a2]
    have hv : nb (M.2.2.2 20 (t.length + 1)) := by
      rcases hb' with ⟨v, b1, b2, b3, b4⟩ | ⟨b1, b2, b3⟩
      · rw [b2]; exact b4
      · rw [b2]; exact nb_0
    have := wp_42 (f := 1) hs.2.2 (by omega) (Or.inr rfl) nb_0 hv hsg
    rw [if_neg (by decide)] at this
    have e : pv2o s a b = none := by rw [a1]; rfl
    rw [e]
    exact this
theorem ws_69 {M : mo_S} {t : List Vl} {a : Vl} {x : UInt64} {g : UInt64 → UInt64} (hs : sk M (a :: t)) (hl : t.length < 44) (hx : ∀ d, a = some d → x = g d ∧ nb (g d)) : ∃ M', q_MO_workSingle_J69 (nI t.length) x M = some M' ∧ sk M' (a.map g :: t) ∧ wf M M' := by
  obtain ⟨p1, p2⟩ := place44 hl
  unfold q_MO_workSingle_J69
  rw [fs_okp_pos p1, nI_clamp (by omega)]
  have key : ∀ y : UInt64, sk (mo_d M 20 t.length y) t ∧ wf M (mo_d M 20 t.length y) ∧ (mo_d M 20 t.length y).2.2.2 20 t.length = y := by
    intro y
    refine ⟨hs.2.kept fun k hk => ⟨?_, rfl⟩, ⟨rfl, fun _ _ _ => rfl, rfl, fun j k hj => ?_⟩, ?_⟩
    · rw [mo_d_at, if_neg (by omega)]
    · rw [mo_d_at, if_neg (by omega)]
    · rw [mo_d_at, if_pos ⟨rfl, rfl⟩]
  rcases sk_at hs with ⟨d, a1, a2, a3, a4⟩ | ⟨a1, a2, a3⟩
  · rw [if_pos a3, fs_okp_pos p1]
    obtain ⟨k1, k2, k3⟩ := key x
    obtain ⟨x1, x2⟩ := hx d a1
    refine ⟨_, rfl, ⟨⟨fun z hz => ?_, fun hz => ?_⟩, k1⟩, k2⟩
    · rw [a1] at hz
      have hz' : g d = z := Option.some.inj hz
      rw [← hz', k3, x1]
      exact ⟨rfl, a3, x2⟩
    · rw [a1] at hz
      cases hz
  · rw [if_neg (by rw [a3]; decide), fs_okp_pos p1]
    obtain ⟨k1, k2, k3⟩ := key FP.dconst0
    refine ⟨_, rfl, ⟨⟨fun z hz => ?_, fun hz => ?_⟩, k1⟩, k2⟩
    · rw [a1] at hz
      cases hz
    · exact ⟨k3, a3⟩
theorem wm_single {M : mo_S} {t : List Vl} {a : Vl} {w : Int32} (hs : sk M (a :: t)) (hl : t.length < 44) (hw : w = 33 ∨ w = 10 ∨ w = 7 ∨ w = 8) : ∃ M', q_MO_workSingle M w (nI t.length) = some M' ∧ sk M' (a.map (pv1 w) :: t) ∧ wf M M' := by
  obtain ⟨p1, p2⟩ := place44 hl
  have hd : ∀ d, a = some d → M.2.2.2 20 t.length = d ∧ nb d := by
    intro d e
    rcases sk_at hs with ⟨d', a1, a2, a3, a4⟩ | ⟨a1, a2, a3⟩
    · rw [e] at a1
      cases a1
      exact ⟨a2, a4⟩
    · rw [e] at a1
      cases a1
  unfold q_MO_workSingle
  rw [fs_okp_pos p1, nI_clamp (by omega)]
  rcases hw with rfl | rfl | rfl | rfl
  · rw [if_pos rfl]
    by_cases h1 : Op.cmpValue (FP.dcmp (M.2.2.2 20 t.length) FP.dconst0) .l = 0
    · rw [if_pos h1]
      refine ws_69 hs hl fun d e => ⟨?_, nb_pv1 (hd d e).2⟩
      rw [(hd d e).1] at h1
      simp [pv1, h1, p_MO_truth]
    · rw [if_neg h1]
      refine ws_69 hs hl fun d e => ⟨?_, nb_pv1 (hd d e).2⟩
      rw [(hd d e).1] at h1
      simp [pv1, h1, p_MO_truth]
  · rw [if_neg (by decide), if_pos rfl]
    refine ws_69 hs hl fun d e => ⟨?_, nb_pv1 (hd d e).2⟩
    rw [(hd d e).1]
    rfl
  · rw [if_neg (by decide), if_neg (by decide), if_pos rfl]
    by_cases h1 : 0 ≤ Op.cmpValue (FP.dcmp (M.2.2.2 20 t.length) FP.dconst0) .g
    · rw [if_pos h1]
      refine ws_69 hs hl fun d e => ⟨?_, nb_pv1 (hd d e).2⟩
      rw [(hd d e).1] at h1 ⊢
      simp [pv1, h1]
    · rw [if_neg h1]
      refine ws_69 hs hl fun d e => ⟨?_, nb_pv1 (hd d e).2⟩
      rw [(hd d e).1] at h1 ⊢
      simp [pv1, h1]
  · rw [if_neg (by decide), if_neg (by decide), if_neg (by decide)]
    refine ws_69 hs hl fun d e => ⟨?_, nb_pv1 (hd d e).2⟩
    rw [(hd d e).1]
    rfl
theorem wf_L41 {M : mo_S} {z1 z2 : Int32} {p b : Nat} (hp : p < 3240) (hb : b ≤ 4) (h4 : M.2.1 4 p = nI b) : ∀ (k i f : Nat), k < f → i + k = b → q_MO_workFormula_L41 f z1 z2 (nI p) (pw10 i) (nI i) M = some (pw10 b) := by
  intro k
  induction k with
  | zero =>
    intro i f hf hi
    obtain ⟨f, rfl⟩ : ∃ m, f = m + 1 := ⟨f - 1, by omega⟩
    rw [q_MO_workFormula_L41, fs_okp_pos (show vp_in (nI p) 3240 from nI_in hp (by omega)), nI_clamp (by omega), h4, if_pos (nI_le (by omega) (by omega)), show i = b by omega]
  | succ k ih =>
    intro i f hf hi
    obtain ⟨f, rfl⟩ : ∃ m, f = m + 1 := ⟨f - 1, by omega⟩
    have hnn : nn (pw10 (i + 1)) := (FP.Core.ne_nan _).mpr (pw10_nn (i + 1) (by omega))
    rw [q_MO_workFormula_L41, fs_okp_pos (show vp_in (nI p) 3240 from nI_in hp (by omega)), nI_clamp (by omega), h4, if_neg (nI_ge (by omega) (by omega)), nI_1, show FP.dmul (pw10 i) 4621819117588971520 = pw10 (i + 1) from rfl, fs_okp_pos (nn_n64 hnn)]
    exact ih (i + 1) f (by omega) (by omega)
