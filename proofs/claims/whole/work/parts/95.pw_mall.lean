/-! Pure: the reference's whole working out. -/
theorem wk_79 {M : mo_S} {z : Nat} {self : Int32 → mo_S → Option mo_S} {b : Int32} (hz : z < 80) (hb : b = 0 ∨ b = 1) : q_MO_work_L19_J79 self (nI z) b (nI z) M = self (nI (z + 1)) (mo_i (mo_i M 18 z b) 19 z (if M.2.1 0 z < 2 then 1 else b)) := by
  have zin : vp_in (nI z) 80 := nI_in hz (by omega)
  have zin1 : vp_in (nI z) 81 := nI_in (by omega) (by omega)
  have hnar : vp_nar .boolean b = b := by
    rcases hb with rfl | rfl
    · exact nar_0
    · exact nar_1
  unfold q_MO_work_L19_J79
  rw [fs_okp_pos zin, fs_okp_pos zin1, nI_clamp (by omega), nI_1, hnar]
  by_cases h2 : M.2.1 0 z < 2
  · rw [if_pos h2, if_pos h2, fs_okp_pos zin, nar_1]
  · rw [if_neg h2, if_neg h2, fs_okp_pos zin, mo_i_at, if_pos (show 18 = 18 ∧ z = z from ⟨rfl, rfl⟩)]
    rcases hb with rfl | rfl
    · rw [if_pos rfl, fs_okp_pos zin, nar_0]
    · rw [if_neg (by decide), fs_okp_pos zin, nar_1]
theorem wk_50 {A : Shh} {M : mo_S} {z : Nat} {self : Int32 → mo_S → Option mo_S} {w : UInt64} (hz : z < 80) (h15 : ∀ i q, i < 80 → q < 80 → m15 M i q = rea A (kap i) (kap q)) : q_MO_work_L19_J50 self (nI z) w (nI z) M = self (nI (z + 1)) (mo_i (mo_i (mo_d M 17 z w) 18 z (if M.2.1 0 z = 2 then bi (rea A (kap z) (kap z)) else 0)) 19 z (if M.2.1 0 z < 2 then 1 else (if M.2.1 0 z = 2 then bi (rea A (kap z) (kap z)) else 0))) := by
  have zin : vp_in (nI z) 80 := nI_in hz (by omega)
  have zin1 : vp_in (nI z) 81 := nI_in (by omega) (by omega)
  have zok : (0 ≤ (nI z).toInt) ∧ ((nI z).toInt < 80) := by
    rw [nI_toInt (by omega)]
    omega
  have hbi : ∀ b : Bool, bi b = 0 ∨ bi b = 1 := by intro b; cases b <;> decide
  unfold q_MO_work_L19_J50
  rw [fs_okp_pos zin, fs_okp_pos zin1, nI_clamp (by omega)]
  by_cases h2 : M.2.1 0 z = 2
  · rw [if_pos h2, if_pos h2, fs_okp_pos zok]
    have hc : (p_MO_circular (mo_d M 17 z w) (nI z)).1 = bi (rea A (kap z) (kap z)) := by
      unfold p_MO_circular
      rw [nI_clamp (by omega), mo_in hz]
      exact congrArg bi (h15 z z hz hz)
    rw [hc]
    have h79 := wk_79 (M := mo_d M 17 z w) (self := self) hz (hbi (rea A (kap z) (kap z)))
    cases e : rea A (kap z) (kap z) with
    | true =>
      rw [e] at h79
      rw [if_neg (show ¬ bi true = 0 by decide)]
      exact h79
    | false =>
      rw [e] at h79
      rw [if_pos (show bi false = 0 by decide)]
      exact h79
  · rw [if_neg h2, if_neg h2]
    unfold q_MO_work_L19_J78
    exact wk_79 (M := mo_d M 17 z w) (self := self) hz (Or.inl rfl)
def sto (M : mo_S) : Prop := ∀ k, k < 81 → M.2.1 0 k = 0 ∨ M.2.1 0 k = 1 ∨ M.2.1 0 k = 2
def good (A : Shh) (M : mo_S) (z : Nat) : Prop := nb (M.2.2.2 17 z) ∧ (M.2.1 18 z = 0 ∨ (M.2.1 18 z = 1 ∧ M.2.2.2 17 z = FP.dconst0)) ∧ ((M.2.1 19 z = 1 ∧ (A (kap z) ≠ none → vM M z = val A (kap z))) ∨ (M.2.1 19 z = 0 ∧ (∃ L, A (kap z) = some (.inr L)) ∧ rea A (kap z) (kap z) = false))
theorem wk_L19 {A : Shh} (hs : shok A) : ∀ (m z f : Nat) (M : mo_S), z + m = 80 → m < f → mR M A → (∀ i q, i < 80 → q < 80 → m13 M i q = refA A (kap i) (kap q)) → (∀ i q, i < 80 → q < 80 → m15 M i q = rea A (kap i) (kap q)) → sto M → (∀ i, i < z → good A M i) → ∃ M', q_MO_work_L19 f (nI z) M = some M' ∧ MI A M' ∧ wF M M' := by
  intro m
  induction m with
  | zero =>
    intro z f M hz hf hR h13 h15 hst hg
    obtain ⟨f, rfl⟩ : ∃ q, f = q + 1 := ⟨f - 1, by omega⟩
    rw [q_MO_work_L19, if_pos (show (80 : Int32) ≤ nI z from nI_le (a := 80) (by omega) (by omega))]
    exact ⟨M, rfl, ⟨hR, h13, h15, ⟨fun k hk => (hg k (by omega)).1, hst, fun k hk => (hg k (by omega)).2.1⟩, fun k hk => (hg k (by omega)).2.2⟩, wF.rf M⟩
  | succ m ih =>
    intro z f M hz hf hR h13 h15 hst hg
    obtain ⟨f, rfl⟩ : ∃ q, f = q + 1 := ⟨f - 1, by omega⟩
    have hz8 : z < 80 := by omega
    have zin1 : vp_in (nI z) 81 := nI_in (by omega) (by omega)
    have key : ∀ (w : UInt64) (b s : Int32), nb w → (b = 0 ∨ (b = 1 ∧ w = FP.dconst0)) → ((s = 1 ∧ (A (kap z) ≠ none → (if b = 0 then some w else none) = val A (kap z))) ∨ (s = 0 ∧ (∃ L, A (kap z) = some (.inr L)) ∧ rea A (kap z) (kap z) = false)) → ∃ M', q_MO_work_L19 f (nI (z + 1)) (mo_i (mo_i (mo_d M 17 z w) 18 z b) 19 z s) = some M' ∧ MI A M' ∧ wF M M' := by
      intro w b s hw hb hsv
      have i1 : ∀ j q, (mo_i (mo_i (mo_d M 17 z w) 18 z b) 19 z s).2.1 j q = if j = 19 ∧ q = z then s else (if j = 18 ∧ q = z then b else M.2.1 j q) := by
        intro j q
        rw [mo_i_at, mo_i_at]
        rfl
      have d1 : ∀ j q, (mo_i (mo_i (mo_d M 17 z w) 18 z b) 19 z s).2.2.2 j q = if j = 17 ∧ q = z then w else M.2.2.2 j q := fun j q => mo_d_at M 17 z j q w
      have fF : wF M (mo_i (mo_i (mo_d M 17 z w) 18 z b) 19 z s) := by
        refine ⟨rfl, fun j q h1 h2 h3 => ?_, rfl, fun j q h1 h2 => ?_⟩
        · rw [i1, if_neg (by omega), if_neg (by omega)]
        · rw [d1, if_neg (by omega)]
      obtain ⟨M', e1, e2, e3⟩ := ih (z + 1) f _ (by omega) (by omega) (fF.toR hR) (fun i q h1 h2 => by rw [fF.l13]; exact h13 i q h1 h2) (fun i q h1 h2 => by rw [fF.l15]; exact h15 i q h1 h2) (fun k hk => by rw [fF.2.1 0 k (by decide) (by decide) (by decide)]; exact hst k hk) (fun i hi => by
        by_cases hiz : i = z
        · rw [hiz]
          unfold good vM
          rw [d1, i1, i1, if_pos ⟨rfl, rfl⟩, if_neg (by omega), if_pos ⟨rfl, rfl⟩, if_pos ⟨rfl, rfl⟩]
          exact ⟨hw, hb, hsv⟩
        · have := hg i (by omega)
          unfold good vM at this ⊢
          rw [d1, i1, i1, if_neg (by omega), if_neg (by omega), if_neg (by omega), if_neg (by omega), if_neg (by omega)]
          exact this)
      exact ⟨M', e1, e2, fF.trans e3⟩
    rw [q_MO_work_L19, if_neg (show ¬ (80 : Int32) ≤ nI z from nI_ge (b := 80) hz8 (by decide)), fs_okp_pos zin1, nI_clamp (n := z) (by omega)]
    obtain ⟨a1, a2, a3⟩ := hR z hz8
    match e : A (kap z) with
    | none =>
      have h0 := a1 e
      rw [if_neg (by rw [h0]; decide), wk_50 hz8 h15, h0, if_neg (by decide), if_pos (by decide)]
      exact key _ _ _ nb_0 (Or.inl rfl) (Or.inl ⟨rfl, fun z => absurd e z⟩)
    | some (.inl d) =>
      obtain ⟨h0, hd⟩ := a2 d e
      rw [if_pos h0, fs_okp_pos zin1, wk_50 hz8 h15, h0, if_neg (by decide), if_pos (by decide), hd]
      exact key _ _ _ ((hs (kap z) (kap_lt hz8)).1 d e) (Or.inl rfl) (Or.inl ⟨rfl, fun _ => by rw [if_pos rfl, val_num e]⟩)
    | some (.inr L) =>
      obtain ⟨h0, _⟩ := a3 L e
      rw [if_neg (by rw [h0]; decide), wk_50 hz8 h15, h0, if_pos rfl, if_neg (by decide)]
      cases hc : rea A (kap z) (kap z) with
      | true =>
        rw [bi_1 rfl]
        exact key _ _ _ nb_0 (Or.inr ⟨rfl, rfl⟩) (Or.inl ⟨rfl, fun _ => by rw [if_neg (by decide), val_circ hc]⟩)
      | false =>
        rw [bi_0 rfl]
        exact key _ _ _ nb_0 (Or.inl rfl) (Or.inr ⟨rfl, ⟨L, e⟩, hc⟩)
/-- what stays over a whole working out -/
def wG (M M' : mo_S) : Prop := (∀ j, j ≠ 12 → M'.1 j = M.1 j) ∧ (∀ j q, j ≠ 18 → j ≠ 19 → j ≠ 21 → M'.2.1 j q = M.2.1 j q) ∧ (∀ j q, ¬ (13 ≤ j ∧ j ≤ 16) → M'.2.2.1 j q = M.2.2.1 j q) ∧ ∀ j q, j ≠ 17 → j ≠ 20 → M'.2.2.2 j q = M.2.2.2 j q
theorem wG.rf (M : mo_S) : wG M M := ⟨fun _ _ => rfl, fun _ _ _ _ _ => rfl, fun _ _ _ => rfl, fun _ _ _ _ => rfl⟩
theorem mR.f {M : mo_S} {A : Shh} (h : mR M A) (j : Nat) (x : Int32) : mR (mo_f M j x) A := h
theorem mR.G {M M' : mo_S} {A : Shh} (h : mR M A) (a : wG M M') : mR M' A := by
  intro z hz
  obtain ⟨h1, h2, h3⟩ := h z hz
  refine ⟨fun e => by rw [a.2.1 0 z (by decide) (by decide) (by decide)]; exact h1 e, fun d e => by rw [a.2.1 0 z (by decide) (by decide) (by decide), a.2.2.2 2 z (by decide) (by decide)]; exact h2 d e, fun L e => ?_⟩
  obtain ⟨h4, h5, h6, h7⟩ := h3 L e
  refine ⟨by rw [a.2.1 0 z (by decide) (by decide) (by decide)]; exact h4, by rw [a.2.1 1 z (by decide) (by decide) (by decide)]; exact h5, h6, fun j y hj => ?_⟩
  have := h7 j y hj
  unfold ci at this ⊢
  rw [a.2.1 3 _ (by decide) (by decide) (by decide), a.2.1 4 _ (by decide) (by decide) (by decide), a.2.1 5 _ (by decide) (by decide) (by decide), a.2.2.1 6 _ (by decide)]
  exact this
theorem mo_work {M : mo_S} {A : Shh} (hs : shok A) (hR : mR M A) (hsz : mo_sz M) (hst : sto M) (h12 : M.1 12 = 0 → stM A M) : ∃ M', q_MO_work M = some M' ∧ wG M M' ∧ stM A M' ∧ M'.1 12 = 0 := by
  unfold q_MO_work
  by_cases h0 : M.1 12 = 0
  · rw [if_pos h0]
    exact ⟨M, rfl, wG.rf M, h12 h0, h0⟩
  · rw [if_neg h0, fs_okp_pos (show mo_sz (mo_f M 12 0) from hsz)]
    unfold fs_let
    dsimp only
    obtain ⟨f1, f2, f3⟩ := mo_findReferences hs (hR.f 12 0)
    obtain ⟨M1, g1, g2, g3⟩ := wk_L19 hs 80 0 81 (p_MO_findReferences (mo_f M 12 0)) (by omega) (by omega) ((hR.f 12 0).byF f1) f2 f3 (fun k hk => by rw [f1.2.1]; exact hst k hk) (fun i hi => absurd hi (Nat.not_lt_zero i))
    rw [show q_MO_work_L19 81 0 (p_MO_findReferences (mo_f M 12 0)) = some M1 from g1, Option.bind_some]
    try dsimp only
    have hu : unS M1 ≤ 80 := by
      have := List.countP_le_length (p := fun z => decide (M1.2.1 19 z = 0)) (l := List.range 80)
      rw [List.length_range] at this
      exact this
    obtain ⟨M2, k1, k2, k3, k4⟩ := wk_L118 hs 82 M1 g2 (by omega)
    rw [k1, Option.bind_some]
    refine ⟨M2, rfl, ⟨fun j hj => ?_, fun j q h1 h2 h3 => ?_, fun j q h1 => ?_, fun j q h1 h2 => ?_⟩, k4, ?_⟩
    · rw [k3.1, g3.1, f1.1, mo_f_1, if_neg hj]
    · rw [k3.2.1 j q h1 h2 h3, g3.2.1 j q h1 h2 h3, f1.2.1]
      rfl
    · rw [k3.2.2.1, g3.2.2.1, f1.2.2.2 j q h1]
      rfl
    · rw [k3.2.2.2 j q h1 h2, g3.2.2.2 j q h1 h2, f1.2.2.1]
      rfl
    · rw [k3.1, g3.1, f1.1, mo_f_1, if_pos rfl]
