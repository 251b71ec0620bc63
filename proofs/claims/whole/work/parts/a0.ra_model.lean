/-! Pure: the reference's whole state; its face. -/
def MoQ (M : mo_S) (A : Shh) (f : Nat → Int32) (n : Nat) (er : Int32) : Prop := mR M A ∧ sto M ∧ mo_sz M ∧ (M.1 12 = 0 → stM A M) ∧ M.1 10 = er ∧ pm_names M ∧ M.1 9 = nI n ∧ n ≤ 40 ∧ ∀ i, i < n → M.2.1 8 i = f i ∧ ∃ c, c < 128 ∧ f i = nI c
section
variable {M M' : mo_S} {A A' : Shh} {f f' : Nat → Int32} {n n' : Nat} {er : Int32}
theorem ci.eqv {k : Nat} {x : It} (h : ci M k x) (e : ∀ j, j = 3 ∨ j = 4 ∨ j = 5 → M'.2.1 j k = M.2.1 j k) (el : M'.2.2.1 6 k = M.2.2.1 6 k) : ci M' k x := by
  unfold ci at h ⊢
  rw [e 3 (by omega), e 4 (by omega), e 5 (by omega), el]
  exact h
/-- the cells' content is the same -/
theorem mR.eqv (h : mR M A) (e : ∀ j q, j = 0 ∨ j = 1 → q < 80 → M'.2.1 j q = M.2.1 j q) (e3 : ∀ j q, j = 3 ∨ j = 4 ∨ j = 5 → q < 3200 → M'.2.1 j q = M.2.1 j q) (el : ∀ q, q < 3200 → M'.2.2.1 6 q = M.2.2.1 6 q) (ed : ∀ q, q < 80 → M'.2.2.2 2 q = M.2.2.2 2 q) : mR M' A := by
  intro z hz
  obtain ⟨h1, h2, h3⟩ := h z hz
  refine ⟨fun a => ?_, fun d a => ?_, fun L a => ?_⟩
  · rw [e 0 z (Or.inl rfl) hz]
    exact h1 a
  · rw [e 0 z (Or.inl rfl) hz, ed z hz]
    exact h2 d a
  · obtain ⟨g1, g2, g3, g4⟩ := h3 L a
    refine ⟨by rw [e 0 z (Or.inl rfl) hz]; exact g1, by rw [e 1 z (Or.inr rfl) hz]; exact g2, g3, fun j y hj => ?_⟩
    have hj' : j < L.length := (List.getElem?_eq_some_iff.mp hj).1
    exact (g4 j y hj).eqv (fun i hi => e3 i _ hi (by omega)) (el _ (by omega))
theorem stM.eqv (h : stM A M) (e18 : ∀ q, M'.2.1 18 q = M.2.1 18 q) (el : ∀ j q, 13 ≤ j → j ≤ 16 → M'.2.2.1 j q = M.2.2.1 j q) (ed : ∀ q, M'.2.2.2 17 q = M.2.2.2 17 q) : stM A M' := by
  obtain ⟨h1, h2, h3⟩ := h
  refine ⟨fun i q hi hq => ?_, fun i q hi hq => ?_, fun z hz a => ?_⟩
  · have : m13 M' i q = m13 M i q := by unfold m13; rw [el 13 i (by omega) (by omega), el 14 i (by omega) (by omega)]
    rw [this]
    exact h1 i q hi hq
  · have : m15 M' i q = m15 M i q := by unfold m15; rw [el 15 i (by omega) (by omega), el 16 i (by omega) (by omega)]
    rw [this]
    exact h2 i q hi hq
  · have : vM M' z = vM M z := by unfold vM; rw [e18 z, ed z]
    rw [this]
    exact h3 z hz a
theorem MoQ.eqv (q : MoQ M A f n er) (e : ∀ j k, j ≤ 7 ∨ j = 18 → M'.2.1 j k = M.2.1 j k) (el : M'.2.2 = M.2.2) (e10 : M'.1 10 = M.1 10) (e12 : M'.1 12 = M.1 12) (hn : M'.1 9 = nI n') (hn4 : n' ≤ 40) (hf : ∀ i, i < n' → M'.2.1 8 i = f' i ∧ ∃ c, c < 128 ∧ f' i = nI c) : MoQ M' A f' n' er := by
  obtain ⟨q1, q2, q3, q4, q5, q6, _⟩ := q
  refine ⟨q1.eqv (fun j k hj _ => e j k (by omega)) (fun j k hj _ => e j k (by omega)) (fun k _ => by rw [el]) (fun k _ => by rw [el]), fun k hk => ?_, fun k => ?_, fun z => ?_, e10.trans q5, fun j hj k hk => (e 7 _ (by omega)).trans (q6 j hj k hk), hn, hn4, hf⟩
  · rw [e 0 k (by omega)]
    exact q2 k hk
  · rw [e 1 k (by omega)]
    exact q3 k
  · rw [e12] at z
    exact (q4 z).eqv (fun k => e 18 k (by omega)) (fun j k _ _ => by rw [el]) (fun k => by rw [el])
theorem MoQ.f11 (q : MoQ M A f n er) (z : Int32) : MoQ (mo_f M 11 z) A f n er := q.eqv (fun _ _ _ => rfl) rfl (mo_f_ne M z (by decide)) (mo_f_ne M z (by decide)) ((mo_f_ne M z (by decide)).trans q.2.2.2.2.2.2.1) q.2.2.2.2.2.2.2.1 q.2.2.2.2.2.2.2.2
theorem mq_work (hs : shok A) (q : MoQ M A f n er) : ∃ M', q_MO_work M = some M' ∧ MoQ M' A f n er ∧ stM A M' ∧ M'.1 11 = M.1 11 := by
  obtain ⟨q1, q2, q3, q4, q5, q6, q7, q8, q9⟩ := q
  obtain ⟨M', w1, w2, w3, w4⟩ := mo_work hs q1 q3 q2 q4
  refine ⟨M', w1, ⟨q1.G w2, fun k hk => ?_, fun k => ?_, fun _ => w3, (w2.1 10 (by decide)).trans q5, fun j hj k hk => (w2.2.1 7 _ (by decide) (by decide) (by decide)).trans (q6 j hj k hk), (w2.1 9 (by decide)).trans q7, q8, fun i hi => ⟨(w2.2.1 8 i (by decide) (by decide) (by decide)).trans (q9 i hi).1, (q9 i hi).2⟩⟩, w3, w2.1 11 (by decide)⟩
  · rw [w2.2.1 0 k (by decide) (by decide) (by decide)]
    exact q2 k hk
  · rw [w2.2.1 1 k (by decide) (by decide) (by decide)]
    exact q3 k
/-! type -/
theorem mq_type1 (q : MoQ M A f n er) {y : Int32} (h : y < 0 ∨ ¬ y ≤ 127) : MoQ (p_MO_type M y).2 A f n er ∧ (p_MO_type M y).2.1 11 = 1 := by
  have e : (p_MO_type M y).2 = mo_f (mo_f M 11 0) 11 1 := by
    unfold p_MO_type p_MO_fail
    rcases h with h | h
    · rw [if_pos h]
    · by_cases h0 : y < 0
      · rw [if_pos h0]
      · rw [if_neg h0, if_neg h]
  rw [e]
  exact ⟨(q.f11 0).f11 1, mo_f_at _ 11 1⟩
theorem mq_type2 (q : MoQ M A f n er) {k : Nat} (hk : k < 128) (hn : n = 40) : MoQ (p_MO_type M (nI k)).2 A f n er ∧ (p_MO_type M (nI k)).2.1 11 = 2 := by
  have e : (p_MO_type M (nI k)).2 = mo_f (mo_f M 11 0) 11 2 := by
    unfold p_MO_type p_MO_fail
    rw [if_neg (nI_pos (by omega)), if_pos (show nI k ≤ (127 : Int32) from nI_le (b := 127) (by omega) (by decide)), if_pos (show (mo_f M 11 0).1 9 = 40 by rw [mo_f_ne M 0 (by decide), q.2.2.2.2.2.2.1, hn]; rfl)]
  rw [e]
  exact ⟨(q.f11 0).f11 2, mo_f_at _ 11 2⟩
theorem mq_type0 (q : MoQ M A f n er) {k : Nat} (hk : k < 128) (hn : n < 40) : MoQ (p_MO_type M (nI k)).2 A (upd f n (nI k)) (n + 1) er ∧ (p_MO_type M (nI k)).2.1 11 = 0 ∧ (p_MO_type M (nI k)).1 = nI (n + 1) := by
  have e9 : (mo_f M 11 0).1 9 = nI n := (mo_f_ne M 0 (by decide)).trans q.2.2.2.2.2.2.1
  have e : p_MO_type M (nI k) = (nI (n + 1), mo_f (mo_i (mo_f M 11 0) 8 n (nI k)) 9 (nI (n + 1))) := by
    unfold p_MO_type
    rw [if_neg (nI_pos (by omega)), if_pos (show nI k ≤ (127 : Int32) from nI_le (b := 127) (by omega) (by decide)), if_neg (show ¬ (mo_f M 11 0).1 9 = 40 by rw [e9]; exact fun z => by have := (nI_eq (b := 40) (by omega) (by decide)).mp z; omega)]
    have e' : (mo_i (mo_f M 11 0) 8 (Int32.toNatClampNeg ((mo_f M 11 0).1 9)) (nI k)).1 9 + 1 = nI (n + 1) := by
      show (mo_f M 11 0).1 9 + 1 = nI (n + 1)
      rw [e9, nI_1]
    rw [e', e9, nI_clamp (by omega), mo_f_at]
  rw [e]
  refine ⟨?_, ?_, rfl⟩
  · refine q.eqv (fun j i hj => ?_) rfl rfl rfl rfl (by omega) (fun i hi => ?_)
    · show (mo_i (mo_f M 11 0) 8 n (nI k)).2.1 j i = M.2.1 j i
      rw [mo_i_at, if_neg (by omega)]
      rfl
    · refine ⟨?_, ?_⟩
      · show (mo_i (mo_f M 11 0) 8 n (nI k)).2.1 8 i = upd f n (nI k) i
        rw [mo_i_at, upd_at]
        by_cases hin : i = n
        · rw [if_pos ⟨rfl, hin⟩, if_pos hin]
        · rw [if_neg (fun z => hin z.2), if_neg hin]
          exact (q.2.2.2.2.2.2.2.2 i (by omega)).1
      · rw [upd_at]
        split
        · exact ⟨k, hk, rfl⟩
        · exact (q.2.2.2.2.2.2.2.2 i (by omega)).2
  · rfl
/-! cells that change -/
theorem kap_iff {z y : Nat} (hz : z < 80) (hy : y < 80) : kap z = kap y ↔ z = y := ⟨fun e => by
  have := congrArg mup e
  rw [mup_kap hz, mup_kap hy] at this
  exact this, fun e => by rw [e]⟩
theorem MoQ.setC (q : MoQ M A f n er) {y : Nat} (hy : y < 80) {x : Cl} (a : cpF y M M') (hx : mRc M' y x) (hst : sto M') (hsz : mo_sz M') : MoQ (mo_f M' 12 1) (fun j => if j = kap y then x else A j) f n er ∧ (mo_f M' 12 1).1 11 = M.1 11 := by
  obtain ⟨q1, q2, q3, q4, q5, q6, q7, q8, q9⟩ := q
  have e1 : ∀ j, j ≠ 12 → (mo_f M' 12 1).1 j = M.1 j := fun j hj => by rw [mo_f_ne M' 1 hj, a.1]
  refine ⟨⟨?_, hst, hsz, fun z => ?_, (e1 10 (by decide)).trans q5, fun j hj k hk => (a.2.1 7 _ (by omega) (by omega)).trans (q6 j hj k hk), (e1 9 (by decide)).trans q7, q8, fun i hi => ⟨(a.2.1 8 i (by omega) (by omega)).trans (q9 i hi).1, (q9 i hi).2⟩⟩, e1 11 (by decide)⟩
  · refine (mR.of (M := M') fun z hz => ?_ : mR M' (fun j => if j = kap y then x else A j)).f 12 1
    by_cases hzy : z = y
    · try dsimp only
      rw [hzy, if_pos rfl]
      exact hx
    · try dsimp only
      rw [if_neg (fun w => hzy ((kap_iff hz hy).mp w))]
      exact a.c hzy (q1.c hz)
  · rw [mo_f_at] at z
    exact absurd z (by decide)
theorem MoQ.cg (q : MoQ M A f n er) (a : cgF M M') (hR : mR M' A') (h12 : M'.1 12 = 1) : MoQ M' A' f n er := by
  obtain ⟨q1, q2, q3, q4, q5, q6, q7, q8, q9⟩ := q
  refine ⟨hR, a.2.2.1 q2, a.2.2.2 q3, fun z => ?_, (a.1 10 (by decide) (by decide)).trans q5, fun j hj k hk => (a.2.1 7 _ (by omega)).trans (q6 j hj k hk), (a.1 9 (by decide) (by decide)).trans q7, q8, fun i hi => ⟨(a.2.1 8 i (by omega)).trans (q9 i hi).1, (q9 i hi).2⟩⟩
  rw [h12] at z
  exact absurd z (by decide)
theorem idxM {C W : Nat} (hC : C < 8) (hW : W < 10) : (10 * nI C) + nI W = nI (10 * C + W) ∧ (nI (10 * C + W)).toNatClampNeg = 10 * C + W ∧ kap (10 * C + W) = W * 8 + C ∧ 10 * C + W < 80 := ⟨(idx10 hC hW).1, (idx10 hC hW).2.2.2, kap_at hC hW, by omega⟩
theorem mq_put1 (q : MoQ M A f n er) {y1 y2 : Int32} {d : UInt64} (h : p_MO_out y1 y2 = 1) : MoQ (p_MO_put M y1 y2 d) A f n er ∧ (p_MO_put M y1 y2 d).1 11 = 1 := by
  unfold p_MO_put
  rw [h, if_neg (show ¬ (1 : Int32) = 0 by decide)]
  exact ⟨(q.f11 0).f11 1, mo_f_at _ 11 1⟩
theorem mq_put2 (q : MoQ M A f n er) {C W : Nat} (hC : C < 8) (hW : W < 10) {d : UInt64} (hd : nn d) (hb : ¬ nb d) : MoQ (p_MO_put M (nI C) (nI W) d) A f n er ∧ (p_MO_put M (nI C) (nI W) d).1 11 = 2 := by
  unfold p_MO_put
  rw [if_pos (out_in hC hW), tg_bad hd hb, if_neg (show ¬ (1 : Int32) = 0 by decide)]
  exact ⟨(q.f11 0).f11 2, mo_f_at _ 11 2⟩
theorem mq_put0 (q : MoQ M A f n er) {C W : Nat} (hC : C < 8) (hW : W < 10) {d : UInt64} (hb : nb d) : MoQ (p_MO_put M (nI C) (nI W) d) (fun j => if j = W * 8 + C then some (.inl d) else A j) f n er ∧ (p_MO_put M (nI C) (nI W) d).1 11 = 0 := by
  obtain ⟨i1, i2, i3, i4⟩ := idxM hC hW
  unfold p_MO_put
  rw [if_pos (out_in hC hW), if_pos (tg_ok hb), i1, i2]
  have q0 := q.f11 0
  have a : cpF (10 * C + W) (mo_f M 11 0) (mo_d (mo_i (mo_f M 11 0) 0 (10 * C + W) 1) 2 (10 * C + W) d) := ⟨rfl, fun j k h1 h2 => by
    show (mo_i (mo_f M 11 0) 0 (10 * C + W) 1).2.1 j k = (mo_f M 11 0).2.1 j k
    rw [mo_i_at, if_neg (fun z => h1 ⟨Or.inl z.1, z.2⟩)], fun j k _ => rfl, fun j k h1 => by
    rw [mo_d_at, if_neg h1]
    rfl⟩
  have hx : mRc (mo_d (mo_i (mo_f M 11 0) 0 (10 * C + W) 1) 2 (10 * C + W) d) (10 * C + W) (some (.inl d)) := by
    refine ⟨fun z => (by cases z), fun d' z => ?_, fun L z => by cases z⟩
    cases z
    refine ⟨?_, by rw [mo_d_at, if_pos ⟨rfl, rfl⟩]⟩
    show (mo_i (mo_f M 11 0) 0 (10 * C + W) 1).2.1 0 (10 * C + W) = 1
    rw [mo_i_at, if_pos ⟨rfl, rfl⟩]
  have key := q0.setC i4 a hx (fun k hk => by
    show (mo_i (mo_f M 11 0) 0 (10 * C + W) 1).2.1 0 k = 0 ∨ (mo_i (mo_f M 11 0) 0 (10 * C + W) 1).2.1 0 k = 1 ∨ (mo_i (mo_f M 11 0) 0 (10 * C + W) 1).2.1 0 k = 2
    rw [mo_i_at]
    split
    · exact Or.inr (Or.inl rfl)
    · exact q0.2.1 k hk) (fun k => q0.2.2.1 k)
  rw [i3] at key
  exact ⟨key.1, key.2.trans (mo_f_at M 11 0)⟩
theorem mR.at0 (h : mR M A) {z : Nat} (hz : z < 80) : M.2.1 0 z = 0 ↔ A (kap z) = none := by
  obtain ⟨h1, h2, h3⟩ := h z hz
  constructor
  · intro e
    match c : A (kap z) with
    | none => rfl
    | some (.inl d) =>
      rw [(h2 d c).1] at e
      exact absurd e (by decide)
    | some (.inr L) =>
      rw [(h3 L c).1] at e
      exact absurd e (by decide)
  · exact h1
theorem mq_erase1 (q : MoQ M A f n er) {y1 y2 : Int32} (h : p_MO_out y1 y2 = 1) : MoQ (p_MO_erase M y1 y2) A f n er ∧ (p_MO_erase M y1 y2).1 11 = 1 := by
  unfold p_MO_erase
  rw [h, if_neg (show ¬ (1 : Int32) = 0 by decide)]
  exact ⟨(q.f11 0).f11 1, mo_f_at _ 11 1⟩
theorem mq_erase2 (q : MoQ M A f n er) {C W : Nat} (hC : C < 8) (hW : W < 10) (hA : A (W * 8 + C) = none) : MoQ (p_MO_erase M (nI C) (nI W)) A f n er ∧ (p_MO_erase M (nI C) (nI W)).1 11 = 2 := by
  obtain ⟨i1, i2, i3, i4⟩ := idxM hC hW
  unfold p_MO_erase
  rw [if_pos (out_in hC hW), i1, i2, if_pos ((q.1.at0 i4).mpr (by rw [i3]; exact hA))]
  exact ⟨(q.f11 0).f11 2, mo_f_at _ 11 2⟩
theorem mq_erase0 (q : MoQ M A f n er) {C W : Nat} (hC : C < 8) (hW : W < 10) (hA : A (W * 8 + C) ≠ none) : MoQ (p_MO_erase M (nI C) (nI W)) (fun j => if j = W * 8 + C then none else A j) f n er ∧ (p_MO_erase M (nI C) (nI W)).1 11 = 0 := by
  obtain ⟨i1, i2, i3, i4⟩ := idxM hC hW
  unfold p_MO_erase
  rw [if_pos (out_in hC hW), i1, i2, if_neg (fun z => hA (by rw [← i3]; exact (q.1.at0 i4).mp z))]
  have q0 := q.f11 0
  have em := mo_empty (M := mo_f M 11 0) (y := 10 * C + W)
  have key := q0.setC i4 em.1 em.2 (fun k hk => by
    rw [mo_i_at]
    split
    · exact Or.inl rfl
    · exact q0.2.1 k hk) (fun k => by
    rw [mo_i_at, if_neg (fun z => absurd z.1 (by decide))]
    exact q0.2.2.1 k)
  rw [i3] at key
  exact ⟨key.1, key.2.trans (mo_f_at M 11 0)⟩
theorem mq_insert1 (q : MoQ M A f n er) {y : Int32} (h : p_MO_out 0 y = 1) : MoQ (p_MO_insert M y).2 A f n er ∧ (p_MO_insert M y).2.1 11 = 1 := by
  have e : (p_MO_insert M y).2 = mo_f (mo_f M 11 0) 11 1 := by
    unfold p_MO_insert
    rw [h, if_neg (show ¬ (1 : Int32) = 0 by decide)]
    rfl
  rw [e]
  exact ⟨(q.f11 0).f11 1, mo_f_at _ 11 1⟩
theorem mq_delete1 (q : MoQ M A f n er) {y : Int32} (h : p_MO_out 0 y = 1) : MoQ (p_MO_delete M y).2 A f n er ∧ (p_MO_delete M y).2.1 11 = 1 := by
  have e : (p_MO_delete M y).2 = mo_f (mo_f M 11 0) 11 1 := by
    unfold p_MO_delete
    rw [h, if_neg (show ¬ (1 : Int32) = 0 by decide)]
    rfl
  rw [e]
  exact ⟨(q.f11 0).f11 1, mo_f_at _ 11 1⟩
theorem mq_copy1 (q : MoQ M A f n er) {y1 y2 y3 y4 : Int32} (h : p_MO_out y1 y2 = 1 ∨ p_MO_out y3 y4 = 1) : MoQ (p_MO_copy M y1 y2 y3 y4).2 A f n er ∧ (p_MO_copy M y1 y2 y3 y4).2.1 11 = 1 := by
  have e : (p_MO_copy M y1 y2 y3 y4).2 = mo_f (mo_f M 11 0) 11 1 := by
    unfold p_MO_copy
    rcases out_or y1 y2 with e1 | e1
    · rw [if_pos e1]
      have e3 : p_MO_out y3 y4 = 1 := by
        rcases h with h | h
        · rw [e1] at h
          exact absurd h (by decide)
        · exact h
      rw [e3, if_neg (show ¬ (1 : Int32) = 0 by decide)]
      rfl
    · rw [e1, if_neg (show ¬ (1 : Int32) = 0 by decide)]
      rfl
  rw [e]
  exact ⟨(q.f11 0).f11 1, mo_f_at _ 11 1⟩
theorem mq_copy2 (q : MoQ M A f n er) {C W C' W' : Nat} (hC : C < 8) (hW : W < 10) (hC' : C' < 8) (hW' : W' < 10) (hA : A (W * 8 + C) = none) : MoQ (p_MO_copy M (nI C) (nI W) (nI C') (nI W')).2 A f n er ∧ (p_MO_copy M (nI C) (nI W) (nI C') (nI W')).2.1 11 = 2 := by
  obtain ⟨i1, i2, i3, i4⟩ := idxM hC hW
  have e : (p_MO_copy M (nI C) (nI W) (nI C') (nI W')).2 = mo_f (mo_f M 11 0) 11 2 := by
    unfold p_MO_copy
    rw [if_pos (out_in hC hW), if_pos (out_in hC' hW'), i1, i2, if_pos ((q.1.at0 i4).mpr (by rw [i3]; exact hA))]
    rfl
  rw [e]
  exact ⟨(q.f11 0).f11 2, mo_f_at _ 11 2⟩
end
