/-! Pure: rows come into the reference's sheet, and go out. -/
/-- only the references of one item change -/
def s1F (p : Nat) (M M' : mo_S) : Prop := M'.1 = M.1 ∧ (∀ j q, ¬ ((j = 4 ∨ j = 5) ∧ q = p) → M'.2.1 j q = M.2.1 j q) ∧ M'.2.2 = M.2.2
theorem s1F.rf (p : Nat) (M : mo_S) : s1F p M M := ⟨rfl, fun _ _ _ => rfl, rfl⟩
theorem ci_sh {M M' : mo_S} {p : Nat} {x : It} (a : s1F p M M') {q : Nat} (h : q ≠ p) (c : ci M q x) : ci M' q x := by
  unfold ci at c ⊢
  rw [a.2.1 3 q (by omega), a.2.1 4 q (by omega), a.2.1 5 q (by omega), a.2.2]
  exact c
theorem isR_tl {x : It} (h : tlok x) : p_MO_isRange x.1 = 0 := by
  unfold p_MO_isRange
  rcases h with h | h
  · rw [h]; decide
  · by_cases t3 : x.1 < 2
    · rw [if_pos t3]
    · rw [if_neg t3, if_pos (Int32.lt_of_lt_of_le (show (6 : Int32) < 7 by decide) h)]
theorem itok_cases {x : It} (h : itok x) : (∃ a, xok a ∧ x = (1, a, 0, 0)) ∨ (∃ j a b, j < 5 ∧ xok a ∧ xok b ∧ x = (nI (j + 2), a, b, 0)) ∨ tlok x := by
  rcases h with ⟨b, d, h1, h2, rfl⟩ | h | ⟨j, a, b, h0, h1, h2, rfl⟩ | ⟨w, hw, rfl⟩ | rfl | ⟨w, hw, rfl⟩
  · exact Or.inr (Or.inr (Or.inl rfl))
  · exact Or.inl h
  · exact Or.inr (Or.inl ⟨j, a, b, h0, h1, h2, rfl⟩)
  · exact Or.inr (Or.inr (by rcases hw with rfl | rfl | rfl | rfl <;> exact Or.inr (by decide)))
  · exact Or.inr (Or.inr (Or.inr (show (7 : Int32) ≤ 9 by decide)))
  · exact Or.inr (Or.inr (by rcases hw with rfl | rfl | rfl | rfl | rfl | rfl | rfl | rfl | rfl | rfl <;> exact Or.inr (by decide)))
theorem sa_step {M : mo_S} {z s p f r : Nat} {x : It} (d : Bool) (hr : r < 10) (hz : z < 80) (h0 : M.2.1 0 z = 2) (hs1 : M.2.1 1 z = nI s) (hs2 : s ≤ 40) (hp0 : 40 * z ≤ p) (hp : p < 40 * z + s) (hx : itok x) (hi : ci M p x) : ∃ M', p_MO_shiftAll_L19 (f + 1) (nI r) (dir d) (nI z) (nI p) M = p_MO_shiftAll_L19 f (nI r) (dir d) (nI z) (nI (p + 1)) M' ∧ s1F p M M' ∧ ci M' p (shI d r x) := by
  have e2 : ¬ ((40 * nI z) + (M.2.1 1 (Int32.toNatClampNeg (nI z)))) ≤ nI p := by
    rw [nI_clamp (by omega), hs1, nI_40]
    exact nI_ge hp (by omega)
  rw [p_MO_shiftAll_L19, if_neg e2, nI_clamp (n := z) (by omega), if_pos h0, nI_clamp (n := p) (by omega), nI_1, hi.1]
  rcases itok_cases hx with ⟨a, h1, rfl⟩ | ⟨j, a, b, hj, h1, h2, rfl⟩ | htl
  · rw [if_pos (show (1 : Int32) = 1 from rfl), if_pos (show p_MO_isRange 1 = 0 by decide)]
    refine ⟨_, rfl, ⟨rfl, fun j q h => by rw [mo_i_at, if_neg (by omega)], rfl⟩, ?_⟩
    rw [shI_rf]
    have hq := mo_shifted (hi.2.2.1 rfl) hr d (m := 0) (by cases d <;> decide) (fun z => by omega)
    refine ⟨?_, fun e => absurd e (show ¬ (1 : Int32) = 0 by decide), fun _ => ?_, fun e => absurd e (show ¬ (2 : Int32) ≤ 1 by decide)⟩
    · rw [mo_i_at, if_neg (by omega)]; exact hi.1
    · rw [mo_i_at, if_pos ⟨rfl, rfl⟩]; exact hq
  · obtain ⟨g1, g2, g3, g4, g5⟩ := it_rg j hj
    obtain ⟨t1, t2⟩ := hi.2.2.2 g5 g4
    obtain ⟨a', b', q1, q2, q3⟩ := mo_shiftRange d (show p < 3240 by omega) hr t1 t2
    rw [if_neg g2, if_neg g3, q1]
    refine ⟨_, rfl, ⟨rfl, fun j q h => by rw [mo_i_at, mo_i_at, if_neg (by omega), if_neg (by omega)], rfl⟩, ?_⟩
    rw [shI_rg d r hj]
    refine ⟨?_, fun e => absurd e g1, fun e => absurd e g2, fun _ _ => ⟨?_, ?_⟩⟩
    · rw [mo_i_at, mo_i_at, if_neg (by omega), if_neg (by omega)]; exact hi.1
    · rw [mo_i_at, mo_i_at, if_neg (by omega), if_pos ⟨rfl, rfl⟩]; exact q2
    · rw [mo_i_at, if_pos ⟨rfl, rfl⟩]; exact q3
  · rw [if_neg htl.no.1, if_pos (isR_tl htl)]
    exact ⟨M, rfl, s1F.rf p M, by rw [shI_tl d r htl]; exact hi⟩
/-- only the references of cell z change -/
def szF (z : Nat) (M M' : mo_S) : Prop := M'.1 = M.1 ∧ (∀ j q, ¬ ((j = 4 ∨ j = 5) ∧ 40 * z ≤ q ∧ q < 40 * z + 40) → M'.2.1 j q = M.2.1 j q) ∧ M'.2.2 = M.2.2
theorem szF.rf (z : Nat) (M : mo_S) : szF z M M := ⟨rfl, fun _ _ _ => rfl, rfl⟩
theorem szF.trans {z : Nat} {M M1 M2 : mo_S} (a : szF z M M1) (b : szF z M1 M2) : szF z M M2 := ⟨b.1.trans a.1, fun j q h => (b.2.1 j q h).trans (a.2.1 j q h), b.2.2.trans a.2.2⟩
theorem szF.c {y z : Nat} {M M' : mo_S} (a : szF y M M') (h : z ≠ y) {x : Cl} (hx : mRc M z x) : mRc M' z x := by
  obtain ⟨h1, h2, h3⟩ := hx
  refine ⟨fun e => by rw [a.2.1 0 z (by omega)]; exact h1 e, fun d e => by rw [a.2.1 0 z (by omega), a.2.2]; exact h2 d e, fun L e => ?_⟩
  obtain ⟨h4, h5, h6, h7⟩ := h3 L e
  refine ⟨by rw [a.2.1 0 z (by omega)]; exact h4, by rw [a.2.1 1 z (by omega)]; exact h5, h6, fun j w hj => ?_⟩
  have hl := (List.getElem?_eq_some_iff.mp hj).1
  have := h7 j w hj
  unfold ci at this ⊢
  rw [a.2.1 3 _ (by omega), a.2.1 4 _ (by omega), a.2.1 5 _ (by omega), a.2.2]
  exact this
theorem sa_L19 {z s r : Nat} (d : Bool) (hr : r < 10) (hz : z < 80) (hs2 : s ≤ 40) : ∀ (L : List It) (i f : Nat) (M : mo_S), M.2.1 0 z = 2 → M.2.1 1 z = nI s → i + L.length = s → L.length < f → (∀ x ∈ L, itok x) → (∀ j y, L[j]? = some y → ci M (40 * z + i + j) y) → ∃ y M', p_MO_shiftAll_L19 f (nI r) (dir d) (nI z) (nI (40 * z + i)) M = (y, M') ∧ szF z M M' ∧ (∀ q, q < 40 * z + i → ∀ x, ci M q x → ci M' q x) ∧ ∀ j y, L[j]? = some y → ci M' (40 * z + i + j) (shI d r y) := by
  intro L
  induction L with
  | nil =>
    intro i f M h0 hs1 hi hf _ _
    obtain ⟨f, rfl⟩ : ∃ q, f = q + 1 := ⟨f - 1, by omega⟩
    rw [List.length_nil] at hi
    have e2 : ((40 * nI z) + (M.2.1 1 (Int32.toNatClampNeg (nI z)))) ≤ nI (40 * z + i) := by
      rw [nI_clamp (by omega), hs1, nI_40]
      exact nI_le (by omega) (by omega)
    rw [p_MO_shiftAll_L19, if_pos e2, nI_clamp (n := z) (by omega), if_pos h0]
    exact ⟨_, _, rfl, szF.rf z M, fun q _ x h => h, fun j y hj => by cases hj⟩
  | cons x L ih =>
    intro i f M h0 hs1 hi hf hx hc
    obtain ⟨f, rfl⟩ : ∃ q, f = q + 1 := ⟨f - 1, by omega⟩
    rw [List.length_cons] at hi hf
    obtain ⟨M1, q1, q2, q3⟩ := sa_step (f := f) d hr hz h0 hs1 hs2 (show 40 * z ≤ 40 * z + i by omega) (by omega) (hx x List.mem_cons_self) (hc 0 x rfl)
    obtain ⟨y, M2, r1, r2, r3, r4⟩ := ih (i + 1) f M1 (by rw [q2.2.1 0 z (by omega)]; exact h0) (by rw [q2.2.1 1 z (by omega)]; exact hs1) (by omega) (by omega) (fun y hy => hx y (List.mem_cons_of_mem _ hy)) (fun j y hj => by
      have := hc (j + 1) y hj
      rw [show 40 * z + i + (j + 1) = 40 * z + (i + 1) + j by omega] at this
      exact ci_sh q2 (by omega) this)
    rw [show 40 * z + (i + 1) = 40 * z + i + 1 by omega] at r1
    refine ⟨y, M2, q1.trans r1, szF.trans ⟨q2.1, fun j q h => q2.2.1 j q (by omega), q2.2.2⟩ r2, fun q hq w hw => r3 q (by omega) w (ci_sh q2 (by omega) hw), fun j w hj => ?_⟩
    cases j with
    | zero =>
      cases hj
      exact r3 (40 * z + i) (by omega) _ q3
    | succ j =>
      have := r4 j w hj
      rw [show 40 * z + (i + 1) + j = 40 * z + i + (j + 1) by omega] at this
      exact this
def mpC (g : It → It) (x : Cl) : Cl := match x with | some (.inr L) => some (.inr (L.map g)) | y => y
theorem mpC_f (g : It → It) (L : List It) : mpC g (some (.inr L)) = some (.inr (L.map g)) := rfl
theorem mpC_no {g : It → It} {x : Cl} (h : ∀ L, x ≠ some (.inr L)) : mpC g x = x := by
  unfold mpC
  split
  · next L => exact absurd rfl (h L)
  · rfl
theorem sa_L7 {r : Nat} {A : Shh} (hs : shok A) (d : Bool) (hr : r < 10) : ∀ (m z f : Nat) (M : mo_S), z + m = 80 → m < f → (∀ i, i < 80 → mRc M i (if i < z then mpC (shI d r) (A (kap i)) else A (kap i))) → ∃ y M', p_MO_shiftAll_L7 f (nI r) (dir d) (nI z) M = (y, M') ∧ (M'.1 = M.1 ∧ (∀ j q, j ≠ 4 → j ≠ 5 → M'.2.1 j q = M.2.1 j q) ∧ M'.2.2 = M.2.2) ∧ ∀ i, i < 80 → mRc M' i (mpC (shI d r) (A (kap i))) := by
  intro m
  induction m with
  | zero =>
    intro z f M hz hf hi
    obtain ⟨f, rfl⟩ : ∃ q, f = q + 1 := ⟨f - 1, by omega⟩
    rw [p_MO_shiftAll_L7, if_pos (show (80 : Int32) ≤ nI z from nI_le (a := 80) (by omega) (by omega))]
    refine ⟨_, _, rfl, ⟨rfl, fun _ _ _ _ => rfl, rfl⟩, fun i hi' => ?_⟩
    have := hi i hi'
    rw [if_pos (by omega)] at this
    exact this
  | succ m ih =>
    intro z f M hz hf hi
    obtain ⟨f, rfl⟩ : ∃ q, f = q + 1 := ⟨f - 1, by omega⟩
    have hz8 : z < 80 := by omega
    have hcz := hi z hz8
    rw [if_neg (Nat.lt_irrefl z)] at hcz
    have key : ∃ y M1, p_MO_shiftAll_L19 41 (nI r) (dir d) (nI z) (40 * nI z) M = (y, M1) ∧ szF z M M1 ∧ mRc M1 z (mpC (shI d r) (A (kap z))) := by
      by_cases hfm : ∃ L, A (kap z) = some (.inr L)
      · obtain ⟨L, hL⟩ := hfm
        obtain ⟨g1, g2, g3, g4⟩ := hcz.2.2 L hL
        have hfok := ((hs (kap z) (kap_lt hz8)).2 L hL).1
        obtain ⟨y, M1, e1, e2, e3, e4⟩ := sa_L19 d hr hz8 g3 L 0 41 M g1 g2 (by omega) (by omega) hfok.1 (fun j y hj => by rw [Nat.add_zero (40 * z)]; exact g4 j y hj)
        refine ⟨y, M1, ?_, e2, ?_⟩
        · rw [show (40 * nI z : Int32) = nI (40 * z + 0) by rw [← nI_40]; exact (Int32.add_zero _).symm]
          exact e1
        · rw [hL, mpC_f]
          refine ⟨fun e => (by cases e), fun d e => (by cases e), fun L' e => ?_⟩
          cases e
          refine ⟨by rw [e2.2.1 0 z (by omega)]; exact g1, by rw [e2.2.1 1 z (by omega), List.length_map]; exact g2, by rw [List.length_map]; exact g3, fun j y hj => ?_⟩
          rw [List.getElem?_map] at hj
          cases hy : L[j]? with
          | none => rw [hy] at hj; cases hj
          | some w =>
            rw [hy] at hj
            have := e4 j w hy
            rw [Nat.add_zero (40 * z)] at this
            rw [← Option.some.inj hj]
            exact this
      · have hno : ∀ L, A (kap z) ≠ some (.inr L) := fun L hL => hfm ⟨L, hL⟩
        have h0 : ¬ M.2.1 0 z = 2 := by
          match e : A (kap z) with
          | none => rw [hcz.1 e]; decide
          | some (.inl d) => rw [(hcz.2.1 d e).1]; decide
          | some (.inr L) => exact absurd e (hno L)
        rw [p_MO_shiftAll_L19, nI_clamp (n := z) (by omega), if_neg h0, mpC_no hno]
        exact ⟨_, _, rfl, szF.rf z M, hcz⟩
    obtain ⟨y1, M1, k1, k2, k3⟩ := key
    rw [p_MO_shiftAll_L7, if_neg (show ¬ (80 : Int32) ≤ nI z from nI_ge (b := 80) hz8 (by decide)), k1]
    try dsimp only
    rw [nI_1]
    obtain ⟨y, M', e1, e2, e3⟩ := ih (z + 1) f M1 (by omega) (by omega) (fun i hi' => by
      by_cases hiz : i = z
      · rw [if_pos (by omega), hiz]; exact k3
      · have := k2.c hiz (hi i hi')
        by_cases hlt : i < z
        · rw [if_pos hlt] at this; rw [if_pos (by omega)]; exact this
        · rw [if_neg hlt] at this; rw [if_neg (by omega)]; exact this)
    exact ⟨y, M', e1, ⟨e2.1.trans k2.1, fun j q h1 h2 => (e2.2.1 j q h1 h2).trans (k2.2.1 j q (by omega)), e2.2.2.trans k2.2.2⟩, e3⟩
theorem mo_shiftAll {M : mo_S} {r : Nat} {A : Shh} (hs : shok A) (d : Bool) (hr : r < 10) (hR : mR M A) : mR (p_MO_shiftAll M (nI r) (dir d)) (fun k => mpC (shI d r) (A k)) ∧ (p_MO_shiftAll M (nI r) (dir d)).1 = (mo_f M 12 1).1 ∧ (∀ j q, j ≠ 4 → j ≠ 5 → (p_MO_shiftAll M (nI r) (dir d)).2.1 j q = M.2.1 j q) ∧ (p_MO_shiftAll M (nI r) (dir d)).2.2 = M.2.2 := by
  obtain ⟨y, M', e1, e2, e3⟩ := sa_L7 hs d hr 80 0 81 (mo_f M 12 1) (by omega) (by omega) (fun i hi => by rw [if_neg (Nat.not_lt_zero i)]; exact hR i hi)
  unfold p_MO_shiftAll
  rw [show p_MO_shiftAll_L7 81 (nI r) (dir d) 0 (mo_f M 12 1) = (y, M') from e1]
  exact ⟨e3, e2.1, e2.2.1, e2.2.2⟩
/-- cells of P may change, nothing else -/
def gF (P : Nat → Prop) (M M' : mo_S) : Prop := M'.1 = M.1 ∧ (∀ j q, 7 ≤ j → M'.2.1 j q = M.2.1 j q) ∧ (∀ j q, j ≠ 6 → M'.2.2.1 j q = M.2.2.1 j q) ∧ (∀ j q, j ≠ 2 → M'.2.2.2 j q = M.2.2.2 j q) ∧ (sto M → sto M') ∧ (mo_sz M → mo_sz M') ∧ ∀ z x, ¬ P z → mRc M z x → mRc M' z x
theorem gF.rf (P : Nat → Prop) (M : mo_S) : gF P M M := ⟨rfl, fun _ _ _ => rfl, fun _ _ _ => rfl, fun _ _ _ => rfl, fun h => h, fun h => h, fun _ _ _ h => h⟩
theorem gF.trans {P : Nat → Prop} {M M1 M2 : mo_S} (a : gF P M M1) (b : gF P M1 M2) : gF P M M2 := ⟨b.1.trans a.1, fun j q h => (b.2.1 j q h).trans (a.2.1 j q h), fun j q h => (b.2.2.1 j q h).trans (a.2.2.1 j q h), fun j q h => (b.2.2.2.1 j q h).trans (a.2.2.2.1 j q h), fun h => b.2.2.2.2.1 (a.2.2.2.2.1 h), fun h => b.2.2.2.2.2.1 (a.2.2.2.2.2.1 h), fun z x h c => b.2.2.2.2.2.2 z x h (a.2.2.2.2.2.2 z x h c)⟩
theorem gF.mono {P Q : Nat → Prop} {M M' : mo_S} (a : gF P M M') (h : ∀ z, P z → Q z) : gF Q M M' := ⟨a.1, a.2.1, a.2.2.1, a.2.2.2.1, a.2.2.2.2.1, a.2.2.2.2.2.1, fun z x hz c => a.2.2.2.2.2.2 z x (fun w => hz (h z w)) c⟩
theorem gF_copy {M : mo_S} {x y : Nat} (hx : x < 81) (hy : y < 81) : gF (fun z => z = y) M (p_MO_copyCell M (nI x) (nI y)) := by
  obtain ⟨c1, c2, c3, c4⟩ := mo_copyCell (M := M) hx hy
  refine ⟨c1.1, fun j q h => c1.2.1 j q (by omega) (by omega), fun j q h => c1.2.2.1 j q (by omega), fun j q h => c1.2.2.2 j q (by omega), fun h k hk => ?_, fun h k => ?_, fun z w hz c => c1.c hz c⟩
  · by_cases hky : k = y
    · rw [hky, c2]; exact h x hx
    · rw [c1.2.1 0 k (by omega) (by omega)]; exact h k hk
  · by_cases hky : k = y
    · rw [hky, c3]; exact h x
    · rw [c1.2.1 1 k (by omega) (by omega)]; exact h k
theorem gF_empty {M : mo_S} {y : Nat} : gF (fun z => z = y) M (mo_i M 0 y 0) := by
  obtain ⟨c1, c2⟩ := mo_empty (M := M) (y := y)
  refine ⟨c1.1, fun j q h => c1.2.1 j q (by omega) (by omega), fun j q h => c1.2.2.1 j q (by omega), fun j q h => c1.2.2.2 j q (by omega), fun h k hk => ?_, fun h k => ?_, fun z w hz c => c1.c hz c⟩
  · rw [mo_i_at]
    split
    · exact Or.inl rfl
    · exact h k hk
  · rw [mo_i_at, if_neg (by omega)]; exact h k
theorem in_L38 {r c : Nat} {z2 : Int32} (hc : c < 8) {G : Nat → Cl} : ∀ (k rr f : Nat) (M : mo_S), rr = r + k → k < f → rr ≤ 9 → (∀ q, q < 10 → mRc M (10 * c + q) (if rr < q then G (q - 1) else G q)) → ∃ y M', p_MO_insert_L38 f (nI r) z2 (nI c) (nI rr) M = (y, M') ∧ gF (fun z => z / 10 = c) M M' ∧ ∀ q, q < 10 → mRc M' (10 * c + q) (if r < q then G (q - 1) else G q) := by
  intro k
  induction k with
  | zero =>
    intro rr f M e hf h9 hi
    obtain ⟨f, rfl⟩ : ∃ q, f = q + 1 := ⟨f - 1, by omega⟩
    rw [p_MO_insert_L38, if_pos (nI_le (by omega) (by omega))]
    rw [Nat.add_zero] at e
    rw [e] at hi
    exact ⟨_, _, rfl, gF.rf _ M, hi⟩
  | succ k ih =>
    intro rr f M e hf h9 hi
    obtain ⟨f, rfl⟩ : ∃ q, f = q + 1 := ⟨f - 1, by omega⟩
    obtain ⟨i1, i2, i3, i4⟩ := idx10 hc (show rr < 10 by omega)
    rw [p_MO_insert_L38, if_neg (nI_ge (by omega) (by omega)), i1, show (nI (10 * c + rr) - 1 : Int32) = nI (10 * c + (rr - 1)) by
      rw [show (1 : Int32) = nI 1 from rfl, nI_sub (by omega)]
      congr 1
      omega, show (nI rr - 1 : Int32) = nI (rr - 1) from nI_sub (b := 1) (by omega)]
    obtain ⟨c1, c2, c3, c4⟩ := mo_copyCell (M := M) (x := 10 * c + (rr - 1)) (y := 10 * c + rr) (by omega) (by omega)
    obtain ⟨y, M', e1, e2, e3⟩ := ih (rr - 1) f (p_MO_copyCell M (nI (10 * c + (rr - 1))) (nI (10 * c + rr))) (by omega) (by omega) (by omega) (fun q hq => by
      by_cases hqr : q = rr
      · rw [if_pos (by omega), hqr]
        refine c4 _ ?_
        have := hi (rr - 1) (by omega)
        rw [if_neg (by omega)] at this
        exact this
      · have := c1.c (show 10 * c + q ≠ 10 * c + rr by omega) (hi q hq)
        by_cases hlt : rr < q
        · rw [if_pos hlt] at this; rw [if_pos (by omega)]; exact this
        · rw [if_neg hlt] at this; rw [if_neg (by omega)]; exact this)
    exact ⟨y, M', e1, ((gF_copy (by omega) (by omega)).mono fun z hz => by rw [hz]; omega).trans e2, e3⟩
def insA (A : Shh) (r k : Nat) : Cl := if k / 8 < r then A k else if k / 8 = r then none else A (k - 8)
def delA (A : Shh) (r k : Nat) : Cl := if k / 8 < r then A k else if k / 8 < 9 then A (k + 8) else none
theorem in_L28 {r : Nat} {z2 : Int32} (hr : r < 10) {A : Shh} : ∀ (m c f : Nat) (M : mo_S), c + m = 8 → m < f → (∀ z, z < 80 → mRc M z (if z / 10 < c then insA A r (kap z) else A (kap z))) → ∃ y M', p_MO_insert_L28 f (nI r) z2 (nI c) M = (y, M') ∧ gF (fun z => z < 80) M M' ∧ mR M' (insA A r) := by
  intro m
  induction m with
  | zero =>
    intro c f M hc hf hi
    obtain ⟨f, rfl⟩ : ∃ q, f = q + 1 := ⟨f - 1, by omega⟩
    rw [p_MO_insert_L28, if_pos (show (8 : Int32) ≤ nI c from nI_le (a := 8) (by omega) (by omega))]
    refine ⟨_, _, rfl, gF.rf _ M, fun z hz => ?_⟩
    have := hi z hz
    rw [if_pos (by omega)] at this
    exact this
  | succ m ih =>
    intro c f M hc hf hi
    obtain ⟨f, rfl⟩ : ∃ q, f = q + 1 := ⟨f - 1, by omega⟩
    have hc8 : c < 8 := by omega
    obtain ⟨i1, i2, i3, i4⟩ := idx10 hc8 hr
    obtain ⟨y1, M1, k1, k2, k3⟩ := in_L38 (z2 := z2) (r := r) hc8 (G := fun q => A (q * 8 + c)) (9 - r) 9 10 M (by omega) (by omega) (by omega) (fun q hq => by
      have := hi (10 * c + q) (by omega)
      rw [if_neg (by omega), kap_at hc8 hq] at this
      rw [if_neg (by omega)]
      exact this)
    rw [p_MO_insert_L28, if_neg (show ¬ (8 : Int32) ≤ nI c from nI_ge (b := 8) hc8 (by decide)), show p_MO_insert_L38 10 (nI r) z2 (nI c) 9 M = (y1, M1) from k1]
    try dsimp only
    rw [i1, i4, nI_1]
    obtain ⟨c1, c2⟩ := mo_empty (M := M1) (y := 10 * c + r)
    obtain ⟨y, M', e1, e2, e3⟩ := ih (c + 1) f (mo_i M1 0 (10 * c + r) 0) (by omega) (by omega) (fun z hz => by
      by_cases hzc : z / 10 = c
      · rw [if_pos (by omega)]
        obtain ⟨q, hq, rfl⟩ : ∃ q, q < 10 ∧ z = 10 * c + q := ⟨z % 10, by omega, by omega⟩
        rw [kap_at hc8 hq]
        unfold insA
        rw [show (q * 8 + c) / 8 = q by omega]
        by_cases hqr : q = r
        · rw [if_neg (by omega), if_pos hqr, hqr]; exact c2
        · have := c1.c (show 10 * c + q ≠ 10 * c + r by omega) (k3 q hq)
          by_cases hlt : r < q
          · rw [if_pos hlt] at this
            rw [if_neg (by omega), if_neg hqr, show q * 8 + c - 8 = (q - 1) * 8 + c by omega]
            exact this
          · rw [if_neg hlt] at this
            rw [if_pos (by omega)]
            exact this
      · have := c1.c (show z ≠ 10 * c + r by omega) (k2.2.2.2.2.2.2 z _ hzc (hi z hz))
        by_cases hlt : z / 10 < c
        · rw [if_pos hlt] at this; rw [if_pos (by omega)]; exact this
        · rw [if_neg hlt] at this; rw [if_neg (by omega)]; exact this)
    exact ⟨y, M', e1, ((k2.mono fun z hz => by omega).trans (gF_empty.mono fun z hz => by rw [hz]; omega)).trans e2, e3⟩
theorem de_L36 {r c : Nat} {z2 : Int32} (hc : c < 8) {G : Nat → Cl} : ∀ (k rr f : Nat) (M : mo_S), rr + k = 9 → k < f → r ≤ rr → (∀ q, q < 10 → mRc M (10 * c + q) (if r ≤ q ∧ q < rr then G (q + 1) else G q)) → ∃ y M', p_MO_delete_L36 f (nI r) z2 (nI c) (nI rr) M = (y, M') ∧ gF (fun z => z / 10 = c) M M' ∧ ∀ q, q < 10 → mRc M' (10 * c + q) (if r ≤ q ∧ q < 9 then G (q + 1) else G q) := by
  intro k
  induction k with
  | zero =>
    intro rr f M e hf h9 hi
    obtain ⟨f, rfl⟩ : ∃ q, f = q + 1 := ⟨f - 1, by omega⟩
    rw [p_MO_delete_L36, if_pos (show (9 : Int32) ≤ nI rr from nI_le (a := 9) (by omega) (by omega))]
    rw [show rr = 9 by omega] at hi
    exact ⟨_, _, rfl, gF.rf _ M, hi⟩
  | succ k ih =>
    intro rr f M e hf h9 hi
    obtain ⟨f, rfl⟩ : ∃ q, f = q + 1 := ⟨f - 1, by omega⟩
    obtain ⟨i1, i2, i3, i4⟩ := idx10 hc (show rr < 10 by omega)
    rw [p_MO_delete_L36, if_neg (show ¬ (9 : Int32) ≤ nI rr from nI_ge (b := 9) (by omega) (by decide)), i1, nI_1, nI_1]
    obtain ⟨c1, c2, c3, c4⟩ := mo_copyCell (M := M) (x := 10 * c + rr + 1) (y := 10 * c + rr) (by omega) (by omega)
    obtain ⟨y, M', e1, e2, e3⟩ := ih (rr + 1) f (p_MO_copyCell M (nI (10 * c + rr + 1)) (nI (10 * c + rr))) (by omega) (by omega) (by omega) (fun q hq => by
      by_cases hqr : q = rr
      · rw [if_pos (by omega), hqr]
        refine c4 _ ?_
        have := hi (rr + 1) (by omega)
        rw [if_neg (by omega)] at this
        exact this
      · have := c1.c (show 10 * c + q ≠ 10 * c + rr by omega) (hi q hq)
        by_cases hlt : r ≤ q ∧ q < rr
        · rw [if_pos hlt] at this; rw [if_pos (by omega)]; exact this
        · rw [if_neg hlt] at this; rw [if_neg (by omega)]; exact this)
    exact ⟨y, M', e1, ((gF_copy (by omega) (by omega)).mono fun z hz => by rw [hz]; omega).trans e2, e3⟩
theorem de_L27 {r : Nat} {z2 : Int32} (hr : r < 10) {A : Shh} : ∀ (m c f : Nat) (M : mo_S), c + m = 8 → m < f → (∀ z, z < 80 → mRc M z (if z / 10 < c then delA A r (kap z) else A (kap z))) → ∃ y M', p_MO_delete_L27 f (nI r) z2 (nI c) M = (y, M') ∧ gF (fun z => z < 80) M M' ∧ mR M' (delA A r) := by
  intro m
  induction m with
  | zero =>
    intro c f M hc hf hi
    obtain ⟨f, rfl⟩ : ∃ q, f = q + 1 := ⟨f - 1, by omega⟩
    rw [p_MO_delete_L27, if_pos (show (8 : Int32) ≤ nI c from nI_le (a := 8) (by omega) (by omega))]
    refine ⟨_, _, rfl, gF.rf _ M, fun z hz => ?_⟩
    have := hi z hz
    rw [if_pos (by omega)] at this
    exact this
  | succ m ih =>
    intro c f M hc hf hi
    obtain ⟨f, rfl⟩ : ∃ q, f = q + 1 := ⟨f - 1, by omega⟩
    have hc8 : c < 8 := by omega
    obtain ⟨i1, i2, i3, i4⟩ := idx10 hc8 (show 9 < 10 by decide)
    obtain ⟨y1, M1, k1, k2, k3⟩ := de_L36 (z2 := z2) (r := r) hc8 (G := fun q => A (q * 8 + c)) (9 - r) r 10 M (by omega) (by omega) (by omega) (fun q hq => by
      have := hi (10 * c + q) (by omega)
      rw [if_neg (by omega), kap_at hc8 hq] at this
      rw [if_neg (by omega)]
      exact this)
    rw [p_MO_delete_L27, if_neg (show ¬ (8 : Int32) ≤ nI c from nI_ge (b := 8) hc8 (by decide)), k1]
    try dsimp only
    rw [show ((10 * nI c) + 9 : Int32) = nI (10 * c + 9) from i1, i4, nI_1]
    obtain ⟨c1, c2⟩ := mo_empty (M := M1) (y := 10 * c + 9)
    obtain ⟨y, M', e1, e2, e3⟩ := ih (c + 1) f (mo_i M1 0 (10 * c + 9) 0) (by omega) (by omega) (fun z hz => by
      by_cases hzc : z / 10 = c
      · rw [if_pos (by omega)]
        obtain ⟨q, hq, rfl⟩ : ∃ q, q < 10 ∧ z = 10 * c + q := ⟨z % 10, by omega, by omega⟩
        rw [kap_at hc8 hq]
        unfold delA
        rw [show (q * 8 + c) / 8 = q by omega]
        by_cases hq9 : q = 9
        · rw [if_neg (by omega), if_neg (by omega), hq9]; exact c2
        · have := c1.c (show 10 * c + q ≠ 10 * c + 9 by omega) (k3 q hq)
          by_cases hlt : r ≤ q
          · rw [if_pos (by omega)] at this
            rw [if_neg (by omega), if_pos (by omega), show q * 8 + c + 8 = (q + 1) * 8 + c by omega]
            exact this
          · rw [if_neg (by omega)] at this
            rw [if_pos (by omega)]
            exact this
      · have := c1.c (show z ≠ 10 * c + 9 by omega) (k2.2.2.2.2.2.2 z _ hzc (hi z hz))
        by_cases hlt : z / 10 < c
        · rw [if_pos hlt] at this; rw [if_pos (by omega)]; exact this
        · rw [if_neg hlt] at this; rw [if_neg (by omega)]; exact this)
    exact ⟨y, M', e1, ((k2.mono fun z hz => by omega).trans (gF_empty.mono fun z hz => by rw [hz]; omega)).trans e2, e3⟩
