/-! Pure: the reference's cells are copied, and its references follow the rows. -/
/-- the reference's cell z has x -/
def mRc (M : mo_S) (z : Nat) (x : Cl) : Prop := (x = none → M.2.1 0 z = 0) ∧ (∀ d, x = some (.inl d) → M.2.1 0 z = 1 ∧ M.2.2.2 2 z = d) ∧ ∀ L, x = some (.inr L) → M.2.1 0 z = 2 ∧ cif M z L
theorem mR.c {M : mo_S} {A : Shh} (h : mR M A) {z : Nat} (hz : z < 80) : mRc M z (A (kap z)) := h z hz
theorem mR.of {M : mo_S} {A : Shh} (h : ∀ z, z < 80 → mRc M z (A (kap z))) : mR M A := h
/-- the cells' content but at y stays -/
def cpF (y : Nat) (M M' : mo_S) : Prop := M'.1 = M.1 ∧ (∀ j q, ¬ ((j = 0 ∨ j = 1) ∧ q = y) → ¬ ((j = 3 ∨ j = 4 ∨ j = 5) ∧ 40 * y ≤ q ∧ q < 40 * y + 40) → M'.2.1 j q = M.2.1 j q) ∧ (∀ j q, ¬ (j = 6 ∧ 40 * y ≤ q ∧ q < 40 * y + 40) → M'.2.2.1 j q = M.2.2.1 j q) ∧ ∀ j q, ¬ (j = 2 ∧ q = y) → M'.2.2.2 j q = M.2.2.2 j q
theorem cpF.rf (y : Nat) (M : mo_S) : cpF y M M := ⟨rfl, fun _ _ _ _ => rfl, fun _ _ _ => rfl, fun _ _ _ => rfl⟩
theorem cpF.trans {y : Nat} {M M1 M2 : mo_S} (a : cpF y M M1) (b : cpF y M1 M2) : cpF y M M2 := ⟨b.1.trans a.1, fun j q h1 h2 => (b.2.1 j q h1 h2).trans (a.2.1 j q h1 h2), fun j q h => (b.2.2.1 j q h).trans (a.2.2.1 j q h), fun j q h => (b.2.2.2 j q h).trans (a.2.2.2 j q h)⟩
theorem cpF.c {y z : Nat} {M M' : mo_S} (a : cpF y M M') (h : z ≠ y) {x : Cl} (hx : mRc M z x) : mRc M' z x := by
  obtain ⟨h1, h2, h3⟩ := hx
  refine ⟨fun e => by rw [a.2.1 0 z (by omega) (by omega)]; exact h1 e, fun d e => by rw [a.2.1 0 z (by omega) (by omega), a.2.2.2 2 z (by omega)]; exact h2 d e, fun L e => ?_⟩
  obtain ⟨h4, h5, h6, h7⟩ := h3 L e
  refine ⟨by rw [a.2.1 0 z (by omega) (by omega)]; exact h4, by rw [a.2.1 1 z (by omega) (by omega)]; exact h5, h6, fun j w hj => ?_⟩
  have hl := (List.getElem?_eq_some_iff.mp hj).1
  have := h7 j w hj
  unfold ci at this ⊢
  rw [a.2.1 3 _ (by omega) (by omega), a.2.1 4 _ (by omega) (by omega), a.2.1 5 _ (by omega) (by omega), a.2.2.1 6 _ (by omega)]
  exact this
theorem cc_L38 {x y : Nat} (hx : x < 81) (hy : y < 81) : ∀ (k i f : Nat) (M : mo_S), i + k = 40 → k < f → ∃ u M', p_MO_copyCell_L38 f (nI x) (nI y) (nI i) M = (u, M') ∧ cpF y M M' ∧ M'.2.1 0 = M.2.1 0 ∧ M'.2.1 1 = M.2.1 1 ∧ M'.2.2.2 = M.2.2.2 ∧ (∀ q, q < i → M'.2.1 3 (40 * y + q) = M.2.1 3 (40 * y + q) ∧ M'.2.1 4 (40 * y + q) = M.2.1 4 (40 * y + q) ∧ M'.2.1 5 (40 * y + q) = M.2.1 5 (40 * y + q) ∧ M'.2.2.1 6 (40 * y + q) = M.2.2.1 6 (40 * y + q)) ∧ ∀ q, i ≤ q → q < 40 → M'.2.1 3 (40 * y + q) = M.2.1 3 (40 * x + q) ∧ M'.2.1 4 (40 * y + q) = M.2.1 4 (40 * x + q) ∧ M'.2.1 5 (40 * y + q) = M.2.1 5 (40 * x + q) ∧ M'.2.2.1 6 (40 * y + q) = M.2.2.1 6 (40 * x + q) := by
  intro k
  induction k with
  | zero =>
    intro i f M hi hf
    obtain ⟨f, rfl⟩ : ∃ q, f = q + 1 := ⟨f - 1, by omega⟩
    rw [p_MO_copyCell_L38, if_pos (show (40 : Int32) ≤ nI i from nI_le (a := 40) (by omega) (by omega))]
    exact ⟨_, _, rfl, cpF.rf y M, rfl, rfl, rfl, fun q _ => ⟨rfl, rfl, rfl, rfl⟩, fun q h1 h2 => by omega⟩
  | succ k ih =>
    intro i f M hi hf
    obtain ⟨f, rfl⟩ : ∃ q, f = q + 1 := ⟨f - 1, by omega⟩
    rw [p_MO_copyCell_L38, if_neg (show ¬ (40 : Int32) ≤ nI i from nI_ge (b := 40) (by omega) (by decide)), nI_40, nI_40, nI_clamp (n := 40 * y + i) (by omega), nI_clamp (n := 40 * x + i) (by omega), nI_1]
    have hM1 : ∃ M1, M1 = mo_l (mo_i (mo_i (mo_i M 3 (40 * y + i) (M.2.1 3 (40 * x + i))) 4 (40 * y + i) (M.2.1 4 (40 * x + i))) 5 (40 * y + i) (M.2.1 5 (40 * x + i))) 6 (40 * y + i) (M.2.2.1 6 (40 * x + i)) := ⟨_, rfl⟩
    obtain ⟨M1, e1⟩ := hM1
    have c1 : ∀ j q, M1.2.1 j q = if j = 5 ∧ q = 40 * y + i then M.2.1 5 (40 * x + i) else if j = 4 ∧ q = 40 * y + i then M.2.1 4 (40 * x + i) else if j = 3 ∧ q = 40 * y + i then M.2.1 3 (40 * x + i) else M.2.1 j q := by
      intro j q
      rw [e1]
      show (mo_i (mo_i (mo_i M 3 (40 * y + i) (M.2.1 3 (40 * x + i))) 4 (40 * y + i) (M.2.1 4 (40 * x + i))) 5 (40 * y + i) (M.2.1 5 (40 * x + i))).2.1 j q = _
      rw [mo_i_at, mo_i_at, mo_i_at]
    have c2 : ∀ j q, M1.2.2.1 j q = if j = 6 ∧ q = 40 * y + i then M.2.2.1 6 (40 * x + i) else M.2.2.1 j q := by
      intro j q
      rw [e1, mo_l_at]
      rfl
    have c3 : M1.1 = M.1 := by rw [e1]; rfl
    have c4 : M1.2.2.2 = M.2.2.2 := by rw [e1]; rfl
    have r4 : (mo_i M 3 (40 * y + i) (M.2.1 3 (40 * x + i))).2.1 4 (40 * x + i) = M.2.1 4 (40 * x + i) := by rw [mo_i_at, if_neg (by omega)]
    have r5 : (mo_i (mo_i M 3 (40 * y + i) (M.2.1 3 (40 * x + i))) 4 (40 * y + i) (M.2.1 4 (40 * x + i))).2.1 5 (40 * x + i) = M.2.1 5 (40 * x + i) := by rw [mo_i_at, mo_i_at, if_neg (by omega), if_neg (by omega)]
    first
      | rw [← e1]
      | (rw [r4, r5, ← e1])
    obtain ⟨u, M', d1, d2, d3, d4, d5, d6, d7⟩ := ih (i + 1) f M1 (by omega) (by omega)
    refine ⟨u, M', d1, cpF.trans ⟨c3, fun j q h1 h2 => ?_, fun j q h => ?_, fun j q h => by rw [c4]⟩ d2, ?_, ?_, d5.trans c4, fun q hq => ?_, fun q h1 h2 => ?_⟩
    · rw [c1, if_neg (by omega), if_neg (by omega), if_neg (by omega)]
    · rw [c2, if_neg (by omega)]
    · rw [d3]; funext q; rw [c1, if_neg (by omega), if_neg (by omega), if_neg (by omega)]
    · rw [d4]; funext q; rw [c1, if_neg (by omega), if_neg (by omega), if_neg (by omega)]
    · obtain ⟨w1, w2, w3, w4⟩ := d6 q (by omega)
      rw [w1, w2, w3, w4, c1, c1, c1, c2]
      rw [if_neg (by omega), if_neg (by omega), if_neg (by omega), if_neg (by omega), if_neg (by omega), if_neg (by omega), if_neg (by omega), if_neg (by omega), if_neg (by omega), if_neg (by omega)]
      exact ⟨rfl, rfl, rfl, rfl⟩
    · by_cases hqi : q = i
      · obtain ⟨w1, w2, w3, w4⟩ := d6 q (by omega)
        rw [w1, w2, w3, w4, c1, c1, c1, c2, hqi]
        rw [if_neg (by omega), if_neg (by omega), if_pos ⟨rfl, rfl⟩, if_neg (by omega), if_pos ⟨rfl, rfl⟩, if_pos ⟨rfl, rfl⟩, if_pos ⟨rfl, rfl⟩]
        exact ⟨rfl, rfl, rfl, rfl⟩
      · obtain ⟨w1, w2, w3, w4⟩ := d7 q (by omega) h2
        rw [w1, w2, w3, w4, c1, c1, c1, c2]
        rw [if_neg (by omega), if_neg (by omega), if_neg (by omega), if_neg (by omega), if_neg (by omega), if_neg (by omega), if_neg (by omega), if_neg (by omega), if_neg (by omega), if_neg (by omega)]
        exact ⟨rfl, rfl, rfl, rfl⟩
theorem mo_copyCell {M : mo_S} {x y : Nat} (hx : x < 81) (hy : y < 81) : cpF y M (p_MO_copyCell M (nI x) (nI y)) ∧ (p_MO_copyCell M (nI x) (nI y)).2.1 0 y = M.2.1 0 x ∧ (p_MO_copyCell M (nI x) (nI y)).2.1 1 y = M.2.1 1 x ∧ ∀ c, mRc M x c → mRc (p_MO_copyCell M (nI x) (nI y)) y c := by
  unfold p_MO_copyCell
  rw [nI_clamp (n := y) (by omega), nI_clamp (n := x) (by omega)]
  have hM0 : ∃ M0, M0 = mo_i (mo_d (mo_i M 0 y (M.2.1 0 x)) 2 y (M.2.2.2 2 x)) 1 y (M.2.1 1 x) := ⟨_, rfl⟩
  obtain ⟨M0, e0⟩ := hM0
  rw [← e0]
  obtain ⟨u, M', d1, d2, d3, d4, d5, d6, d7⟩ := cc_L38 hx hy 40 0 41 M0 (by omega) (by omega)
  rw [show p_MO_copyCell_L38 41 (nI x) (nI y) 0 M0 = (u, M') from d1]
  try dsimp only
  have c1 : ∀ j q, M0.2.1 j q = if j = 1 ∧ q = y then M.2.1 1 x else if j = 0 ∧ q = y then M.2.1 0 x else M.2.1 j q := by
    intro j q
    rw [e0, mo_i_at]
    show (if j = 1 ∧ q = y then M.2.1 1 x else (mo_i M 0 y (M.2.1 0 x)).2.1 j q) = _
    rw [mo_i_at]
  have c2 : ∀ j q, M0.2.2.2 j q = if j = 2 ∧ q = y then M.2.2.2 2 x else M.2.2.2 j q := by
    intro j q
    rw [e0]
    show (mo_d (mo_i M 0 y (M.2.1 0 x)) 2 y (M.2.2.2 2 x)).2.2.2 j q = _
    rw [mo_d_at]
    rfl
  have c3 : M0.1 = M.1 := by rw [e0]; rfl
  have c4 : M0.2.2.1 = M.2.2.1 := by rw [e0]; rfl
  have s0 : M'.2.1 0 y = M.2.1 0 x := by rw [d3, c1, if_neg (by omega), if_pos ⟨rfl, rfl⟩]
  have s1 : M'.2.1 1 y = M.2.1 1 x := by rw [d4, c1, if_pos ⟨rfl, rfl⟩]
  have s2 : M'.2.2.2 2 y = M.2.2.2 2 x := by rw [d5, c2, if_pos ⟨rfl, rfl⟩]
  refine ⟨cpF.trans ⟨c3, fun j q h1 h2 => ?_, fun j q h => by rw [c4], fun j q h => ?_⟩ d2, s0, s1, fun c hc => ?_⟩
  · rw [c1, if_neg (by omega), if_neg (by omega)]
  · rw [c2, if_neg (by omega)]
  · obtain ⟨h1, h2, h3⟩ := hc
    refine ⟨fun e => by rw [s0]; exact h1 e, fun d e => by rw [s0, s2]; exact h2 d e, fun L e => ?_⟩
    obtain ⟨h4, h5, h6, h7⟩ := h3 L e
    refine ⟨by rw [s0]; exact h4, by rw [s1]; exact h5, h6, fun j w hj => ?_⟩
    have hl := (List.getElem?_eq_some_iff.mp hj).1
    obtain ⟨w1, w2, w3, w4⟩ := d7 j (Nat.zero_le j) (by omega)
    have := h7 j w hj
    unfold ci at this ⊢
    rw [w1, w2, w3, w4, c1, c1, c1, c4, if_neg (by omega), if_neg (by omega), if_neg (by omega), if_neg (by omega), if_neg (by omega), if_neg (by omega)]
    exact this
/-- a cell that is emptied -/
theorem mo_empty {M : mo_S} {y : Nat} : cpF y M (mo_i M 0 y 0) ∧ mRc (mo_i M 0 y 0) y none := by
  refine ⟨⟨rfl, fun j q h1 h2 => by rw [mo_i_at, if_neg (by omega)], fun _ _ _ => rfl, fun _ _ _ => rfl⟩, fun _ => by rw [mo_i_at, if_pos ⟨rfl, rfl⟩], fun d e => (by cases e), fun L e => (by cases e)⟩
/-- which way the rows go -/
def shI (d : Bool) (r : Nat) : It → It := if d then itI r else itO r
def dir (d : Bool) : Int32 := if d then 1 else -1
def rgS (d : Bool) (r : Nat) (a b : Int32) : Int32 × Int32 := if d then rgI r a b else rgO r a b
theorem shI_rf (d : Bool) (r : Nat) (a : Int32) : shI d r (1, a, 0, 0) = (1, shx (shf d 0 r) a, 0, 0) := by cases d <;> rfl
theorem shI_rg (d : Bool) (r : Nat) {j : Nat} (hj : j < 5) (a b : Int32) : shI d r (nI (j + 2), a, b, 0) = (nI (j + 2), (rgS d r a b).1, (rgS d r a b).2, 0) := by
  cases d
  · exact itsh_rg _ _ hj a b
  · exact itsh_rg _ _ hj a b
theorem shI_tl (d : Bool) (r : Nat) {x : It} (h : tlok x) : shI d r x = x := by
  cases d
  · exact itsh_tl _ _ h
  · exact itsh_tl _ _ h
theorem rfq.row {a x : Int32} (h : rfq a x) (hl : p_MO_lost a = 0) : p_MO_row a = nI (rgrow x) ∧ rgrow x < 10 ∧ p_MO_lost x = 0 := by
  rcases h.dec with ⟨l1, l2⟩ | ⟨l1, l2, C, W, m1, m2, m3, m4, m5, m6⟩
  · rw [l1] at hl; exact absurd hl (by decide)
  · exact ⟨by rw [m4, m6], by omega, l2⟩
theorem mo_shiftRange {M : mo_S} {p r : Nat} {x y : Int32} (d : Bool) (hp : p < 3240) (hr : r < 10) (h4 : rfq (M.2.1 4 p) x) (h5 : rfq (M.2.1 5 p) y) : ∃ a b, p_MO_shiftRange M (nI p) (nI r) (dir d) = mo_i (mo_i M 4 p a) 5 p b ∧ rfq a (rgS d r x y).1 ∧ rfq b (rgS d r x y).2 := by
  have sh := fun {a x : Int32} (h : rfq a x) (m : Nat) (hm : if d then m < 2 else m < 3) (hm2 : m = 2 → p_MO_lost x = 0 → 0 < rgrow x) => mo_shifted h hr d hm hm2
  have z0 : if d then 0 < 2 else 0 < 3 := by cases d <;> decide
  have z1 : if d then 1 < 2 else 1 < 3 := by cases d <;> decide
  have lostc : p_MO_lost x = 1 ∨ p_MO_lost y = 1 → ∃ a b, mo_i (mo_i M 4 p (p_MO_shifted (M.2.1 4 p) (nI r) (dir d) 0)) 5 p (p_MO_shifted (M.2.1 5 p) (nI r) (dir d) 0) = mo_i (mo_i M 4 p a) 5 p b ∧ rfq a (rgS d r x y).1 ∧ rfq b (rgS d r x y).2 := by
    intro hl
    have hno : ¬ (p_MO_lost x = 0 ∧ p_MO_lost y = 0) := by
      rintro ⟨w1, w2⟩
      rcases hl with hl | hl
      · rw [hl] at w1; exact absurd w1 (by decide)
      · rw [hl] at w2; exact absurd w2 (by decide)
    refine ⟨_, _, rfl, ?_⟩
    have s4 := sh h4 0 z0 (fun z => by omega)
    have s5 := sh h5 0 z0 (fun z => by omega)
    cases d with
    | true =>
      show rfq _ (rgI r x y).1 ∧ rfq _ (rgI r x y).2
      unfold rgI
      rw [if_neg hno]
      exact ⟨s4, s5⟩
    | false =>
      show rfq _ (rgO r x y).1 ∧ rfq _ (rgO r x y).2
      unfold rgO
      rw [if_neg hno]
      exact ⟨s4, s5⟩
  unfold p_MO_shiftRange
  rw [nI_clamp (by omega)]
  rcases h4.dec with ⟨l1, l2⟩ | ⟨l1, l2, C1, W1, m1, m2, m3, m4, m5, m6⟩
  · rw [if_neg (show ¬ p_MO_lost (M.2.1 4 p) = 0 by rw [l1]; decide)]
    exact lostc (Or.inl l2)
  · rw [if_pos l1]
    rcases h5.dec with ⟨k1, k2⟩ | ⟨k1, k2, C2, W2, n1, n2, n3, n4, n5, n6⟩
    · rw [if_neg (show ¬ p_MO_lost (M.2.1 5 p) = 0 by rw [k1]; decide)]
      exact lostc (Or.inr k2)
    · rw [if_pos k1, m4, n4]
      cases d with
      | true =>
        have e : (rgS true r x y) = if W1 ≤ W2 then (shx (fI0 r) x, shx (fI1 r) y) else (shx (fI1 r) x, shx (fI0 r) y) := by
          show rgI r x y = _
          unfold rgI
          rw [if_pos ⟨l2, k2⟩, m6, n6]
        rw [e]
        rw [if_neg (show ¬ dir true ≤ 0 by decide), if_neg (show ¬ dir true ≤ 0 by decide)]
        by_cases hle : W1 ≤ W2
        · rw [if_pos (nI_le hle (by omega)), if_pos hle]
          exact ⟨_, _, rfl, sh h4 0 z0 (fun z => by omega), sh h5 1 z1 (fun z => by omega)⟩
        · rw [if_neg (nI_ge (by omega) (by omega)), if_neg hle]
          exact ⟨_, _, rfl, sh h4 1 z1 (fun z => by omega), sh h5 0 z0 (fun z => by omega)⟩
      | false =>
        have e : (rgS false r x y) = if W1 = W2 then (shx (fD0 r) x, shx (fD0 r) y) else if W1 ≤ W2 then (shx (fD1 r) x, shx (fD2 r) y) else (shx (fD2 r) x, shx (fD1 r) y) := by
          show rgO r x y = _
          unfold rgO
          rw [if_pos ⟨l2, k2⟩, m6, n6]
        rw [e]
        rw [if_pos (show dir false ≤ 0 by decide), if_pos (show dir false ≤ 0 by decide)]
        by_cases heq : W1 = W2
        · rw [if_pos (nI_le (by omega) (by omega)), if_pos (show nI W1 = nI W2 by rw [heq]), if_pos heq]
          exact ⟨_, _, rfl, sh h4 0 z0 (fun z => by omega), sh h5 0 z0 (fun z => by omega)⟩
        · have hne : ¬ nI W1 = nI W2 := fun z => heq (by
            have h1 := nI_clamp (n := W1) (by omega)
            rw [z, nI_clamp (by omega)] at h1
            omega)
          rw [if_neg heq]
          by_cases hle : W1 ≤ W2
          · rw [if_pos (nI_le hle (by omega)), if_neg hne, if_pos hle]
            exact ⟨_, _, rfl, sh h4 1 z1 (fun z => by omega), sh h5 2 (by decide) (fun _ _ => by rw [n6]; omega)⟩
          · rw [if_neg (nI_ge (by omega) (by omega)), if_neg hne, if_neg hle]
            exact ⟨_, _, rfl, sh h4 2 (by decide) (fun _ _ => by rw [m6]; omega), sh h5 1 z1 (fun z => by omega)⟩
