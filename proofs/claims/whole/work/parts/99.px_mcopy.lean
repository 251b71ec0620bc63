/-! Pure: the reference's insert, delete and copy, whole. -/
def rowc (A : Shh) (r : Nat) : Nat := (List.range 8).countP fun c => (A (r * 8 + c)).isSome
theorem fl_L4 {M : mo_S} {A : Shh} (hR : mR M A) {r : Nat} (hr : r < 10) : ∀ (m c f n : Nat), c + m = 8 → m < f → n = (List.range c).countP (fun c => (A (r * 8 + c)).isSome) → ∃ y, p_MO_filled_L4 f (nI r) (nI n) (nI c) M = (nI (rowc A r), y) := by
  intro m
  induction m with
  | zero =>
    intro c f n hc hf hn
    obtain ⟨f, rfl⟩ : ∃ q, f = q + 1 := ⟨f - 1, by omega⟩
    rw [p_MO_filled_L4, if_pos (show (8 : Int32) ≤ nI c from nI_le (a := 8) (by omega) (by omega)), hn, show c = 8 by omega]
    exact ⟨_, rfl⟩
  | succ m ih =>
    intro c f n hc hf hn
    obtain ⟨f, rfl⟩ : ∃ q, f = q + 1 := ⟨f - 1, by omega⟩
    have hc8 : c < 8 := by omega
    obtain ⟨i1, i2, i3, i4⟩ := idx10 hc8 hr
    rw [p_MO_filled_L4, if_neg (show ¬ (8 : Int32) ≤ nI c from nI_ge (b := 8) hc8 (by decide)), i1, i4, nI_1, nI_1]
    have hz := hR (10 * c + r) (by omega)
    rw [kap_at hc8 hr] at hz
    have hs : (List.range (c + 1)).countP (fun c => (A (r * 8 + c)).isSome) = n + (if (A (r * 8 + c)).isSome then 1 else 0) := by
      rw [List.range_succ, List.countP_append, ← hn]
      simp [List.countP_cons]
    match e : A (r * 8 + c) with
    | none =>
      rw [if_pos (by rw [hz.1 e]; decide)]
      exact ih (c + 1) f n (by omega) (by omega) (by rw [hs, e]; rfl)
    | some (.inl d) =>
      rw [if_neg (by rw [(hz.2.1 d e).1]; decide)]
      exact ih (c + 1) f (n + 1) (by omega) (by omega) (by rw [hs, e]; rfl)
    | some (.inr L) =>
      rw [if_neg (by rw [(hz.2.2 L e).1]; decide)]
      exact ih (c + 1) f (n + 1) (by omega) (by omega) (by rw [hs, e]; rfl)
theorem mo_filled {M : mo_S} {A : Shh} (hR : mR M A) {r : Nat} (hr : r < 10) : (p_MO_filled M (nI r)).1 = nI (rowc A r) := by
  obtain ⟨y, e⟩ := fl_L4 hR hr 8 0 9 0 (by omega) (by omega) rfl
  unfold p_MO_filled
  rw [show p_MO_filled_L4 9 (nI r) 0 0 M = (nI (rowc A r), y) from e]
theorem shok_I {A : Shh} (h : shok A) (r : Nat) : shok (insA A r) := by
  intro k hk
  unfold insA
  split
  · exact h k hk
  · split
    · exact ⟨fun d e => (by cases e), fun L e => (by cases e)⟩
    · exact h (k - 8) (by omega)
theorem shok_D {A : Shh} (h : shok A) (r : Nat) : shok (delA A r) := by
  intro k hk
  unfold delA
  split
  · exact h k hk
  · split
    · exact h (k + 8) (by omega)
    · exact ⟨fun d e => (by cases e), fun L e => (by cases e)⟩
theorem txk_sh (g : Int32 → Int32) (k : Int32 → Int32 → Int32 × Int32) {L : List It} (h : txk L) : txk (L.map (itsh g k)) := by
  refine ⟨fun x hx => ?_, ?_⟩
  · obtain ⟨y, hy, rfl⟩ := List.mem_map.mp hx
    intro e
    rw [itsh_1] at e
    rw [itsh_tl g k (Or.inl e)]
    exact h.1 y hy e
  · have : ∀ L : List It, wtL (L.map (itsh g k)) = wtL L := by
      intro L
      induction L with
      | nil => rfl
      | cons x L ih =>
        show wt1 (itsh g k x) + wtL (L.map (itsh g k)) = wt1 x + wtL L
        rw [ih]
        unfold wt1
        rw [itsh_1]
    rw [this]
    exact h.2
theorem shok_mp {A : Shh} (h : shok A) {g : It → It} (hg : ∀ L, fok L → fok (L.map g)) (ht : ∀ L, txk L → txk (L.map g)) : shok (fun k => mpC g (A k)) := by
  intro k hk
  obtain ⟨h1, h2⟩ := h k hk
  match e : A k with
  | none =>
    try dsimp only
    rw [e]
    exact ⟨fun d e => (by cases e), fun L e => (by cases e)⟩
  | some (.inl d) =>
    try dsimp only
    rw [e]
    refine ⟨fun d' e' => ?_, fun L e => (by cases e)⟩
    have : d = d' := by
      have := Option.some.inj (show some (Sum.inl d) = some (Sum.inl d') from e')
      cases this
      rfl
    rw [← this]
    exact h1 d e
  | some (.inr L) =>
    try dsimp only
    rw [e, mpC_f]
    refine ⟨fun d e => (by cases e), fun L' e' => ?_⟩
    cases e'
    exact ⟨hg L (h2 L e).1, by rw [List.length_map]; exact (h2 L e).2.1, ht L (h2 L e).2.2⟩
theorem fok_S (d : Bool) (r : Nat) (L : List It) (h : fok L) : fok (L.map (shI d r)) := by
  cases d
  · exact fok_O h
  · exact fok_I h
theorem txk_S (d : Bool) (r : Nat) (L : List It) (h : txk L) : txk (L.map (shI d r)) := by
  cases d
  · exact txk_sh _ _ h
  · exact txk_sh _ _ h
/-- the sheet behind an insert, a delete -/
def insS (A : Shh) (r : Nat) : Shh := fun k => mpC (shI true r) (insA A r k)
def delS (A : Shh) (r : Nat) : Shh := fun k => mpC (shI false r) (delA A r k)
theorem shok_insS {A : Shh} (h : shok A) (r : Nat) : shok (insS A r) := shok_mp (shok_I h r) (fok_S true r) (txk_S true r)
theorem shok_delS {A : Shh} (h : shok A) (r : Nat) : shok (delS A r) := shok_mp (shok_D h r) (fok_S false r) (txk_S false r)
/-- what a call that changes cells leaves -/
def cgF (M M' : mo_S) : Prop := (∀ j, j ≠ 11 → j ≠ 12 → M'.1 j = M.1 j) ∧ (∀ j q, 7 ≤ j → M'.2.1 j q = M.2.1 j q) ∧ (sto M → sto M') ∧ (mo_sz M → mo_sz M')
theorem gF_shift {P : Nat → Prop} {M M1 : mo_S} (a : gF P M M1) {r : Nat} {A : Shh} (hs : shok A) (d : Bool) (hr : r < 10) (hR : mR M1 A) : cgF M (p_MO_shiftAll M1 (nI r) (dir d)) ∧ (p_MO_shiftAll M1 (nI r) (dir d)).1 11 = M.1 11 ∧ (p_MO_shiftAll M1 (nI r) (dir d)).1 12 = 1 := by
  obtain ⟨b1, b2, b3, b4⟩ := mo_shiftAll hs d hr hR
  refine ⟨⟨fun j h1 h2 => ?_, fun j q h => ?_, fun h k hk => ?_, fun h k => ?_⟩, ?_, ?_⟩
  · rw [b2, mo_f_1, if_neg h2, a.1]
  · rw [b3 j q (by omega) (by omega), a.2.1 j q h]
  · rw [b3 0 k (by decide) (by decide)]
    exact a.2.2.2.2.1 h k hk
  · rw [b3 1 k (by decide) (by decide)]
    exact a.2.2.2.2.2.1 h k
  · rw [b2, mo_f_1, if_neg (by decide), a.1]
  · rw [b2, mo_f_1, if_pos rfl]
theorem out_0 {r : Nat} (h : r < 10) : p_MO_out 0 (nI r) = 0 := by
  have : ∀ r, r < 10 → p_MO_out 0 (nI r) = 0 := by decide
  exact this r h
theorem mo_insert {M : mo_S} {A : Shh} {r : Nat} (hr : r < 10) (hs : shok A) (hR : mR M A) : (p_MO_insert M (nI r)).1 = nI (rowc A 9) ∧ mR (p_MO_insert M (nI r)).2 (insS A r) ∧ cgF M (p_MO_insert M (nI r)).2 ∧ (p_MO_insert M (nI r)).2.1 11 = 0 ∧ (p_MO_insert M (nI r)).2.1 12 = 1 := by
  unfold p_MO_insert
  rw [if_pos (out_0 hr)]
  obtain ⟨y, M1, e1, e2, e3⟩ := in_L28 (z2 := (p_MO_filled (mo_f M 11 0) 9).1) hr (A := A) 8 0 9 (mo_f M 11 0) (by omega) (by omega) (fun z hz => by rw [if_neg (Nat.not_lt_zero _)]; exact hR z hz)
  rw [show p_MO_insert_L28 9 (nI r) (p_MO_filled (mo_f M 11 0) 9).1 0 (mo_f M 11 0) = (y, M1) from e1]
  try dsimp only
  obtain ⟨g1, g2, g3⟩ := gF_shift e2 (shok_I hs r) true hr e3
  have b1 := (mo_shiftAll (shok_I hs r) true hr e3).1
  rw [show dir true = (1 : Int32) from rfl] at g1 g2 g3 b1
  have f9 : (p_MO_filled (mo_f M 11 0) 9).1 = nI (rowc A 9) := mo_filled (M := mo_f M 11 0) (r := 9) hR (by decide)
  refine ⟨f9, b1, ⟨fun j h1 h2 => ?_, g1.2.1, g1.2.2.1, g1.2.2.2⟩, ?_, g3⟩
  · rw [g1.1 j h1 h2, mo_f_1, if_neg h1]
  · rw [g2, mo_f_1, if_pos rfl]
theorem mo_delete {M : mo_S} {A : Shh} {r : Nat} (hr : r < 10) (hs : shok A) (hR : mR M A) : (p_MO_delete M (nI r)).1 = nI (rowc A r) ∧ mR (p_MO_delete M (nI r)).2 (delS A r) ∧ cgF M (p_MO_delete M (nI r)).2 ∧ (p_MO_delete M (nI r)).2.1 11 = 0 ∧ (p_MO_delete M (nI r)).2.1 12 = 1 := by
  unfold p_MO_delete
  rw [if_pos (out_0 hr)]
  obtain ⟨y, M1, e1, e2, e3⟩ := de_L27 (z2 := (p_MO_filled (mo_f M 11 0) (nI r)).1) hr (A := A) 8 0 9 (mo_f M 11 0) (by omega) (by omega) (fun z hz => by rw [if_neg (Nat.not_lt_zero _)]; exact hR z hz)
  rw [show p_MO_delete_L27 9 (nI r) (p_MO_filled (mo_f M 11 0) (nI r)).1 0 (mo_f M 11 0) = (y, M1) from e1]
  try dsimp only
  obtain ⟨g1, g2, g3⟩ := gF_shift e2 (shok_D hs r) false hr e3
  have b1 := (mo_shiftAll (shok_D hs r) false hr e3).1
  rw [show dir false = (-1 : Int32) from rfl] at g1 g2 g3 b1
  have f9 : (p_MO_filled (mo_f M 11 0) (nI r)).1 = nI (rowc A r) := mo_filled (M := mo_f M 11 0) hR hr
  refine ⟨f9, b1, ⟨fun j h1 h2 => ?_, g1.2.1, g1.2.2.1, g1.2.2.2⟩, ?_, g3⟩
  · rw [g1.1 j h1 h2, mo_f_1, if_neg h1]
  · rw [g2, mo_f_1, if_pos rfl]
theorem rfq.ls {a x : Int32} (h : rfq a x) : (p_MO_lost a = 0 ↔ ls1 x = 0) ∧ (¬ p_MO_lost a = 0 → ls1 x = 1) := by
  unfold ls1
  rcases h.dec with ⟨l1, l2⟩ | ⟨l1, l2, _⟩
  · rw [l1, l2, if_neg (by decide)]
    exact ⟨⟨fun z => absurd z (by decide), fun z => absurd z (by decide)⟩, fun _ => rfl⟩
  · rw [l1, l2, if_pos rfl]
    exact ⟨⟨fun _ => rfl, fun _ => rfl⟩, fun z => absurd rfl z⟩
theorem ln_step {M : mo_S} {z s p f n : Nat} {x : It} (hz : z < 80) (h0 : M.2.1 0 z = 2) (hs1 : M.2.1 1 z = nI s) (hs2 : s ≤ 40) (hp0 : 40 * z ≤ p) (hp : p < 40 * z + s) (hx : itok x) (hi : ci M p x) : p_MO_lostNow_L7 (f + 1) (nI z) (nI n) (nI p) M = p_MO_lostNow_L7 f (nI z) (nI (n + lsc x)) (nI (p + 1)) M := by
  have e2 : ¬ ((40 * nI z) + (M.2.1 1 (Int32.toNatClampNeg (nI z)))) ≤ nI p := by
    rw [nI_clamp (by omega), hs1, nI_40]
    exact nI_ge hp (by omega)
  rw [p_MO_lostNow_L7, if_neg e2, nI_clamp (n := z) (by omega), if_pos h0, nI_clamp (n := p) (by omega), nI_1, nI_1, nI_1, hi.1]
  rcases itok_cases hx with ⟨a, h1, rfl⟩ | ⟨j, a, b, hj, h1, h2, rfl⟩ | htl
  · rw [if_pos (show (1 : Int32) = 1 from rfl), if_pos (show p_MO_isRange 1 = 0 by decide), if_pos (show p_MO_isRange 1 = 0 by decide)]
    obtain ⟨l1, l2⟩ := (hi.2.2.1 rfl).ls
    have e : lsc (1, a, 0, 0) = ls1 a := rfl
    rw [e]
    by_cases hl : p_MO_lost (M.2.1 4 p) = 0
    · rw [if_pos hl, show ls1 a = 0 from l1.mp hl, show n + 0 = n from rfl]
    · rw [if_neg hl, show ls1 a = 1 from l2 hl]
  · obtain ⟨g1, g2, g3, g4, g5⟩ := it_rg j hj
    obtain ⟨t1, t2⟩ := hi.2.2.2 g5 g4
    obtain ⟨l1, l2⟩ := t1.ls
    obtain ⟨k1, k2⟩ := t2.ls
    rw [if_neg g2, if_neg g3, if_neg g3, if_neg g3, lsc_rg hj]
    by_cases hl : p_MO_lost (M.2.1 4 p) = 0
    · rw [if_pos hl, show ls1 a = 0 from l1.mp hl]
      by_cases hk : p_MO_lost (M.2.1 5 p) = 0
      · rw [if_pos hk, show ls1 b = 0 from k1.mp hk, show n + (0 + 0) = n from rfl]
      · rw [if_neg hk, show ls1 b = 1 from k2 hk, Nat.zero_add]
    · rw [if_neg hl, show ls1 a = 1 from l2 hl]
      by_cases hk : p_MO_lost (M.2.1 5 p) = 0
      · rw [if_pos hk, show ls1 b = 0 from k1.mp hk, Nat.add_zero]
      · rw [if_neg hk, show ls1 b = 1 from k2 hk]
  · rw [if_neg htl.no.1, if_pos (isR_tl htl), if_pos (isR_tl htl), lsc_tl htl, show n + 0 = n from rfl]
theorem ln_L7 {M : mo_S} {z s : Nat} (hz : z < 80) (h0 : M.2.1 0 z = 2) (hs1 : M.2.1 1 z = nI s) (hs2 : s ≤ 40) : ∀ (L : List It) (i f n : Nat), i + L.length = s → L.length < f → (∀ x ∈ L, itok x) → (∀ j y, L[j]? = some y → ci M (40 * z + i + j) y) → ∃ y, p_MO_lostNow_L7 f (nI z) (nI n) (nI (40 * z + i)) M = (nI (n + lsL L), y) := by
  intro L
  induction L with
  | nil =>
    intro i f n hi hf _ _
    obtain ⟨f, rfl⟩ : ∃ q, f = q + 1 := ⟨f - 1, by omega⟩
    rw [List.length_nil] at hi
    have e2 : ((40 * nI z) + (M.2.1 1 (Int32.toNatClampNeg (nI z)))) ≤ nI (40 * z + i) := by
      rw [nI_clamp (by omega), hs1, nI_40]
      exact nI_le (by omega) (by omega)
    rw [p_MO_lostNow_L7, if_pos e2, nI_clamp (n := z) (by omega), if_pos h0]
    exact ⟨_, rfl⟩
  | cons x L ih =>
    intro i f n hi hf hx hc
    obtain ⟨f, rfl⟩ : ∃ q, f = q + 1 := ⟨f - 1, by omega⟩
    rw [List.length_cons] at hi hf
    rw [ln_step hz h0 hs1 hs2 (show 40 * z ≤ 40 * z + i by omega) (by omega) (hx x List.mem_cons_self) (hc 0 x rfl)]
    obtain ⟨y, e⟩ := ih (i + 1) f (n + lsc x) (by omega) (by omega) (fun y hy => hx y (List.mem_cons_of_mem _ hy)) (fun j y hj => by
      have := hc (j + 1) y hj
      rw [show 40 * z + i + (j + 1) = 40 * z + (i + 1) + j by omega] at this
      exact this)
    rw [show 40 * z + (i + 1) = 40 * z + i + 1 by omega] at e
    refine ⟨y, ?_⟩
    rw [e, Nat.add_assoc]
    rfl
/-- how many LOST a cell has -/
def lsC (x : Cl) : Nat := match x with | some (.inr L) => lsL L | _ => 0
theorem mo_lostNow {M : mo_S} {z : Nat} {x : Cl} (hz : z < 80) (hx : mRc M z x) (hf : ∀ L, x = some (.inr L) → fok L) : (p_MO_lostNow M (nI z)).1 = nI (lsC x) := by
  unfold p_MO_lostNow
  rw [show (40 * nI z : Int32) = nI (40 * z + 0) by rw [← nI_40]; exact (Int32.add_zero _).symm]
  by_cases hfm : ∃ L, x = some (.inr L)
  · obtain ⟨L, rfl⟩ := hfm
    obtain ⟨g1, g2, g3, g4⟩ := hx.2.2 L rfl
    obtain ⟨y, e⟩ := ln_L7 hz g1 g2 g3 L 0 41 0 (by omega) (by omega) (hf L rfl).1 (fun j y hj => by rw [Nat.add_zero (40 * z)]; exact g4 j y hj)
    rw [show p_MO_lostNow_L7 41 (nI z) 0 (nI (40 * z + 0)) M = (nI (0 + lsL L), y) from e, Nat.zero_add]
    rfl
  · have h0 : ¬ M.2.1 0 z = 2 := by
      match e : x with
      | none => rw [hx.1 rfl]; decide
      | some (.inl d) => rw [(hx.2.1 d rfl).1]; decide
      | some (.inr L) => exact absurd ⟨L, rfl⟩ hfm
    rw [p_MO_lostNow_L7, nI_clamp (n := z) (by omega), if_neg h0]
    match x with
    | none => rfl
    | some (.inl d) => rfl
    | some (.inr L) => exact absurd ⟨L, rfl⟩ hfm
theorem cp_step {M : mo_S} {z s p f : Nat} {x : It} {z1 z2 z3 z4 z5 z7 : Int32} (hz : z < 80) (h0 : M.2.1 0 z = 2) (hs1 : M.2.1 1 z = nI s) (hs2 : s ≤ 40) (hp0 : 40 * z ≤ p) (hp : p < 40 * z + s) (hx : itok x) (hi : ci M p x) : ∃ M', p_MO_copy_L89 (f + 1) z1 z2 z3 z4 z5 (nI z) z7 (nI p) M = p_MO_copy_L89 f z1 z2 z3 z4 z5 (nI z) z7 (nI (p + 1)) M' ∧ s1F p M M' ∧ ci M' p (itM (z3 - z1) (z4 - z2) x) := by
  have e2 : ¬ ((40 * nI z) + (M.2.1 1 (Int32.toNatClampNeg (nI z)))) ≤ nI p := by
    rw [nI_clamp (by omega), hs1, nI_40]
    exact nI_ge hp (by omega)
  rw [p_MO_copy_L89, if_neg e2, nI_clamp (n := z) (by omega), if_pos h0, nI_clamp (n := p) (by omega), nI_1, hi.1]
  rcases itok_cases hx with ⟨a, h1, rfl⟩ | ⟨j, a, b, hj, h1, h2, rfl⟩ | htl
  · rw [if_pos (show (1 : Int32) = 1 from rfl), if_pos (show p_MO_isRange 1 = 0 by decide)]
    refine ⟨_, rfl, ⟨rfl, fun j q h => by rw [mo_i_at, if_neg (by omega)], rfl⟩, ?_⟩
    show ci _ p (1, mvx (z3 - z1) (z4 - z2) a, 0, 0)
    refine ⟨?_, fun e => absurd e (show ¬ (1 : Int32) = 0 by decide), fun _ => ?_, fun e => absurd e (show ¬ (2 : Int32) ≤ 1 by decide)⟩
    · rw [mo_i_at, if_neg (by omega)]; exact hi.1
    · rw [mo_i_at, if_pos ⟨rfl, rfl⟩]; exact mo_moved (hi.2.2.1 rfl) _ _
  · obtain ⟨g1, g2, g3, g4, g5⟩ := it_rg j hj
    obtain ⟨t1, t2⟩ := hi.2.2.2 g5 g4
    rw [if_neg g2, if_neg g3, if_neg g3]
    refine ⟨_, rfl, ⟨rfl, fun j q h => by rw [mo_i_at, mo_i_at, if_neg (by omega), if_neg (by omega)], rfl⟩, ?_⟩
    unfold itM
    rw [itsh_rg _ _ hj]
    refine ⟨?_, fun e => absurd e g1, fun e => absurd e g2, fun _ _ => ⟨?_, ?_⟩⟩
    · rw [mo_i_at, mo_i_at, if_neg (by omega), if_neg (by omega)]; exact hi.1
    · rw [mo_i_at, mo_i_at, if_neg (by omega), if_pos ⟨rfl, rfl⟩]; exact mo_moved t1 _ _
    · rw [mo_i_at, if_pos ⟨rfl, rfl⟩]; exact mo_moved t2 _ _
  · rw [if_neg htl.no.1, if_pos (isR_tl htl)]
    exact ⟨M, rfl, s1F.rf p M, by unfold itM; rw [itsh_tl _ _ htl]; exact hi⟩
theorem cp_L89 {z s : Nat} {z1 z2 z3 z4 z5 z7 : Int32} (hz : z < 80) (hs2 : s ≤ 40) : ∀ (L : List It) (i f : Nat) (M : mo_S), M.2.1 0 z = 2 → M.2.1 1 z = nI s → i + L.length = s → L.length < f → (∀ x ∈ L, itok x) → (∀ j y, L[j]? = some y → ci M (40 * z + i + j) y) → ∃ y M', p_MO_copy_L89 f z1 z2 z3 z4 z5 (nI z) z7 (nI (40 * z + i)) M = (y, M') ∧ szF z M M' ∧ (∀ q, q < 40 * z + i → ∀ x, ci M q x → ci M' q x) ∧ ∀ j y, L[j]? = some y → ci M' (40 * z + i + j) (itM (z3 - z1) (z4 - z2) y) := by
  intro L
  induction L with
  | nil =>
    intro i f M h0 hs1 hi hf _ _
    obtain ⟨f, rfl⟩ : ∃ q, f = q + 1 := ⟨f - 1, by omega⟩
    rw [List.length_nil] at hi
    have e2 : ((40 * nI z) + (M.2.1 1 (Int32.toNatClampNeg (nI z)))) ≤ nI (40 * z + i) := by
      rw [nI_clamp (by omega), hs1, nI_40]
      exact nI_le (by omega) (by omega)
    rw [p_MO_copy_L89, if_pos e2, nI_clamp (n := z) (by omega), if_pos h0]
    exact ⟨_, _, rfl, szF.rf z M, fun q _ x h => h, fun j y hj => by cases hj⟩
  | cons x L ih =>
    intro i f M h0 hs1 hi hf hx hc
    obtain ⟨f, rfl⟩ : ∃ q, f = q + 1 := ⟨f - 1, by omega⟩
    rw [List.length_cons] at hi hf
    obtain ⟨M1, q1, q2, q3⟩ := cp_step (f := f) (z1 := z1) (z2 := z2) (z3 := z3) (z4 := z4) (z5 := z5) (z7 := z7) hz h0 hs1 hs2 (show 40 * z ≤ 40 * z + i by omega) (by omega) (hx x List.mem_cons_self) (hc 0 x rfl)
    obtain ⟨y, M2, r1, r2, r3, r4⟩ := ih (i + 1) f M1 (by rw [q2.2.1 0 z (by omega)]; exact h0) (by rw [q2.2.1 1 z (by omega)]; exact hs1) (by omega) (by omega) (fun y hy => hx y (List.mem_cons_of_mem _ hy)) (fun j y hj => by
      have := hc (j + 1) y hj
      rw [show 40 * z + i + (j + 1) = 40 * z + (i + 1) + j by omega] at this
      exact ci_sh q2 (by omega) this)
    rw [show 40 * z + (i + 1) = 40 * z + i + 1 by omega] at r1
    refine ⟨y, M2, q1.trans r1, szF.trans ⟨q2.1, fun j q h => q2.2.1 j q (by omega), q2.2.2⟩ r2, fun q hq w hw => r3 q (by omega) w (ci_sh q2 (by omega) hw), fun j w hj => ?_⟩
    cases j with
    | zero =>
      cases hj
      exact r3 (40 * z + i) (by omega) _ q3
    | succ j =>
      have := r4 j w hj
      rw [show 40 * z + (i + 1) + j = 40 * z + i + (j + 1) by omega] at this
      exact this
theorem out_in {c r : Nat} (hc : c < 8) (hr : r < 10) : p_MO_out (nI c) (nI r) = 0 := by
  have : ∀ c, c < 8 → ∀ r, r < 10 → p_MO_out (nI c) (nI r) = 0 := by decide
  exact this c hc r hr
/-- the sheet behind a copy -/
def copS (A : Shh) (k k' : Nat) (dx dy : Int32) : Shh := fun q => if q = k' then mpC (itM dx dy) (A k) else A q
theorem mo_copy {M : mo_S} {A : Shh} {c r c' r' : Nat} (hc : c < 8) (hr : r < 10) (hc' : c' < 8) (hr' : r' < 10) (hs : shok A) (hR : mR M A) (hA : A (r * 8 + c) ≠ none) : (p_MO_copy M (nI c) (nI r) (nI c') (nI r')).1 = nI (lsC (mpC (itM (nI c' - nI c) (nI r' - nI r)) (A (r * 8 + c)))) - nI (lsC (A (r * 8 + c))) ∧ mR (p_MO_copy M (nI c) (nI r) (nI c') (nI r')).2 (copS A (r * 8 + c) (r' * 8 + c') (nI c' - nI c) (nI r' - nI r)) ∧ cgF M (p_MO_copy M (nI c) (nI r) (nI c') (nI r')).2 ∧ (p_MO_copy M (nI c) (nI r) (nI c') (nI r')).2.1 11 = 0 ∧ (p_MO_copy M (nI c) (nI r) (nI c') (nI r')).2.1 12 = 1 := by
  obtain ⟨i1, i2, i3, i4⟩ := idx10 hc hr
  obtain ⟨j1, j2, j3, j4⟩ := idx10 hc' hr'
  have hsrc := hR.c (show 10 * c + r < 80 by omega)
  rw [kap_at hc hr] at hsrc
  have h0 : ¬ M.2.1 0 (10 * c + r) = 0 := by
    match e : A (r * 8 + c) with
    | none => exact absurd e hA
    | some (.inl d) => rw [(hsrc.2.1 d e).1]; decide
    | some (.inr L) => rw [(hsrc.2.2 L e).1]; decide
  unfold p_MO_copy
  rw [if_pos (out_in hc hr), if_pos (out_in hc' hr'), i1, j1, i4, if_neg h0]
  have hM0 : ∃ M0, M0 = mo_f (mo_f M 11 0) 12 1 := ⟨_, rfl⟩
  obtain ⟨M0, e0⟩ := hM0
  rw [← e0]
  have hR0 : mR M0 A := by rw [e0]; exact hR
  have hsrc0 : mRc M0 (10 * c + r) (A (r * 8 + c)) := by rw [e0]; exact hsrc
  obtain ⟨c1, c2, c3, c4⟩ := mo_copyCell (M := M0) (x := 10 * c + r) (y := 10 * c' + r') (by omega) (by omega)
  have gf1 := gF_copy (M := M0) (x := 10 * c + r) (y := 10 * c' + r') (by omega) (by omega)
  have hdst := c4 _ hsrc0
  have hother : ∀ z, z < 80 → z ≠ 10 * c' + r' → mRc (p_MO_copyCell M0 (nI (10 * c + r)) (nI (10 * c' + r'))) z (A (kap z)) := fun z hz hzy => c1.c hzy (hR0.c hz)
  have hfok : ∀ L, A (r * 8 + c) = some (.inr L) → fok L := fun L e => ((hs (r * 8 + c) (by omega)).2 L e).1
  rw [mo_lostNow (show 10 * c' + r' < 80 by omega) hdst hfok]
  have hdx : ∃ dx dy : Int32, dx = nI c' - nI c ∧ dy = nI r' - nI r := ⟨_, _, rfl, rfl⟩
  have key : ∃ y M2, p_MO_copy_L89 41 (nI c) (nI r) (nI c') (nI r') (nI (10 * c + r)) (nI (10 * c' + r')) (nI (lsC (A (r * 8 + c)))) (40 * nI (10 * c' + r')) (p_MO_copyCell M0 (nI (10 * c + r)) (nI (10 * c' + r'))) = (y, M2) ∧ szF (10 * c' + r') (p_MO_copyCell M0 (nI (10 * c + r)) (nI (10 * c' + r'))) M2 ∧ mRc M2 (10 * c' + r') (mpC (itM (nI c' - nI c) (nI r' - nI r)) (A (r * 8 + c))) := by
    by_cases hfm : ∃ L, A (r * 8 + c) = some (.inr L)
    · obtain ⟨L, hL⟩ := hfm
      obtain ⟨g1, g2, g3, g4⟩ := hdst.2.2 L hL
      obtain ⟨y, M2, e1, e2, e3, e4⟩ := cp_L89 (z1 := nI c) (z2 := nI r) (z3 := nI c') (z4 := nI r') (z5 := nI (10 * c + r)) (z7 := nI (lsC (A (r * 8 + c)))) (show 10 * c' + r' < 80 by omega) g3 L 0 41 (p_MO_copyCell M0 (nI (10 * c + r)) (nI (10 * c' + r'))) g1 g2 (by omega) (by omega) (hfok L hL).1 (fun j y hj => by rw [Nat.add_zero (40 * (10 * c' + r'))]; exact g4 j y hj)
      refine ⟨y, M2, ?_, e2, ?_⟩
      · rw [show (40 * nI (10 * c' + r') : Int32) = nI (40 * (10 * c' + r') + 0) by rw [← nI_40]; exact (Int32.add_zero _).symm]
        exact e1
      · rw [hL, mpC_f]
        refine ⟨fun e => (by cases e), fun d e => (by cases e), fun L' e => ?_⟩
        cases e
        refine ⟨by rw [e2.2.1 0 _ (by omega)]; exact g1, by rw [e2.2.1 1 _ (by omega), List.length_map]; exact g2, by rw [List.length_map]; exact g3, fun j y hj => ?_⟩
        rw [List.getElem?_map] at hj
        cases hy : L[j]? with
        | none => rw [hy] at hj; cases hj
        | some w =>
          rw [hy] at hj
          have := e4 j w hy
          rw [Nat.add_zero (40 * (10 * c' + r'))] at this
          rw [← Option.some.inj hj]
          exact this
    · have hno : ∀ L, A (r * 8 + c) ≠ some (.inr L) := fun L hL => hfm ⟨L, hL⟩
      have h2 : ¬ (p_MO_copyCell M0 (nI (10 * c + r)) (nI (10 * c' + r'))).2.1 0 (10 * c' + r') = 2 := by
        match e : A (r * 8 + c) with
        | none => exact absurd e hA
        | some (.inl d) => rw [(hdst.2.1 d e).1]; decide
        | some (.inr L) => exact absurd e (hno L)
      rw [p_MO_copy_L89, nI_clamp (n := 10 * c' + r') (by omega), if_neg h2, mpC_no hno]
      exact ⟨_, _, rfl, szF.rf _ _, hdst⟩
  obtain ⟨y, M2, k1, k2, k3⟩ := key
  rw [k1]
  try dsimp only
  have hfok' : ∀ L, mpC (itM (nI c' - nI c) (nI r' - nI r)) (A (r * 8 + c)) = some (.inr L) → fok L := by
    intro L e
    match e' : A (r * 8 + c) with
    | none => exact absurd e' hA
    | some (.inl d) => rw [e'] at e; cases e
    | some (.inr L') =>
      rw [e', mpC_f] at e
      cases e
      exact fok_M (hfok L' e')
  rw [mo_lostNow (show 10 * c' + r' < 80 by omega) k3 hfok']
  refine ⟨rfl, fun z hz => ?_, ⟨fun j h1 h2 => ?_, fun j q h => ?_, fun h k hk => ?_, fun h k => ?_⟩, ?_, ?_⟩
  · unfold copS
    by_cases hzy : z = 10 * c' + r'
    · rw [hzy, kap_at hc' hr', if_pos rfl]; exact k3
    · rw [if_neg (fun e => hzy (by
        have := congrArg mup e
        rw [mup_kap hz, ← kap_at hc' hr', mup_kap (by omega)] at this
        exact this))]
      exact k2.c hzy (hother z hz hzy)
  · rw [k2.1, c1.1, e0, mo_f_1, if_neg h2, mo_f_1, if_neg h1]
  · rw [k2.2.1 j q (by omega), gf1.2.1 j q h, e0]; rfl
  · rw [k2.2.1 0 k (by omega)]; exact gf1.2.2.2.2.1 (by rw [e0]; exact h) k hk
  · rw [k2.2.1 1 k (by omega)]; exact gf1.2.2.2.2.2.1 (by rw [e0]; exact h) k
  · rw [k2.1, c1.1, e0, mo_f_1, if_neg (by decide), mo_f_1, if_pos rfl]
  · rw [k2.1, c1.1, e0, mo_f_1, if_pos rfl]
