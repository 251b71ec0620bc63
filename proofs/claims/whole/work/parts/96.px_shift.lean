/-! Pure: references when rows come and go, and when a formula is copied. -/
/-- what the code's number is made of -/
def cdn (C W A B : Nat) : Int32 := nI (C + 8 * W + 128 * A + 256 * B)
theorem cd_bits : ∀ n, n < 1024 → (nI n &&& (-121 : Int32)) = nI (n - 8 * (n / 8 % 16)) ∧ (nI n ||| (512 : Int32)) = nI (n % 512 + 512) ∧ ((nI n >>> (7 &&& 31)) &&& (1 : Int32)) = nI (n / 128 % 2) ∧ ((nI n >>> (8 &&& 31)) &&& (1 : Int32)) = nI (n / 256 % 2) ∧ (nI n &&& (384 : Int32)) = nI (n / 128 % 4 * 128) := by decide +kernel
/-- a row's new place; none: gone -/
def fI0 (r W : Nat) : Option Nat := if r ≤ W then (if W < 9 then some (W + 1) else none) else some W
def fI1 (r W : Nat) : Option Nat := if r ≤ W then (if W < 9 then some (W + 1) else some W) else some W
def fD0 (r W : Nat) : Option Nat := if r ≤ W then (if W = r then none else some (W - 1)) else some W
def fD1 (r W : Nat) : Option Nat := if r < W then some (W - 1) else some W
def fD2 (r W : Nat) : Option Nat := if r ≤ W then some (W - 1) else some W
def setW (x : Int32) (W : Nat) : Int32 := nI (x.toNatClampNeg - 8 * rgrow x + 8 * W)
def shx1 (o : Option Nat) (x : Int32) : Int32 := match o with | some W => setW x W | none => 512
def shx (f : Nat → Option Nat) (x : Int32) : Int32 := if p_MO_lost x = 0 then shx1 (f (rgrow x)) x else 512
theorem shx_lost (f : Nat → Option Nat) : shx f 512 = 512 := by
  unfold shx
  rw [rf_512, if_neg (by decide)]
theorem shx_some {f : Nat → Option Nat} {C W A B W' : Nat} (h1 : C < 8) (h2 : W < 10) (h3 : A < 2) (h4 : B < 2) (e : f W = some W') : shx f (nI (C + 8 * W + 128 * A + 256 * B)) = nI (C + 8 * W' + 128 * A + 256 * B) := by
  obtain ⟨d1, d2, d3⟩ := rf_dec C h1 W h2 A h3 B h4
  unfold shx
  rw [d3, if_pos rfl, d2, e]
  show setW _ _ = _
  unfold setW
  rw [d2, nI_clamp (by omega)]
  congr 1
  omega
theorem shx_none {f : Nat → Option Nat} {C W A B : Nat} (h1 : C < 8) (h2 : W < 10) (h3 : A < 2) (h4 : B < 2) (e : f W = none) : shx f (nI (C + 8 * W + 128 * A + 256 * B)) = 512 := by
  obtain ⟨d1, d2, d3⟩ := rf_dec C h1 W h2 A h3 B h4
  unfold shx
  rw [d3, if_pos rfl, d2, e]
  rfl
/-- which way, and how -/
def shf (d : Bool) (m : Nat) : Nat → Nat → Option Nat := if d then (if m = 0 then fI0 else fI1) else (if m = 0 then fD0 else if m = 1 then fD1 else fD2)
theorem at_row {C W A B W' : Nat} (h1 : C < 8) (h2 : W < 10) (h3 : A < 2) (h4 : B < 2) : p_MO_atRow (nI (C + 8 * W + 128 * A + 256 * B)) (nI W') = nI (C + 8 * W' + 128 * A + 256 * B) := by
  unfold p_MO_atRow
  rw [(cd_bits _ (by omega)).1, show (8 : Int32) = nI 8 from rfl, nI_mul, nI_add]
  congr 1
  omega
theorem or_lost {C W A B : Nat} (h1 : C < 8) (h2 : W < 10) (h3 : A < 2) (h4 : B < 2) : (nI (C + 8 * W + 128 * A + 256 * B) ||| (512 : Int32)) = nI (C + 8 * W + 128 * A + 256 * B + 512 * 1) := by
  rw [(cd_bits _ (by omega)).2.1]
  congr 1
  omega
theorem mo_shifted {a x : Int32} (h : rfq a x) {r : Nat} (hr : r < 10) (d : Bool) {m : Nat} (hm : if d then m < 2 else m < 3) (hm2 : m = 2 → p_MO_lost x = 0 → 0 < rgrow x) : rfq (p_MO_shifted a (nI r) (if d then 1 else -1) (nI m)) (shx (shf d m r) x) := by
  obtain ⟨C, W, A, B, l, h1, h2, h3, h4, h5, h6, h7⟩ := h
  obtain ⟨d1, d2, d3⟩ := rf_dec2 h1 h2 h3 h4 h5
  unfold p_MO_shifted
  rw [h6, d2, d3]
  by_cases hl0 : l = 0
  · subst hl0
    rw [if_pos rfl] at h7
    rw [if_pos (show nI 0 = 0 from rfl), Nat.mul_zero, Nat.add_zero, h7]
    have same : shf d m r W = some W → rfq (nI (C + 8 * W + 128 * A + 256 * B)) (shx (shf d m r) (nI (C + 8 * W + 128 * A + 256 * B))) := fun e => ⟨C, W, A, B, 0, h1, h2, h3, h4, by omega, rfl, by rw [if_pos rfl]; exact shx_some h1 h2 h3 h4 e⟩
    have move : ∀ W', W' < 10 → shf d m r W = some W' → rfq (p_MO_atRow (nI (C + 8 * W + 128 * A + 256 * B)) (nI W')) (shx (shf d m r) (nI (C + 8 * W + 128 * A + 256 * B))) := fun W' hW' e => ⟨C, W', A, B, 0, h1, hW', h3, h4, by omega, at_row h1 h2 h3 h4, by rw [if_pos rfl]; exact shx_some h1 h2 h3 h4 e⟩
    have gone : shf d m r W = none → rfq (nI (C + 8 * W + 128 * A + 256 * B) ||| (512 : Int32)) (shx (shf d m r) (nI (C + 8 * W + 128 * A + 256 * B))) := fun e => ⟨C, W, A, B, 1, h1, h2, h3, h4, by omega, or_lost h1 h2 h3 h4, by rw [if_neg (by decide)]; exact shx_none h1 h2 h3 h4 e⟩
    have s1 : 0 < W → nI W - 1 = nI (W - 1) := fun h => nI_sub (b := 1) h
    by_cases hrw : r ≤ W
    · rw [if_pos (nI_le hrw (by omega))]
      cases d with
      | true =>
        rw [if_pos rfl, if_neg (show ¬ (1 : Int32) ≤ 0 by decide)]
        by_cases h9 : 9 ≤ W
        · rw [if_pos (show (9 : Int32) ≤ nI W from nI_le (a := 9) h9 (by omega))]
          by_cases hm0 : m = 0
          · rw [hm0, if_pos (show nI 0 = 0 from rfl)]
            rw [hm0] at gone
            refine gone ?_
            show fI0 r W = none
            unfold fI0
            rw [if_pos hrw, if_neg (by omega)]
          · have hm1 : m = 1 := by
              rw [if_pos rfl] at hm
              omega
            rw [hm1, if_neg (show ¬ nI 1 = 0 by decide), if_pos (show nI 1 = 1 from rfl)]
            rw [hm1] at same
            refine same ?_
            show fI1 r W = some W
            unfold fI1
            rw [if_pos hrw, if_neg (by omega)]
        · rw [if_neg (show ¬ (9 : Int32) ≤ nI W from nI_ge (b := 9) (by omega) (by decide)), nI_1]
          refine move (W + 1) (by omega) ?_
          unfold shf
          rw [if_pos rfl]
          split
          · unfold fI0; rw [if_pos hrw, if_pos (by omega)]
          · unfold fI1; rw [if_pos hrw, if_pos (by omega)]
      | false =>
        rw [if_neg (show ¬ false = true by decide), if_pos (show (-1 : Int32) ≤ 0 by decide)]
        rw [if_neg (by decide)] at hm
        by_cases he : W ≤ r
        · have e : W = r := by omega
          rw [if_pos (nI_le he (by omega))]
          have hm' : m = 0 ∨ m = 1 ∨ m = 2 := by omega
          rcases hm' with hm' | hm' | hm'
          · rw [hm', if_pos (show nI 0 = 0 from rfl)]
            rw [hm'] at gone
            refine gone ?_
            show fD0 r W = none
            unfold fD0
            rw [if_pos hrw, if_pos e]
          · rw [hm', if_neg (show ¬ nI 1 = 0 by decide), if_pos (show nI 1 = 1 from rfl)]
            rw [hm'] at same
            refine same ?_
            show fD1 r W = some W
            unfold fD1
            rw [if_neg (by omega)]
          · rw [hm', if_neg (show ¬ nI 2 = 0 by decide), if_neg (show ¬ nI 2 = 1 by decide)]
            rw [hm'] at move
            obtain ⟨e1, e2, e3⟩ := rf_dec C h1 W h2 A h3 B h4
            have hW : 0 < W := by
              have := hm2 hm' (by rw [h7]; exact e3)
              rw [h7, e2] at this
              exact this
            rw [s1 hW]
            refine move (W - 1) (by omega) ?_
            show fD2 r W = some (W - 1)
            unfold fD2
            rw [if_pos hrw]
        · rw [if_neg (nI_ge (by omega) (by omega)), s1 (by omega)]
          refine move (W - 1) (by omega) ?_
          unfold shf
          rw [if_neg (show ¬ false = true by decide)]
          split
          · unfold fD0; rw [if_pos hrw, if_neg (by omega)]
          · split
            · unfold fD1; rw [if_pos (by omega)]
            · unfold fD2; rw [if_pos hrw]
    · rw [if_neg (nI_ge (by omega) (by omega))]
      refine same ?_
      unfold shf
      split
      · split
        · unfold fI0; rw [if_neg hrw]
        · unfold fI1; rw [if_neg hrw]
      · split
        · unfold fD0; rw [if_neg hrw]
        · split
          · unfold fD1; rw [if_neg (by omega)]
          · unfold fD2; rw [if_neg hrw]
  · have hl1 : l = 1 := by omega
    subst hl1
    rw [if_neg (by decide)] at h7
    rw [if_neg (show ¬ nI 1 = 0 by decide), h7, shx_lost]
    exact ⟨C, W, A, B, 1, h1, h2, h3, h4, by omega, rfl, by rw [if_neg (by decide)]⟩
/-- a copy's reference -/
def nrm (y : Int32) : Int32 := if p_MO_lost y = 0 then y else 512
def mvx (dx dy x : Int32) : Int32 := nrm (p_MO_moved x dx dy)
theorem out_dec {c r : Int32} (h : p_MO_out c r = 0) : ∃ C W : Nat, C < 8 ∧ W < 10 ∧ c = nI C ∧ r = nI W := by
  unfold p_MO_out at h
  split at h
  · exact absurd h (by decide)
  · next h1 =>
    split at h
    · exact absurd h (by decide)
    · next h2 =>
      split at h
      · exact absurd h (by decide)
      · next h3 =>
        split at h
        · next h4 =>
          rw [Int32.lt_iff_toInt_lt] at h1 h2 h3
          rw [Int32.le_iff_toInt_le] at h4
          rw [show (0 : Int32).toInt = 0 by decide] at h1 h3
          rw [show (7 : Int32).toInt = 7 by decide] at h2
          rw [show (9 : Int32).toInt = 9 by decide] at h4
          refine ⟨c.toInt.toNat, r.toInt.toNat, by omega, by omega, ?_, ?_⟩
          · apply Int32.toInt_inj.mp
            rw [nI_toInt (by omega)]
            omega
          · apply Int32.toInt_inj.mp
            rw [nI_toInt (by omega)]
            omega
        · exact absurd h (by decide)
theorem out_or (c r : Int32) : p_MO_out c r = 0 ∨ p_MO_out c r = 1 := by
  unfold p_MO_out
  split
  · exact Or.inr rfl
  · split
    · exact Or.inr rfl
    · split
      · exact Or.inr rfl
      · split
        · exact Or.inl rfl
        · exact Or.inr rfl
theorem fx_add {A : Nat} (hA : A < 2) (c d : Int32) : (c + nI A * (-d)) + d = if A = 0 then c + d else c := by
  have hA' : A = 0 ∨ A = 1 := by omega
  rcases hA' with rfl | rfl
  · rw [if_pos rfl, show nI 0 = 0 from rfl, Int32.zero_mul, Int32.add_zero]
  · rw [if_neg (by decide), show nI 1 = 1 from rfl, Int32.one_mul, Int32.add_assoc, Int32.add_left_neg, Int32.add_zero]
theorem mv_eq {C W A B : Nat} (h1 : C < 8) (h2 : W < 10) (h3 : A < 2) (h4 : B < 2) (dx dy : Int32) : p_MO_moved (nI (C + 8 * W + 128 * A + 256 * B)) dx dy = if p_MO_out (if A = 0 then nI C + dx else nI C) (if B = 0 then nI W + dy else nI W) = 0 then ((if A = 0 then nI C + dx else nI C) + 8 * (if B = 0 then nI W + dy else nI W)) + nI (128 * A + 256 * B) else nI (C + 8 * W + 128 * A + 256 * B + 512 * 1) := by
  obtain ⟨d1, d2, d3⟩ := rf_dec1 (C + 8 * W + 128 * A + 256 * B) (by omega)
  obtain ⟨b1, b2, b3, b4, b5⟩ := cd_bits (C + 8 * W + 128 * A + 256 * B) (by omega)
  unfold p_MO_moved
  rw [d1, d2, d3, b3, b4, b5, or_lost h1 h2 h3 h4]
  rw [show (C + 8 * W + 128 * A + 256 * B) % 8 = C by omega, show (C + 8 * W + 128 * A + 256 * B) / 8 % 16 = W by omega, show (C + 8 * W + 128 * A + 256 * B) / 512 = 0 by omega, show (C + 8 * W + 128 * A + 256 * B) / 128 % 2 = A by omega, show (C + 8 * W + 128 * A + 256 * B) / 256 % 2 = B by omega, show (C + 8 * W + 128 * A + 256 * B) / 128 % 4 * 128 = 128 * A + 256 * B by omega]
  rw [fx_add h3, fx_add h4, if_pos (show nI 0 = 0 from rfl)]
theorem lost_cd {C W A B l : Nat} (h1 : C < 8) (h2 : W < 10) (h3 : A < 2) (h4 : B < 2) (h5 : l < 2) : p_MO_lost (nI (C + 8 * W + 128 * A + 256 * B + 512 * l)) = nI l := (rf_dec2 h1 h2 h3 h4 h5).2.2
/-- in the sheet, or LOST -/
theorem mv_dec {C W A B : Nat} (h1 : C < 8) (h2 : W < 10) (h3 : A < 2) (h4 : B < 2) (dx dy : Int32) : (p_MO_out (if A = 0 then nI C + dx else nI C) (if B = 0 then nI W + dy else nI W) = 0 ∧ ∃ C' W' : Nat, C' < 8 ∧ W' < 10 ∧ (if A = 0 then nI C + dx else nI C) = nI C' ∧ (if B = 0 then nI W + dy else nI W) = nI W' ∧ p_MO_moved (nI (C + 8 * W + 128 * A + 256 * B)) dx dy = nI (C' + 8 * W' + 128 * A + 256 * B) ∧ mvx dx dy (nI (C + 8 * W + 128 * A + 256 * B)) = nI (C' + 8 * W' + 128 * A + 256 * B)) ∨ (p_MO_out (if A = 0 then nI C + dx else nI C) (if B = 0 then nI W + dy else nI W) = 1 ∧ p_MO_moved (nI (C + 8 * W + 128 * A + 256 * B)) dx dy = nI (C + 8 * W + 128 * A + 256 * B + 512 * 1) ∧ mvx dx dy (nI (C + 8 * W + 128 * A + 256 * B)) = 512) := by
  have hm := mv_eq h1 h2 h3 h4 dx dy
  rcases out_or (if A = 0 then nI C + dx else nI C) (if B = 0 then nI W + dy else nI W) with ho | ho
  · refine Or.inl ⟨ho, ?_⟩
    obtain ⟨C', W', c1, c2, c3, c4⟩ := out_dec ho
    have e : p_MO_moved (nI (C + 8 * W + 128 * A + 256 * B)) dx dy = nI (C' + 8 * W' + 128 * A + 256 * B) := by
      rw [hm, if_pos ho, c3, c4, show (8 : Int32) = nI 8 from rfl, nI_mul, nI_add, nI_add]
      congr 1
      omega
    refine ⟨C', W', c1, c2, c3, c4, e, ?_⟩
    unfold mvx nrm
    rw [e, (rf_dec C' c1 W' c2 A h3 B h4).2.2, if_pos rfl]
  · refine Or.inr ⟨ho, ?_⟩
    have e : p_MO_moved (nI (C + 8 * W + 128 * A + 256 * B)) dx dy = nI (C + 8 * W + 128 * A + 256 * B + 512 * 1) := by
      rw [hm, if_neg (by rw [ho]; decide)]
    refine ⟨e, ?_⟩
    unfold mvx nrm
    rw [e, lost_cd h1 h2 h3 h4 (by omega), if_neg (by decide)]
theorem mv_512 (dx dy : Int32) : mvx dx dy 512 = 512 := by
  have e : p_MO_moved 512 dx dy = 512 := by
    unfold p_MO_moved
    rw [rf_512, if_neg (show ¬ (1 : Int32) = 0 by decide)]
    decide
  unfold mvx nrm
  rw [e, rf_512, if_neg (by decide)]
theorem mo_moved {a x : Int32} (h : rfq a x) (dx dy : Int32) : rfq (p_MO_moved a dx dy) (mvx dx dy x) := by
  obtain ⟨C, W, A, B, l, h1, h2, h3, h4, h5, h6, h7⟩ := h
  by_cases hl0 : l = 0
  · subst hl0
    rw [if_pos rfl] at h7
    rw [Nat.mul_zero, Nat.add_zero] at h6
    rw [h6, h7]
    rcases mv_dec h1 h2 h3 h4 dx dy with ⟨_, C', W', c1, c2, _, _, e1, e2⟩ | ⟨_, e1, e2⟩
    · rw [e1, e2]
      exact ⟨C', W', A, B, 0, c1, c2, h3, h4, by omega, rfl, by rw [if_pos rfl]⟩
    · rw [e1, e2]
      exact ⟨C, W, A, B, 1, h1, h2, h3, h4, by omega, rfl, by rw [if_neg (by decide)]⟩
  · have hl1 : l = 1 := by omega
    subst hl1
    rw [if_neg (by decide)] at h7
    rw [h7, mv_512]
    have e : p_MO_moved a dx dy = a ||| (512 : Int32) := by
      unfold p_MO_moved
      rw [h6, lost_cd h1 h2 h3 h4 h5, if_neg (show ¬ nI 1 = 0 by decide)]
    have e2 : (a ||| (512 : Int32)) = nI (C + 8 * W + 128 * A + 256 * B + 512 * 1) := by
      rw [h6, (cd_bits (C + 8 * W + 128 * A + 256 * B + 512 * 1) (by omega)).2.1, show (C + 8 * W + 128 * A + 256 * B + 512 * 1) % 512 + 512 = C + 8 * W + 128 * A + 256 * B + 512 * 1 by omega]
    exact ⟨C, W, A, B, 1, h1, h2, h3, h4, by omega, e.trans e2, by rw [if_neg (by decide)]⟩
/-- items under a change of their references -/
def itsh (g : Int32 → Int32) (k : Int32 → Int32 → Int32 × Int32) (x : It) : It := if x.1 = 1 then (1, g x.2.1, 0, 0) else if 2 ≤ x.1 ∧ x.1 ≤ 6 then (x.1, (k x.2.1 x.2.2.1).1, (k x.2.1 x.2.2.1).2, 0) else x
theorem itsh_rf (g : Int32 → Int32) (k : Int32 → Int32 → Int32 × Int32) (a : Int32) : itsh g k (1, a, 0, 0) = (1, g a, 0, 0) := rfl
theorem itsh_rg (g : Int32 → Int32) (k : Int32 → Int32 → Int32 × Int32) {j : Nat} (hj : j < 5) (a b : Int32) : itsh g k (nI (j + 2), a, b, 0) = (nI (j + 2), (k a b).1, (k a b).2, 0) := by
  obtain ⟨h1, h2, h3, h4, h5⟩ := it_rg j hj
  unfold itsh
  try dsimp only
  rw [if_neg h2, if_pos ⟨h5, h4⟩]
theorem tlok.no {x : It} (h : tlok x) : ¬ x.1 = 1 ∧ ¬ (2 ≤ x.1 ∧ x.1 ≤ 6) := by
  refine ⟨?_, ?_⟩
  · rcases h with h | h
    · rw [h]; decide
    · intro z; rw [z] at h; exact absurd h (by decide)
  · rcases h with h | h
    · rw [h]; decide
    · rintro ⟨_, z⟩
      have := Int32.le_trans h z
      exact absurd this (by decide)
theorem itsh_tl (g : Int32 → Int32) (k : Int32 → Int32 → Int32 × Int32) {x : It} (h : tlok x) : itsh g k x = x := by
  unfold itsh
  rw [if_neg h.no.1, if_neg h.no.2]
theorem itsh_1 (g : Int32 → Int32) (k : Int32 → Int32 → Int32 × Int32) (x : It) : (itsh g k x).1 = x.1 := by
  unfold itsh
  split
  · next h => exact h.symm
  · split <;> rfl
theorem ar_sh (g : Int32 → Int32) (k : Int32 → Int32 → Int32 × Int32) (x : It) (n : Nat) : ar (itsh g k x) n = ar x n := by
  unfold ar
  rw [itsh_1]
theorem hgt_sh (g : Int32 → Int32) (k : Int32 → Int32 → Int32 × Int32) : ∀ (L : List It) (n : Nat), hgt (L.map (itsh g k)) n = hgt L n := by
  intro L
  induction L with
  | nil => intro n; rfl
  | cons x L ih =>
    intro n
    show (ar (itsh g k x) n).bind (hgt (L.map (itsh g k))) = (ar x n).bind (hgt L)
    rw [ar_sh]
    cases ar x n with
    | none => rfl
    | some m => exact ih m
theorem itok_sh {g : Int32 → Int32} {k : Int32 → Int32 → Int32 × Int32} (hg : ∀ a, xok a → xok (g a)) (hk : ∀ a b, xok a → xok b → xok (k a b).1 ∧ xok (k a b).2) {x : It} (h : itok x) : itok (itsh g k x) := by
  rcases h with ⟨b, d, h1, h2, rfl⟩ | ⟨a, h1, rfl⟩ | ⟨j, a, b, h0, h1, h2, rfl⟩ | ⟨w, hw, rfl⟩ | rfl | ⟨w, hw, rfl⟩
  · rw [itsh_tl g k (Or.inl rfl)]
    exact Or.inl ⟨b, d, h1, h2, rfl⟩
  · exact Or.inr (Or.inl ⟨g a, hg a h1, rfl⟩)
  · rw [itsh_rg g k h0]
    exact Or.inr (Or.inr (Or.inl ⟨j, _, _, h0, (hk a b h1 h2).1, (hk a b h1 h2).2, rfl⟩))
  · rw [itsh_tl g k (by rcases hw with rfl | rfl | rfl | rfl <;> exact Or.inr (by decide))]
    exact Or.inr (Or.inr (Or.inr (Or.inl ⟨w, hw, rfl⟩)))
  · rw [itsh_tl g k (Or.inr (show (7 : Int32) ≤ 9 by decide))]
    exact Or.inr (Or.inr (Or.inr (Or.inr (Or.inl rfl))))
  · rw [itsh_tl g k (by rcases hw with rfl | rfl | rfl | rfl | rfl | rfl | rfl | rfl | rfl | rfl <;> exact Or.inr (by decide))]
    exact Or.inr (Or.inr (Or.inr (Or.inr (Or.inr ⟨w, hw, rfl⟩))))
theorem fok_sh {g : Int32 → Int32} {k : Int32 → Int32 → Int32 × Int32} (hg : ∀ a, xok a → xok (g a)) (hk : ∀ a b, xok a → xok b → xok (k a b).1 ∧ xok (k a b).2) {L : List It} (h : fok L) : fok (L.map (itsh g k)) := by
  refine ⟨fun x hx => ?_, fun n => by rw [hgt_sh]; exact h.2 n⟩
  obtain ⟨y, hy, rfl⟩ := List.mem_map.mp hx
  exact itok_sh hg hk (h.1 y hy)
theorem shx_ok {f : Nat → Option Nat} (hf : ∀ W W', W < 10 → f W = some W' → W' < 10) {x : Int32} (h : xok x) : xok (shx f x) := by
  rcases h with rfl | ⟨C, W, A, B, h1, h2, h3, h4, rfl⟩
  · rw [shx_lost]; exact Or.inl rfl
  · cases e : f W with
    | none => rw [shx_none h1 h2 h3 h4 e]; exact Or.inl rfl
    | some W' => rw [shx_some h1 h2 h3 h4 e]; exact Or.inr ⟨C, W', A, B, h1, hf W W' h2 e, h3, h4, rfl⟩
theorem fI0_lt {r : Nat} : ∀ W W', W < 10 → fI0 r W = some W' → W' < 10 := by
  intro W W' h e
  unfold fI0 at e
  split at e
  · split at e
    · have := Option.some.inj e; omega
    · cases e
  · have := Option.some.inj e; omega
theorem fI1_lt {r : Nat} : ∀ W W', W < 10 → fI1 r W = some W' → W' < 10 := by
  intro W W' h e
  unfold fI1 at e
  split at e
  · split at e
    · have := Option.some.inj e; omega
    · have := Option.some.inj e; omega
  · have := Option.some.inj e; omega
theorem fD0_lt {r : Nat} : ∀ W W', W < 10 → fD0 r W = some W' → W' < 10 := by
  intro W W' h e
  unfold fD0 at e
  split at e
  · split at e
    · cases e
    · have := Option.some.inj e; omega
  · have := Option.some.inj e; omega
theorem fD1_lt {r : Nat} : ∀ W W', W < 10 → fD1 r W = some W' → W' < 10 := by
  intro W W' h e
  unfold fD1 at e
  split at e
  · have := Option.some.inj e; omega
  · have := Option.some.inj e; omega
theorem fD2_lt {r : Nat} : ∀ W W', W < 10 → fD2 r W = some W' → W' < 10 := by
  intro W W' h e
  unfold fD2 at e
  split at e
  · have := Option.some.inj e; omega
  · have := Option.some.inj e; omega
theorem mvx_ok {dx dy x : Int32} (h : xok x) : xok (mvx dx dy x) := by
  rcases h with rfl | ⟨C, W, A, B, h1, h2, h3, h4, rfl⟩
  · rw [mv_512]; exact Or.inl rfl
  · rcases mv_dec h1 h2 h3 h4 dx dy with ⟨_, C', W', c1, c2, _, _, e1, e2⟩ | ⟨_, e1, e2⟩
    · rw [e2]; exact Or.inr ⟨C', W', A, B, c1, c2, h3, h4, rfl⟩
    · rw [e2]; exact Or.inl rfl
/-- a RANGE's corners when a row comes in, goes out -/
def rgI (r : Nat) (a b : Int32) : Int32 × Int32 := if p_MO_lost a = 0 ∧ p_MO_lost b = 0 then (if rgrow a ≤ rgrow b then (shx (fI0 r) a, shx (fI1 r) b) else (shx (fI1 r) a, shx (fI0 r) b)) else (shx (fI0 r) a, shx (fI0 r) b)
def rgO (r : Nat) (a b : Int32) : Int32 × Int32 := if p_MO_lost a = 0 ∧ p_MO_lost b = 0 then (if rgrow a = rgrow b then (shx (fD0 r) a, shx (fD0 r) b) else if rgrow a ≤ rgrow b then (shx (fD1 r) a, shx (fD2 r) b) else (shx (fD2 r) a, shx (fD1 r) b)) else (shx (fD0 r) a, shx (fD0 r) b)
def itI (r : Nat) : It → It := itsh (shx (fI0 r)) (rgI r)
def itO (r : Nat) : It → It := itsh (shx (fD0 r)) (rgO r)
def itM (dx dy : Int32) : It → It := itsh (mvx dx dy) (fun a b => (mvx dx dy a, mvx dx dy b))
theorem fok_I {r : Nat} {L : List It} (h : fok L) : fok (L.map (itI r)) := by
  refine fok_sh (fun a ha => shx_ok fI0_lt ha) (fun a b ha hb => ?_) h
  unfold rgI
  split
  · split
    · exact ⟨shx_ok fI0_lt ha, shx_ok fI1_lt hb⟩
    · exact ⟨shx_ok fI1_lt ha, shx_ok fI0_lt hb⟩
  · exact ⟨shx_ok fI0_lt ha, shx_ok fI0_lt hb⟩
theorem fok_O {r : Nat} {L : List It} (h : fok L) : fok (L.map (itO r)) := by
  refine fok_sh (fun a ha => shx_ok fD0_lt ha) (fun a b ha hb => ?_) h
  unfold rgO
  split
  · split
    · exact ⟨shx_ok fD0_lt ha, shx_ok fD0_lt hb⟩
    · split
      · exact ⟨shx_ok fD1_lt ha, shx_ok fD2_lt hb⟩
      · exact ⟨shx_ok fD2_lt ha, shx_ok fD1_lt hb⟩
  · exact ⟨shx_ok fD0_lt ha, shx_ok fD0_lt hb⟩
theorem fok_M {dx dy : Int32} {L : List It} (h : fok L) : fok (L.map (itM dx dy)) := fok_sh (fun a ha => mvx_ok ha) (fun a b ha hb => ⟨mvx_ok ha, mvx_ok hb⟩) h
/-- how many are LOST -/
def ls1 (a : Int32) : Nat := if p_MO_lost a = 0 then 0 else 1
def lsc (x : It) : Nat := if x.1 = 1 then ls1 x.2.1 else if 2 ≤ x.1 ∧ x.1 ≤ 6 then ls1 x.2.1 + ls1 x.2.2.1 else 0
def lsL : List It → Nat
  | [] => 0
  | x :: L => lsc x + lsL L
theorem lsL_app : ∀ (L1 L2 : List It), lsL (L1 ++ L2) = lsL L1 + lsL L2 := by
  intro L1
  induction L1 with
  | nil => intro L2; show lsL L2 = 0 + lsL L2; omega
  | cons x L1 ih =>
    intro L2
    show lsc x + lsL (L1 ++ L2) = lsc x + lsL L1 + lsL L2
    rw [ih]
    omega
theorem lsc_tl {x : It} (h : tlok x) : lsc x = 0 := by
  unfold lsc
  rw [if_neg h.no.1, if_neg h.no.2]
theorem lsc_rg {j : Nat} (hj : j < 5) (a b : Int32) : lsc (nI (j + 2), a, b, 0) = ls1 a + ls1 b := by
  obtain ⟨h1, h2, h3, h4, h5⟩ := it_rg j hj
  unfold lsc
  try dsimp only
  rw [if_neg h2, if_pos ⟨h5, h4⟩]
theorem ls1_le (a : Int32) : ls1 a ≤ 1 := by unfold ls1; split <;> omega
theorem lsL_le : ∀ L : List It, lsL L ≤ 2 * L.length := by
  intro L
  induction L with
  | nil => exact Nat.le_refl _
  | cons x L ih =>
    have : lsc x ≤ 2 := by
      unfold lsc
      have h1 := ls1_le x.2.1
      have h2 := ls1_le x.2.2.1
      split
      · omega
      · split <;> omega
    show lsc x + lsL L ≤ 2 * (L.length + 1)
    omega
