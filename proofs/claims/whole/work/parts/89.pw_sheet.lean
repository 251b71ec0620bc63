/-! Pure: a sheet: numbers and formulas by the class's number of a cell; what is reached, and what the cells are worth. -/
abbrev Cl : Type := Option (UInt64 ⊕ List It)
abbrev Shh : Type := Nat → Cl
def fmo (x : Cl) : Option (List It) := match x with | some (.inr L) => some L | _ => none
def orck (o : Option (List It)) (j : Nat) : Bool := match o with | some L => rck L j | none => false
def refA (A : Shh) (k j : Nat) : Bool := decide (k < 80 ∧ j < 80) && orck (fmo (A k)) j
theorem refA_in (A : Shh) : inS (refA A) := by
  intro i j h
  unfold refA at h
  rw [Bool.and_eq_true, decide_eq_true_eq] at h
  exact h.1
theorem refA_f {A : Shh} {k j : Nat} (h : refA A k j = true) : ∃ L, A k = some (.inr L) ∧ rck L j = true := by
  unfold refA at h
  rw [Bool.and_eq_true] at h
  have h2 := h.2
  unfold orck at h2
  split at h2
  · next L e =>
    unfold fmo at e
    split at e
    · next L' e' => cases e; exact ⟨L, e', h2⟩
    · cases e
  · cases h2
theorem refA_L {A : Shh} {k j : Nat} {L : List It} (hA : A k = some (.inr L)) (hk : k < 80) (hj : j < 80) : refA A k j = rck L j := by
  unfold refA
  rw [hA, show decide (k < 80 ∧ j < 80) = true by rw [decide_eq_true_eq]; exact ⟨hk, hj⟩]
  rfl
theorem refA_no {A : Shh} {k j : Nat} (h : ∀ L, A k ≠ some (.inr L)) : refA A k j = false := by
  cases e : refA A k j with
  | false => rfl
  | true =>
    obtain ⟨L, h1, _⟩ := refA_f e
    exact absurd h1 (h L)
def thr (t : Nat) : List Nat := (List.range t).reverse
theorem thr_0 : thr 0 = [] := rfl
theorem thr_s (t : Nat) : thr (t + 1) = t :: thr t := by
  unfold thr
  rw [List.range_succ, List.reverse_append]
  rfl
theorem thr_mem (t : Nat) (h : t < 80) : t ∈ thr 80 := by
  unfold thr
  rw [List.mem_reverse]
  exact List.mem_range.mpr h
/-- reached -/
def rea (A : Shh) (k j : Nat) : Bool := wsh (refA A) (thr 80) k j
theorem rea_in (A : Shh) : inS (rea A) := wsh_in (refA_in A) _
theorem rea_trans {A : Shh} {i t j : Nat} (h1 : rea A i t = true) (h2 : rea A t j = true) : rea A i j = true := wsh_trans (refA_in A) thr_mem i t j h1 h2
theorem rea_up {A : Shh} {i j : Nat} (h : refA A i j = true) : rea A i j = true := wsh_up _ i j h
theorem rea_f {A : Shh} {k j : Nat} (h : rea A k j = true) : ∃ L, A k = some (.inr L) := by
  obtain ⟨j', h'⟩ := wsh_first _ _ _ h
  obtain ⟨L, h1, _⟩ := refA_f h'
  exact ⟨L, h1⟩
/-- one that is reached and not circular reaches fewer -/
theorem rea_cnt {A : Shh} {k j : Nat} (h : rea A k j = true) (hj : rea A j j = false) : cnt (rea A j) < cnt (rea A k) := cnt_lt (x := j) (fun i _ hi => rea_trans h hi) (rea_in A k j h).2 h hj
def hd1 (l : List Vl) : Vl := l.headD none
def cvV (A : Shh) (V : Nat → Vl) (c r : Nat) : Option Vl := if c < 8 ∧ r < 10 then (A (r * 8 + c)).map (fun _ => V (r * 8 + c)) else none
def vcl (x : Cl) (b : Bool) (f : List It → Vl) : Vl := match x with | none => none | some (.inl d) => some d | some (.inr L) => if b then none else f L
def valF (A : Shh) : Nat → Nat → Vl
  | 0, _ => none
  | n + 1, k => vcl (A k) (rea A k k) (fun L => hd1 (evs (cvV A (valF A n)) L []))
def val (A : Shh) (k : Nat) : Vl := valF A 81 k
/-- formulas ask only for what they refer to -/
theorem rowsV_congr {cv cv' : Nat → Nat → Option Vl} {c : Nat} : ∀ k r, (∀ q, r ≤ q → q < r + k → cv c q = cv' c q) → rowsV cv c k r = rowsV cv' c k r := by
  intro k
  induction k with
  | zero => intro r _; rfl
  | succ k ih =>
    intro r h
    rw [rowsV, rowsV, h r (by omega) (by omega), ih (r + 1) fun q h1 h2 => h q (by omega) (by omega)]
theorem colsV_congr {cv cv' : Nat → Nat → Option Vl} {rk r0 : Nat} : ∀ k c, (∀ p q, c ≤ p → p < c + k → r0 ≤ q → q < r0 + rk → cv p q = cv' p q) → colsV cv rk r0 k c = colsV cv' rk r0 k c := by
  intro k
  induction k with
  | zero => intro c _; rfl
  | succ k ih =>
    intro c h
    rw [colsV, colsV, rowsV_congr rk r0 fun q h1 h2 => h c q (by omega) (by omega) h1 h2, ih (c + 1) fun p q h1 h2 h3 h4 => h p q (by omega) (by omega) h3 h4]
theorem ev1_congr {cv cv' : Nat → Nat → Option Vl} {x : It} (hx : itok x) (h : ∀ c r, rcov x c r = true → cv c r = cv' c r) (st : List Vl) : ev1 cv x st = ev1 cv' x st := by
  rcases hx with ⟨b, d, h1, h2, rfl⟩ | ⟨a, h1, rfl⟩ | ⟨j, a, b, h0, h1, h2, rfl⟩ | ⟨w, hw, rfl⟩ | rfl | ⟨w, hw, rfl⟩
  · rw [ev1_nu, ev1_nu]
  · rw [ev1_rf, ev1_rf]
    unfold rfv
    by_cases hl : p_MO_lost a = 0
    · rw [if_pos hl, if_pos hl, h (rgcol a) (rgrow a)]
      unfold rcov
      rw [if_pos rfl, decide_eq_true_eq]
      exact ⟨hl, rfl, rfl⟩
    · rw [if_neg hl, if_neg hl]
  · obtain ⟨g1, g2, g3, g4, g5⟩ := it_rg j h0
    rw [ev1_rg _ h0, ev1_rg _ h0]
    unfold rgv
    by_cases hl : p_MO_lost a = 0
    · rw [if_pos hl, if_pos hl]
      by_cases hl' : p_MO_lost b = 0
      · rw [if_pos hl', if_pos hl']
        have e : rgV cv a b = rgV cv' a b := by
          unfold rgV
          refine colsV_congr _ _ fun p q h1 h2 h3 h4 => h p q ?_
          unfold rcov
          rw [if_neg g2, decide_eq_true_eq]
          try dsimp only
          exact ⟨g5, g4, hl, hl', by omega, by omega, by omega, by omega⟩
        rw [e]
      · rw [if_neg hl', if_neg hl']
    · rw [if_neg hl, if_neg hl]
  · obtain ⟨g1, g2, g3, g4, g5⟩ := it_1 hw
    unfold ev1
    try dsimp only
    rw [if_neg g1, if_neg g1, if_neg g2, if_neg g2, if_neg g5, if_neg g5]
  · rfl
  · obtain ⟨g1, g2, g3, g4, g5, g6⟩ := it_2 hw
    unfold ev1
    try dsimp only
    rw [if_neg g1, if_neg g1, if_neg g2, if_neg g2, if_neg g5, if_neg g5]
theorem evs_congr {cv cv' : Nat → Nat → Option Vl} : ∀ (L : List It) (st : List Vl), (∀ x ∈ L, itok x) → (∀ c r, rcs L c r = true → cv c r = cv' c r) → evs cv L st = evs cv' L st := by
  intro L
  induction L with
  | nil => intro st _ _; rfl
  | cons x L ih =>
    intro st hx h
    show evs cv L (ev1 cv x st) = evs cv' L (ev1 cv' x st)
    rw [ev1_congr (hx x List.mem_cons_self) (cv := cv) (cv' := cv') (fun c r hc => h c r (by unfold rcs; rw [List.any_cons, hc, Bool.true_or])) st]
    exact ih _ (fun y hy => hx y (List.mem_cons_of_mem _ hy)) fun c r hc => h c r (by unfold rcs at hc ⊢; rw [List.any_cons, hc, Bool.or_true])
theorem vcl_in (d : UInt64) (b : Bool) (f : List It → Vl) : vcl (some (.inl d)) b f = some d := rfl
theorem vcl_f (L : List It) (b : Bool) (f : List It → Vl) : vcl (some (.inr L)) b f = if b = true then none else f L := rfl
theorem valF_circ {A : Shh} {k : Nat} (h : rea A k k = true) (n : Nat) : valF A n k = none := by
  cases n with
  | zero => rfl
  | succ n =>
    obtain ⟨L, e⟩ := rea_f h
    rw [valF, e, vcl_f, if_pos h]
/-- numerals as they are typed; how many characters an item took at least -/
def numq (x : It) : Prop := x.1 = 0 → ∃ b d : Nat, b ≤ 4 ∧ d < 1000000000 * 10 ^ b ∧ x = (0, nI b, 0, lN d)
def wt1 (x : It) : Nat := if x.1 = 0 then 1 else if x.1 = 1 then 2 else if x.1 ≤ 6 then 11 else if x.1 = 7 ∨ x.1 = 8 then 6 else if x.1 = 9 then 7 else 1
def wtL : List It → Nat
  | [] => 0
  | x :: L => wt1 x + wtL L
def txk (L : List It) : Prop := (∀ x ∈ L, numq x) ∧ wtL L ≤ 40
/-- the sheet's formulas are formulas, its numbers are in bounds -/
def shok (A : Shh) : Prop := ∀ k, k < 80 → (∀ d, A k = some (.inl d) → nb d) ∧ ∀ L, A k = some (.inr L) → fok L ∧ L.length ≤ 40 ∧ txk L
theorem cv_step {A : Shh} {V V' : Nat → Vl} {k : Nat} {L : List It} (hk : k < 80) (hA : A k = some (.inr L)) (hL : fok L) (h : ∀ j, rea A k j = true → A j ≠ none → V j = V' j) : evs (cvV A V) L [] = evs (cvV A V') L [] := by
  refine evs_congr L [] hL.1 fun c r hc => ?_
  unfold cvV
  by_cases hcr : c < 8 ∧ r < 10
  · rw [if_pos hcr, if_pos hcr]
    cases hj : A (r * 8 + c) with
    | none => rfl
    | some y =>
      show some (V (r * 8 + c)) = some (V' (r * 8 + c))
      rw [h (r * 8 + c) (rea_up ?_) (by rw [hj]; exact fun z => by cases z)]
      rw [refA_L hA hk (by omega)]
      unfold rck
      rw [show (r * 8 + c) % 8 = c by omega, show (r * 8 + c) / 8 = r by omega]
      exact hc
  · rw [if_neg hcr, if_neg hcr]
theorem valF_same {A : Shh} (hs : shok A) : ∀ (n m k : Nat), k < 80 → cnt (rea A k) < n → cnt (rea A k) < m → valF A n k = valF A m k := by
  intro n
  induction n with
  | zero => intro m k _ h; exact absurd h (by omega)
  | succ n ih =>
    intro m k hk h1 h2
    obtain ⟨m, rfl⟩ : ∃ q, m = q + 1 := ⟨m - 1, by omega⟩
    rw [valF, valF]
    match hA : A k with
    | none => rfl
    | some (.inl d) => rfl
    | some (.inr L) =>
      rw [vcl_f, vcl_f]
      by_cases hc : rea A k k = true
      · rw [if_pos hc, if_pos hc]
      · rw [if_neg hc, if_neg hc, cv_step hk hA ((hs k hk).2 L hA).1 fun j hj _ => ?_]
        by_cases hjj : rea A j j = true
        · rw [valF_circ hjj, valF_circ hjj]
        · have := rea_cnt hj (by simpa using hjj)
          exact ih m j (rea_in A k j hj).2 (by omega) (by omega)
theorem val_eq {A : Shh} (hs : shok A) {k : Nat} {L : List It} (hk : k < 80) (hA : A k = some (.inr L)) (hc : rea A k k = false) : val A k = hd1 (evs (cvV A (val A)) L []) := by
  unfold val
  rw [valF, hA, vcl_f, if_neg (by rw [hc]; decide), cv_step hk hA ((hs k hk).2 L hA).1 fun j hj _ => ?_]
  by_cases hjj : rea A j j = true
  · rw [valF_circ hjj, valF_circ hjj]
  · have h1 := rea_cnt hj (by simpa using hjj)
    have h2 := cnt_le (rea A k)
    exact valF_same hs 80 81 j (rea_in A k j hj).2 (by omega) (by omega)
theorem val_circ {A : Shh} {k : Nat} (h : rea A k k = true) : val A k = none := valF_circ h 81
theorem val_num {A : Shh} {k : Nat} {d : UInt64} (h : A k = some (.inl d)) : val A k = some d := by
  unfold val
  rw [valF, h, vcl_in]
