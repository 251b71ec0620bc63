/-! Pure: a formula's rules over a line C (0: no character that stands in a formula). A result: what was read, or none; where. -/
abbrev ps_R (α : Type) : Type := Option α × Nat
def ps_dg (C : Nat → Nat) : Nat → Nat → Nat → Nat × Nat
  | 0, p, d => (d, p)
  | k + 1, p, d => if 48 ≤ C p ∧ C p ≤ 57 then ps_dg C k (p + 1) (d * 10 + (C p - 48)) else (d, p)
def ps_num (C : Nat → Nat) (p : Nat) : ps_R (List It) :=
  if C (ps_dg C 9 p 0).2 = 46 then
    (if (ps_dg C 4 ((ps_dg C 9 p 0).2 + 1) (ps_dg C 9 p 0).1).2 = (ps_dg C 9 p 0).2 + 1 then (none, (ps_dg C 9 p 0).2 + 1)
     else (some [(0, nI ((ps_dg C 4 ((ps_dg C 9 p 0).2 + 1) (ps_dg C 9 p 0).1).2 - ((ps_dg C 9 p 0).2 + 1)), 0, lN (ps_dg C 4 ((ps_dg C 9 p 0).2 + 1) (ps_dg C 9 p 0).1).1)], (ps_dg C 4 ((ps_dg C 9 p 0).2 + 1) (ps_dg C 9 p 0).1).2))
  else (some [(0, nI 0, 0, lN (ps_dg C 9 p 0).1)], (ps_dg C 9 p 0).2)
/-- $ or not: 1 or 0 -/
def ps_dl (C : Nat → Nat) (p : Nat) : Nat := if C p = 36 then 1 else 0
def ps_rf2 (C : Nat → Nat) (A col p : Nat) : ps_R Nat :=
  if 49 ≤ C (p + ps_dl C p) ∧ C (p + ps_dl C p) ≤ 57 then
    (if C (p + ps_dl C p) = 49 ∧ C (p + ps_dl C p + 1) = 48 then (some (col + 8 * 9 + 128 * A + 256 * ps_dl C p), p + ps_dl C p + 2)
     else (some (col + 8 * (C (p + ps_dl C p) - 49) + 128 * A + 256 * ps_dl C p), p + ps_dl C p + 1))
  else (none, p + ps_dl C p)
def ps_ref (C : Nat → Nat) (p : Nat) : ps_R Nat :=
  if 97 ≤ C (p + ps_dl C p) ∧ C (p + ps_dl C p) ≤ 104 then ps_rf2 C (ps_dl C p) (C (p + ps_dl C p) - 97) (p + ps_dl C p + 1)
  else (none, p + ps_dl C p)
def ps_ob (j : Nat) : List Nat := (fs_ob j).map fun x => x.toNatClampNeg
def ps_same (C : Nat → Nat) : List Nat → Nat → Nat
  | [], _ => 0
  | c :: l, p => if C p = c then ps_same C l (p + 1) + 1 else 0
/-- the greatest of the first k -/
def ps_most (g : Nat → Nat) : Nat → Nat
  | 0 => 0
  | k + 1 => max (ps_most g k) (g k)
/-- the last of the first k with P -/
def ps_last (P : Nat → Bool) : Nat → Option Nat
  | 0 => none
  | k + 1 => if P k then some k else ps_last P k
def ps_nm (C : Nat → Nat) (p : Nat) : ps_R Nat := (ps_last (fun j => ps_same C (ps_ob j) p == (ps_ob j).length) 8, p + ps_most (fun j => ps_same C (ps_ob j) p) 8)
def ps_then {α β : Type} (r : ps_R α) (k : α → Nat → ps_R β) : ps_R β := match r with
  | (none, q) => (none, q)
  | (some v, q) => k v q
def ps_ch (C : Nat → Nat) (c q : Nat) {β : Type} (k : Nat → ps_R β) : ps_R β := if C q = c then k (q + 1) else (none, q)
def ps_close (C : Nat → Nat) (r : ps_R (List It)) : ps_R (List It) := ps_then r fun L q => ps_ch C 41 q fun q1 => (some L, q1)
def ps_range (C : Nat → Nat) (j q : Nat) : ps_R (List It) := ps_then (ps_ref C q) fun x q1 => ps_ch C 58 q1 fun q2 => ps_then (ps_ref C q2) fun y q3 => (some [(nI (j + 2), nI x, nI y, 0)], q3)
def ps_args (self : Nat → ps_R (List It)) (C : Nat → Nat) (j q : Nat) : ps_R (List It) :=
  if j = 7 then ps_then (self q) fun L1 q1 => ps_ch C 44 q1 fun q2 => ps_then (self q2) fun L2 q3 => ps_ch C 44 q3 fun q4 => ps_then (self q4) fun L3 q5 => (some (L1 ++ L2 ++ L3 ++ [(9, 0, 0, 0)]), q5)
  else ps_then (self q) fun L1 q1 => (some (L1 ++ [(nI (j + 2), 0, 0, 0)]), q1)
def ps_call (self : Nat → ps_R (List It)) (C : Nat → Nat) (p : Nat) : ps_R (List It) := ps_then (ps_nm C p) fun j q => ps_close C (if j < 5 then ps_range C j q else ps_args self C j q)
def ps_part (self : Nat → Nat → ps_R (List It)) (C : Nat → Nat) (o p : Nat) : ps_R (List It) :=
  if 48 ≤ C p ∧ C p ≤ 57 then ps_num C p
  else if C p = 36 ∨ (97 ≤ C p ∧ C p ≤ 104) then ps_then (ps_ref C p) fun x q => (some [(1, nI x, 0, 0)], q)
  else if 6 ≤ o then (none, p)
  else if C p = 40 then ps_close C (self (o + 1) (p + 1))
  else if C p = 64 then ps_call (self (o + 1)) C (p + 1)
  else (none, p)
def ps_signed (self : Nat → Nat → ps_R (List It)) (C : Nat → Nat) (o p : Nat) : ps_R (List It) := if C p = 45 then ps_then (ps_part self C o (p + 1)) fun L q => (some (L ++ [(10, 0, 0, 0)]), q) else ps_part self C o p
def ps_loop (X : Nat → ps_R (List It)) (C : Nat → Nat) (s1 s2 : Nat) : Nat → ps_R (List It) → ps_R (List It)
  | 0, r => r
  | k + 1, r => ps_then r fun L q => if C q = s1 ∨ C q = s2 then ps_loop X C s1 s2 k (ps_then (X (q + 1)) fun L2 q2 => (some (L ++ L2 ++ [(nI (C q), 0, 0, 0)]), q2)) else (some L, q)
def ps_product (self : Nat → Nat → ps_R (List It)) (C : Nat → Nat) (o p : Nat) : ps_R (List It) := ps_loop (ps_signed self C o) C 42 47 40 (ps_signed self C o p)
def ps_terms (self : Nat → Nat → ps_R (List It)) (C : Nat → Nat) (o p : Nat) : ps_R (List It) := ps_loop (ps_product self C o) C 43 45 40 (ps_product self C o p)
def ps_cmp (self : Nat → Nat → ps_R (List It)) (C : Nat → Nat) (o p : Nat) : ps_R (List It) :=
  if C p = 33 then ps_then (ps_terms self C o (p + 1)) fun L q => (some (L ++ [(33, 0, 0, 0)]), q)
  else ps_then (ps_terms self C o p) fun L q => if (C q = 61 ∨ C q = 35) ∨ (C q = 60 ∨ C q = 62) then ps_then (ps_terms self C o (q + 1)) fun L2 q2 => (some (L ++ L2 ++ [(nI (C q), 0, 0, 0)]), q2) else (some L, q)
def ps_lg (self : Nat → Nat → ps_R (List It)) (C : Nat → Nat) (o p : Nat) : ps_R (List It) := ps_loop (ps_cmp self C o) C 38 124 40 (ps_cmp self C o p)
def ps_logic (C : Nat → Nat) : Nat → Nat → Nat → ps_R (List It)
  | 0, _, p => (none, p)
  | m + 1, o, p => ps_lg (ps_logic C m) C o p
/-! Where a reading ends. -/
/-- the end is not before p, and behind it where something was read -/
def ps_ge {α : Type} (p : Nat) (r : ps_R α) : Prop := p ≤ r.2 ∧ (r.1 ≠ none → p < r.2)
theorem ps_dg_ge (C : Nat → Nat) : ∀ (k p d : Nat), p ≤ (ps_dg C k p d).2 := by
  intro k
  induction k with
  | zero => intro p d; exact Nat.le_refl _
  | succ k ih =>
    intro p d
    rw [ps_dg]
    split
    · exact Nat.le_trans (Nat.le_succ p) (ih (p + 1) _)
    · exact Nat.le_refl _
theorem ps_then_ge {α β : Type} {p : Nat} {r : ps_R α} {k : α → Nat → ps_R β} (h : p ≤ r.2) (hk : ∀ v q, r = (some v, q) → p ≤ q → ps_ge p (k v q)) : ps_ge p (ps_then r k) := by
  obtain ⟨o, q⟩ := r
  cases o with
  | none => exact ⟨h, fun z => absurd rfl z⟩
  | some v => exact hk v q rfl h
theorem ps_ch_ge {β : Type} {C : Nat → Nat} {c p q : Nat} {k : Nat → ps_R β} (h : p ≤ q) (hk : ps_ge p (k (q + 1))) : ps_ge p (ps_ch C c q k) := by
  unfold ps_ch
  split
  · exact hk
  · exact ⟨h, fun z => absurd rfl z⟩
theorem ps_num_ge {C : Nat → Nat} {p : Nat} (hd : 48 ≤ C p ∧ C p ≤ 57) : ps_ge p (ps_num C p) := by
  have h1 : p + 1 ≤ (ps_dg C 9 p 0).2 := by
    rw [ps_dg, if_pos hd]
    exact ps_dg_ge C 8 (p + 1) _
  have h2 := ps_dg_ge C 4 ((ps_dg C 9 p 0).2 + 1) (ps_dg C 9 p 0).1
  unfold ps_num
  split
  · split
    · exact ⟨by show p ≤ _; omega, fun z => absurd rfl z⟩
    · exact ⟨by show p ≤ _; omega, fun _ => by show p < _; omega⟩
  · exact ⟨by show p ≤ _; omega, fun _ => by show p < _; omega⟩
theorem ps_ref_ge {C : Nat → Nat} {p : Nat} : ps_ge p (ps_ref C p) := by
  unfold ps_ref
  split
  · unfold ps_rf2
    split
    · split
      · exact ⟨by show p ≤ _; omega, fun _ => by show p < _; omega⟩
      · exact ⟨by show p ≤ _; omega, fun _ => by show p < _; omega⟩
    · exact ⟨by show p ≤ _; omega, fun z => absurd rfl z⟩
  · exact ⟨by show p ≤ _; omega, fun z => absurd rfl z⟩
theorem ps_nm_ge {C : Nat → Nat} {p : Nat} : p ≤ (ps_nm C p).2 := by
  show p ≤ p + _
  omega
theorem ps_close_ge {C : Nat → Nat} {p : Nat} {r : ps_R (List It)} (h : p ≤ r.2) : ps_ge p (ps_close C r) := ps_then_ge h fun v q _ hq => ps_ch_ge hq ⟨by show p ≤ _; omega, fun _ => by show p < _; omega⟩
theorem ps_ge.le {α : Type} {p q : Nat} {r : ps_R α} (h : ps_ge q r) (hp : p ≤ q) : ps_ge p r := ⟨Nat.le_trans hp h.1, fun z => Nat.lt_of_le_of_lt hp (h.2 z)⟩
theorem ps_range_ge {C : Nat → Nat} {j p : Nat} : ps_ge p (ps_range C j p) := by
  refine ps_then_ge ps_ref_ge.1 fun x q1 _ h1 => ps_ch_ge h1 (ps_then_ge (Nat.le_trans (Nat.le_succ_of_le h1) ps_ref_ge.1) fun y q3 e3 h3 => ⟨h3, fun _ => ?_⟩)
  have h4 := (ps_ref_ge (C := C) (p := q1 + 1)).1
  rw [e3] at h4
  have h5 : q1 + 1 ≤ q3 := h4
  show p < q3
  omega
theorem ps_args_ge {self : Nat → ps_R (List It)} {C : Nat → Nat} {j p : Nat} (hs : ∀ q, ps_ge q (self q)) : ps_ge p (ps_args self C j p) := by
  unfold ps_args
  split
  · refine ps_then_ge (hs p).1 fun L1 q1 e1 h1 => ps_ch_ge h1 (ps_then_ge (Nat.le_trans (Nat.le_succ_of_le h1) (hs _).1) fun L2 q3 e3 h3 => ps_ch_ge h3 (ps_then_ge (Nat.le_trans (Nat.le_succ_of_le h3) (hs _).1) fun L3 q5 e5 h5 => ⟨h5, fun _ => ?_⟩))
    have h4 := (hs (q3 + 1)).1
    rw [e5] at h4
    have h6 : q3 + 1 ≤ q5 := h4
    show p < q5
    omega
  · refine ps_then_ge (hs p).1 fun L1 q1 e1 h1 => ⟨h1, fun _ => ?_⟩
    have h4 := (hs p).2
    rw [e1] at h4
    exact h4 (fun z => by cases z)
theorem ps_call_ge {self : Nat → ps_R (List It)} {C : Nat → Nat} {p : Nat} (hs : ∀ q, ps_ge q (self q)) : ps_ge p (ps_call self C p) := by
  refine ps_then_ge ps_nm_ge fun j q _ hq => ?_
  split
  · exact (ps_close_ge ps_range_ge.1).le hq
  · exact (ps_close_ge (ps_args_ge hs).1).le hq
theorem ps_part_ge {self : Nat → Nat → ps_R (List It)} {C : Nat → Nat} {o p : Nat} (hs : ∀ o q, ps_ge q (self o q)) : ps_ge p (ps_part self C o p) := by
  unfold ps_part
  split
  · next h => exact ps_num_ge h
  · split
    · refine ps_then_ge ps_ref_ge.1 fun x q e hq => ⟨hq, fun _ => ?_⟩
      have h4 := (ps_ref_ge (C := C) (p := p)).2
      rw [e] at h4
      exact h4 (fun z => by cases z)
    · split
      · exact ⟨Nat.le_refl _, fun z => absurd rfl z⟩
      · split
        · exact (ps_close_ge (hs _ _).1).le (Nat.le_succ p)
        · split
          · exact (ps_call_ge (hs _)).le (Nat.le_succ p)
          · exact ⟨Nat.le_refl _, fun z => absurd rfl z⟩
theorem ps_signed_ge {self : Nat → Nat → ps_R (List It)} {C : Nat → Nat} {o p : Nat} (hs : ∀ o q, ps_ge q (self o q)) : ps_ge p (ps_signed self C o p) := by
  unfold ps_signed
  split
  · have h1 := ps_part_ge (C := C) (o := o) (p := p + 1) hs
    refine ps_then_ge (Nat.le_trans (Nat.le_succ p) h1.1) fun L q e hq => ⟨hq, fun _ => ?_⟩
    rw [e] at h1
    have h2 : p + 1 ≤ q := h1.1
    show p < q
    omega
  · exact ps_part_ge hs
theorem ps_loop_ge {X : Nat → ps_R (List It)} {C : Nat → Nat} {s1 s2 : Nat} (hX : ∀ q, ps_ge q (X q)) : ∀ (k p : Nat) (r : ps_R (List It)), ps_ge p r → ps_ge p (ps_loop X C s1 s2 k r) := by
  intro k
  induction k with
  | zero => intro p r h; exact h
  | succ k ih =>
    intro p r h
    rw [ps_loop]
    refine ps_then_ge h.1 fun L q e hq => ?_
    split
    · refine ih p _ (ps_then_ge (Nat.le_trans (Nat.le_succ_of_le hq) (hX _).1) fun L2 q2 e2 h2 => ⟨h2, fun _ => ?_⟩)
      have h4 := (hX (q + 1)).1
      rw [e2] at h4
      have h5 : q + 1 ≤ q2 := h4
      show p < q2
      omega
    · rw [e] at h
      exact h
theorem ps_product_ge {self : Nat → Nat → ps_R (List It)} {C : Nat → Nat} {o p : Nat} (hs : ∀ o q, ps_ge q (self o q)) : ps_ge p (ps_product self C o p) := ps_loop_ge (fun _ => ps_signed_ge hs) 40 p _ (ps_signed_ge hs)
theorem ps_terms_ge {self : Nat → Nat → ps_R (List It)} {C : Nat → Nat} {o p : Nat} (hs : ∀ o q, ps_ge q (self o q)) : ps_ge p (ps_terms self C o p) := ps_loop_ge (fun _ => ps_product_ge hs) 40 p _ (ps_product_ge hs)
theorem ps_cmp_ge {self : Nat → Nat → ps_R (List It)} {C : Nat → Nat} {o p : Nat} (hs : ∀ o q, ps_ge q (self o q)) : ps_ge p (ps_cmp self C o p) := by
  unfold ps_cmp
  split
  · have h1 := ps_terms_ge (C := C) (o := o) (p := p + 1) hs
    refine ps_then_ge (Nat.le_trans (Nat.le_succ p) h1.1) fun L q e hq => ⟨hq, fun _ => ?_⟩
    rw [e] at h1
    have h2 : p + 1 ≤ q := h1.1
    show p < q
    omega
  · have h1 := ps_terms_ge (C := C) (o := o) (p := p) hs
    refine ps_then_ge h1.1 fun L q e hq => ?_
    split
    · have h3 := ps_terms_ge (C := C) (o := o) (p := q + 1) hs
      refine ps_then_ge (Nat.le_trans (Nat.le_succ_of_le hq) h3.1) fun L2 q2 e2 h2 => ⟨h2, fun _ => ?_⟩
      rw [e2] at h3
      have h5 : q + 1 ≤ q2 := h3.1
      show p < q2
      omega
    · rw [e] at h1
      exact h1
theorem ps_logic_ge {C : Nat → Nat} : ∀ (m o p : Nat), ps_ge p (ps_logic C m o p) := by
  intro m
  induction m with
  | zero => intro o p; exact ⟨Nat.le_refl _, fun z => absurd rfl z⟩
  | succ m ih => intro o p; exact ps_loop_ge (fun _ => ps_cmp_ge ih) 40 p _ (ps_cmp_ge ih)
