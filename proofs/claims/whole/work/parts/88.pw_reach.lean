/-! Pure: which cells are reached; the two numberings of the cells. -/
/-- reached through the cells of a list -/
def wsh (R : Nat → Nat → Bool) : List Nat → Nat → Nat → Bool
  | [], i, j => R i j
  | t :: S, i, j => wsh R S i j || (wsh R S i t && wsh R S t j)
theorem wsh_sub {R : Nat → Nat → Bool} {Q : Nat → Nat → Prop} (h1 : ∀ i j, R i j = true → Q i j) (h2 : ∀ i t j, Q i t → Q t j → Q i j) : ∀ (S : List Nat) (i j : Nat), wsh R S i j = true → Q i j := by
  intro S
  induction S with
  | nil => exact h1
  | cons t S ih =>
    intro i j h
    rw [wsh, Bool.or_eq_true, Bool.and_eq_true] at h
    rcases h with h | ⟨ha, hb⟩
    · exact ih i j h
    · exact h2 i t j (ih _ _ ha) (ih _ _ hb)
theorem wsh_up {R : Nat → Nat → Bool} : ∀ (S : List Nat) (i j : Nat), R i j = true → wsh R S i j = true := by
  intro S
  induction S with
  | nil => intro i j h; exact h
  | cons t S ih =>
    intro i j h
    rw [wsh, ih i j h, Bool.true_or]
theorem wsh_via {R : Nat → Nat → Bool} : ∀ (S : List Nat) (t : Nat), t ∈ S → ∀ i j, wsh R S i t = true → wsh R S t j = true → wsh R S i j = true := by
  intro S
  induction S with
  | nil => intro t h; cases h
  | cons s S ih =>
    intro t ht i j h1 h2
    simp only [wsh, Bool.or_eq_true, Bool.and_eq_true] at h1 h2 ⊢
    rcases List.mem_cons.mp ht with rfl | ht
    · have a : wsh R S i t = true := by
        rcases h1 with h | h
        · exact h
        · exact h.1
      have b : wsh R S t j = true := by
        rcases h2 with h | h
        · exact h
        · exact h.2
      exact Or.inr ⟨a, b⟩
    · rcases h1 with h1 | ⟨h1, h1'⟩
      · rcases h2 with h2 | ⟨h2, h2'⟩
        · exact Or.inl (ih t ht i j h1 h2)
        · exact Or.inr ⟨ih t ht i s h1 h2, h2'⟩
      · rcases h2 with h2 | ⟨h2, h2'⟩
        · exact Or.inr ⟨h1, ih t ht s j h1' h2⟩
        · exact Or.inr ⟨h1, h2'⟩
/-- only cells of the sheet -/
def inS (R : Nat → Nat → Bool) : Prop := ∀ i j, R i j = true → i < 80 ∧ j < 80
theorem wsh_in {R : Nat → Nat → Bool} (h : inS R) (S : List Nat) : inS (wsh R S) := by
  induction S with
  | nil => exact h
  | cons t S ih =>
    intro i j z
    rw [wsh, Bool.or_eq_true, Bool.and_eq_true] at z
    rcases z with z | ⟨z1, z2⟩
    · exact ih i j z
    · exact ⟨(ih _ _ z1).1, (ih _ _ z2).2⟩
theorem wsh_trans {R : Nat → Nat → Bool} (h : inS R) {S : List Nat} (hS : ∀ t, t < 80 → t ∈ S) (i t j : Nat) (h1 : wsh R S i t = true) (h2 : wsh R S t j = true) : wsh R S i j = true := wsh_via S t (hS t (wsh_in h S i t h1).2) i j h1 h2
/-- the other number of a cell -/
def kap (z : Nat) : Nat := 8 * (z % 10) + z / 10
def mup (k : Nat) : Nat := 10 * (k % 8) + k / 8
theorem kap_lt {z : Nat} (h : z < 80) : kap z < 80 := by unfold kap; omega
theorem mup_lt {z : Nat} (h : z < 80) : mup z < 80 := by unfold mup; omega
theorem kap_mup {k : Nat} (h : k < 80) : kap (mup k) = k := by unfold kap mup; omega
theorem mup_kap {k : Nat} (h : k < 80) : mup (kap k) = k := by unfold kap mup; omega
/-- both orders, both numberings -/
theorem wsh_same {R R' : Nat → Nat → Bool} (h : inS R) (h' : inS R') (e : ∀ z i, z < 80 → i < 80 → R' z i = R (kap z) (kap i)) {S S' : List Nat} (hS : ∀ t, t < 80 → t ∈ S) (hS' : ∀ t, t < 80 → t ∈ S') {z i : Nat} (hz : z < 80) (hi : i < 80) : wsh R' S' z i = wsh R S (kap z) (kap i) := by
  have a : wsh R' S' z i = true → wsh R S (kap z) (kap i) = true := by
    refine wsh_sub (Q := fun z i => wsh R S (kap z) (kap i) = true) (fun z i hr => ?_) (fun i t j => wsh_trans h hS _ _ _) S' z i
    obtain ⟨z1, z2⟩ := h' z i hr
    refine wsh_up S _ _ ?_
    rw [← e z i z1 z2]
    exact hr
  have b : ∀ k j, wsh R S k j = true → wsh R' S' (mup k) (mup j) = true := by
    refine wsh_sub (Q := fun k j => wsh R' S' (mup k) (mup j) = true) (fun k j hr => ?_) (fun i t j => wsh_trans h' hS' _ _ _) S
    obtain ⟨z1, z2⟩ := h k j hr
    refine wsh_up S' _ _ ?_
    rw [e _ _ (mup_lt z1) (mup_lt z2), kap_mup z1, kap_mup z2]
    exact hr
  have b' := b (kap z) (kap i)
  rw [mup_kap hz, mup_kap hi] at b'
  cases h1 : wsh R' S' z i <;> cases h2 : wsh R S (kap z) (kap i)
  · rfl
  · rw [b' h2] at h1; cases h1
  · rw [a h1] at h2; cases h2
  · rfl
/-- counting in both numberings -/
theorem kap_perm : ((List.range 80).map kap).Perm (List.range 80) := by decide +kernel
theorem wsh_first {R : Nat → Nat → Bool} : ∀ (S : List Nat) (i j : Nat), wsh R S i j = true → ∃ j', R i j' = true := by
  intro S
  induction S with
  | nil => intro i j h; exact ⟨j, h⟩
  | cons t S ih =>
    intro i j h
    rw [wsh, Bool.or_eq_true, Bool.and_eq_true] at h
    rcases h with h | ⟨ha, hb⟩
    · exact ih i j h
    · exact ih i t ha
theorem cnt_kap (p : Nat → Bool) : (List.range 80).countP (fun z => p (kap z)) = cnt p := by
  have e := kap_perm.countP_eq p
  rw [List.countP_map] at e
  exact e
theorem countP_lt {p q : Nat → Bool} {x : Nat} : ∀ (l : List Nat), (∀ i ∈ l, p i = true → q i = true) → x ∈ l → q x = true → p x = false → l.countP p < l.countP q := by
  intro l
  induction l with
  | nil => intro _ h; cases h
  | cons y l ih =>
    intro h hx hq hp
    have hm : l.countP p ≤ l.countP q := List.countP_mono_left fun i hi => h i (List.mem_cons_of_mem _ hi)
    rw [List.countP_cons, List.countP_cons]
    rcases List.mem_cons.mp hx with e | hx
    · rw [← e, hq, hp]
      simp
      omega
    · have := ih (fun i hi => h i (List.mem_cons_of_mem _ hi)) hx hq hp
      have h2 := h y List.mem_cons_self
      cases hpy : p y with
      | false => simp; omega
      | true => rw [h2 hpy]; omega
theorem cnt_lt {p q : Nat → Bool} {x : Nat} (h : ∀ i, i < 80 → p i = true → q i = true) (hx : x < 80) (hq : q x = true) (hp : p x = false) : cnt p < cnt q := countP_lt _ (fun i hi => h i (List.mem_range.mp hi)) (List.mem_range.mpr hx) hq hp
theorem cnt_eq {p q : Nat → Bool} (h : ∀ i, i < 80 → p i = q i) : cnt p = cnt q := List.countP_congr fun i hi => by rw [h i (List.mem_range.mp hi)]
