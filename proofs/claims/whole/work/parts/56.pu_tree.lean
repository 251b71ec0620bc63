/-! Pure: a formula as its items, the sign or name behind what it takes; the class's parts that stand for it. -/
abbrev It : Type := Int32 × Int32 × Int32 × Int64
/-- the array of parts inside, at i -/
def tr_in (E : fs_E) (h : fs_Hp) (i n : Nat) (g : Nat → Option Nat) : Prop := h i = some (.inl (E.1.2 6, n, .inr (.inr (.inr (.inr g)))))
/-- a reference's number; 512 for one that is LOST -/
def tr_code (cf rf c w lo x : Int32) : Prop := (∃ A B : Nat, A < 2 ∧ B < 2 ∧ cf = nI A ∧ rf = nI B) ∧ ((lo = 1 ∧ x = 512) ∨ (lo = 0 ∧ ∃ C W A B : Nat, C < 8 ∧ W < 10 ∧ A < 2 ∧ B < 2 ∧ cf = nI A ∧ rf = nI B ∧ c = nI C ∧ w = nI W ∧ x = nI (C + 8 * W + 128 * A + 256 * B)))
def tr_rf (E : fs_E) (h : fs_Hp) (r : Nat) (x : Int32) (F : List Nat) : Prop := ∃ (cf rf c w lo : Int32) (i : Nat) (g : Nat → Option Nat), h r = some (.inr (5, [.int cf, .int rf, .int c, .int w, .int lo, .ref i])) ∧ tr_in E h i 0 g ∧ tr_code cf rf c w lo x ∧ F = [r, i]
def tr_sg (s : Int32) : Prop := s = 38 ∨ s = 124 ∨ s = 61 ∨ s = 35 ∨ s = 60 ∨ s = 62 ∨ s = 43 ∨ s = 45 ∨ s = 42 ∨ s = 47
/-- the part at r stands for the items L; F: where it lies. n: how deep at most -/
def rp : Nat → fs_E → fs_Hp → Nat → List It → List Nat → Prop
  | 0 => fun _ _ _ _ _ => False
  | n + 1 => fun E h r L F =>
    (∃ (b d i : Nat) (g : Nat → Option Nat), b ≤ 4 ∧ d < 10000000000000 ∧ h r = some (.inr (4, [.long (lN d), .int (nI b), .ref i])) ∧ tr_in E h i 0 g ∧ L = [(0, nI b, 0, lN d)] ∧ F = [r, i]) ∨
    (∃ x : Int32, tr_rf E h r x F ∧ L = [(1, x, 0, 0)]) ∨
    (∃ (s w : Int32) (i q : Nat) (g : Nat → Option Nat) (L1 : List It) (F1 : List Nat), h r = some (.inr (6, [.int s, .ref i])) ∧ tr_in E h i 1 g ∧ g 0 = some q ∧ rp n E h q L1 F1 ∧ ((s = 45 ∧ w = 10) ∨ (s = 33 ∧ w = 33)) ∧ L = L1 ++ [(w, 0, 0, 0)] ∧ F = r :: i :: F1) ∨
    (∃ (s : Int32) (i q1 q2 : Nat) (g : Nat → Option Nat) (L1 L2 : List It) (F1 F2 : List Nat), h r = some (.inr (7, [.int s, .ref i])) ∧ tr_in E h i 2 g ∧ g 0 = some q1 ∧ g 1 = some q2 ∧ rp n E h q1 L1 F1 ∧ rp n E h q2 L2 F2 ∧ tr_sg s ∧ L = L1 ++ L2 ++ [(s, 0, 0, 0)] ∧ F = r :: i :: (F1 ++ F2)) ∨
    (∃ (j i q1 : Nat) (g : Nat → Option Nat) (L1 : List It) (F1 : List Nat), (j = 5 ∨ j = 6) ∧ h r = some (.inr (8, [.ref (E.2 j), .ref i])) ∧ tr_in E h i 1 g ∧ g 0 = some q1 ∧ rp n E h q1 L1 F1 ∧ L = L1 ++ [(nI (j + 2), 0, 0, 0)] ∧ F = r :: i :: F1) ∨
    (∃ (i q1 q2 q3 : Nat) (g : Nat → Option Nat) (L1 L2 L3 : List It) (F1 F2 F3 : List Nat), h r = some (.inr (8, [.ref (E.2 7), .ref i])) ∧ tr_in E h i 3 g ∧ g 0 = some q1 ∧ g 1 = some q2 ∧ g 2 = some q3 ∧ rp n E h q1 L1 F1 ∧ rp n E h q2 L2 F2 ∧ rp n E h q3 L3 F3 ∧ L = L1 ++ L2 ++ L3 ++ [(9, 0, 0, 0)] ∧ F = r :: i :: (F1 ++ F2 ++ F3)) ∨
    (∃ (j a b i : Nat) (g : Nat → Option Nat) (x y : Int32) (Fa Fb : List Nat), j < 5 ∧ h r = some (.inr (9, [.ref (E.2 j), .ref a, .ref b, .ref i])) ∧ tr_in E h i 2 g ∧ g 0 = some a ∧ g 1 = some b ∧ tr_rf E h a x Fa ∧ tr_rf E h b y Fb ∧ L = [(nI (j + 2), x, y, 0)] ∧ F = r :: i :: (Fa ++ Fb))
theorem tr_in.kept {E : fs_E} {h h' : fs_Hp} {i n : Nat} {g : Nat → Option Nat} (a : tr_in E h i n g) (e : h' i = h i) : tr_in E h' i n g := e.trans a
theorem tr_rf.kept {E : fs_E} {h h' : fs_Hp} {r : Nat} {x : Int32} {F : List Nat} (a : tr_rf E h r x F) (e : ∀ q ∈ F, h' q = h q) : tr_rf E h' r x F := by
  obtain ⟨cf, rf, c, w, lo, i, g, h1, h2, h3, rfl⟩ := a
  exact ⟨cf, rf, c, w, lo, i, g, (e r (by simp)).trans h1, h2.kept (e i (by simp)), h3, rfl⟩
theorem rp.kept : ∀ (n : Nat) {E : fs_E} {h h' : fs_Hp} {r : Nat} {L : List It} {F : List Nat}, rp n E h r L F → (∀ q ∈ F, h' q = h q) → rp n E h' r L F := by
  intro n
  induction n with
  | zero => intro E h h' r L F a; exact a.elim
  | succ n ih =>
    intro E h h' r L F a e
    rcases a with a | a | a | a | a | a | a
    · obtain ⟨b, d, i, g, h0, h0', h1, h2, h3, rfl⟩ := a
      exact Or.inl ⟨b, d, i, g, h0, h0', (e r (by simp)).trans h1, h2.kept (e i (by simp)), h3, rfl⟩
    · obtain ⟨x, h1, h2⟩ := a
      exact Or.inr (Or.inl ⟨x, h1.kept e, h2⟩)
    · obtain ⟨s, w, i, q, g, L1, F1, h1, h2, h3, h4, h5, h6, rfl⟩ := a
      exact Or.inr (Or.inr (Or.inl ⟨s, w, i, q, g, L1, F1, (e r (by simp)).trans h1, h2.kept (e i (by simp)), h3, ih h4 (fun q hq => e q (by simp [hq])), h5, h6, rfl⟩))
    · obtain ⟨s, i, q1, q2, g, L1, L2, F1, F2, h1, h2, h3, h4, h5, h6, h7, h8, rfl⟩ := a
      exact Or.inr (Or.inr (Or.inr (Or.inl ⟨s, i, q1, q2, g, L1, L2, F1, F2, (e r (by simp)).trans h1, h2.kept (e i (by simp)), h3, h4, ih h5 (fun q hq => e q (by simp [hq])), ih h6 (fun q hq => e q (by simp [hq])), h7, h8, rfl⟩)))
    · obtain ⟨j, i, q1, g, L1, F1, h0, h1, h2, h3, h4, h5, rfl⟩ := a
      exact Or.inr (Or.inr (Or.inr (Or.inr (Or.inl ⟨j, i, q1, g, L1, F1, h0, (e r (by simp)).trans h1, h2.kept (e i (by simp)), h3, ih h4 (fun q hq => e q (by simp [hq])), h5, rfl⟩))))
    · obtain ⟨i, q1, q2, q3, g, L1, L2, L3, F1, F2, F3, h1, h2, h3, h4, h5, h6, h7, h8, h9, rfl⟩ := a
      exact Or.inr (Or.inr (Or.inr (Or.inr (Or.inr (Or.inl ⟨i, q1, q2, q3, g, L1, L2, L3, F1, F2, F3, (e r (by simp)).trans h1, h2.kept (e i (by simp)), h3, h4, h5, ih h6 (fun q hq => e q (by simp [hq])), ih h7 (fun q hq => e q (by simp [hq])), ih h8 (fun q hq => e q (by simp [hq])), h9, rfl⟩)))))
    · obtain ⟨j, a, b, i, g, x, y, Fa, Fb, h0, h1, h2, h3, h4, h5, h6, h7, rfl⟩ := a
      exact Or.inr (Or.inr (Or.inr (Or.inr (Or.inr (Or.inr ⟨j, a, b, i, g, x, y, Fa, Fb, h0, (e r (by simp)).trans h1, h2.kept (e i (by simp)), h3, h4, h5.kept (fun q hq => e q (by simp [hq])), h6.kept (fun q hq => e q (by simp [hq])), h7, rfl⟩)))))
theorem rp.more : ∀ (n : Nat) {m : Nat} {E : fs_E} {h : fs_Hp} {r : Nat} {L : List It} {F : List Nat}, rp n E h r L F → n ≤ m → rp m E h r L F := by
  intro n
  induction n with
  | zero => intro m E h r L F a; exact a.elim
  | succ n ih =>
    intro m E h r L F a hm
    obtain ⟨k, rfl⟩ : ∃ k, m = k + 1 := ⟨m - 1, by omega⟩
    have hk : n ≤ k := by omega
    rcases a with a | a | a | a | a | a | a
    · exact Or.inl a
    · exact Or.inr (Or.inl a)
    · obtain ⟨s, w, i, q, g, L1, F1, h1, h2, h3, h4, h5⟩ := a
      exact Or.inr (Or.inr (Or.inl ⟨s, w, i, q, g, L1, F1, h1, h2, h3, ih h4 hk, h5⟩))
    · obtain ⟨s, i, q1, q2, g, L1, L2, F1, F2, h1, h2, h3, h4, h5, h6, h7⟩ := a
      exact Or.inr (Or.inr (Or.inr (Or.inl ⟨s, i, q1, q2, g, L1, L2, F1, F2, h1, h2, h3, h4, ih h5 hk, ih h6 hk, h7⟩)))
    · obtain ⟨j, i, q1, g, L1, F1, h0, h1, h2, h3, h4, h5⟩ := a
      exact Or.inr (Or.inr (Or.inr (Or.inr (Or.inl ⟨j, i, q1, g, L1, F1, h0, h1, h2, h3, ih h4 hk, h5⟩))))
    · obtain ⟨i, q1, q2, q3, g, L1, L2, L3, F1, F2, F3, h1, h2, h3, h4, h5, h6, h7, h8, h9⟩ := a
      exact Or.inr (Or.inr (Or.inr (Or.inr (Or.inr (Or.inl ⟨i, q1, q2, q3, g, L1, L2, L3, F1, F2, F3, h1, h2, h3, h4, h5, ih h6 hk, ih h7 hk, ih h8 hk, h9⟩)))))
    · exact Or.inr (Or.inr (Or.inr (Or.inr (Or.inr (Or.inr a)))))
/-- what a part is: an object of one of the six classes -/
theorem rp.isP : ∀ {n : Nat} {E : fs_E} {h : fs_Hp} {r : Nat} {L : List It} {F : List Nat}, rp n E h r L F → fs_isP h r := by
  intro n E h r L F a
  cases n with
  | zero => exact a.elim
  | succ n =>
    rcases a with a | a | a | a | a | a | a
    · obtain ⟨b, d, i, g, -, -, h1, -⟩ := a; exact fs_isP_of h1 (by omega)
    · obtain ⟨x, ⟨cf, rf, c, w, lo, i, g, h1, -⟩, -⟩ := a; exact fs_isP_of h1 (by omega)
    · obtain ⟨s, w, i, q, g, L1, F1, h1, -⟩ := a; exact fs_isP_of h1 (by omega)
    · obtain ⟨s, i, q1, q2, g, L1, L2, F1, F2, h1, -⟩ := a; exact fs_isP_of h1 (by omega)
    · obtain ⟨j, i, q1, g, L1, F1, -, h1, -⟩ := a; exact fs_isP_of h1 (by omega)
    · obtain ⟨i, q1, q2, q3, g, L1, L2, L3, F1, F2, F3, h1, -⟩ := a; exact fs_isP_of h1 (by omega)
    · obtain ⟨j, a, b, i, g, x, y, Fa, Fb, -, h1, -⟩ := a; exact fs_isP_of h1 (by omega)
theorem tr_rf.some {E : fs_E} {h : fs_Hp} {r : Nat} {x : Int32} {F : List Nat} (a : tr_rf E h r x F) : ∀ q ∈ F, h q ≠ none := by
  obtain ⟨cf, rf, c, w, lo, i, g, h1, h2, h3, rfl⟩ := a
  intro q hq
  simp only [List.mem_cons, List.not_mem_nil, or_false] at hq
  rcases hq with rfl | rfl
  · rw [h1]; exact fun z => by cases z
  · rw [h2]; exact fun z => by cases z
/-- where a part lies something lies -/
theorem rp.some : ∀ (n : Nat) {E : fs_E} {h : fs_Hp} {r : Nat} {L : List It} {F : List Nat}, rp n E h r L F → ∀ q ∈ F, h q ≠ none := by
  intro n
  induction n with
  | zero => intro E h r L F a; exact a.elim
  | succ n ih =>
    intro E h r L F a q hq
    rcases a with a | a | a | a | a | a | a
    · obtain ⟨b, d, i, g, -, -, h1, h2, -, rfl⟩ := a
      simp only [List.mem_cons, List.not_mem_nil, or_false] at hq
      rcases hq with rfl | rfl
      · rw [h1]; exact fun z => by cases z
      · rw [h2]; exact fun z => by cases z
    · obtain ⟨x, h1, -⟩ := a
      exact h1.some q hq
    · obtain ⟨s, w, i, q1, g, L1, F1, h1, h2, -, h4, -, -, rfl⟩ := a
      simp only [List.mem_cons] at hq
      rcases hq with rfl | rfl | hq
      · rw [h1]; exact fun z => by cases z
      · rw [h2]; exact fun z => by cases z
      · exact ih h4 q hq
    · obtain ⟨s, i, q1, q2, g, L1, L2, F1, F2, h1, h2, -, -, h5, h6, -, -, rfl⟩ := a
      simp only [List.mem_cons, List.mem_append] at hq
      rcases hq with rfl | rfl | hq | hq
      · rw [h1]; exact fun z => by cases z
      · rw [h2]; exact fun z => by cases z
      · exact ih h5 q hq
      · exact ih h6 q hq
    · obtain ⟨j, i, q1, g, L1, F1, -, h1, h2, -, h4, -, rfl⟩ := a
      simp only [List.mem_cons] at hq
      rcases hq with rfl | rfl | hq
      · rw [h1]; exact fun z => by cases z
      · rw [h2]; exact fun z => by cases z
      · exact ih h4 q hq
    · obtain ⟨i, q1, q2, q3, g, L1, L2, L3, F1, F2, F3, h1, h2, -, -, -, h6, h7, h8, -, rfl⟩ := a
      simp only [List.mem_cons, List.mem_append] at hq
      rcases hq with rfl | rfl | (hq | hq) | hq
      · rw [h1]; exact fun z => by cases z
      · rw [h2]; exact fun z => by cases z
      · exact ih h6 q hq
      · exact ih h7 q hq
      · exact ih h8 q hq
    · obtain ⟨j, a, b, i, g, x, y, Fa, Fb, -, h1, h2, -, -, h5, h6, -, rfl⟩ := a
      simp only [List.mem_cons, List.mem_append] at hq
      rcases hq with rfl | rfl | hq | hq
      · rw [h1]; exact fun z => by cases z
      · rw [h2]; exact fun z => by cases z
      · exact h5.some q hq
      · exact h6.some q hq
