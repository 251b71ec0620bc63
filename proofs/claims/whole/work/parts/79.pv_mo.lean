/-! Pure: what the reference's items are worth. -/
/-- the reference's number a for the reference x: 512 where it is LOST -/
def rfq (a x : Int32) : Prop := ∃ C W A B l : Nat, C < 8 ∧ W < 10 ∧ A < 2 ∧ B < 2 ∧ l < 2 ∧ a = nI (C + 8 * W + 128 * A + 256 * B + 512 * l) ∧ x = (if l = 0 then nI (C + 8 * W + 128 * A + 256 * B) else 512)
theorem rf_dec1 : ∀ n, n < 1024 → p_MO_column (nI n) = nI (n % 8) ∧ p_MO_row (nI n) = nI (n / 8 % 16) ∧ p_MO_lost (nI n) = nI (n / 512) := by decide +kernel
theorem rf_dec2 {C W A B l : Nat} (h1 : C < 8) (h2 : W < 10) (h3 : A < 2) (h4 : B < 2) (h5 : l < 2) : p_MO_column (nI (C + 8 * W + 128 * A + 256 * B + 512 * l)) = nI C ∧ p_MO_row (nI (C + 8 * W + 128 * A + 256 * B + 512 * l)) = nI W ∧ p_MO_lost (nI (C + 8 * W + 128 * A + 256 * B + 512 * l)) = nI l := by
  obtain ⟨e1, e2, e3⟩ := rf_dec1 (C + 8 * W + 128 * A + 256 * B + 512 * l) (by omega)
  rw [e1, e2, e3]
  refine ⟨?_, ?_, ?_⟩ <;> congr 1 <;> omega
def xok (x : Int32) : Prop := x = 512 ∨ ∃ C W A B : Nat, C < 8 ∧ W < 10 ∧ A < 2 ∧ B < 2 ∧ x = nI (C + 8 * W + 128 * A + 256 * B)
theorem rfq.xok {a x : Int32} (h : rfq a x) : xok x := by
  obtain ⟨C, W, A, B, l, h1, h2, h3, h4, h5, h6, h7⟩ := h
  by_cases hl : l = 0
  · rw [if_pos hl] at h7
    exact Or.inr ⟨C, W, A, B, h1, h2, h3, h4, h7⟩
  · rw [if_neg hl] at h7
    exact Or.inl h7
/-- an item as formulas have it -/
def itok (x : It) : Prop := (∃ b d : Nat, b ≤ 4 ∧ d < 10000000000000 ∧ x = (0, nI b, 0, lN d)) ∨ (∃ a, xok a ∧ x = (1, a, 0, 0)) ∨ (∃ j a b, j < 5 ∧ xok a ∧ xok b ∧ x = (nI (j + 2), a, b, 0)) ∨ (∃ w : Int32, (w = 33 ∨ w = 10 ∨ w = 7 ∨ w = 8) ∧ x = (w, 0, 0, 0)) ∨ x = (9, 0, 0, 0) ∨ ∃ w, tr_sg w ∧ x = (w, 0, 0, 0)
/-- how many stand on the stack behind an item -/
def ar (x : It) (n : Nat) : Option Nat := if x.1 ≤ 6 then some (n + 1) else if x.1 = 9 then (if 3 ≤ n then some (n - 2) else none) else if x.1 = 33 ∨ x.1 = 10 ∨ x.1 = 7 ∨ x.1 = 8 then (if 1 ≤ n then some n else none) else (if 2 ≤ n then some (n - 1) else none)
def hgt : List It → Nat → Option Nat
  | [], n => some n
  | x :: L, n => (ar x n).bind (hgt L)
theorem hgt_app : ∀ (L1 L2 : List It) (n : Nat), hgt (L1 ++ L2) n = (hgt L1 n).bind (hgt L2) := by
  intro L1
  induction L1 with
  | nil => intro L2 n; rfl
  | cons x L1 ih =>
    intro L2 n
    show (ar x n).bind (hgt (L1 ++ L2)) = ((ar x n).bind (hgt L1)).bind (hgt L2)
    cases ar x n with
    | none => rfl
    | some m => exact ih L2 m
theorem ar_sg {w : Int32} (h : tr_sg w) (n : Nat) : ar (w, 0, 0, 0) (n + 2) = some (n + 1) := by
  rcases h with rfl | rfl | rfl | rfl | rfl | rfl | rfl | rfl | rfl | rfl <;> rfl
/-- a formula's items -/
def fok (L : List It) : Prop := (∀ x ∈ L, itok x) ∧ ∀ n, hgt L n = some (n + 1)
theorem rp.fok : ∀ (n : Nat) {E : fs_E} {h : fs_Hp} {r : Nat} {L : List It} {F : List Nat}, rp n E h r L F → fok L := by
  have hx : ∀ {cf rf c w lo x : Int32}, tr_code cf rf c w lo x → xok x := by
    intro cf rf c w lo x t
    rcases t.2 with ⟨l1, l2⟩ | ⟨l1, C, W, A, B, m1, m2, m3, m4, m5, m6, m7, m8, m9⟩
    · exact Or.inl l2
    · exact Or.inr ⟨C, W, A, B, m1, m2, m3, m4, m9⟩
  intro n
  induction n with
  | zero => intro E h r L F a; exact a.elim
  | succ n ih =>
    intro E h r L F a
    rcases a with a | a | a | a | a | a | a
    · obtain ⟨b, d, i, g, h0, h0', h1, h2, h3, h4⟩ := a
      subst h3
      exact ⟨fun x hx => by rw [List.mem_singleton.mp hx]; exact Or.inl ⟨b, d, h0, h0', rfl⟩, fun n => rfl⟩
    · obtain ⟨x, ⟨cf, rf, c, w, lo, i, g, k1, k2, k3, k4⟩, h2⟩ := a
      subst h2
      exact ⟨fun y hy => by rw [List.mem_singleton.mp hy]; exact Or.inr (Or.inl ⟨x, hx k3, rfl⟩), fun n => rfl⟩
    · obtain ⟨s, w, i, q1, g, L1, F1, h1, h2, h3, h4, h5, h6, h7⟩ := a
      subst h6
      have a1 := ih h4
      refine ⟨fun y hy => ?_, fun m => ?_⟩
      · rcases List.mem_append.mp hy with z | z
        · exact a1.1 y z
        · rw [List.mem_singleton.mp z]
          refine Or.inr (Or.inr (Or.inr (Or.inl ⟨w, ?_, rfl⟩)))
          rcases h5 with ⟨_, e⟩ | ⟨_, e⟩
          · exact Or.inr (Or.inl e)
          · exact Or.inl e
      · rw [hgt_app, a1.2]
        rcases h5 with ⟨_, rfl⟩ | ⟨_, rfl⟩ <;> rfl
    · obtain ⟨s, i, q1, q2, g, L1, L2, F1, F2, h1, h2, h3, h4, h5, h6, h7, h8, h9⟩ := a
      subst h8
      have a1 := ih h5
      have a2 := ih h6
      refine ⟨fun y hy => ?_, fun m => ?_⟩
      · rcases List.mem_append.mp hy with z | z
        · rcases List.mem_append.mp z with z | z
          · exact a1.1 y z
          · exact a2.1 y z
        · rw [List.mem_singleton.mp z]
          exact Or.inr (Or.inr (Or.inr (Or.inr (Or.inr ⟨s, h7, rfl⟩))))
      · rw [hgt_app, hgt_app, a1.2]
        show ((hgt L2 (m + 1)).bind _) = _
        rw [a2.2]
        show (ar (s, 0, 0, 0) (m + 2)).bind _ = _
        rw [ar_sg h7]
        rfl
    · obtain ⟨j, i, q1, g, L1, F1, h0, h1, h2, h3, h4, h5, h6⟩ := a
      subst h5
      have a1 := ih h4
      refine ⟨fun y hy => ?_, fun m => ?_⟩
      · rcases List.mem_append.mp hy with z | z
        · exact a1.1 y z
        · rw [List.mem_singleton.mp z]
          refine Or.inr (Or.inr (Or.inr (Or.inl ⟨nI (j + 2), ?_, rfl⟩)))
          rcases h0 with rfl | rfl
          · exact Or.inr (Or.inr (Or.inl rfl))
          · exact Or.inr (Or.inr (Or.inr rfl))
      · rw [hgt_app, a1.2]
        rcases h0 with rfl | rfl <;> rfl
    · obtain ⟨i, q1, q2, q3, g, L1, L2, L3, F1, F2, F3, h1, h2, h3, h4, h5, h6, h7, h8, h9, h10⟩ := a
      subst h9
      have a1 := ih h6
      have a2 := ih h7
      have a3 := ih h8
      refine ⟨fun y hy => ?_, fun m => ?_⟩
      · rcases List.mem_append.mp hy with z | z
        · rcases List.mem_append.mp z with z | z
          · rcases List.mem_append.mp z with z | z
            · exact a1.1 y z
            · exact a2.1 y z
          · exact a3.1 y z
        · rw [List.mem_singleton.mp z]
          exact Or.inr (Or.inr (Or.inr (Or.inr (Or.inl rfl))))
      · rw [hgt_app, hgt_app, hgt_app, a1.2]
        show (((hgt L2 (m + 1)).bind _).bind _) = _
        rw [a2.2]
        show ((hgt L3 (m + 2)).bind _) = _
        rw [a3.2]
        rfl
    · obtain ⟨j, a, b, i, g, x, y, Fa, Fb, h0, h1, h2, h3, h4, h5, h6, h7, h8⟩ := a
      subst h7
      obtain ⟨cf, rf, c, w, lo, i1, g1, k1, k2, k3, k4⟩ := h5
      obtain ⟨cf', rf', c', w', lo', i1', g1', k1', k2', k3', k4'⟩ := h6
      refine ⟨fun z hz => by rw [List.mem_singleton.mp hz]; exact Or.inr (Or.inr (Or.inl ⟨j, x, y, h0, hx k3, hx k3', rfl⟩)), fun n => ?_⟩
      have : j = 0 ∨ j = 1 ∨ j = 2 ∨ j = 3 ∨ j = 4 := by omega
      rcases this with rfl | rfl | rfl | rfl | rfl <;> rfl
/-- the reference's item at k, for x -/
def ci (M : mo_S) (k : Nat) (x : It) : Prop := M.2.1 3 k = x.1 ∧ (x.1 = 0 → M.2.1 4 k = x.2.1 ∧ M.2.2.1 6 k = x.2.2.2) ∧ (x.1 = 1 → rfq (M.2.1 4 k) x.2.1) ∧ (2 ≤ x.1 → x.1 ≤ 6 → rfq (M.2.1 4 k) x.2.1 ∧ rfq (M.2.1 5 k) x.2.2.1)
/-- the reference's VALUES as they stand -/
def cvM (M : mo_S) (c r : Nat) : Option Vl := if c < 8 ∧ r < 10 then (if M.2.1 0 (10 * c + r) = 0 then none else some (if M.2.1 18 (10 * c + r) = 0 then some (M.2.2.2 17 (10 * c + r)) else none)) else none
/-- their bounds -/
def cvb (M : mo_S) : Prop := (∀ k, k < 80 → nb (M.2.2.2 17 k)) ∧ (∀ k, k < 81 → M.2.1 0 k = 0 ∨ M.2.1 0 k = 1 ∨ M.2.1 0 k = 2) ∧ ∀ k, k < 80 → M.2.1 18 k = 0 ∨ (M.2.1 18 k = 1 ∧ M.2.2.2 17 k = FP.dconst0)
theorem cvM_ok {M : mo_S} (h : cvb M) : cvok (cvM M) := by
  intro c r d e
  unfold cvM at e
  split at e
  · next hcr =>
    split at e
    · cases e
    · split at e
      · have := Option.some.inj (Option.some.inj e)
        rw [← this]
        exact h.1 _ (by omega)
      · cases e
  · cases e
/-- the stack: the last first -/
def sk (M : mo_S) : List Vl → Prop
  | [] => True
  | v :: t => ((∀ d, v = some d → M.2.2.2 20 t.length = d ∧ M.2.1 21 t.length = 0 ∧ nb d) ∧ (v = none → M.2.2.2 20 t.length = FP.dconst0 ∧ M.2.1 21 t.length = 1)) ∧ sk M t
/-- only the stack changes -/
def wf (M M' : mo_S) : Prop := M'.1 = M.1 ∧ (∀ j k, j ≠ 21 → M'.2.1 j k = M.2.1 j k) ∧ M'.2.2.1 = M.2.2.1 ∧ ∀ j k, j ≠ 20 → M'.2.2.2 j k = M.2.2.2 j k
theorem wf.rf (M : mo_S) : wf M M := ⟨rfl, fun _ _ _ => rfl, rfl, fun _ _ _ => rfl⟩
theorem wf.trans {M M1 M2 : mo_S} (a : wf M M1) (b : wf M1 M2) : wf M M2 := ⟨b.1.trans a.1, fun j k h => (b.2.1 j k h).trans (a.2.1 j k h), b.2.2.1.trans a.2.2.1, fun j k h => (b.2.2.2 j k h).trans (a.2.2.2 j k h)⟩
theorem wf.cv {M M' : mo_S} (h : wf M M') : cvM M' = cvM M := by
  funext c r
  unfold cvM
  rw [h.2.1 0 _ (by decide), h.2.1 18 _ (by decide), h.2.2.2 17 _ (by decide)]
theorem wf.cvb {M M' : mo_S} (h : wf M M') (hb : cvb M) : cvb M' := ⟨fun k hk => by rw [h.2.2.2 17 k (by decide)]; exact hb.1 k hk, fun k hk => by rw [h.2.1 0 k (by decide)]; exact hb.2.1 k hk, fun k hk => by rw [h.2.1 18 k (by decide), h.2.2.2 17 k (by decide)]; exact hb.2.2 k hk⟩
theorem wf.it {M M' : mo_S} {k : Nat} {x : It} (h : wf M M') (a : ci M k x) : ci M' k x := by
  unfold ci
  rw [h.2.1 3 _ (by decide), h.2.1 4 _ (by decide), h.2.1 5 _ (by decide), h.2.2.1]
  exact a
theorem sk.kept {M M' : mo_S} : ∀ {t : List Vl}, sk M t → (∀ k, k < t.length → M'.2.2.2 20 k = M.2.2.2 20 k ∧ M'.2.1 21 k = M.2.1 21 k) → sk M' t := by
  intro t
  induction t with
  | nil => intro _ _; trivial
  | cons v t ih =>
    intro h e
    refine ⟨?_, ih h.2 fun k hk => e k (Nat.lt_succ_of_lt hk)⟩
    rw [(e t.length (Nat.lt_succ_self _)).1, (e t.length (Nat.lt_succ_self _)).2]
    exact h.1
theorem hold_sk {M : mo_S} {t : List Vl} (h : sk M t) (hl : t.length < 44) {v : Vl} {d : UInt64} {f : Int32} (hv : (v = some d ∧ f = 0 ∧ nb d) ∨ (v = none ∧ f = 1)) : sk (p_MO_hold M (nI t.length) d f) (v :: t) ∧ wf M (p_MO_hold M (nI t.length) d f) := by
  unfold p_MO_hold
  rw [nI_clamp (by omega)]
  have key : ∀ (x : UInt64) (y : Int32), sk (mo_i (mo_d M 20 t.length x) 21 t.length y) t ∧ wf M (mo_i (mo_d M 20 t.length x) 21 t.length y) ∧ (mo_i (mo_d M 20 t.length x) 21 t.length y).2.2.2 20 t.length = x ∧ (mo_i (mo_d M 20 t.length x) 21 t.length y).2.1 21 t.length = y := by
    intro x y
    refine ⟨h.kept fun k hk => ⟨?_, ?_⟩, ⟨rfl, fun j k hj => ?_, rfl, fun j k hj => ?_⟩, ?_, ?_⟩
    · show (mo_d M 20 t.length x).2.2.2 20 k = _
      rw [mo_d_at, if_neg (by omega)]
    · rw [mo_i_at, if_neg (by omega)]
      rfl
    · rw [mo_i_at, if_neg (by omega)]
      rfl
    · show (mo_d M 20 t.length x).2.2.2 j k = _
      rw [mo_d_at, if_neg (by omega)]
    · show (mo_d M 20 t.length x).2.2.2 20 _ = _
      rw [mo_d_at, if_pos ⟨rfl, rfl⟩]
    · rw [mo_i_at, if_pos ⟨rfl, rfl⟩]
  rcases hv with ⟨e1, e2, e3⟩ | ⟨e1, e2⟩
  · obtain ⟨k1, k2, k3, k4⟩ := key d 0
    rw [e2, if_pos rfl, nar_0]
    exact ⟨⟨⟨fun z hz => by rw [e1] at hz; cases hz; exact ⟨k3, k4, e3⟩, fun hz => by rw [e1] at hz; cases hz⟩, k1⟩, k2⟩
  · obtain ⟨k1, k2, k3, k4⟩ := key FP.dconst0 1
    rw [e2, if_neg (by decide), nar_1]
    exact ⟨⟨⟨fun z hz => (by rw [e1] at hz; cases hz), fun _ => ⟨k3, k4⟩⟩, k1⟩, k2⟩
