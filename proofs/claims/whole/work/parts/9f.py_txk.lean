/-! Pure: what is read has no more items than characters. -/
theorem wtL_app : ∀ (L1 L2 : List It), wtL (L1 ++ L2) = wtL L1 + wtL L2 := by
  intro L1
  induction L1 with
  | nil => intro L2; show wtL L2 = 0 + wtL L2; omega
  | cons x L1 ih =>
    intro L2
    show wt1 x + wtL (L1 ++ L2) = wt1 x + wtL L1 + wtL L2
    rw [ih]
    omega
theorem wtL_one (x : It) : wtL [x] = wt1 x := by
  show wt1 x + 0 = wt1 x
  omega
/-- with room for s characters more -/
def pok (s p : Nat) (r : ps_R (List It)) : Prop := ∀ L, r.1 = some L → (∀ x ∈ L, numq x) ∧ p + wtL L ≤ r.2 + s
theorem pok_then {α : Type} {s p : Nat} {r : ps_R α} {k : α → Nat → ps_R (List It)} (h : ∀ v, r.1 = some v → pok s p (k v r.2)) : pok s p (ps_then r k) := by
  obtain ⟨o, q⟩ := r
  cases o with
  | none => intro L e; cases e
  | some v => exact h v rfl
theorem pok_ch {C : Nat → Nat} {c s p q : Nat} {k : Nat → ps_R (List It)} (hk : pok s p (k (q + 1))) : pok s p (ps_ch C c q k) := by
  unfold ps_ch
  split
  · exact hk
  · intro L e; cases e
theorem pok_close {C : Nat → Nat} {p : Nat} {r : ps_R (List It)} (h : pok 1 p r) : pok 0 p (ps_close C r) := by
  refine pok_then fun L e => pok_ch fun L' e' => ?_
  cases e'
  obtain ⟨h1, h2⟩ := h L e
  exact ⟨h1, h2⟩
theorem pok.up {s p p' : Nat} {r : ps_R (List It)} (h : pok s p r) (hp : p' ≤ p) : pok s p' r := fun L e => ⟨(h L e).1, by have := (h L e).2; omega⟩
theorem ps_dg_fine (C : Nat → Nat) : ∀ (k p d M : Nat), d < M → (ps_dg C k p d).1 < M * 10 ^ ((ps_dg C k p d).2 - p) := by
  intro k
  induction k with
  | zero => intro p d M h; rw [ps_dg, Nat.sub_self]; omega
  | succ k ih =>
    intro p d M h
    rw [ps_dg]
    split
    · next hc =>
      have h1 := ih (p + 1) (d * 10 + (C p - 48)) (M * 10) (by omega)
      have h2 := ps_dg_ge C k (p + 1) (d * 10 + (C p - 48))
      rw [show (ps_dg C k (p + 1) (d * 10 + (C p - 48))).2 - p = (ps_dg C k (p + 1) (d * 10 + (C p - 48))).2 - (p + 1) + 1 by omega, Nat.pow_succ, Nat.mul_comm (10 ^ _) 10, ← Nat.mul_assoc]
      exact h1
    · rw [Nat.sub_self]; omega
theorem pok_num {C : Nat → Nat} {p : Nat} (hd : 48 ≤ C p ∧ C p ≤ 57) : pok 0 p (ps_num C p) := by
  have g := ps_num_ge hd
  have h9 : (ps_dg C 9 p 0).1 < 1000000000 := by
    have := ps_dg_lt C 9 p 0 1 (by omega)
    omega
  have hle := ps_dg_le C 4 ((ps_dg C 9 p 0).2 + 1) (ps_dg C 9 p 0).1
  have hge := ps_dg_ge C 4 ((ps_dg C 9 p 0).2 + 1) (ps_dg C 9 p 0).1
  have hf := ps_dg_fine C 4 ((ps_dg C 9 p 0).2 + 1) (ps_dg C 9 p 0).1 1000000000 h9
  intro L e
  have g2 := g.2 (by rw [e]; exact fun z => by cases z)
  unfold ps_num at e g2 ⊢
  split at e
  · next h46 =>
    rw [if_pos h46] at g2 ⊢
    split at e
    · cases e
    · next hne =>
      rw [if_neg hne] at g2 ⊢
      cases e
      refine ⟨fun x hx => ?_, ?_⟩
      · rw [List.mem_singleton.mp hx]
        exact fun _ => ⟨_, _, by omega, hf, rfl⟩
      · rw [wtL_one]
        show p + 1 ≤ _
        exact g2
  · next h46 =>
    rw [if_neg h46] at g2 ⊢
    cases e
    refine ⟨fun x hx => ?_, ?_⟩
    · rw [List.mem_singleton.mp hx]
      exact fun _ => ⟨0, _, by omega, by rw [Nat.pow_zero]; omega, rfl⟩
    · rw [wtL_one]
      show p + 1 ≤ _
      exact g2
theorem ps_ref_2 {C : Nat → Nat} {p v : Nat} (h : (ps_ref C p).1 = some v) : p + 2 ≤ (ps_ref C p).2 := by
  unfold ps_ref at h ⊢
  split at h
  · next h1 =>
    rw [if_pos h1]
    unfold ps_rf2 at h ⊢
    split at h
    · next h2 =>
      rw [if_pos h2]
      split
      · show p + 2 ≤ _; omega
      · show p + 2 ≤ _; omega
    · cases h
  · cases h
theorem numq_ne {x : It} (h : ¬ x.1 = 0) : numq x := fun e => absurd e h
theorem wt1_rg {j : Nat} (hj : j < 5) (a b : Int32) : wt1 (nI (j + 2), a, b, 0) = 11 := by
  obtain ⟨h1, h2, h3, h4, h5⟩ := it_rg j hj
  unfold wt1
  try dsimp only
  rw [if_neg h1, if_neg h2, if_pos h4]
theorem ps_last_s2 {P : Nat → Bool} : ∀ (k j : Nat), ps_last P k = some j → j < k ∧ P j = true := by
  intro k
  induction k with
  | zero => intro j h; cases h
  | succ k ih =>
    intro j h
    rw [ps_last] at h
    split at h
    · next hp => cases h; exact ⟨Nat.lt_succ_self _, hp⟩
    · obtain ⟨h1, h2⟩ := ih j h; exact ⟨by omega, h2⟩
theorem ps_most_g2 {g : Nat → Nat} : ∀ (k j : Nat), j < k → g j ≤ ps_most g k := by
  intro k
  induction k with
  | zero => intro j h; omega
  | succ k ih =>
    intro j h
    rw [ps_most]
    by_cases e : j = k
    · rw [e]; omega
    · have := ih j (by omega); omega
theorem ps_ob_len : ∀ j, j < 8 → (ps_ob j).length = if j = 7 then 3 else 4 := by decide
theorem ps_nm_3b {C : Nat → Nat} {p j : Nat} (h : (ps_nm C p).1 = some j) : j < 8 ∧ p + (if j = 7 then 3 else 4) ≤ (ps_nm C p).2 := by
  have h' : ps_last (fun j => ps_same C (ps_ob j) p == (ps_ob j).length) 8 = some j := h
  obtain ⟨h1, h2⟩ := ps_last_s2 8 j h'
  have h3 : ps_same C (ps_ob j) p ≤ ps_most (fun j => ps_same C (ps_ob j) p) 8 := ps_most_g2 (g := fun j => ps_same C (ps_ob j) p) 8 j h1
  have h4 : ps_same C (ps_ob j) p = (ps_ob j).length := by simpa using h2
  rw [ps_ob_len j h1] at h4
  refine ⟨h1, ?_⟩
  show p + _ ≤ p + ps_most (fun j => ps_same C (ps_ob j) p) 8
  omega
theorem pok_range {C : Nat → Nat} {j p p0 : Nat} (hj : j < 5) (hp : p0 + 5 ≤ p) : pok 1 p0 (ps_range C j p) := by
  unfold ps_range
  refine pok_then fun x e1 => pok_ch (pok_then fun y e2 => ?_)
  have h1 := ps_ref_2 e1
  have h2 := ps_ref_2 e2
  intro L e
  cases e
  refine ⟨fun x hx => ?_, ?_⟩
  · rw [List.mem_singleton.mp hx]
    exact numq_ne (it_rg j hj).1
  · rw [wtL_one, wt1_rg hj]
    show p0 + 11 ≤ (ps_ref C ((ps_ref C p).2 + 1)).2 + 1
    omega
theorem pok_args {self : Nat → ps_R (List It)} {C : Nat → Nat} {j p p0 : Nat} (hs : ∀ q, pok 0 q (self q)) (hj : j < 8) (hj5 : ¬ j < 5) (hp : p0 + 1 + (if j = 7 then 3 else 4) ≤ p) : pok 1 p0 (ps_args self C j p) := by
  unfold ps_args
  by_cases h7 : j = 7
  · rw [if_pos h7] at hp ⊢
    refine pok_then fun L1 e1 => pok_ch (pok_then fun L2 e2 => pok_ch (pok_then fun L3 e3 => ?_))
    obtain ⟨a1, a2⟩ := hs _ L1 e1
    obtain ⟨b1, b2⟩ := hs _ L2 e2
    obtain ⟨c1, c2⟩ := hs _ L3 e3
    intro L e
    cases e
    refine ⟨fun x hx => ?_, ?_⟩
    · simp only [List.mem_append, List.mem_singleton] at hx
      rcases hx with ((hx | hx) | hx) | hx
      · exact a1 x hx
      · exact b1 x hx
      · exact c1 x hx
      · rw [hx]; exact numq_ne (show ¬ (9 : Int32) = 0 by decide)
    · rw [wtL_app, wtL_app, wtL_app, wtL_one, show wt1 (9, 0, 0, 0) = 7 by decide]
      try dsimp only
      omega
  · rw [if_neg h7] at hp ⊢
    refine pok_then fun L1 e1 => ?_
    obtain ⟨a1, a2⟩ := hs _ L1 e1
    have hj' : j = 5 ∨ j = 6 := by omega
    have hw : wt1 (nI (j + 2), 0, 0, 0) = 6 ∧ ¬ nI (j + 2) = 0 := by
      rcases hj' with rfl | rfl <;> decide
    intro L e
    cases e
    refine ⟨fun x hx => ?_, ?_⟩
    · rcases List.mem_append.mp hx with hx | hx
      · exact a1 x hx
      · rw [List.mem_singleton.mp hx]; exact numq_ne hw.2
    · rw [wtL_app, wtL_one, hw.1]
      try dsimp only
      omega
theorem pok_call {self : Nat → ps_R (List It)} {C : Nat → Nat} {p : Nat} (hs : ∀ q, pok 0 q (self q)) : pok 0 p (ps_call self C (p + 1)) := by
  refine pok_then fun j e => ?_
  obtain ⟨h1, h2⟩ := ps_nm_3b e
  by_cases h5 : j < 5
  · rw [if_pos h5]
    rw [if_neg (by omega)] at h2
    exact pok_close (pok_range h5 (by omega))
  · rw [if_neg h5]
    exact pok_close (pok_args hs h1 h5 (by omega))
theorem pok_none {s p q : Nat} : pok s p (none, q) := fun L e => by cases e
theorem pok_part {self : Nat → Nat → ps_R (List It)} {C : Nat → Nat} {o p : Nat} (hs : ∀ o q, pok 0 q (self o q)) : pok 0 p (ps_part self C o p) := by
  unfold ps_part
  split
  · next h => exact pok_num h
  · split
    · refine pok_then fun x e => ?_
      have h2 := ps_ref_2 e
      intro L e'
      cases e'
      refine ⟨fun x hx => ?_, ?_⟩
      · rw [List.mem_singleton.mp hx]; exact numq_ne (show ¬ (1 : Int32) = 0 by decide)
      · rw [wtL_one]
        exact h2
    · split
      · exact pok_none
      · split
        · refine pok_close fun L e => ?_
          obtain ⟨h1, h2⟩ := hs _ _ L e
          exact ⟨h1, by omega⟩
        · split
          · exact pok_call (hs _)
          · exact pok_none
/-- one sign more -/
theorem pok_sg {s : Int32} {p q p' : Nat} {L : List It} (hs : ¬ s = 0 ∧ wt1 (s, 0, 0, 0) = 1) (h1 : ∀ x ∈ L, numq x) (h2 : p + 1 + wtL L ≤ q) : pok 0 p (some (L ++ [(s, 0, 0, 0)]), q) := by
  intro L' e
  cases e
  refine ⟨fun x hx => ?_, ?_⟩
  · rcases List.mem_append.mp hx with hx | hx
    · exact h1 x hx
    · rw [List.mem_singleton.mp hx]; exact numq_ne hs.1
  · rw [wtL_app, wtL_one, hs.2]
    show p + (wtL L + 1) ≤ q + 0
    omega
theorem pok_signed {self : Nat → Nat → ps_R (List It)} {C : Nat → Nat} {o p : Nat} (hs : ∀ o q, pok 0 q (self o q)) : pok 0 p (ps_signed self C o p) := by
  unfold ps_signed
  split
  · refine pok_then fun L e => ?_
    obtain ⟨h1, h2⟩ := pok_part (C := C) (o := o) (p := p + 1) hs L e
    exact pok_sg (p' := 0) (by decide) h1 h2
  · exact pok_part hs
theorem pok_loop {X : Nat → ps_R (List It)} {C : Nat → Nat} {s1 s2 : Nat} (hX : ∀ q, pok 0 q (X q)) (hs : ∀ c, c = s1 ∨ c = s2 → ¬ nI c = 0 ∧ wt1 (nI c, 0, 0, 0) = 1) : ∀ (k p : Nat) (r : ps_R (List It)), pok 0 p r → pok 0 p (ps_loop X C s1 s2 k r) := by
  intro k
  induction k with
  | zero => intro p r h; exact h
  | succ k ih =>
    intro p r h
    rw [ps_loop]
    refine pok_then fun L e => ?_
    obtain ⟨h1, h2⟩ := h L e
    split
    · next hc =>
      refine ih p _ (pok_then fun L2 e2 => ?_)
      obtain ⟨h3, h4⟩ := hX _ L2 e2
      refine pok_sg (p' := 0) (hs _ hc) (fun x hx => ?_) ?_
      · rcases List.mem_append.mp hx with hx | hx
        · exact h1 x hx
        · exact h3 x hx
      · rw [wtL_app]
        omega
    · intro L' e'
      cases e'
      exact ⟨h1, h2⟩
theorem pok_product {self : Nat → Nat → ps_R (List It)} {C : Nat → Nat} {o p : Nat} (hs : ∀ o q, pok 0 q (self o q)) : pok 0 p (ps_product self C o p) := pok_loop (fun _ => pok_signed hs) (fun c hc => by rcases hc with rfl | rfl <;> decide) 40 p _ (pok_signed hs)
theorem pok_terms {self : Nat → Nat → ps_R (List It)} {C : Nat → Nat} {o p : Nat} (hs : ∀ o q, pok 0 q (self o q)) : pok 0 p (ps_terms self C o p) := pok_loop (fun _ => pok_product hs) (fun c hc => by rcases hc with rfl | rfl <;> decide) 40 p _ (pok_product hs)
theorem pok_cmp {self : Nat → Nat → ps_R (List It)} {C : Nat → Nat} {o p : Nat} (hs : ∀ o q, pok 0 q (self o q)) : pok 0 p (ps_cmp self C o p) := by
  unfold ps_cmp
  split
  · refine pok_then fun L e => ?_
    obtain ⟨h1, h2⟩ := pok_terms (C := C) (o := o) (p := p + 1) hs L e
    exact pok_sg (p' := 0) (by decide) h1 h2
  · refine pok_then fun L e => ?_
    obtain ⟨h1, h2⟩ := pok_terms (C := C) (o := o) (p := p) hs L e
    split
    · next hc =>
      refine pok_then fun L2 e2 => ?_
      obtain ⟨h3, h4⟩ := pok_terms (C := C) (o := o) (p := (ps_terms self C o p).2 + 1) hs L2 e2
      refine pok_sg (p' := 0) (by rcases hc with (hc | hc) | (hc | hc) <;> (rw [hc]; decide)) (fun x hx => ?_) ?_
      · rcases List.mem_append.mp hx with hx | hx
        · exact h1 x hx
        · exact h3 x hx
      · rw [wtL_app]
        omega
    · intro L' e'
      cases e'
      exact ⟨h1, h2⟩
theorem pok_logic {C : Nat → Nat} : ∀ (m o p : Nat), pok 0 p (ps_logic C m o p) := by
  intro m
  induction m with
  | zero => intro o p; exact pok_none
  | succ m ih => intro o p; exact pok_loop (fun _ => pok_cmp ih) (fun c hc => by rcases hc with rfl | rfl <;> decide) 40 p _ (pok_cmp ih)
theorem txk_read {C : Nat → Nat} {n : Nat} {L : List It} (h : (ps_read C n).1 = some L) (hn : n ≤ 40) : txk L := by
  have hp := pok_logic (C := C) 8 0 0
  unfold ps_read at h
  cases e : (ps_logic C 8 0 0).1 with
  | none =>
    rw [show ps_logic C 8 0 0 = ((ps_logic C 8 0 0).1, (ps_logic C 8 0 0).2) from rfl, e] at h
    cases h
  | some L' =>
    obtain ⟨h1, h2⟩ := hp L' e
    have h' : (if (ps_logic C 8 0 0).2 = n then ((some L' : Option (List It)), (ps_logic C 8 0 0).2) else (none, (ps_logic C 8 0 0).2)).1 = some L := by
      rw [show ps_logic C 8 0 0 = ((ps_logic C 8 0 0).1, (ps_logic C 8 0 0).2) from rfl, e] at h
      exact h
    split at h'
    · next hq =>
      cases h'
      exact ⟨h1, by omega⟩
    · cases h'
