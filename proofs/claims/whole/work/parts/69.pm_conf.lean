/-! Pure: how far the reference's reading is: its place, its brackets, the signs that wait, the items that are made. -/
abbrev Fr : Type := Nat × Nat × Bool
def mc_fr (M : mo_S) : List Fr → Prop
  | [] => True
  | x :: R => (M.2.1 25 R.length = nI x.1 ∧ M.2.1 26 R.length = nI x.2.1 ∧ M.2.1 27 R.length = (if x.2.2 then 1 else 0)) ∧ mc_fr M R
def mc_sg (M : mo_S) : List Nat → Prop
  | [] => True
  | c :: S => (M.2.1 28 S.length = nI c ∧ c < 128) ∧ mc_sg M S
/-- the item x lies at k -/
def mi (M : mo_S) (k : Nat) (x : It) : Prop := M.2.1 3 k = x.1 ∧ (x.1 = 0 → M.2.1 4 k = x.2.1 ∧ M.2.2.1 6 k = x.2.2.2) ∧ (x.1 = 1 → M.2.1 4 k = x.2.1) ∧ (2 ≤ x.1 → x.1 ≤ 6 → M.2.1 4 k = x.2.1 ∧ M.2.1 5 k = x.2.2.1)
/-- what a reading leaves alone -/
def mm_F (M0 M : mo_S) : Prop := (∀ k, ¬ (k = 22 ∨ k = 23 ∨ k = 24 ∨ k = 29 ∨ k = 30) → M.1 k = M0.1 k) ∧ (∀ j k, ¬ (j = 25 ∨ j = 26 ∨ j = 27 ∨ j = 28 ∨ (3 ≤ j ∧ j ≤ 5 ∧ 3200 ≤ k)) → M.2.1 j k = M0.2.1 j k) ∧ (∀ j k, ¬ (j = 6 ∧ 3200 ≤ k) → M.2.2.1 j k = M0.2.2.1 j k) ∧ M.2.2.2 = M0.2.2.2
def mc (M0 : mo_S) (C : Nat → Nat) (n : Nat) (M : mo_S) (p rd : Nat) (x : Fr) (R : List Fr) (S : List Nat) (I : List It) : Prop :=
  mm_F M0 M ∧ pm_L M C n ∧ p ≤ n ∧ M.1 22 = nI p ∧ M.1 24 = nI rd ∧ M.1 23 = nI R.length ∧ R.length ≤ 6 ∧ M.1 29 = nI S.length ∧ M.1 30 = nI I.length ∧ mc_fr M (x :: R) ∧ mc_sg M S ∧ ∀ k y, I[k]? = some y → mi M (3200 + k) y
theorem mo_i_at (M : mo_S) (j k i l : Nat) (a : Int32) : (mo_i M j k a).2.1 i l = if i = j ∧ l = k then a else M.2.1 i l := by
  unfold mo_i upd
  by_cases h1 : i = j
  · subst h1
    by_cases h2 : l = k <;> simp [h2]
  · simp [h1]
theorem mo_l_at (M : mo_S) (j k i l : Nat) (a : Int64) : (mo_l M j k a).2.2.1 i l = if i = j ∧ l = k then a else M.2.2.1 i l := by
  unfold mo_l vp_updL
  by_cases h1 : i = j
  · subst h1
    by_cases h2 : l = k <;> simp [h2]
  · simp [h1]
theorem mo_d_at (M : mo_S) (j k i l : Nat) (a : UInt64) : (mo_d M j k a).2.2.2 i l = if i = j ∧ l = k then a else M.2.2.2 i l := by
  unfold mo_d vf_upd
  by_cases h1 : i = j
  · subst h1
    by_cases h2 : l = k <;> simp [h2]
  · simp [h1]
theorem mo_f_1 (M : mo_S) (k j : Nat) (a : Int32) : (mo_f M k a).1 j = if j = k then a else M.1 j := rfl
theorem mc_fr.kept {M M' : mo_S} : ∀ {R : List Fr}, mc_fr M R → (∀ j k, 25 ≤ j → j ≤ 27 → k < R.length → M'.2.1 j k = M.2.1 j k) → mc_fr M' R := by
  intro R
  induction R with
  | nil => intro _ _; trivial
  | cons x R ih =>
    intro h e
    refine ⟨⟨?_, ?_, ?_⟩, ih h.2 (fun j k h1 h2 h3 => e j k h1 h2 (Nat.lt_succ_of_lt h3))⟩
    · rw [e 25 R.length (by omega) (by omega) (Nat.lt_succ_self _)]; exact h.1.1
    · rw [e 26 R.length (by omega) (by omega) (Nat.lt_succ_self _)]; exact h.1.2.1
    · rw [e 27 R.length (by omega) (by omega) (Nat.lt_succ_self _)]; exact h.1.2.2
theorem mc_sg.kept {M M' : mo_S} : ∀ {S : List Nat}, mc_sg M S → (∀ k, k < S.length → M'.2.1 28 k = M.2.1 28 k) → mc_sg M' S := by
  intro S
  induction S with
  | nil => intro _ _; trivial
  | cons c S ih =>
    intro h e
    refine ⟨⟨?_, h.1.2⟩, ih h.2 (fun k h3 => e k (Nat.lt_succ_of_lt h3))⟩
    rw [e S.length (Nat.lt_succ_self _)]
    exact h.1.1
theorem mi.kept {M M' : mo_S} {k : Nat} {x : It} (h : mi M k x) (e : ∀ j, 3 ≤ j → j ≤ 5 → M'.2.1 j k = M.2.1 j k) (el : M'.2.2.1 6 k = M.2.2.1 6 k) : mi M' k x := by
  refine ⟨?_, ?_, ?_, ?_⟩
  · rw [e 3 (by omega) (by omega)]; exact h.1
  · rw [e 4 (by omega) (by omega), el]; exact h.2.1
  · rw [e 4 (by omega) (by omega)]; exact h.2.2.1
  · rw [e 4 (by omega) (by omega), e 5 (by omega) (by omega)]; exact h.2.2.2
theorem mm_F.rf (M : mo_S) : mm_F M M := ⟨fun _ _ => rfl, fun _ _ _ => rfl, fun _ _ _ => rfl, rfl⟩
theorem mm_F.trans {M0 M1 M2 : mo_S} (a : mm_F M0 M1) (b : mm_F M1 M2) : mm_F M0 M2 := ⟨fun k hk => (b.1 k hk).trans (a.1 k hk), fun j k h => (b.2.1 j k h).trans (a.2.1 j k h), fun j k h => (b.2.2.1 j k h).trans (a.2.2.1 j k h), b.2.2.2.trans a.2.2.2⟩
theorem mm_F.f {M0 M : mo_S} {k : Nat} {a : Int32} (h : mm_F M0 M) (hk : k = 22 ∨ k = 23 ∨ k = 24 ∨ k = 29 ∨ k = 30) : mm_F M0 (mo_f M k a) := by
  refine ⟨fun j hj => ?_, h.2.1, h.2.2.1, h.2.2.2⟩
  rw [mo_f_1, if_neg (by omega)]
  exact h.1 j hj
theorem mm_F.i {M0 M : mo_S} {j k : Nat} {a : Int32} (h : mm_F M0 M) (hk : j = 25 ∨ j = 26 ∨ j = 27 ∨ j = 28 ∨ (3 ≤ j ∧ j ≤ 5 ∧ 3200 ≤ k)) : mm_F M0 (mo_i M j k a) := by
  refine ⟨h.1, fun j' k' hj => ?_, h.2.2.1, h.2.2.2⟩
  rw [mo_i_at, if_neg (fun e => hj (by rw [e.1, e.2]; exact hk))]
  exact h.2.1 j' k' hj
theorem mm_F.l {M0 M : mo_S} {k : Nat} {a : Int64} (h : mm_F M0 M) (hk : 3200 ≤ k) : mm_F M0 (mo_l M 6 k a) := by
  refine ⟨h.1, h.2.1, fun j' k' hj => ?_, h.2.2.2⟩
  rw [mo_l_at, if_neg (by omega)]
  exact h.2.2.1 j' k' hj
theorem mc.at' {M0 : mo_S} {C : Nat → Nat} {n : Nat} {M : mo_S} {p rd : Nat} {x : Fr} {R : List Fr} {S : List Nat} {I : List It} (h : mc M0 C n M p rd x R S I) {q : Nat} (hq : q ≤ n) : mc M0 C n (mo_f M 22 (nI q)) q rd x R S I := by
  obtain ⟨h1, h2, h3, h4, h5, h6, h7, h8, h9, h10, h11, h12⟩ := h
  exact ⟨h1.f (by decide), h2.f (by decide), hq, mo_f_at _ _ _, h5, h6, h7, h8, h9, h10.kept (fun _ _ _ _ _ => rfl), h11.kept (fun _ _ => rfl), h12⟩
theorem mc.rd' {M0 : mo_S} {C : Nat → Nat} {n : Nat} {M : mo_S} {p rd : Nat} {x : Fr} {R : List Fr} {S : List Nat} {I : List It} (h : mc M0 C n M p rd x R S I) (r : Nat) : mc M0 C n (mo_f M 24 (nI r)) p r x R S I := by
  obtain ⟨h1, h2, h3, h4, h5, h6, h7, h8, h9, h10, h11, h12⟩ := h
  exact ⟨h1.f (by decide), h2.f (by decide), h3, h4, mo_f_at _ _ _, h6, h7, h8, h9, h10.kept (fun _ _ _ _ _ => rfl), h11.kept (fun _ _ => rfl), h12⟩
theorem mc.push {M0 : mo_S} {C : Nat → Nat} {n : Nat} {M : mo_S} {p rd : Nat} {x : Fr} {R : List Fr} {S : List Nat} {I : List It} (h : mc M0 C n M p rd x R S I) (hS : S.length < 100) {c : Nat} (hc : c < 128) : mc M0 C n (p_MO_pushSign M (nI c)) p rd x R (c :: S) I := by
  obtain ⟨h1, h2, h3, h4, h5, h6, h7, h8, h9, h10, h11, h12⟩ := h
  have e : p_MO_pushSign M (nI c) = mo_f (mo_i M 28 S.length (nI c)) 29 (nI (S.length + 1)) := by
    unfold p_MO_pushSign
    rw [h8, nI_clamp (by omega)]
    show mo_f _ 29 (M.1 29 + 1) = _
    rw [h8, nI_1]
  rw [e]
  refine ⟨(h1.i (by omega)).f (by decide), (h2.i (by decide) (by decide)).f (by decide), h3, h4, h5, h6, h7, mo_f_at _ _ _, h9, ?_, ⟨⟨?_, hc⟩, ?_⟩, ?_⟩
  · refine h10.kept fun j k a b _ => ?_
    show (mo_i M 28 S.length (nI c)).2.1 j k = _
    rw [mo_i_at, if_neg (by omega)]
  · show (mo_i M 28 S.length (nI c)).2.1 28 S.length = _
    rw [mo_i_at, if_pos ⟨rfl, rfl⟩]
  · refine h11.kept fun k hk => ?_
    show (mo_i M 28 S.length (nI c)).2.1 28 k = _
    rw [mo_i_at, if_neg (by omega)]
  · intro k y hy
    refine (h12 k y hy).kept (fun j a b => ?_) rfl
    show (mo_i M 28 S.length (nI c)).2.1 j _ = _
    rw [mo_i_at, if_neg (by omega)]
/-- as M, but for what a new item at i says -/
def mc_new (M' M : mo_S) (i : Nat) : Prop := M'.1 = M.1 ∧ (∀ j k, ¬ (3 ≤ j ∧ j ≤ 5 ∧ k = i) → M'.2.1 j k = M.2.1 j k) ∧ (∀ j k, ¬ (j = 6 ∧ k = i) → M'.2.2.1 j k = M.2.2.1 j k) ∧ M'.2.2.2 = M.2.2.2
theorem mc_new.rf (M : mo_S) (i : Nat) : mc_new M M i := ⟨rfl, fun _ _ _ => rfl, fun _ _ _ => rfl, rfl⟩
theorem mc_new.i {M' M : mo_S} {i j : Nat} {a : Int32} (h : mc_new M' M i) (hj : 3 ≤ j ∧ j ≤ 5) : mc_new (mo_i M' j i a) M i := by
  refine ⟨h.1, fun j' k hk => ?_, h.2.2.1, h.2.2.2⟩
  rw [mo_i_at, if_neg (fun e => hk ⟨by omega, by omega, e.2⟩)]
  exact h.2.1 j' k hk
theorem mc_new.l {M' M : mo_S} {i : Nat} {a : Int64} (h : mc_new M' M i) : mc_new (mo_l M' 6 i a) M i := by
  refine ⟨h.1, h.2.1, fun j' k hk => ?_, h.2.2.2⟩
  rw [mo_l_at, if_neg (fun e => hk e)]
  exact h.2.2.1 j' k hk
theorem mc_idx {M : mo_S} {k : Nat} (h : M.1 30 = nI k) (hk : k < 1000) : Int32.toNatClampNeg (3200 + M.1 30) = 3200 + k := by
  rw [h, show (3200 : Int32) = nI 3200 from rfl, nI_add, nI_clamp (by omega)]
theorem mc.add {M0 : mo_S} {C : Nat → Nat} {n : Nat} {M : mo_S} {p rd : Nat} {x : Fr} {R : List Fr} {S : List Nat} {I : List It} (h : mc M0 C n M p rd x R S I) (hI : I.length < 1000) {M' : mo_S} (hn : mc_new M' M (3200 + I.length)) {y : It} (hy : mi (mo_i M' 3 (3200 + I.length) y.1) (3200 + I.length) y) : mc M0 C n (p_MO_add M' y.1) p rd x R S (I ++ [y]) := by
  obtain ⟨h1, h2, h3, h4, h5, h6, h7, h8, h9, h10, h11, h12⟩ := h
  have h9' : M'.1 30 = nI I.length := by rw [hn.1]; exact h9
  have e : p_MO_add M' y.1 = mo_f (mo_i M' 3 (3200 + I.length) y.1) 30 (nI (I.length + 1)) := by
    unfold p_MO_add
    rw [mc_idx h9' hI]
    show mo_f _ 30 (M'.1 30 + 1) = _
    rw [h9', nI_1]
  rw [e]
  have hn2 := hn.i (j := 3) (a := y.1) (by decide)
  generalize mo_i M' 3 (3200 + I.length) y.1 = M2 at *
  have c1 : ∀ k, (mo_f M2 30 (nI (I.length + 1))).1 k = if k = 30 then nI (I.length + 1) else M.1 k := by
    intro k
    rw [mo_f_1, hn2.1]
  refine ⟨⟨?_, ?_, ?_, ?_⟩, ⟨?_, h2.2.1, ?_, h2.2.2.2.1, ?_⟩, h3, ?_, ?_, ?_, h7, ?_, ?_, ?_, ?_, ?_⟩
  · intro k hk
    rw [c1, if_neg (by omega)]
    exact h1.1 k hk
  · intro j k hk
    exact (hn2.2.1 j k (by omega)).trans (h1.2.1 j k hk)
  · intro j k hk
    exact (hn2.2.2.1 j k (by omega)).trans (h1.2.2.1 j k hk)
  · exact hn2.2.2.2.trans h1.2.2.2
  · rw [c1, if_neg (by decide)]; exact h2.1
  · intro i hi
    have := h2.2.2.1 i hi
    rw [← hn2.2.1 8 i (by omega)] at this
    exact this
  · intro j hj k hk
    have := h2.2.2.2.2 j hj k hk
    rw [← hn2.2.1 7 _ (by omega)] at this
    exact this
  · rw [c1, if_neg (by decide)]; exact h4
  · rw [c1, if_neg (by decide)]; exact h5
  · rw [c1, if_neg (by decide)]; exact h6
  · rw [c1, if_neg (by decide)]; exact h8
  · rw [c1, if_pos rfl, List.length_append]; rfl
  · exact h10.kept fun j k a b _ => hn2.2.1 j k (by omega)
  · exact h11.kept fun k _ => hn2.2.1 28 k (by omega)
  · intro k z hz
    by_cases hk : k < I.length
    · rw [List.getElem?_append_left hk] at hz
      exact (h12 k z hz).kept (fun j a b => hn2.2.1 j _ (by omega)) (hn2.2.2.1 6 _ (by omega))
    · have hk2 : k = I.length := by
        have := (List.getElem?_eq_some_iff.mp hz).1
        rw [List.length_append] at this
        simp at this
        omega
      subst hk2
      rw [List.getElem?_concat_length] at hz
      cases hz
      exact hy
theorem mc.addN {M0 : mo_S} {C : Nat → Nat} {n : Nat} {M : mo_S} {p rd : Nat} {x : Fr} {R : List Fr} {S : List Nat} {I : List It} (h : mc M0 C n M p rd x R S I) (hI : I.length < 1000) (b : Int32) (d : Int64) : mc M0 C n (pm_num M b d) p rd x R S (I ++ [(0, b, 0, d)]) := by
  unfold pm_num
  rw [mc_idx h.2.2.2.2.2.2.2.2.1 hI]
  refine h.add hI (y := (0, b, 0, d)) (((mc_new.rf M _).l).i (by decide)) ⟨?_, fun _ => ⟨?_, ?_⟩, fun z => absurd z (by show ¬ (0 : Int32) = 1; decide), fun z => absurd z (by show ¬ (2 : Int32) ≤ 0; decide)⟩
  · rw [mo_i_at, if_pos ⟨rfl, rfl⟩]
  · rw [mo_i_at, if_neg (by omega), mo_i_at, if_pos ⟨rfl, rfl⟩]
  · show (mo_l M 6 _ d).2.2.1 6 _ = d
    rw [mo_l_at, if_pos ⟨rfl, rfl⟩]
theorem mc.addR {M0 : mo_S} {C : Nat → Nat} {n : Nat} {M : mo_S} {p rd : Nat} {x : Fr} {R : List Fr} {S : List Nat} {I : List It} (h : mc M0 C n M p rd x R S I) (hI : I.length < 1000) (a : Int32) : mc M0 C n (p_MO_add (mo_i M 4 (3200 + I.length) a) 1) p rd x R S (I ++ [(1, a, 0, 0)]) := by
  refine h.add hI (y := (1, a, 0, 0)) ((mc_new.rf M _).i (by decide)) ⟨?_, fun z => absurd z (by show ¬ (1 : Int32) = 0; decide), fun _ => ?_, fun z => absurd z (by show ¬ (2 : Int32) ≤ 1; decide)⟩
  · rw [mo_i_at, if_pos ⟨rfl, rfl⟩]
  · rw [mo_i_at, if_neg (by omega), mo_i_at, if_pos ⟨rfl, rfl⟩]
theorem mc.addG {M0 : mo_S} {C : Nat → Nat} {n : Nat} {M : mo_S} {p rd : Nat} {x : Fr} {R : List Fr} {S : List Nat} {I : List It} (h : mc M0 C n M p rd x R S I) (hI : I.length < 1000) (w a b : Int32) (hw : 2 ≤ w) : mc M0 C n (p_MO_add (mo_i (mo_i M 4 (3200 + I.length) a) 5 (3200 + I.length) b) w) p rd x R S (I ++ [(w, a, b, 0)]) := by
  refine h.add hI (y := (w, a, b, 0)) (((mc_new.rf M _).i (by decide)).i (by decide)) ⟨?_, fun z => absurd hw (by rw [show w = 0 from z]; decide), fun z => absurd hw (by rw [show w = 1 from z]; decide), fun _ _ => ⟨?_, ?_⟩⟩
  · rw [mo_i_at, if_pos ⟨rfl, rfl⟩]
  · rw [mo_i_at, if_neg (by omega), mo_i_at, if_neg (by omega), mo_i_at, if_pos ⟨rfl, rfl⟩]
  · rw [mo_i_at, if_neg (by omega), mo_i_at, if_pos ⟨rfl, rfl⟩]
theorem mc.addS {M0 : mo_S} {C : Nat → Nat} {n : Nat} {M : mo_S} {p rd : Nat} {x : Fr} {R : List Fr} {S : List Nat} {I : List It} (h : mc M0 C n M p rd x R S I) (hI : I.length < 1000) (w : Int32) (hw : 6 < w) : mc M0 C n (p_MO_add M w) p rd x R S (I ++ [(w, 0, 0, 0)]) := by
  refine h.add hI (y := (w, 0, 0, 0)) (mc_new.rf M _) ⟨?_, fun z => absurd hw (by rw [show w = 0 from z]; decide), fun z => absurd hw (by rw [show w = 1 from z]; decide), fun _ z => absurd z (Int32.not_le.mpr hw)⟩
  rw [mo_i_at, if_pos ⟨rfl, rfl⟩]
theorem mc.single {M0 : mo_S} {C : Nat → Nat} {n : Nat} {M : mo_S} {p rd w g : Nat} {s : Bool} {R : List Fr} {S : List Nat} {I : List It} (h : mc M0 C n M p rd (w, g, s) R S I) (b : Bool) {v : Int32} (hv : v = if b then 1 else 0) : mc M0 C n (mo_i M 27 R.length v) p rd (w, g, b) R S I := by
  obtain ⟨h1, h2, h3, h4, h5, h6, h7, h8, h9, h10, h11, h12⟩ := h
  refine ⟨h1.i (by omega), h2.i (by decide) (by decide), h3, h4, h5, h6, h7, h8, h9, ⟨⟨?_, ?_, ?_⟩, ?_⟩, ?_, ?_⟩
  · rw [mo_i_at, if_neg (by omega)]; exact h10.1.1
  · rw [mo_i_at, if_neg (by omega)]; exact h10.1.2.1
  · rw [mo_i_at, if_pos ⟨rfl, rfl⟩]; exact hv
  · refine h10.2.kept fun j k a b hk => ?_
    rw [mo_i_at, if_neg (by omega)]
  · refine h11.kept fun k _ => ?_
    rw [mo_i_at, if_neg (by omega)]
  · intro k y hy
    refine (h12 k y hy).kept (fun j a b => ?_) rfl
    rw [mo_i_at, if_neg (by omega)]
theorem mc.arg {M0 : mo_S} {C : Nat → Nat} {n : Nat} {M : mo_S} {p rd w g : Nat} {s : Bool} {R : List Fr} {S : List Nat} {I : List It} (h : mc M0 C n M p rd (w, g, s) R S I) (b : Nat) : mc M0 C n (mo_i M 26 R.length (nI b)) p rd (w, b, s) R S I := by
  obtain ⟨h1, h2, h3, h4, h5, h6, h7, h8, h9, h10, h11, h12⟩ := h
  refine ⟨h1.i (by omega), h2.i (by decide) (by decide), h3, h4, h5, h6, h7, h8, h9, ⟨⟨?_, ?_, ?_⟩, ?_⟩, ?_, ?_⟩
  · rw [mo_i_at, if_neg (by omega)]; exact h10.1.1
  · rw [mo_i_at, if_pos ⟨rfl, rfl⟩]
  · rw [mo_i_at, if_neg (by omega)]; exact h10.1.2.2
  · refine h10.2.kept fun j k a b hk => ?_
    rw [mo_i_at, if_neg (by omega)]
  · refine h11.kept fun k _ => ?_
    rw [mo_i_at, if_neg (by omega)]
  · intro k y hy
    refine (h12 k y hy).kept (fun j a b => ?_) rfl
    rw [mo_i_at, if_neg (by omega)]
/-! The signs' strengths; what waits is settled. -/
def str (c : Nat) : Nat := if c = 33 then 2 else if c = 35 then 2 else if c = 38 then 1 else if c = 42 then 4 else if c = 43 then 3 else if c = 45 then 3 else if c = 47 then 4 else if c = 60 then 2 else if c = 61 then 2 else if c = 62 then 2 else if c = 124 then 1 else if c = 10 then 5 else 0
theorem str_ok : ∀ c, c < 128 → p_MO_strength (nI c) = nI (str c) := by decide +kernel
theorem str_le (c : Nat) : str c ≤ 5 := by
  unfold str
  repeat' split
  all_goals omega
theorem str_7 {c : Nat} (h : 0 < str c) : 7 < c := by
  unfold str at h
  repeat' split at h
  all_goals omega
/-- the signs that wait, as items; the last that came first -/
def sg_it (D : List Nat) : List It := D.map fun c => (nI c, 0, 0, 0)
/-- nothing of S has this strength at its top -/
def sg_stop (lev : Nat) : List Nat → Prop
  | [] => True
  | c :: _ => str c < lev
theorem mc.pop {M0 : mo_S} {C : Nat → Nat} {n : Nat} {M : mo_S} {p rd c : Nat} {x : Fr} {R : List Fr} {S : List Nat} {I : List It} (h : mc M0 C n M p rd x R (c :: S) I) : mc M0 C n (mo_f M 29 (nI S.length)) p rd x R S I := by
  obtain ⟨h1, h2, h3, h4, h5, h6, h7, h8, h9, h10, h11, h12⟩ := h
  exact ⟨h1.f (by decide), h2.f (by decide), h3, h4, h5, h6, h7, mo_f_at _ _ _, h9, h10.kept (fun _ _ _ _ _ => rfl), h11.2.kept (fun _ _ => rfl), h12⟩
theorem mc.settle {M0 : mo_S} {C : Nat → Nat} {n lev : Nat} (hl0 : 0 < lev) (hl : lev ≤ 5) {S : List Nat} (hs : sg_stop lev S) : ∀ (D : List Nat) (k : Nat) {M : mo_S} {p rd : Nat} {x : Fr} {R : List Fr} {I : List It}, mc M0 C n M p rd x R (D ++ S) I → (∀ d ∈ D, lev ≤ str d) → D.length < k → (D ++ S).length + I.length < 1000 → mc M0 C n (p_MO_settle_L0 k (nI lev) M) p rd x R S (I ++ sg_it D) := by
  intro D
  induction D with
  | nil =>
    intro k M p rd x R I h _ hk hb
    obtain ⟨k, rfl⟩ : ∃ m, k = m + 1 := ⟨k - 1, by simp at hk; omega⟩
    have e : p_MO_settle_L0 (k + 1) (nI lev) M = M := by
      rw [p_MO_settle_L0]
      have h8 := h.2.2.2.2.2.2.2.1
      cases S with
      | nil => rw [if_pos (by rw [h8]; decide)]
      | cons c S =>
        have hc := h.2.2.2.2.2.2.2.2.2.2.1.1
        rw [h8]
        simp only [List.nil_append, List.length_cons] at hb ⊢
        rw [if_neg (nI_nle (by omega) (by omega)), nI_pred, nI_clamp (by omega), hc.1, str_ok c hc.2, if_pos]
        have : str c < lev := hs
        exact nI_lt this (by omega)
    rw [e]
    show mc M0 C n M p rd x R S (I ++ [])
    rw [List.append_nil]
    exact h
  | cons d D ih =>
    intro k M p rd x R I h hd hk hb
    obtain ⟨k, rfl⟩ : ∃ m, k = m + 1 := ⟨k - 1, by simp at hk; omega⟩
    have h8 := h.2.2.2.2.2.2.2.1
    have hc : M.2.1 28 (D ++ S).length = nI d ∧ d < 128 := h.2.2.2.2.2.2.2.2.2.2.1.1
    simp only [List.cons_append, List.length_cons] at h8 hb hk
    have e : p_MO_settle_L0 (k + 1) (nI lev) M = p_MO_settle_L0 k (nI lev) (p_MO_add (mo_f M 29 (nI (D ++ S).length)) (nI d)) := by
      rw [p_MO_settle_L0, h8, if_neg (nI_nle (by omega) (by omega)), nI_pred, nI_clamp (by omega), hc.1, str_ok d hc.2, if_neg]
      · show p_MO_settle_L0 k (nI lev) (p_MO_add _ (M.2.1 28 _)) = _
        rw [hc.1]
      · have := hd d (by simp)
        have h5 := str_le d
        exact nI_nlt this (by omega)
    rw [e]
    have h6 : (6 : Int32) < nI d := nI_lt (a := 6) (by have := str_7 (c := d) (by have := hd d (by simp); omega); omega) (by omega)
    have := ih k (h.pop.addS (by omega) (nI d) h6) (fun z hz => hd z (by simp [hz])) (by omega) (by rw [List.length_append]; simp; simp at hb; omega)
    rw [List.append_assoc] at this
    exact this
