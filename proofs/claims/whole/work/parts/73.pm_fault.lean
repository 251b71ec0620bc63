/-! Pure: the reference's reading of signs, and of the whole line. -/
theorem PR.sub {M0 : mo_S} {C : Nat → Nat} {n lev lev2 lf : Nat} {M : mo_S} {p w g : Nat} {s : Bool} {R : List Fr} {S : List Nat} {I : List It} {r : ps_R (List It)} (h : PR M0 C n lev lf M p w g s R S I r) (hl : lev2 ≤ lev) : PR M0 C n lev2 lf M p w g s R S I r := by
  refine ⟨h.1, fun L e => ?_⟩
  rcases h.2 L e with a | ⟨k, M', D, I', s', e1, e2, e3, e4⟩
  · exact Or.inl a
  · exact Or.inr ⟨k, M', D, I', s', fun z => e1 (by omega), e2, fun d hd => Nat.le_trans hl (e3 d hd), e4⟩
/-- another part behind a sign c that was pushed -/
theorem PR.go {M0 : mo_S} {C : Nat → Nat} {n lev lf lev2 : Nat} {M M1 : mo_S} {p p1 k1 w g c : Nat} {s s1 : Bool} {R : List Fr} {S : List Nat} {I L : List It} {r : ps_R (List It)} (t : mto k1 M M1) (hk : k1 + p ≤ p1) (h : PR M0 C n lev2 lf M1 p1 w g s1 R (c :: S) (I ++ L) r) (hl : lev ≤ lev2) (hc : lev ≤ str c) (hs : 3 ≤ lev → s1 = s) : PR M0 C n lev lf M p w g s R S I (ps_then r fun L2 q2 => (some (L ++ L2 ++ [(nI c, 0, 0, 0)]), q2)) := by
  obtain ⟨o, q⟩ := r
  cases o with
  | none => exact ⟨fun _ => mbad.pre t hk (h.1 rfl), fun L e => by cases e⟩
  | some L2 =>
    refine ⟨fun z => (by cases z), fun L' e => ?_⟩
    cases e
    rcases h.2 L2 rfl with ⟨a, b⟩ | ⟨k, M', D, I', s', e1, e2, e3, e4, e5, e6, e7, e8⟩
    · exact Or.inl ⟨a, mbad.pre t hk b⟩
    · have e6' : k + p1 ≤ q := e6
      refine Or.inr ⟨k + k1, M', D ++ [c], I', s', fun z => (e1 (by omega)).trans (hs z), ?_, ?_, e4, t.trans e5, ?_, ?_, ?_⟩
      · rw [sg_it_app, ← List.append_assoc, e2]
        simp only [List.append_assoc]
      · intro d hd
        rcases List.mem_append.mp hd with z | z
        · exact Nat.le_trans hl (e3 d z)
        · cases List.mem_singleton.mp z
          exact hc
      · show k + k1 + p ≤ q
        omega
      · rw [List.append_assoc]
        exact e7
      · rw [List.append_assoc]
        exact e8
theorem pr_signed {M0 : mo_S} {C : Nat → Nat} {n m : Nat} (h0 : ∀ q, n ≤ q → C q = 0) (IH : PL M0 C n m) {M : mo_S} {p rd w g : Nat} {s : Bool} {R : List Fr} {S : List Nat} {I : List It} (h : mc M0 C n M p rd (w, g, s) R S I) (hSI : S.length + I.length ≤ p) (hr : rd < 2) (h33 : rd = 0 → C p ≠ 33) (hm : 6 ≤ R.length + m) : PR M0 C n 5 5 M p w g s R S I (ps_signed (ps_logic C m) C R.length p) := by
  unfold ps_signed
  by_cases h45 : C p = 45
  · rw [if_pos h45]
    have hp : p < n := ps_lt_of h0 (by omega)
    obtain ⟨M1, e1, e2⟩ := st_neg h hr hp hSI h45
    have a := pr_part h0 IH e2 (by simp only [List.length_cons]; omega) (by omega) (fun z => by omega) (fun z => absurd rfl z) hm
    have a' : PR M0 C n 5 5 M1 (p + 1) w g s R (10 :: S) (I ++ []) (ps_part (ps_logic C m) C R.length (p + 1)) := by rw [List.append_nil]; exact a
    exact PR.go (lev := 5) (L := []) (mto.one h hp e1) (by omega) a' (Nat.le_refl _) (by decide) (fun _ => rfl)
  · rw [if_neg h45]
    exact pr_part h0 IH h hSI (by omega) h33 (fun _ => h45) hm
theorem pr_loop {M0 : mo_S} {C : Nat → Nat} {n lev s1 s2 : Nat} (h0 : ∀ q, n ≤ q → C q = 0) (hn : n ≤ 40) (hl : lev = 1 ∨ lev = 3 ∨ lev = 4) (hch : ∀ c, str c = lev ↔ c = s1 ∨ c = s2) (hz : s1 ≠ 33 ∧ s2 ≠ 33 ∧ s1 ≠ 10 ∧ s2 ≠ 10 ∧ s1 ≠ 0 ∧ s2 ≠ 0 ∧ ¬ dgt s1 ∧ ¬ dgt s2) {X : Nat → ps_R (List It)} (hge : ∀ q, ps_ge q (X q)) {M : mo_S} {p w g : Nat} {s : Bool} {R : List Fr} {S : List Nat} {I : List It} (hS : sg_stop lev S) (hX : ∀ (M1 : mo_S) (q c : Nat) (s' : Bool) (I1 : List It), str c = lev → (3 ≤ lev → s' = s) → (lev = 1 → s' = false) → mc M0 C n M1 q (if lev = 1 then 0 else 1) (w, g, s') R (c :: S) I1 → (c :: S).length + I1.length ≤ q → PR M0 C n (lev + 1) (lev + 1) M1 q w g s' R (c :: S) I1 (X q)) : ∀ (k : Nat) (r : ps_R (List It)), (∀ L, r.1 = some L → 40 < k + r.2) → PR M0 C n lev (lev + 1) M p w g s R S I r → PR M0 C n lev lev M p w g s R S I (ps_loop X C s1 s2 k r) := by
  intro k
  induction k with
  | zero =>
    intro r hk h
    rw [ps_loop]
    refine ⟨h.1, fun L e => ?_⟩
    have := hk L e
    rcases h.2 L e with ⟨a, b⟩ | ⟨k, M', D, I', s', e1, e2, e3, e4, e5, e6, e7, e8⟩
    · have : r.2 < n := ps_lt_of h0 (by have := a.1; omega)
      omega
    · have := e7.2.2.1
      omega
  | succ k ih =>
    intro r hk h
    obtain ⟨o, q⟩ := r
    rw [ps_loop]
    cases o with
    | none => exact ⟨fun _ => h.1 rfl, fun L e => by cases e⟩
    | some L =>
      have hk' : 40 < k + 1 + q := hk L rfl
      show PR M0 C n lev lev M p w g s R S I (if C q = s1 ∨ C q = s2 then _ else _)
      rcases h.2 L rfl with ⟨a, b⟩ | ⟨k2, M', D, I', s', e1, e2, e3, e4, e5, e6, e7, e8⟩
      · rw [if_neg (fun z => by
          rcases z with z | z
          · exact hz.2.2.2.2.2.2.1 (z ▸ a)
          · exact hz.2.2.2.2.2.2.2 (z ▸ a))]
        exact ⟨fun z => (by cases z), fun L' e => Or.inl ⟨a, b⟩⟩
      · have e6' : k2 + p ≤ q := e6
        have e8' : (D ++ S).length + I'.length ≤ q := e8
        by_cases hc : C q = s1 ∨ C q = s2
        · rw [if_pos hc]
          have hq : q < n := ps_lt_of h0 (by
            rcases hc with z | z
            · rw [z]; exact hz.2.2.2.2.1
            · rw [z]; exact hz.2.2.2.2.2.1)
          have hstr : str (C q) = lev := (hch _).mpr hc
          have n33 : C q ≠ 33 := by
            rcases hc with z | z
            · rw [z]; exact hz.1
            · rw [z]; exact hz.2.1
          have n10 : C q ≠ 10 := by
            rcases hc with z | z
            · rw [z]; exact hz.2.2.1
            · rw [z]; exact hz.2.2.2.1
          obtain ⟨M2, f1, f2⟩ := st_op e7 hq e8 hstr (by omega) n33 n10 (fun z => by omega) e3 hS
          rw [e2] at f2
          have hlen : (C q :: S).length + (I ++ L).length ≤ q + 1 := by
            rw [← e2]
            simp only [List.length_append, List.length_cons, sg_it_len] at e8' ⊢
            omega
          have a := hX M2 (q + 1) (C q) _ (I ++ L) hstr (fun z => by
            rw [if_neg (by omega)]
            exact e1 z) (fun z => by rw [z]; rfl) f2 hlen
          have e7' : mc M0 C n M' q 3 (w, g, s') R (D ++ S) I' := e7
          have t : mto (1 + k2) M M2 := e5.trans (mto.one e7' hq f1)
          have b := PR.go (lev := lev) (s := s) (p := p) (p1 := q + 1) t (by omega) a (Nat.le_succ lev) (Nat.le_of_eq hstr.symm) (fun z => by
            rw [if_neg (by omega)]
            exact e1 z)
          refine ih _ ?_ b
          intro L' e'
          have hg := hge (q + 1)
          generalize X (q + 1) = x at *
          obtain ⟨o2, q2⟩ := x
          cases o2 with
          | none => cases e'
          | some L2 =>
            have : q + 1 ≤ q2 := hg.1
            show 40 < k + q2
            omega
        · rw [if_neg hc]
          refine ⟨fun z => (by cases z), fun L' e => ?_⟩
          cases e
          refine Or.inr ⟨k2, M', D, I', s', e1, e2, e3, ?_, e5, e6, e7, e8⟩
          rcases e4 with z | z | z | z
          · exact Or.inl z
          · exact Or.inr (Or.inl z)
          · refine Or.inr (Or.inr (Or.inl ?_))
            have : str (C q) ≠ lev := fun y => hc ((hch _).mp y)
            show str (C q) < lev
            have z' : str (C q) < lev + 1 := z
            omega
          · exact Or.inr (Or.inr (Or.inr z))
theorem str_4 (c : Nat) : str c = 4 ↔ c = 42 ∨ c = 47 := by
  constructor
  · intro h
    unfold str at h
    repeat' split at h
    all_goals omega
  · intro h
    rcases h with rfl | rfl <;> decide
theorem str_3 (c : Nat) : str c = 3 ↔ c = 43 ∨ c = 45 := by
  constructor
  · intro h
    unfold str at h
    repeat' split at h
    all_goals omega
  · intro h
    rcases h with rfl | rfl <;> decide
theorem str_1 (c : Nat) : str c = 1 ↔ c = 38 ∨ c = 124 := by
  constructor
  · intro h
    unfold str at h
    repeat' split at h
    all_goals omega
  · intro h
    rcases h with rfl | rfl <;> decide
theorem str_2 (c : Nat) : str c = 2 ↔ c = 33 ∨ ((c = 61 ∨ c = 35) ∨ (c = 60 ∨ c = 62)) := by
  constructor
  · intro h
    unfold str at h
    repeat' split at h
    all_goals omega
  · intro h
    rcases h with rfl | (rfl | rfl) | (rfl | rfl) <;> decide
theorem pr_product {M0 : mo_S} {C : Nat → Nat} {n m : Nat} (h0 : ∀ q, n ≤ q → C q = 0) (IH : PL M0 C n m) {M : mo_S} {p rd w g : Nat} {s : Bool} {R : List Fr} {S : List Nat} {I : List It} (h : mc M0 C n M p rd (w, g, s) R S I) (hSI : S.length + I.length ≤ p) (hr : rd < 2) (h33 : rd = 0 → C p ≠ 33) (hm : 6 ≤ R.length + m) (hS : sg_stop 4 S) : PR M0 C n 4 4 M p w g s R S I (ps_product (ps_logic C m) C R.length p) := by
  have hge : ∀ q, ps_ge q (ps_signed (ps_logic C m) C R.length q) := fun q => ps_signed_ge (fun o q => ps_logic_ge m o q)
  refine pr_loop h0 h.2.1.2.1 (by omega) str_4 (by unfold dgt; omega) hge hS ?_ 40 _ ?_ ((pr_signed h0 IH h hSI hr h33 hm).sub (by omega))
  · intro M1 q c s' I1 _ _ _ z1 z2
    exact pr_signed h0 IH z1 z2 (by decide) (fun z => absurd z (by decide)) hm
  · intro L e
    have := (hge p).2 (by rw [e]; exact fun z => by cases z)
    omega
theorem pr_terms {M0 : mo_S} {C : Nat → Nat} {n m : Nat} (h0 : ∀ q, n ≤ q → C q = 0) (IH : PL M0 C n m) {M : mo_S} {p rd w g : Nat} {s : Bool} {R : List Fr} {S : List Nat} {I : List It} (h : mc M0 C n M p rd (w, g, s) R S I) (hSI : S.length + I.length ≤ p) (hr : rd < 2) (h33 : rd = 0 → C p ≠ 33) (hm : 6 ≤ R.length + m) (hS : sg_stop 3 S) : PR M0 C n 3 3 M p w g s R S I (ps_terms (ps_logic C m) C R.length p) := by
  have hge : ∀ q, ps_ge q (ps_product (ps_logic C m) C R.length q) := fun q => ps_product_ge (fun o q => ps_logic_ge m o q)
  refine pr_loop h0 h.2.1.2.1 (by omega) str_3 (by unfold dgt; omega) hge hS ?_ 40 _ ?_ ((pr_product h0 IH h hSI hr h33 hm (hS.mono (by omega))).sub (by omega))
  · intro M1 q c s' I1 hc _ _ z1 z2
    exact pr_product h0 IH z1 z2 (by decide) (fun z => absurd z (by decide)) hm (show str c < 4 by omega)
  · intro L e
    have := (hge p).2 (by rw [e]; exact fun z => by cases z)
    omega
theorem PR.fol2 {M0 : mo_S} {C : Nat → Nat} {n : Nat} {M : mo_S} {p w g : Nat} {R : List Fr} {S : List Nat} {I : List It} {r : ps_R (List It)} (h : PR M0 C n 3 3 M p w g true R S I r) : PR M0 C n 3 2 M p w g true R S I r := by
  refine ⟨h.1, fun L e => ?_⟩
  rcases h.2 L e with a | ⟨k, M', D, I', s', e1, e2, e3, e4, e5⟩
  · exact Or.inl a
  · refine Or.inr ⟨k, M', D, I', s', e1, e2, e3, ?_, e5⟩
    have es := e1 (by omega)
    rcases e4 with z | z | z | z
    · exact Or.inl z
    · exact Or.inr (Or.inl z)
    · by_cases h2 : str (C r.2) = 2
      · exact Or.inr (Or.inr (Or.inr ⟨h2, es⟩))
      · exact Or.inr (Or.inr (Or.inl (by omega)))
    · exact Or.inr (Or.inr (Or.inr z))
theorem PR.fl {M0 : mo_S} {C : Nat → Nat} {n lf : Nat} {M : mo_S} {p w g : Nat} {s s2 : Bool} {R : List Fr} {S : List Nat} {I : List It} {r : ps_R (List It)} (h : PR M0 C n 2 lf M p w g s R S I r) : PR M0 C n 2 lf M p w g s2 R S I r := by
  refine ⟨h.1, fun L e => ?_⟩
  rcases h.2 L e with a | ⟨k, M', D, I', s', e1, e2⟩
  · exact Or.inl a
  · exact Or.inr ⟨k, M', D, I', s', fun z => by omega, e2⟩
theorem pr_cmp {M0 : mo_S} {C : Nat → Nat} {n m : Nat} (h0 : ∀ q, n ≤ q → C q = 0) (IH : PL M0 C n m) {M : mo_S} {p w g : Nat} {R : List Fr} {S : List Nat} {I : List It} (h : mc M0 C n M p 0 (w, g, false) R S I) (hSI : S.length + I.length ≤ p) (hm : 6 ≤ R.length + m) (hS : sg_stop 2 S) : PR M0 C n 2 2 M p w g false R S I (ps_cmp (ps_logic C m) C R.length p) := by
  unfold ps_cmp
  by_cases h33 : C p = 33
  · rw [if_pos h33]
    have hp : p < n := ps_lt_of h0 (by omega)
    obtain ⟨M1, e1, e2⟩ := st_not h hp hSI h33
    have a := (pr_terms h0 IH e2 (by simp only [List.length_cons]; omega) (by omega) (fun z => by omega) hm (show str 33 < 3 by decide)).fol2
    have a' : PR M0 C n 3 2 M1 (p + 1) w g true R (33 :: S) (I ++ []) (ps_terms (ps_logic C m) C R.length (p + 1)) := by rw [List.append_nil]; exact a
    exact (PR.go (lev := 2) (s := true) (L := []) (mto.one h hp e1) (by omega) a' (by omega) (by decide) (fun _ => rfl)).fl
  · rw [if_neg h33]
    have a := pr_terms h0 IH h hSI (by omega) (fun _ => h33) hm (hS.mono (by omega))
    generalize ps_terms (ps_logic C m) C R.length p = r at *
    obtain ⟨o, q⟩ := r
    cases o with
    | none => exact ⟨fun _ => a.1 rfl, fun L e => by cases e⟩
    | some L =>
      show PR M0 C n 2 2 M p w g false R S I (if (C q = 61 ∨ C q = 35) ∨ (C q = 60 ∨ C q = 62) then _ else _)
      rcases a.2 L rfl with ⟨b, c⟩ | ⟨k2, M', D, I', s', e1, e2, e3, e4, e5, e6, e7, e8⟩
      · have b1 : 48 ≤ C q := b.1
        have b2 : C q ≤ 57 := b.2
        rw [if_neg (by omega)]
        exact ⟨fun z => (by cases z), fun L' e => Or.inl ⟨b, c⟩⟩
      · have es : s' = false := e1 (by omega)
        subst es
        have e6' : k2 + p ≤ q := e6
        have e8' : (D ++ S).length + I'.length ≤ q := e8
        by_cases hc : (C q = 61 ∨ C q = 35) ∨ (C q = 60 ∨ C q = 62)
        · rw [if_pos hc]
          have hq : q < n := ps_lt_of h0 (by omega)
          have hstr : str (C q) = 2 := (str_2 _).mpr (Or.inr hc)
          have e7' : mc M0 C n M' q 3 (w, g, false) R (D ++ S) I' := e7
          obtain ⟨M2, f1, f2⟩ := st_op e7' hq e8' hstr (by omega) (by omega) (by omega) (fun _ => rfl) (fun d hd => by have := e3 d hd; omega) hS
          rw [e2] at f2
          have hlen : (C q :: S).length + (I ++ L).length ≤ q + 1 := by
            rw [← e2]
            simp only [List.length_append, List.length_cons, sg_it_len] at e8' ⊢
            omega
          have b := (pr_terms h0 IH (s := true) f2 hlen (by decide) (fun z => absurd z (by decide)) hm (show str (C q) < 3 by omega)).fol2
          exact (PR.go (lev := 2) (s := true) (p1 := q + 1) (e5.trans (mto.one e7' hq f1)) (by omega) b (by omega) (by rw [hstr]; omega) (fun _ => rfl)).fl
        · rw [if_neg hc]
          refine ⟨fun z => (by cases z), fun L' e => ?_⟩
          cases e
          refine Or.inr ⟨k2, M', D, I', false, fun _ => rfl, e2, fun d hd => by have := e3 d hd; omega, ?_, e5, e6, e7, e8⟩
          rcases e4 with z | z | z | z
          · exact Or.inl z
          · exact Or.inr (Or.inl z)
          · by_cases h2 : str (C q) = 2
            · rcases (str_2 _).mp h2 with y | y
              · exact Or.inr (Or.inl y)
              · exact absurd y hc
            · have z' : str (C q) < 3 := z
              exact Or.inr (Or.inr (Or.inl (by show str (C q) < 2; omega)))
          · exact Or.inr (Or.inr (Or.inr z))
theorem pr_logic {M0 : mo_S} {C : Nat → Nat} {n : Nat} (h0 : ∀ q, n ≤ q → C q = 0) : ∀ m, PL M0 C n m := by
  intro m
  induction m with
  | zero =>
    intro M p w g R S I h _ hm _
    have := h.2.2.2.2.2.2.1
    omega
  | succ m IH =>
    intro M p w g R S I h hSI hm hS
    have hge : ∀ q, ps_ge q (ps_cmp (ps_logic C m) C R.length q) := fun q => ps_cmp_ge (fun o q => ps_logic_ge m o q)
    refine pr_loop h0 h.2.1.2.1 (by omega) str_1 (by unfold dgt; omega) hge hS ?_ 40 _ ?_ ((pr_cmp h0 IH h hSI (by omega) (hS.mono (by omega))).sub (by omega))
    · intro M1 q c s' I1 hc _ hs z1 z2
      have es := hs rfl
      subst es
      exact pr_cmp h0 IH z1 z2 (by omega) (show str c < 2 by omega)
    · intro L e
      have := (hge p).2 (by rw [e]; exact fun z => by cases z)
      omega
theorem nI_ex (x : Int32) : ∃ g, x = nI g := ⟨x.toBitVec.toNat, by
  apply Int32.toBitVec_inj.mp
  simp [nI]⟩
theorem sg_split : ∀ S : List Nat, ∃ D S', S = D ++ S' ∧ (∀ d ∈ D, 1 ≤ str d) ∧ sg_stop 1 S' := by
  intro S
  induction S with
  | nil => exact ⟨[], [], rfl, fun d hd => (by cases hd), trivial⟩
  | cons c S ih =>
    by_cases hc : str c < 1
    · exact ⟨[], c :: S, rfl, fun d hd => (by cases hd), hc⟩
    · obtain ⟨D, S', e1, e2, e3⟩ := ih
      refine ⟨c :: D, S', by rw [e1]; rfl, fun d hd => ?_, e3⟩
      rcases List.mem_cons.mp hd with z | z
      · rw [z]; omega
      · exact e2 d z
/-- the reading's end -/
noncomputable def pm_fin (M : mo_S) : Option (Int32 × mo_S) := fs_okp ((0 ≤ (Int32.toInt (M.1 30))) ∧ (0 ≤ (Int32.toInt (M.1 29))) ∧ ((Int32.toInt (M.1 30)) + (Int32.toInt (M.1 29)) ≤ 40)) (fs_let (p_MO_settle M 1) (fun R676 => (if (R676.1 23) = 0 then (if (R676.1 24) = 3 then some ((-1), R676) else some (R676.1 9, R676)) else some (R676.1 9, R676))))
theorem pm_fin_bad {M0 : mo_S} {C : Nat → Nat} {n : Nat} {M : mo_S} {rd : Nat} {x : Fr} {R : List Fr} {S : List Nat} {I : List It} (h : mc M0 C n M n rd x R S I) (hr : rd < 4) (hSI : S.length + I.length ≤ n) (hne : ¬ (R.length = 0 ∧ rd = 3)) : ∃ M', pm_fin M = some (nI n, M') ∧ mm_F M0 M' := by
  have h40 := h.2.1.2.1
  obtain ⟨i1, i2, i3, i4, i5, i6, i7, i8⟩ := h.ints (by omega)
  obtain ⟨D, S', e1, e2, e3⟩ := sg_split S
  have hl : (D ++ S').length + I.length ≤ n := by rw [← e1]; exact hSI
  have h' : mc M0 C n M n rd x R (D ++ S') I := by rw [← e1]; exact h
  have hX := mc.settle (by omega) (by omega) e3 D 45 h' e2 (by rw [List.length_append] at hl; omega) (by omega)
  refine ⟨p_MO_settle M 1, ?_, hX.1⟩
  unfold pm_fin
  rw [fs_okp_pos ⟨by omega, by omega, by omega⟩]
  unfold fs_let
  dsimp only
  have x23 : (p_MO_settle M 1).1 23 = nI R.length := hX.2.2.2.2.2.1
  have x24 : (p_MO_settle M 1).1 24 = nI rd := hX.2.2.2.2.1
  have x9 : (p_MO_settle M 1).1 9 = nI n := hX.2.1.1
  rw [x23, x24, x9]
  by_cases hR : R.length = 0
  · rw [if_pos (by rw [hR]; rfl), if_neg (show ¬ nI rd = 3 from fun z => hne ⟨hR, (nI_eq (b := 3) (by omega) (by omega)).mp z⟩)]
  · rw [if_neg (nI_ne0 (by omega) (by omega))]
theorem pm_fin_ok {M0 : mo_S} {C : Nat → Nat} {n : Nat} {M : mo_S} {x : Fr} {D : List Nat} {I : List It} (h : mc M0 C n M n 3 x [] (D ++ []) I) (hSI : (D ++ []).length + I.length ≤ n) (hD : ∀ d ∈ D, 1 ≤ str d) : ∃ M', pm_fin M = some (-1, M') ∧ mc M0 C n M' n 3 x [] [] (I ++ sg_it D) := by
  have h40 := h.2.1.2.1
  obtain ⟨i1, i2, i3, i4, i5, i6, i7, i8⟩ := h.ints (by omega)
  have hX := mc.settle (by omega) (by omega) (show sg_stop 1 [] from trivial) D 45 h hD (by rw [List.length_append] at hSI; omega) (by omega)
  refine ⟨p_MO_settle M 1, ?_, hX⟩
  unfold pm_fin
  rw [fs_okp_pos ⟨by omega, by omega, by omega⟩]
  unfold fs_let
  dsimp only
  have x23 : (p_MO_settle M 1).1 23 = 0 := hX.2.2.2.2.2.1
  have x24 : (p_MO_settle M 1).1 24 = 3 := hX.2.2.2.2.1
  rw [if_pos x23, if_pos x24]
def pm_rs (r : ps_R (List It)) : Int32 := match r.1 with | none => nI r.2 | some _ => -1
/-- what the reference's reading of a line says: -1 and the items, or the place of its fault -/
theorem pm_fault {M : mo_S} {C : Nat → Nat} {n : Nat} (h : pm_L M C n) : ∃ M', q_MO_fault M = some (pm_rs (ps_read C n), M') ∧ mm_F M M' ∧ ∀ L, (ps_read C n).1 = some L → M'.1 30 = nI L.length ∧ L.length ≤ 40 ∧ ∀ k y, L[k]? = some y → mi M' (3200 + k) y := by
  have h0 := h.2.2.2.1
  have h40 := h.2.1
  have hin := ps_logic_le h0 8 0 0 (Nat.zero_le n)
  obtain ⟨g, hg⟩ := nI_ex (M.2.1 26 0)
  have e0 : q_MO_fault M = Option.bind (q_MO_fault_L39 41 (mo_i (mo_i (mo_f (mo_f (mo_f (mo_f (mo_f M 29 0) 30 0) 24 0) 23 0) 22 0) 25 0 0) 27 0 0)) (fun R674 => Sum.elim (fun v_ => some v_) pm_fin R674) := by
    unfold q_MO_fault
    have hv : vp_in 0 8 := nI_in (c := 0) (by omega) (by omega)
    rw [fs_okp_pos hv, fs_okp_pos hv, nar_0]
    rfl
  have hMs : mc M C n (mo_i (mo_i (mo_f (mo_f (mo_f (mo_f (mo_f M 29 0) 30 0) 24 0) 23 0) 22 0) 25 0 0) 27 0 0) 0 0 (0, g, false) [] [] [] := by
    refine ⟨(((((((mm_F.rf M).f (by decide)).f (by decide)).f (by decide)).f (by decide)).f (by decide)).i (by decide)).i (by decide), (((((((h.f (by decide)).f (by decide)).f (by decide)).f (by decide)).f (by decide)).i (by decide) (by decide)).i (by decide) (by decide)), Nat.zero_le n, rfl, rfl, rfl, by decide, rfl, rfl, ⟨⟨?_, ?_, ?_⟩, trivial⟩, trivial, fun k y hy => by cases hy⟩
    · rw [mo_i_at, if_neg (by decide), mo_i_at, if_pos ⟨rfl, rfl⟩]; rfl
    · rw [mo_i_at, if_neg (by decide), mo_i_at, if_neg (by decide)]; exact hg
    · rw [mo_i_at, if_pos ⟨rfl, rfl⟩]; rfl
  generalize (mo_i (mo_i (mo_f (mo_f (mo_f (mo_f (mo_f M 29 0) 30 0) 24 0) 23 0) 22 0) 25 0 0) 27 0 0) = Ms at *
  have hP := pr_logic h0 8 Ms 0 0 g [] [] [] hMs (Nat.le_refl _) (by decide) trivial
  have hbad : ∀ q, mbad M C n 0 Ms q → ∃ M', q_MO_fault M = some (nI q, M') ∧ mm_F M M' := by
    intro q ⟨k, hk, hb⟩
    rcases hb with ⟨M2, b1, b2⟩ | ⟨b1, b2, M2, rd, x, R, S, I, b3, b4, b5, b6, b7⟩
    · refine ⟨M2, ?_, b2⟩
      have := b1 (41 - k)
      rw [show 41 - k + k = 41 by omega] at this
      rw [e0, this]
      rfl
    · have t := b3 (40 - k + 1)
      have t2 : q_MO_fault_L39 (40 - k + 1) M2 = some (.inr M2) := by
        rw [q_MO_fault_L39, if_pos (by rw [b4.2.1.1, b4.2.2.2.1]; exact nI_le (Nat.le_refl _) (by omega))]
      rw [show 40 - k + 1 + k = 41 by omega, t2] at t
      obtain ⟨M', c1, c2⟩ := pm_fin_bad b4 b6 b5 b7
      refine ⟨M', ?_, c2⟩
      rw [e0, t, b1]
      exact c1
  have hP' : PR M C n 1 1 Ms 0 0 g false [] [] [] (ps_logic C 8 0 0) := hP
  unfold ps_read
  generalize ps_logic C 8 0 0 = r at *
  obtain ⟨o, q⟩ := r
  cases o with
  | none =>
    obtain ⟨M', c1, c2⟩ := hbad q (hP'.1 rfl)
    exact ⟨M', c1, c2, fun L e => by cases e⟩
  | some L =>
    have er : (ps_then ((some L, q) : ps_R (List It)) fun L q => if q = n then (some L, q) else (none, q)) = if q = n then (some L, q) else (none, q) := rfl
    rw [er]
    rcases hP'.2 L rfl with ⟨a, b⟩ | ⟨k, M', D, I', s', e1, e2, e3, e4, e5, e6, e7, e8⟩
    · have hq : q < n := ps_lt_of h0 (by have : 48 ≤ C q := a.1; omega)
      rw [if_neg (by omega)]
      obtain ⟨M', c1, c2⟩ := hbad q b
      exact ⟨M', c1, c2, fun L e => by cases e⟩
    · have e6' : k + 0 ≤ q := e6
      have e7' : mc M C n M' q 3 (0, g, s') [] (D ++ []) I' := e7
      have e8' : (D ++ []).length + I'.length ≤ q := e8
      by_cases hq : q = n
      · subst hq
        rw [if_pos rfl]
        have t := e5 (40 - k + 1)
        have t2 : q_MO_fault_L39 (40 - k + 1) M' = some (.inr M') := by
          rw [q_MO_fault_L39, if_pos (by rw [e7'.2.1.1, e7'.2.2.2.1]; exact nI_le (Nat.le_refl _) (by omega))]
        rw [show 40 - k + 1 + k = 41 by omega, t2] at t
        obtain ⟨M2, c1, c2⟩ := pm_fin_ok e7' e8' e3
        rw [e2] at c2
        refine ⟨M2, ?_, c2.1, fun L' eL => ?_⟩
        · rw [e0, t]
          exact c1
        · cases eL
          refine ⟨c2.2.2.2.2.2.2.2.2.1, ?_, c2.2.2.2.2.2.2.2.2.2.2.2⟩
          have : ([] ++ L).length = (I' ++ sg_it D).length := by rw [e2]
          simp only [List.length_append, List.length_nil, sg_it_len] at this e8'
          omega
      · rw [if_neg hq]
        have hqn : q < n := by omega
        have hst : mbad M C n q M' q := by
          by_cases c1 : C q = 41
          · exact mbad.one e7' hqn (st_closebad e7' hqn e8' (by omega) c1 (Or.inl rfl)) e7'.2.2.2.1 e7'.1
          · by_cases c2 : C q = 44
            · exact mbad.one e7' hqn (st_commabad e7' hqn e8' (by omega) c2 (Or.inl rfl)) e7'.2.2.2.1 e7'.1
            · refine mbad.one e7' hqn (st_opbad e7' hqn e8' c1 c2 ?_) e7'.2.2.2.1 e7'.1
              rcases e4 with z | z | z | z
              · exact Or.inr (Or.inl z)
              · exact Or.inr (Or.inr (Or.inl z))
              · have z' : str (C q) < 1 := z
                exact Or.inl (by omega)
              · exact Or.inr (Or.inr (Or.inr z))
        obtain ⟨M3, c1, c2⟩ := hbad q (mbad.pre e5 e6' hst)
        exact ⟨M3, c1, c2, fun L e => by cases e⟩
