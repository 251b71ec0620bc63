/-! Pure: the reference's reading goes by the same rules. -/
def mto (k : Nat) (M M' : mo_S) : Prop := ∀ f, q_MO_fault_L39 (f + k) M = q_MO_fault_L39 f M'
theorem mto.rf (M : mo_S) : mto 0 M M := fun _ => rfl
theorem mto.trans {k1 k2 : Nat} {M M1 M2 : mo_S} (a : mto k1 M M1) (b : mto k2 M1 M2) : mto (k2 + k1) M M2 := fun f => by
  rw [← Nat.add_assoc, a, b]
theorem mc.nend {M0 : mo_S} {C : Nat → Nat} {n : Nat} {M : mo_S} {p rd : Nat} {x : Fr} {R : List Fr} {S : List Nat} {I : List It} (h : mc M0 C n M p rd x R S I) (hp : p < n) : ¬ M.1 9 ≤ M.1 22 := by
  have := h.2.1.2.1
  rw [h.2.1.1, h.2.2.2.1]
  exact nI_ge hp (by omega)
theorem mto.one {M0 : mo_S} {C : Nat → Nat} {n : Nat} {M M' : mo_S} {p rd : Nat} {x : Fr} {R : List Fr} {S : List Nat} {I : List It} (h : mc M0 C n M p rd x R S I) (hp : p < n) (e : q_MO_readOne M = some (1, M')) : mto 1 M M' := fun f => by
  rw [q_MO_fault_L39, if_neg (h.nend hp), e]
  show (if (1 : Int32) = 0 then some (.inl (M'.1 22, M')) else q_MO_fault_L39 f M') = _
  rw [if_neg (by decide)]
/-- the reading ends with a fault at q -/
def mbad (M0 : mo_S) (C : Nat → Nat) (n p : Nat) (M : mo_S) (q : Nat) : Prop := ∃ k, k + p ≤ n + 1 ∧ ((∃ M2, (∀ f, q_MO_fault_L39 (f + k) M = some (.inl (nI q, M2))) ∧ mm_F M0 M2) ∨ (q = n ∧ k + p ≤ n ∧ ∃ M2 rd x R S I, mto k M M2 ∧ mc M0 C n M2 n rd x R S I ∧ S.length + I.length ≤ n ∧ rd < 4 ∧ ¬ (R.length = 0 ∧ rd = 3)))
theorem mbad.pre {M0 : mo_S} {C : Nat → Nat} {n p p1 k q : Nat} {M M1 : mo_S} (a : mto k M M1) (hk : k + p ≤ p1) (b : mbad M0 C n p1 M1 q) : mbad M0 C n p M q := by
  obtain ⟨k2, h1, h2⟩ := b
  refine ⟨k2 + k, by omega, ?_⟩
  rcases h2 with ⟨M2, h3, h4⟩ | ⟨h3, h6, M2, rd, x, R, S, I, h4, h5⟩
  · exact Or.inl ⟨M2, fun f => by rw [← Nat.add_assoc, a, h3], h4⟩
  · exact Or.inr ⟨h3, by omega, M2, rd, x, R, S, I, a.trans h4, h5⟩
theorem mbad.one {M0 : mo_S} {C : Nat → Nat} {n : Nat} {M M2 : mo_S} {p rd q : Nat} {x : Fr} {R : List Fr} {S : List Nat} {I : List It} (h : mc M0 C n M p rd x R S I) (hp : p < n) (e : q_MO_readOne M = some (0, M2)) (hq : M2.1 22 = nI q) (hF : mm_F M0 M2) : mbad M0 C n p M q := by
  refine ⟨1, by omega, Or.inl ⟨M2, fun f => ?_, hF⟩⟩
  rw [q_MO_fault_L39, if_neg (h.nend hp), e]
  show (if (0 : Int32) = 0 then some (.inl (M2.1 22, M2)) else q_MO_fault_L39 f M2) = _
  rw [if_pos rfl, hq]
theorem mbad.fin {M0 : mo_S} {C : Nat → Nat} {n : Nat} {M : mo_S} {rd : Nat} {x : Fr} {R : List Fr} {S : List Nat} {I : List It} (h : mc M0 C n M n rd x R S I) (hSI : S.length + I.length ≤ n) (hr : rd < 4) (hne : ¬ (R.length = 0 ∧ rd = 3)) : mbad M0 C n n M n := ⟨0, by omega, Or.inr ⟨rfl, by omega, M, rd, x, R, S, I, mto.rf M, h, hSI, hr, hne⟩⟩
/-- what may follow -/
def fol (C : Nat → Nat) (lev q : Nat) (s : Bool) : Prop := C q = 10 ∨ C q = 33 ∨ str (C q) < lev ∨ (str (C q) = 2 ∧ s = true)
def dgt (c : Nat) : Prop := 48 ≤ c ∧ c ≤ 57
def PR (M0 : mo_S) (C : Nat → Nat) (n lev lf : Nat) (M : mo_S) (p w g : Nat) (s : Bool) (R : List Fr) (S : List Nat) (I : List It) (r : ps_R (List It)) : Prop :=
  (r.1 = none → mbad M0 C n p M r.2) ∧ ∀ L, r.1 = some L → (dgt (C r.2) ∧ mbad M0 C n p M r.2) ∨ ∃ k M' D I' s', (3 ≤ lev → s' = s) ∧ I' ++ sg_it D = I ++ L ∧ (∀ d ∈ D, lev ≤ str d) ∧ fol C lf r.2 s' ∧ mto k M M' ∧ k + p ≤ r.2 ∧ mc M0 C n M' r.2 3 (w, g, s') R (D ++ S) I' ∧ (D ++ S).length + I'.length ≤ r.2
theorem sg_it_app (D : List Nat) (c : Nat) : sg_it (D ++ [c]) = sg_it D ++ [(nI c, 0, 0, 0)] := by
  unfold sg_it
  rw [List.map_append]
  rfl
theorem sg_it_len (D : List Nat) : (sg_it D).length = D.length := by
  unfold sg_it
  rw [List.length_map]
theorem sg_stop.mono {a b : Nat} (hab : a ≤ b) {S : List Nat} (h : sg_stop a S) : sg_stop b S := by
  cases S with
  | nil => trivial
  | cons c S => exact Nat.lt_of_lt_of_le h hab
/-- behind a logic in brackets that doesn't go on there -/
theorem pr_stop {M0 : mo_S} {C : Nat → Nat} {n : Nat} {M : mo_S} {q w g : Nat} {s : Bool} {y : Fr} {R : List Fr} {S : List Nat} {I : List It} (h : mc M0 C n M q 3 (w, g, s) (y :: R) S I) (hSI : S.length + I.length ≤ q) (hw : w < 128) (hg : g ≤ 2) (hf : fol C 1 q s) (h41 : C q = 41 → w = 9 ∧ g < 2) (h44 : C q = 44 → w ≠ 9 ∨ g = 2) : mbad M0 C n q M q := by
  have hqn := h.2.2.1
  by_cases hq : q < n
  · by_cases c1 : C q = 41
    · exact mbad.one h hq (st_closebad h hq hSI hw c1 (Or.inr (h41 c1))) h.2.2.2.1 h.1
    · by_cases c2 : C q = 44
      · exact mbad.one h hq (st_commabad h hq hSI hw c2 (Or.inr (h44 c2))) h.2.2.2.1 h.1
      · refine mbad.one h hq (st_opbad h hq hSI c1 c2 ?_) h.2.2.2.1 h.1
        rcases hf with z | z | z | z
        · exact Or.inr (Or.inl z)
        · exact Or.inr (Or.inr (Or.inl z))
        · exact Or.inl (by omega)
        · exact Or.inr (Or.inr (Or.inr z))
  · have e : q = n := by omega
    subst e
    exact mbad.fin h hSI (by omega) (fun z => absurd z.1 (by simp))
/-- a bracket's end -/
def PC (M0 : mo_S) (C : Nat → Nat) (n : Nat) (M : mo_S) (p : Nat) (y : Fr) (R : List Fr) (S : List Nat) (I T : List It) (r : ps_R (List It)) : Prop :=
  (r.1 = none → mbad M0 C n p M r.2) ∧ ∀ L, r.1 = some L → ∃ k M', mto k M M' ∧ k + p ≤ r.2 ∧ mc M0 C n M' r.2 3 y R S (I ++ L ++ T) ∧ S.length + (I ++ L ++ T).length ≤ r.2
def br_tail (b : Nat) : List It := if b = 101 then [] else [(nI (b - 100), 0, 0, 0)]
theorem br_tail_len (b : Nat) : (br_tail b).length ≤ 1 := by
  unfold br_tail
  split
  · exact Nat.zero_le _
  · exact Nat.le_refl _
theorem dgt_str {c : Nat} (h : dgt c) : c ≠ 41 ∧ c ≠ 44 ∧ str c = 0 := by
  obtain ⟨h1, h2⟩ := h
  refine ⟨by omega, by omega, ?_⟩
  unfold str
  repeat' split
  all_goals omega
theorem pr_close {M0 : mo_S} {C : Nat → Nat} {n : Nat} {M : mo_S} {p w g b : Nat} {s : Bool} {y : Fr} {R : List Fr} {S : List Nat} {I : List It} {r : ps_R (List It)} (h0 : ∀ q, n ≤ q → C q = 0) (h : PR M0 C n 1 1 M p w g s (y :: R) (b :: S) I r) (hw : w < 128) (hg : g ≤ 2) (h9 : w = 9 → g = 2) (hb0 : str b = 0) (hb1 : b = 101 ∨ (106 < b ∧ b < 128)) : PC M0 C n M p y R S I (br_tail b) (ps_close C r) := by
  obtain ⟨o, q⟩ := r
  cases o with
  | none => exact ⟨fun _ => h.1 rfl, fun L e => by cases e⟩
  | some L =>
    have hc : ps_close C (some L, q) = if C q = 41 then (some L, q + 1) else (none, q) := rfl
    rw [hc]
    rcases h.2 L rfl with ⟨hd, hb⟩ | ⟨k, M', D, I', s', e1, e2, e3, e4, e5, e6, e7, e8⟩
    · rw [if_neg (dgt_str hd).1]
      exact ⟨fun _ => hb, fun L e => by cases e⟩
    · by_cases h41 : C q = 41
      · rw [if_pos h41]
        have hq : q < n := ps_lt_of h0 (by omega)
        obtain ⟨M2, k1, k2⟩ := st_close e7 hq e8 hw h41 h9 e3 hb0 hb1
        refine ⟨fun z => (by cases z), fun L' eL => ?_⟩
        cases eL
        refine ⟨1 + k, M2, e5.trans (mto.one e7 hq k1), ?_, ?_, ?_⟩
        · show 1 + k + p ≤ q + 1
          have : k + p ≤ q := e6
          omega
        · rw [e2] at k2
          exact k2
        · rw [← e2]
          have e8' : (D ++ b :: S).length + I'.length ≤ q := e8
          simp only [List.length_append, List.length_cons, sg_it_len] at e8' ⊢
          have := br_tail_len b
          omega
      · rw [if_neg h41]
        refine ⟨fun _ => mbad.pre e5 e6 (pr_stop e7 e8 hw hg e4 (fun z => absurd z h41) (fun _ => ?_)), fun L e => by cases e⟩
        by_cases h : w = 9
        · exact Or.inr (h9 h)
        · exact Or.inl h
/-- a comma -/
theorem pr_comma {M0 : mo_S} {C : Nat → Nat} {n : Nat} {M : mo_S} {p g : Nat} {s : Bool} {y : Fr} {R : List Fr} {S : List Nat} {I : List It} {r : ps_R (List It)} {K : List It → Nat → ps_R (List It)} {Q : ps_R (List It) → Prop} (h0 : ∀ q, n ≤ q → C q = 0) (h : PR M0 C n 1 1 M p 9 g s (y :: R) S I r) (hg : g < 2) (hs : sg_stop 1 S) (hQ : ∀ q, mbad M0 C n p M q → Q (none, q)) (hK : ∀ L q k M', r = (some L, q) → C q = 44 → q + 1 ≤ n → mto k M M' → k + p ≤ q + 1 → mc M0 C n M' (q + 1) 0 (9, g + 1, false) (y :: R) S (I ++ L) → S.length + (I ++ L).length ≤ q + 1 → Q (K L (q + 1))) : Q (ps_then r fun L1 q1 => ps_ch C 44 q1 fun q2 => K L1 q2) := by
  obtain ⟨o, q⟩ := r
  cases o with
  | none => exact hQ q (h.1 rfl)
  | some L =>
    show Q (ps_ch C 44 q fun q2 => K L q2)
    unfold ps_ch
    rcases h.2 L rfl with ⟨hd, hb⟩ | ⟨k, M', D, I', s', e1, e2, e3, e4, e5, e6, e7, e8⟩
    · rw [if_neg (dgt_str hd).2.1]
      exact hQ q hb
    · by_cases h44 : C q = 44
      · rw [if_pos h44]
        have hq : q < n := ps_lt_of h0 (by omega)
        obtain ⟨M2, k1, k2⟩ := st_comma e7 (by simp) hq e8 hg h44 e3 hs
        rw [e2] at k2
        refine hK L q (1 + k) M2 rfl h44 hq (e5.trans (mto.one e7 hq k1)) ?_ k2 ?_
        · have : k + p ≤ q := e6
          omega
        · rw [← e2]
          have e8' : (D ++ S).length + I'.length ≤ q := e8
          simp only [List.length_append, sg_it_len] at e8' ⊢
          omega
      · rw [if_neg h44]
        refine hQ q (mbad.pre e5 e6 (pr_stop e7 e8 (by omega) (by omega) e4 (fun _ => ⟨rfl, hg⟩) (fun z => absurd z h44)))
/-- the reference reads a logic by ps_logic C m -/
def PL (M0 : mo_S) (C : Nat → Nat) (n m : Nat) : Prop := ∀ (M : mo_S) (p w g : Nat) (R : List Fr) (S : List Nat) (I : List It), mc M0 C n M p 0 (w, g, false) R S I → S.length + I.length ≤ p → 7 ≤ R.length + m → sg_stop 1 S → PR M0 C n 1 1 M p w g false R S I (ps_logic C m R.length p)
theorem fol5 (C : Nat → Nat) (q : Nat) (s : Bool) : fol C 5 q s := by
  have h := str_le (C q)
  by_cases h5 : str (C q) = 5
  · refine Or.inl ?_
    unfold str at h5
    repeat' split at h5
    all_goals first | omega | assumption
  · exact Or.inr (Or.inr (Or.inl (by omega)))
theorem pr_part {M0 : mo_S} {C : Nat → Nat} {n m : Nat} (h0 : ∀ q, n ≤ q → C q = 0) (IH : PL M0 C n m) {M : mo_S} {p rd w g : Nat} {s : Bool} {R : List Fr} {S : List Nat} {I : List It} (h : mc M0 C n M p rd (w, g, s) R S I) (hSI : S.length + I.length ≤ p) (hr : rd < 3) (h33 : rd = 0 → C p ≠ 33) (h45 : rd ≠ 2 → C p ≠ 45) (hm : 6 ≤ R.length + m) : PR M0 C n 5 5 M p w g s R S I (ps_part (ps_logic C m) C R.length p) := by
  have hR := h.2.2.2.2.2.2.1
  by_cases hp : p < n
  · have hbad : ∀ q, pbad M0 M q → mbad M0 C n p M q := by
      intro q ⟨M2, e1, e2, e3⟩
      exact mbad.one h hp (st_part h hr hSI h33 h45 e1 (Or.inl rfl)) e2 e3
    have hok : ∀ M', q_MO_readPart M = some (1, M') → mto 1 M M' := fun M' e => mto.one h hp (st_part h hr hSI h33 h45 e (Or.inr rfl))
    have hfin : ∀ (L : List It) (q : Nat) (k : Nat) (M' : mo_S), L.length ≤ 1 ∨ S.length + (I ++ L).length ≤ q → p < q → mto k M M' → k + p ≤ q → mc M0 C n M' q 3 (w, g, s) R S (I ++ L) → PR M0 C n 5 5 M p w g s R S I (some L, q) := by
      intro L q k M' hL hpq hk hkp hmc
      refine ⟨fun z => (by cases z), fun L' eL => ?_⟩
      cases eL
      refine Or.inr ⟨k, M', [], I ++ L, s, fun _ => rfl, ?_, fun d hd => (by cases hd), fol5 C q s, hk, hkp, hmc, ?_⟩
      · show (I ++ L) ++ [] = _
        rw [List.append_nil]
      · show S.length + _ ≤ q
        rw [List.length_append] at hL ⊢
        omega
    unfold ps_part
    by_cases hd : 48 ≤ C p ∧ C p ≤ 57
    · rw [if_pos hd]
      have hge := ps_num_ge hd
      rcases st_num h hp hSI hd with ⟨e1, e2⟩ | ⟨y, e1, e2⟩
      · exact ⟨fun _ => hbad _ e2, fun L e => by rw [e1] at e; cases e⟩
      · rcases e2 with ⟨d1, d2, d3⟩ | ⟨M', d1, d2⟩
        · exact ⟨fun z => (by rw [e1] at z; cases z), fun L e => Or.inl ⟨⟨d1, d2⟩, hbad _ d3⟩⟩
        · have hq : p < (ps_num C p).2 := hge.2 (by rw [e1]; exact fun z => by cases z)
          have := hfin [y] (ps_num C p).2 1 M' (Or.inl (Nat.le_refl _)) hq (hok M' d1) (by omega) d2
          rw [← e1] at this
          exact this
    · rw [if_neg hd]
      by_cases hr1 : C p = 36 ∨ (97 ≤ C p ∧ C p ≤ 104)
      · rw [if_pos hr1]
        have hge := ps_ref_ge (C := C) (p := p)
        rcases st_ref h hp hSI hd (by omega) (by omega) with ⟨e1, e2⟩ | ⟨v, e1, M', d1, d2⟩
        · have e3 : ps_ref C p = (none, (ps_ref C p).2) := Prod.ext e1 rfl
          rw [e3]
          exact ⟨fun _ => hbad _ e2, fun L e => by cases e⟩
        · have e3 : ps_ref C p = (some v, (ps_ref C p).2) := Prod.ext e1 rfl
          have hq : p < (ps_ref C p).2 := hge.2 (by rw [e1]; exact fun z => by cases z)
          rw [e3]
          exact hfin _ _ 1 M' (Or.inl (Nat.le_refl _)) hq (hok M' d1) (by omega) d2
      · rw [if_neg hr1]
        by_cases h4064 : C p = 40 ∨ C p = 64
        · by_cases h6 : 6 ≤ R.length
          · rw [if_pos h6]
            exact ⟨fun _ => hbad _ (st_full h hSI h4064 (by omega)), fun L e => by cases e⟩
          · rw [if_neg h6]
            by_cases h40 : C p = 40
            · rw [if_pos h40]
              obtain ⟨M1, d1, d2⟩ := st_brk h hp hSI h40 (by omega)
              have a1 := IH M1 (p + 1) 1 0 ((w, g, s) :: R) (101 :: S) I d2 (by simp only [List.length_cons]; omega) (by simp only [List.length_cons]; omega) (by show str 101 < 1; decide)
              have a2 := pr_close h0 a1 (by omega) (by omega) (fun z => by omega) (by decide) (Or.inl rfl)
              have a3 : ps_close C (ps_logic C m (R.length + 1) (p + 1)) = _ := rfl
              generalize hz : ps_close C (ps_logic C m (R.length + 1) (p + 1)) = z at *
              obtain ⟨o, q⟩ := z
              have a2' : PC M0 C n M1 (p + 1) (w, g, s) R S I (br_tail 101) (o, q) := a2
              cases o with
              | none => exact ⟨fun _ => mbad.pre (hok M1 d1) (by omega) (a2'.1 rfl), fun L e => by cases e⟩
              | some L =>
                obtain ⟨k, M', b1, b2, b3, b4⟩ := a2'.2 L rfl
                have b2' : k + (p + 1) ≤ q := b2
                have et : br_tail 101 = [] := rfl
                rw [et, List.append_nil] at b3 b4
                exact hfin L q (k + 1) M' (Or.inr b4) (by omega) ((hok M1 d1).trans b1) (by omega) b3
            · have h64 : C p = 64 := by omega
              rw [if_neg h40, if_pos h64]
              unfold ps_call
              have hge := ps_nm_ge (C := C) (p := p + 1)
              rcases st_name h hp hSI h64 (by omega) with ⟨e1, e2⟩ | ⟨j, e1, e2⟩
              · have e3 : ps_nm C (p + 1) = (none, (ps_nm C (p + 1)).2) := Prod.ext e1 rfl
                rw [e3]
                exact ⟨fun _ => hbad _ e2, fun L e => by cases e⟩
              · have e3 : ps_nm C (p + 1) = (some j, (ps_nm C (p + 1)).2) := Prod.ext e1 rfl
                rw [e3]
                show PR M0 C n 5 5 M p w g s R S I (ps_close C (if j < 5 then ps_range C j (ps_nm C (p + 1)).2 else ps_args (ps_logic C m (R.length + 1)) C j (ps_nm C (p + 1)).2))
                generalize (ps_nm C (p + 1)).2 = q0 at *
                rcases e2 with ⟨j5, j8, M1, d1, d2⟩ | ⟨j5, e2⟩
                · rw [if_neg (by omega)]
                  have hq0 := d2.2.2.1
                  have hIa : ∀ (M2 : mo_S) (q1 g1 : Nat) (I1 : List It), mc M0 C n M2 q1 0 (j + 2, g1, false) ((w, g, s) :: R) ((102 + j) :: S) I1 → ((102 + j) :: S).length + I1.length ≤ q1 → PR M0 C n 1 1 M2 q1 (j + 2) g1 false ((w, g, s) :: R) ((102 + j) :: S) I1 (ps_logic C m (R.length + 1) q1) := by
                    intro M2 q1 g1 I1 z1 z2
                    refine IH M2 q1 (j + 2) g1 ((w, g, s) :: R) ((102 + j) :: S) I1 z1 z2 (by simp only [List.length_cons]; omega) ?_
                    show str (102 + j) < 1
                    have : j = 5 ∨ j = 6 ∨ j = 7 := by omega
                    rcases this with rfl | rfl | rfl <;> decide
                  have hb0 : str (102 + j) = 0 := by
                    have : j = 5 ∨ j = 6 ∨ j = 7 := by omega
                    rcases this with rfl | rfl | rfl <;> decide
                  have htail : br_tail (102 + j) = [(nI (j + 2), 0, 0, 0)] := by
                    unfold br_tail
                    rw [if_neg (by omega), show 102 + j - 100 = j + 2 by omega]
                  have z0 : ((102 + j) :: S).length + I.length ≤ q0 := by simp only [List.length_cons]; omega
                  have hto := hok M1 d1
                  -- what a close gives
                  have hend : ∀ (r : ps_R (List It)) (M2 : mo_S) (k0 q1 : Nat) (I1 : List It) (L0 : List It) (T : List It), I1 = I ++ L0 → T = [(nI (j + 2), 0, 0, 0)] → mto k0 M M2 → k0 + p ≤ q1 → p < q1 → PC M0 C n M2 q1 (w, g, s) R S I1 T (ps_close C r) → PR M0 C n 5 5 M p w g s R S I (ps_close C (ps_then r fun L q => (some (L0 ++ L ++ T), q))) := by
                    intro r M2 k0 q1 I1 L0 T eI eT hk0 hk1 hpq hpc
                    obtain ⟨o, q⟩ := r
                    cases o with
                    | none => exact ⟨fun _ => mbad.pre hk0 hk1 (hpc.1 rfl), fun L e => by cases e⟩
                    | some L =>
                      have hc1 : ps_close C (some L, q) = if C q = 41 then (some L, q + 1) else (none, q) := rfl
                      have hc2 : ps_close C (ps_then ((some L, q) : ps_R (List It)) fun L q => (some (L0 ++ L ++ T), q)) = if C q = 41 then (some (L0 ++ L ++ T), q + 1) else (none, q) := rfl
                      rw [hc1] at hpc
                      rw [hc2]
                      by_cases c41 : C q = 41
                      · rw [if_pos c41] at hpc ⊢
                        obtain ⟨k, M', b1, b2, b3, b4⟩ := hpc.2 L rfl
                        have b2' : k + q1 ≤ q + 1 := b2
                        have eq : I1 ++ L ++ T = I ++ (L0 ++ L ++ T) := by rw [eI]; simp only [List.append_assoc]
                        rw [eq] at b3 b4
                        exact hfin _ (q + 1) (k + k0) M' (Or.inr b4) (by omega) (hk0.trans b1) (by omega) b3
                      · rw [if_neg c41] at hpc ⊢
                        exact ⟨fun _ => mbad.pre hk0 hk1 (hpc.1 rfl), fun L e => by cases e⟩
                  unfold ps_args
                  by_cases j7 : j = 7
                  · subst j7
                    rw [if_pos rfl]
                    have hQ : ∀ (M2 : mo_S) (k0 q1 : Nat), mto k0 M M2 → k0 + p ≤ q1 → ∀ q, mbad M0 C n q1 M2 q → PR M0 C n 5 5 M p w g s R S I (ps_close C (none, q)) := fun M2 k0 q1 y1 y2 q y3 => ⟨fun _ => mbad.pre y1 y2 y3, fun L e => by cases e⟩
                    have hstop : sg_stop 1 ((102 + 7) :: S) := by show str 109 < 1; decide
                    refine pr_comma (K := fun L1 q2 => ps_then (ps_logic C m (R.length + 1) q2) fun L2 q3 => ps_ch C 44 q3 fun q4 => ps_then (ps_logic C m (R.length + 1) q4) fun L3 q5 => (some (L1 ++ L2 ++ L3 ++ [(9, 0, 0, 0)]), q5)) (Q := fun r => PR M0 C n 5 5 M p w g s R S I (ps_close C r)) h0 (hIa M1 q0 0 I d2 z0) (by omega) hstop (hQ M1 1 q0 hto (by omega)) ?_
                    intro L1 q1 k1 M2 er1 c1 hn1 t1 u1 m1 l1
                    have t1' := hto.trans t1
                    refine pr_comma (K := fun L2 q4 => ps_then (ps_logic C m (R.length + 1) q4) fun L3 q5 => (some (L1 ++ L2 ++ L3 ++ [(9, 0, 0, 0)]), q5)) (Q := fun r => PR M0 C n 5 5 M p w g s R S I (ps_close C r)) h0 (hIa M2 (q1 + 1) 1 _ m1 l1) (by omega) hstop (hQ M2 _ _ t1' (by omega)) ?_
                    intro L2 q2 k2 M3 er2 c2 hn2 t2 u2 m2 l2
                    have t2' := t1'.trans t2
                    have a1 := hIa M3 (q2 + 1) 2 _ m2 l2
                    have a2 := pr_close h0 a1 (by omega) (by omega) (fun _ => rfl) hb0 (Or.inr ⟨by omega, by omega⟩)
                    exact hend _ M3 _ (q2 + 1) (I ++ L1 ++ L2) (L1 ++ L2) [(9, 0, 0, 0)] (by simp only [List.append_assoc]) rfl t2' (by omega) (by omega) a2
                  · rw [if_neg j7]
                    have a1 := hIa M1 q0 0 I d2 z0
                    have a2 := pr_close h0 a1 (by omega) (by omega) (fun z => by omega) hb0 (Or.inr ⟨by omega, by omega⟩)
                    rw [htail] at a2
                    exact hend _ M1 1 q0 I [] _ (by rw [List.append_nil]) rfl hto (by omega) (by omega) a2
                · rw [if_pos j5]
                  have hgeR := ps_close_ge (C := C) (p := q0) (ps_range_ge (C := C) (j := j) (p := q0)).1
                  rcases e2 with ⟨f1, f2⟩ | ⟨y, f1, M', f2, f3⟩
                  · exact ⟨fun _ => hbad _ f2, fun L e => by rw [f1] at e; cases e⟩
                  · have hq : p < (ps_close C (ps_range C j q0)).2 := by
                      have := hgeR.1
                      omega
                    have := hfin [y] _ 1 M' (Or.inl (Nat.le_refl _)) hq (hok M' f2) (by omega) f3
                    rw [← f1] at this
                    exact this
        · have e1 : (if 6 ≤ R.length then ((none, p) : ps_R (List It)) else if C p = 40 then ps_close C (ps_logic C m (R.length + 1) (p + 1)) else if C p = 64 then ps_call (ps_logic C m (R.length + 1)) C (p + 1) else (none, p)) = (none, p) := by
            split
            · rfl
            · rw [if_neg (by omega), if_neg (by omega)]
          rw [e1]
          rcases st_ref h hp hSI hd (by omega) (by omega) with ⟨e2, e3⟩ | ⟨v, e2, _⟩
          · have er : ps_ref C p = (none, p) := by
              have hdl : ps_dl C p = 0 := by
                unfold ps_dl
                rw [if_neg (by omega)]
              unfold ps_ref
              rw [hdl, if_neg (by rw [Nat.add_zero p]; omega)]
              rfl
            rw [er] at e3
            exact ⟨fun _ => hbad _ e3, fun L e => by cases e⟩
          · have er : ps_ref C p = (none, p) := by
              have hdl : ps_dl C p = 0 := by
                unfold ps_dl
                rw [if_neg (by omega)]
              unfold ps_ref
              rw [hdl, if_neg (by rw [Nat.add_zero p]; omega)]
              rfl
            rw [er] at e2
            cases e2
  · have e : p = n := by have := h.2.2.1; omega
    subst e
    have hz : C p = 0 := h0 p (Nat.le_refl _)
    have e1 : ps_part (ps_logic C m) C R.length p = (none, p) := by
      unfold ps_part
      rw [if_neg (by omega), if_neg (by omega)]
      split
      · rfl
      · rw [if_neg (by omega), if_neg (by omega)]
    rw [e1]
    exact ⟨fun _ => mbad.fin h hSI (by omega) (fun z => by omega), fun L e => by cases e⟩
