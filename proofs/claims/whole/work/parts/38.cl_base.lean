/-! The class's methods as conditions on what lies before them: the words that these are made of. -/
theorem tw_1876 : lw_tbl[1876]? = some (Jvm.Cond.castable "FormulaSheet$Call" "FormulaSheet$Part") := by decide +kernel
theorem tw_1877 : lw_tbl[1877]? = some (Jvm.Cond.castable "FormulaSheet$Numeral" "FormulaSheet$Part") := by decide +kernel
theorem tw_1878 : lw_tbl[1878]? = some (Jvm.Cond.castable "FormulaSheet$OverRange" "FormulaSheet$Part") := by decide +kernel
theorem tw_1879 : lw_tbl[1879]? = some (Jvm.Cond.castable "FormulaSheet$Pair" "FormulaSheet$Part") := by decide +kernel
theorem tw_1880 : lw_tbl[1880]? = some (Jvm.Cond.castable "FormulaSheet$Reference" "FormulaSheet$Part") := by decide +kernel
theorem tw_1881 : lw_tbl[1881]? = some (Jvm.Cond.castable "FormulaSheet$Single" "FormulaSheet$Part") := by decide +kernel
abbrev fs_E : Type := fs_G × (Nat → Nat)
abbrev fs_Ps : Type := fs_O → fs_Hp → Prop
/-- the constants of the start, by number: 0 to 7 the names, 8 the array of all, 9 and 10 the tables of digits, from 16 the names' texts, from 24 the bytes of these -/
def fs_nmT : Nat → Option Term := fun i => match i with
  | 0 => some (.static "FormulaSheet$Name" "SUM" "LFormulaSheet$Name;")
  | 1 => some (.static "FormulaSheet$Name" "MIN" "LFormulaSheet$Name;")
  | 2 => some (.static "FormulaSheet$Name" "MAX" "LFormulaSheet$Name;")
  | 3 => some (.static "FormulaSheet$Name" "CNT" "LFormulaSheet$Name;")
  | 4 => some (.static "FormulaSheet$Name" "AVG" "LFormulaSheet$Name;")
  | 5 => some (.static "FormulaSheet$Name" "ABS" "LFormulaSheet$Name;")
  | 6 => some (.static "FormulaSheet$Name" "INT" "LFormulaSheet$Name;")
  | 7 => some (.static "FormulaSheet$Name" "IF" "LFormulaSheet$Name;")
  | 8 => some (.static "FormulaSheet" "NAMES" "[LFormulaSheet$Name;")
  | 9 => some (.static "java/lang/Integer" "DigitTens" "[B")
  | 10 => some (.static "java/lang/Integer" "DigitOnes" "[B")
  | 16 => some (.string "FormulaSheet$Name" 56)
  | 17 => some (.string "FormulaSheet$Name" 62)
  | 18 => some (.string "FormulaSheet$Name" 65)
  | 19 => some (.string "FormulaSheet$Name" 68)
  | 20 => some (.string "FormulaSheet$Name" 71)
  | 21 => some (.string "FormulaSheet$Name" 74)
  | 22 => some (.string "FormulaSheet$Name" 77)
  | 23 => some (.string "FormulaSheet$Name" 80)
  | 24 => some (.field (.string "FormulaSheet$Name" 56) "java/lang/String" "value" "[B")
  | 25 => some (.field (.string "FormulaSheet$Name" 62) "java/lang/String" "value" "[B")
  | 26 => some (.field (.string "FormulaSheet$Name" 65) "java/lang/String" "value" "[B")
  | 27 => some (.field (.string "FormulaSheet$Name" 68) "java/lang/String" "value" "[B")
  | 28 => some (.field (.string "FormulaSheet$Name" 71) "java/lang/String" "value" "[B")
  | 29 => some (.field (.string "FormulaSheet$Name" 74) "java/lang/String" "value" "[B")
  | 30 => some (.field (.string "FormulaSheet$Name" 77) "java/lang/String" "value" "[B")
  | 31 => some (.field (.string "FormulaSheet$Name" 80) "java/lang/String" "value" "[B")
  | _ => none
def fs_Nm (s00 : State) (N : Nat → Nat) : Prop := ∀ (i : Nat) (t : Term), fs_nmT i = some t → ∀ args : Array Value, t.eval args s00 none [] s00 = some (.ref (N i))
def fs_SE (l : Launch) (s00 : State) (E : fs_E) : Prop := fs_St l s00 E.1 ∧ fs_Nm s00 E.2
def fs_gi (h : fs_Hp) (a ci k : Nat) (K : Int32 → Prop) : Prop := match h a with
  | some (.inr (c, fs)) => c = ci ∧ (match fs[k]? with
    | some (.int x) => K x
    | _ => False)
  | _ => False
theorem fs_gi_some {h : fs_Hp} {a ci k : Nat} {K : Int32 → Prop} (hq : fs_gi h a ci k K) : ∃ (fs : List Value) (x : Int32), h a = some (.inr (ci, fs)) ∧ fs[k]? = some (.int x) ∧ K x := by
  unfold fs_gi at hq
  split at hq
  · next c fs e =>
    obtain ⟨rfl, hq⟩ := hq
    split at hq
    · next x e2 => exact ⟨fs, x, e, e2, hq⟩
    · exact hq.elim
  · exact hq.elim
theorem fs_gi_of {h : fs_Hp} {a ci k : Nat} {K : Int32 → Prop} {fs : List Value} {x : Int32} (he : h a = some (.inr (ci, fs))) (hx : fs[k]? = some (.int x)) (hk : K x) : fs_gi h a ci k K := by
  unfold fs_gi
  rw [he]
  exact ⟨rfl, by rw [hx]; exact hk⟩
def fs_gl (h : fs_Hp) (a ci k : Nat) (K : Int64 → Prop) : Prop := match h a with
  | some (.inr (c, fs)) => c = ci ∧ (match fs[k]? with
    | some (.long x) => K x
    | _ => False)
  | _ => False
theorem fs_gl_some {h : fs_Hp} {a ci k : Nat} {K : Int64 → Prop} (hq : fs_gl h a ci k K) : ∃ (fs : List Value) (x : Int64), h a = some (.inr (ci, fs)) ∧ fs[k]? = some (.long x) ∧ K x := by
  unfold fs_gl at hq
  split at hq
  · next c fs e =>
    obtain ⟨rfl, hq⟩ := hq
    split at hq
    · next x e2 => exact ⟨fs, x, e, e2, hq⟩
    · exact hq.elim
  · exact hq.elim
theorem fs_gl_of {h : fs_Hp} {a ci k : Nat} {K : Int64 → Prop} {fs : List Value} {x : Int64} (he : h a = some (.inr (ci, fs))) (hx : fs[k]? = some (.long x)) (hk : K x) : fs_gl h a ci k K := by
  unfold fs_gl
  rw [he]
  exact ⟨rfl, by rw [hx]; exact hk⟩
def fs_gd (h : fs_Hp) (a ci k : Nat) (K : UInt64 → Prop) : Prop := match h a with
  | some (.inr (c, fs)) => c = ci ∧ (match fs[k]? with
    | some (.double x) => K x
    | _ => False)
  | _ => False
theorem fs_gd_some {h : fs_Hp} {a ci k : Nat} {K : UInt64 → Prop} (hq : fs_gd h a ci k K) : ∃ (fs : List Value) (x : UInt64), h a = some (.inr (ci, fs)) ∧ fs[k]? = some (.double x) ∧ K x := by
  unfold fs_gd at hq
  split at hq
  · next c fs e =>
    obtain ⟨rfl, hq⟩ := hq
    split at hq
    · next x e2 => exact ⟨fs, x, e, e2, hq⟩
    · exact hq.elim
  · exact hq.elim
theorem fs_gd_of {h : fs_Hp} {a ci k : Nat} {K : UInt64 → Prop} {fs : List Value} {x : UInt64} (he : h a = some (.inr (ci, fs))) (hx : fs[k]? = some (.double x)) (hk : K x) : fs_gd h a ci k K := by
  unfold fs_gd
  rw [he]
  exact ⟨rfl, by rw [hx]; exact hk⟩
def fs_gr (h : fs_Hp) (a ci k : Nat) (K : Nat → Prop) : Prop := match h a with
  | some (.inr (c, fs)) => c = ci ∧ (match fs[k]? with
    | some (.ref x) => K x
    | _ => False)
  | _ => False
theorem fs_gr_some {h : fs_Hp} {a ci k : Nat} {K : Nat → Prop} (hq : fs_gr h a ci k K) : ∃ (fs : List Value) (x : Nat), h a = some (.inr (ci, fs)) ∧ fs[k]? = some (.ref x) ∧ K x := by
  unfold fs_gr at hq
  split at hq
  · next c fs e =>
    obtain ⟨rfl, hq⟩ := hq
    split at hq
    · next x e2 => exact ⟨fs, x, e, e2, hq⟩
    · exact hq.elim
  · exact hq.elim
theorem fs_gr_of {h : fs_Hp} {a ci k : Nat} {K : Nat → Prop} {fs : List Value} {x : Nat} (he : h a = some (.inr (ci, fs))) (hx : fs[k]? = some (.ref x)) (hk : K x) : fs_gr h a ci k K := by
  unfold fs_gr
  rw [he]
  exact ⟨rfl, by rw [hx]; exact hk⟩
def fs_pw (h : fs_Hp) (a ci k : Nat) (v : Value) (K : fs_Hp → Prop) : Prop := match h a with
  | some (.inr (c, fs)) => c = ci ∧ k < fs.length ∧ K (fs_up h a (.inr (ci, fs.set k v)))
  | _ => False
theorem fs_pw_some {h : fs_Hp} {a ci k : Nat} {v : Value} {K : fs_Hp → Prop} (hq : fs_pw h a ci k v K) : ∃ (fs : List Value) (h2 : fs_Hp), h a = some (.inr (ci, fs)) ∧ k < fs.length ∧ h2 = fs_up h a (.inr (ci, fs.set k v)) ∧ K h2 := by
  unfold fs_pw at hq
  split at hq
  · next c fs e =>
    obtain ⟨rfl, hl, hq⟩ := hq
    exact ⟨fs, _, e, hl, rfl, hq⟩
  · exact hq.elim
theorem fs_pw_of {h : fs_Hp} {a ci k : Nat} {v : Value} {K : fs_Hp → Prop} {fs : List Value} (he : h a = some (.inr (ci, fs))) (hl : k < fs.length) (hk : K (fs_up h a (.inr (ci, fs.set k v)))) : fs_pw h a ci k v K := by
  unfold fs_pw
  rw [he]
  exact ⟨rfl, hl, hk⟩
def fs_pi (c : Nat) : Nat := match c with
  | 4 => 2
  | 5 => 5
  | 9 => 3
  | _ => 1
def fs_isc (h : fs_Hp) (a ci : Nat) : Prop := match h a with
  | some (.inr (c, _)) => c = ci
  | _ => False
theorem fs_isc_some {h : fs_Hp} {a ci : Nat} (hq : fs_isc h a ci) : ∃ fs : List Value, h a = some (.inr (ci, fs)) := by
  unfold fs_isc at hq
  split at hq
  · next c fs e => subst hq; exact ⟨fs, e⟩
  · exact hq.elim
theorem fs_isc_of {h : fs_Hp} {a ci : Nat} {fs : List Value} (he : h a = some (.inr (ci, fs))) : fs_isc h a ci := by
  unfold fs_isc
  rw [he]
def fs_isP (h : fs_Hp) (a : Nat) : Prop := match h a with
  | some (.inr (c, _)) => 4 ≤ c ∧ c ≤ 9
  | _ => False
theorem fs_isP_some {h : fs_Hp} {a : Nat} (hq : fs_isP h a) : ∃ (c : Nat) (fs : List Value), h a = some (.inr (c, fs)) ∧ 4 ≤ c ∧ c ≤ 9 := by
  unfold fs_isP at hq
  split at hq
  · next c fs e => exact ⟨c, fs, e, hq⟩
  · exact hq.elim
theorem fs_isP_of {h : fs_Hp} {a ci : Nat} {fs : List Value} (he : h a = some (.inr (ci, fs))) (hc : 4 ≤ ci ∧ ci ≤ 9) : fs_isP h a := by
  unfold fs_isP
  rw [he]
  exact hc
def fs_gP (h : fs_Hp) (a : Nat) (K : Nat → Prop) : Prop := match h a with
  | some (.inr (c, fs)) => (4 ≤ c ∧ c ≤ 9) ∧ (match fs[fs_pi c]? with
    | some (.ref x) => K x
    | _ => False)
  | _ => False
theorem fs_gP_some {h : fs_Hp} {a : Nat} {K : Nat → Prop} (hq : fs_gP h a K) : ∃ (c : Nat) (fs : List Value) (x : Nat), h a = some (.inr (c, fs)) ∧ (4 ≤ c ∧ c ≤ 9) ∧ fs[fs_pi c]? = some (.ref x) ∧ K x := by
  unfold fs_gP at hq
  split at hq
  · next c fs e =>
    obtain ⟨hc, hq⟩ := hq
    split at hq
    · next x e2 => exact ⟨c, fs, x, e, hc, e2, hq⟩
    · exact hq.elim
  · exact hq.elim
theorem fs_gP_of {h : fs_Hp} {a c : Nat} {K : Nat → Prop} {fs : List Value} {x : Nat} (he : h a = some (.inr (c, fs))) (hc : 4 ≤ c ∧ c ≤ 9) (hx : fs[fs_pi c]? = some (.ref x)) (hk : K x) : fs_gP h a K := by
  unfold fs_gP
  rw [he]
  exact ⟨hc, by rw [hx]; exact hk⟩
def fs_pwP (h : fs_Hp) (a : Nat) (v : Value) (K : fs_Hp → Prop) : Prop := match h a with
  | some (.inr (c, fs)) => (4 ≤ c ∧ c ≤ 9) ∧ fs_pi c < fs.length ∧ K (fs_up h a (.inr (c, fs.set (fs_pi c) v)))
  | _ => False
theorem fs_pwP_some {h : fs_Hp} {a : Nat} {v : Value} {K : fs_Hp → Prop} (hq : fs_pwP h a v K) : ∃ (c : Nat) (fs : List Value) (h2 : fs_Hp), h a = some (.inr (c, fs)) ∧ (4 ≤ c ∧ c ≤ 9) ∧ fs_pi c < fs.length ∧ h2 = fs_up h a (.inr (c, fs.set (fs_pi c) v)) ∧ K h2 := by
  unfold fs_pwP at hq
  split at hq
  · next c fs e =>
    obtain ⟨hc, hl, hq⟩ := hq
    exact ⟨c, fs, _, e, hc, hl, rfl, hq⟩
  · exact hq.elim
def fs_an (h : fs_Hp) (a : Nat) (cA : ClassId) (K : Nat → Prop) : Prop := match h a with
  | some (.inl (c, x)) => c = cA ∧ K x.1
  | _ => False
theorem fs_an_some {h : fs_Hp} {a : Nat} {cA : ClassId} {K : Nat → Prop} (hq : fs_an h a cA K) : ∃ (x : vp_A) (n : Nat), n = x.1 ∧ h a = some (.inl (cA, x)) ∧ K n := by
  unfold fs_an at hq
  split at hq
  · next c x e =>
    obtain ⟨rfl, hq⟩ := hq
    exact ⟨x, _, rfl, e, hq⟩
  · exact hq.elim
theorem fs_an_of {h : fs_Hp} {a : Nat} {cA : ClassId} {K : Nat → Prop} {x : vp_A} (he : h a = some (.inl (cA, x))) (hk : K x.1) : fs_an h a cA K := by
  unfold fs_an
  rw [he]
  exact ⟨rfl, hk⟩
def fs_ai (h : fs_Hp) (a : Nat) (cA : ClassId) (i : Int32) (K : Int32 → Prop) : Prop := match h a with
  | some (.inl (c, n, .inl f)) => c = cA ∧ vp_in i n ∧ K (f i.toNatClampNeg)
  | _ => False
theorem fs_ai_some {h : fs_Hp} {a : Nat} {cA : ClassId} {i : Int32} {K : Int32 → Prop} (hq : fs_ai h a cA i K) : ∃ (n : Nat) (f : Nat → Int32) (x : Int32), h a = some (.inl (cA, n, .inl f)) ∧ vp_in i n ∧ x = f i.toNatClampNeg ∧ K x := by
  unfold fs_ai at hq
  split at hq
  · next c n f e =>
    obtain ⟨rfl, hi, hq⟩ := hq
    exact ⟨n, f, _, e, hi, rfl, hq⟩
  · exact hq.elim
theorem fs_ai_of {h : fs_Hp} {a n : Nat} {cA : ClassId} {i : Int32} {f : Nat → Int32} {K : Int32 → Prop} (he : h a = some (.inl (cA, n, .inl f))) (hi : vp_in i n) (hk : K (f i.toNatClampNeg)) : fs_ai h a cA i K := by
  unfold fs_ai
  rw [he]
  exact ⟨rfl, hi, hk⟩
def fs_si (h : fs_Hp) (a : Nat) (cA : ClassId) (i : Int32) (x : Int32) (K : fs_Hp → Prop) : Prop := match h a with
  | some (.inl (c, n, .inl f)) => c = cA ∧ vp_in i n ∧ K (fs_up h a (.inl (cA, n, .inl (upd f i.toNatClampNeg x))))
  | _ => False
theorem fs_si_some {h : fs_Hp} {a : Nat} {cA : ClassId} {i : Int32} {x : Int32} {K : fs_Hp → Prop} (hq : fs_si h a cA i x K) : ∃ (n : Nat) (f : Nat → Int32) (h2 : fs_Hp), h a = some (.inl (cA, n, .inl f)) ∧ vp_in i n ∧ h2 = fs_up h a (.inl (cA, n, .inl (upd f i.toNatClampNeg x))) ∧ K h2 := by
  unfold fs_si at hq
  split at hq
  · next c n f e =>
    obtain ⟨rfl, hi, hq⟩ := hq
    exact ⟨n, f, _, e, hi, rfl, hq⟩
  · exact hq.elim
theorem fs_si_of {h : fs_Hp} {a n : Nat} {cA : ClassId} {i : Int32} {x : Int32} {f : Nat → Int32} {K : fs_Hp → Prop} (he : h a = some (.inl (cA, n, .inl f))) (hi : vp_in i n) (hk : K (fs_up h a (.inl (cA, n, .inl (upd f i.toNatClampNeg x))))) : fs_si h a cA i x K := by
  unfold fs_si
  rw [he]
  exact ⟨rfl, hi, hk⟩
def fs_al (h : fs_Hp) (a : Nat) (cA : ClassId) (i : Int32) (K : Int64 → Prop) : Prop := match h a with
  | some (.inl (c, n, .inr (.inl f))) => c = cA ∧ vp_in i n ∧ K (f i.toNatClampNeg)
  | _ => False
theorem fs_al_some {h : fs_Hp} {a : Nat} {cA : ClassId} {i : Int32} {K : Int64 → Prop} (hq : fs_al h a cA i K) : ∃ (n : Nat) (f : Nat → Int64) (x : Int64), h a = some (.inl (cA, n, .inr (.inl f))) ∧ vp_in i n ∧ x = f i.toNatClampNeg ∧ K x := by
  unfold fs_al at hq
  split at hq
  · next c n f e =>
    obtain ⟨rfl, hi, hq⟩ := hq
    exact ⟨n, f, _, e, hi, rfl, hq⟩
  · exact hq.elim
theorem fs_al_of {h : fs_Hp} {a n : Nat} {cA : ClassId} {i : Int32} {f : Nat → Int64} {K : Int64 → Prop} (he : h a = some (.inl (cA, n, .inr (.inl f)))) (hi : vp_in i n) (hk : K (f i.toNatClampNeg)) : fs_al h a cA i K := by
  unfold fs_al
  rw [he]
  exact ⟨rfl, hi, hk⟩
def fs_sl (h : fs_Hp) (a : Nat) (cA : ClassId) (i : Int32) (x : Int64) (K : fs_Hp → Prop) : Prop := match h a with
  | some (.inl (c, n, .inr (.inl f))) => c = cA ∧ vp_in i n ∧ K (fs_up h a (.inl (cA, n, .inr (.inl (vp_updL f i.toNatClampNeg x)))))
  | _ => False
theorem fs_sl_some {h : fs_Hp} {a : Nat} {cA : ClassId} {i : Int32} {x : Int64} {K : fs_Hp → Prop} (hq : fs_sl h a cA i x K) : ∃ (n : Nat) (f : Nat → Int64) (h2 : fs_Hp), h a = some (.inl (cA, n, .inr (.inl f))) ∧ vp_in i n ∧ h2 = fs_up h a (.inl (cA, n, .inr (.inl (vp_updL f i.toNatClampNeg x)))) ∧ K h2 := by
  unfold fs_sl at hq
  split at hq
  · next c n f e =>
    obtain ⟨rfl, hi, hq⟩ := hq
    exact ⟨n, f, _, e, hi, rfl, hq⟩
  · exact hq.elim
theorem fs_sl_of {h : fs_Hp} {a n : Nat} {cA : ClassId} {i : Int32} {x : Int64} {f : Nat → Int64} {K : fs_Hp → Prop} (he : h a = some (.inl (cA, n, .inr (.inl f)))) (hi : vp_in i n) (hk : K (fs_up h a (.inl (cA, n, .inr (.inl (vp_updL f i.toNatClampNeg x)))))) : fs_sl h a cA i x K := by
  unfold fs_sl
  rw [he]
  exact ⟨rfl, hi, hk⟩
def fs_ad (h : fs_Hp) (a : Nat) (cA : ClassId) (i : Int32) (K : UInt64 → Prop) : Prop := match h a with
  | some (.inl (c, n, .inr (.inr (.inr (.inl f))))) => c = cA ∧ vp_in i n ∧ K (f i.toNatClampNeg)
  | _ => False
theorem fs_ad_some {h : fs_Hp} {a : Nat} {cA : ClassId} {i : Int32} {K : UInt64 → Prop} (hq : fs_ad h a cA i K) : ∃ (n : Nat) (f : Nat → UInt64) (x : UInt64), h a = some (.inl (cA, n, .inr (.inr (.inr (.inl f))))) ∧ vp_in i n ∧ x = f i.toNatClampNeg ∧ K x := by
  unfold fs_ad at hq
  split at hq
  · next c n f e =>
    obtain ⟨rfl, hi, hq⟩ := hq
    exact ⟨n, f, _, e, hi, rfl, hq⟩
  · exact hq.elim
theorem fs_ad_of {h : fs_Hp} {a n : Nat} {cA : ClassId} {i : Int32} {f : Nat → UInt64} {K : UInt64 → Prop} (he : h a = some (.inl (cA, n, .inr (.inr (.inr (.inl f)))))) (hi : vp_in i n) (hk : K (f i.toNatClampNeg)) : fs_ad h a cA i K := by
  unfold fs_ad
  rw [he]
  exact ⟨rfl, hi, hk⟩
def fs_sd (h : fs_Hp) (a : Nat) (cA : ClassId) (i : Int32) (x : UInt64) (K : fs_Hp → Prop) : Prop := match h a with
  | some (.inl (c, n, .inr (.inr (.inr (.inl f))))) => c = cA ∧ vp_in i n ∧ K (fs_up h a (.inl (cA, n, .inr (.inr (.inr (.inl (vf_upd f i.toNatClampNeg x)))))))
  | _ => False
theorem fs_sd_some {h : fs_Hp} {a : Nat} {cA : ClassId} {i : Int32} {x : UInt64} {K : fs_Hp → Prop} (hq : fs_sd h a cA i x K) : ∃ (n : Nat) (f : Nat → UInt64) (h2 : fs_Hp), h a = some (.inl (cA, n, .inr (.inr (.inr (.inl f))))) ∧ vp_in i n ∧ h2 = fs_up h a (.inl (cA, n, .inr (.inr (.inr (.inl (vf_upd f i.toNatClampNeg x)))))) ∧ K h2 := by
  unfold fs_sd at hq
  split at hq
  · next c n f e =>
    obtain ⟨rfl, hi, hq⟩ := hq
    exact ⟨n, f, _, e, hi, rfl, hq⟩
  · exact hq.elim
theorem fs_sd_of {h : fs_Hp} {a n : Nat} {cA : ClassId} {i : Int32} {x : UInt64} {f : Nat → UInt64} {K : fs_Hp → Prop} (he : h a = some (.inl (cA, n, .inr (.inr (.inr (.inl f)))))) (hi : vp_in i n) (hk : K (fs_up h a (.inl (cA, n, .inr (.inr (.inr (.inl (vf_upd f i.toNatClampNeg x)))))))) : fs_sd h a cA i x K := by
  unfold fs_sd
  rw [he]
  exact ⟨rfl, hi, hk⟩
def fs_aq (h : fs_Hp) (a : Nat) (cA : ClassId) (i : Int32) (K : Option Nat → Prop) : Prop := match h a with
  | some (.inl (c, n, .inr (.inr (.inr (.inr f))))) => c = cA ∧ vp_in i n ∧ K (f i.toNatClampNeg)
  | _ => False
theorem fs_aq_some {h : fs_Hp} {a : Nat} {cA : ClassId} {i : Int32} {K : Option Nat → Prop} (hq : fs_aq h a cA i K) : ∃ (n : Nat) (f : Nat → Option Nat) (x : Option Nat), h a = some (.inl (cA, n, .inr (.inr (.inr (.inr f))))) ∧ vp_in i n ∧ x = f i.toNatClampNeg ∧ K x := by
  unfold fs_aq at hq
  split at hq
  · next c n f e =>
    obtain ⟨rfl, hi, hq⟩ := hq
    exact ⟨n, f, _, e, hi, rfl, hq⟩
  · exact hq.elim
theorem fs_aq_of {h : fs_Hp} {a n : Nat} {cA : ClassId} {i : Int32} {f : Nat → Option Nat} {K : Option Nat → Prop} (he : h a = some (.inl (cA, n, .inr (.inr (.inr (.inr f)))))) (hi : vp_in i n) (hk : K (f i.toNatClampNeg)) : fs_aq h a cA i K := by
  unfold fs_aq
  rw [he]
  exact ⟨rfl, hi, hk⟩
def fs_sq (h : fs_Hp) (a : Nat) (cA : ClassId) (i : Int32) (x : Option Nat) (K : fs_Hp → Prop) : Prop := match h a with
  | some (.inl (c, n, .inr (.inr (.inr (.inr f))))) => c = cA ∧ vp_in i n ∧ K (fs_up h a (.inl (cA, n, .inr (.inr (.inr (.inr (va_up f i.toNatClampNeg x)))))))
  | _ => False
theorem fs_sq_some {h : fs_Hp} {a : Nat} {cA : ClassId} {i : Int32} {x : Option Nat} {K : fs_Hp → Prop} (hq : fs_sq h a cA i x K) : ∃ (n : Nat) (f : Nat → Option Nat) (h2 : fs_Hp), h a = some (.inl (cA, n, .inr (.inr (.inr (.inr f))))) ∧ vp_in i n ∧ h2 = fs_up h a (.inl (cA, n, .inr (.inr (.inr (.inr (va_up f i.toNatClampNeg x)))))) ∧ K h2 := by
  unfold fs_sq at hq
  split at hq
  · next c n f e =>
    obtain ⟨rfl, hi, hq⟩ := hq
    exact ⟨n, f, _, e, hi, rfl, hq⟩
  · exact hq.elim
theorem fs_sq_of {h : fs_Hp} {a n : Nat} {cA : ClassId} {i : Int32} {x : Option Nat} {f : Nat → Option Nat} {K : fs_Hp → Prop} (he : h a = some (.inl (cA, n, .inr (.inr (.inr (.inr f)))))) (hi : vp_in i n) (hk : K (fs_up h a (.inl (cA, n, .inr (.inr (.inr (.inr (va_up f i.toNatClampNeg x)))))))) : fs_sq h a cA i x K := by
  unfold fs_sq
  rw [he]
  exact ⟨rfl, hi, hk⟩
def fs_ki (K : Int32 → fs_Hp → Prop) (X : String → fs_Hp → Prop) : fs_Ps := fun o h => match o with
  | .inl (some (.int x)) => K x h
  | .inr C => X C h
  | _ => False
theorem fs_ki_some {K : Int32 → fs_Hp → Prop} {X : String → fs_Hp → Prop} {v : Option Value} {h : fs_Hp} (hq : fs_ki K X (.inl v) h) : ∃ x : Int32, v = some (.int x) ∧ K x h := by
  unfold fs_ki at hq
  split at hq
  · next x e => cases e; exact ⟨x, rfl, hq⟩
  · next C e => cases e
  · exact hq.elim
def fs_kl (K : Int64 → fs_Hp → Prop) (X : String → fs_Hp → Prop) : fs_Ps := fun o h => match o with
  | .inl (some (.long x)) => K x h
  | .inr C => X C h
  | _ => False
theorem fs_kl_some {K : Int64 → fs_Hp → Prop} {X : String → fs_Hp → Prop} {v : Option Value} {h : fs_Hp} (hq : fs_kl K X (.inl v) h) : ∃ x : Int64, v = some (.long x) ∧ K x h := by
  unfold fs_kl at hq
  split at hq
  · next x e => cases e; exact ⟨x, rfl, hq⟩
  · next C e => cases e
  · exact hq.elim
def fs_kd (K : UInt64 → fs_Hp → Prop) (X : String → fs_Hp → Prop) : fs_Ps := fun o h => match o with
  | .inl (some (.double x)) => K x h
  | .inr C => X C h
  | _ => False
theorem fs_kd_some {K : UInt64 → fs_Hp → Prop} {X : String → fs_Hp → Prop} {v : Option Value} {h : fs_Hp} (hq : fs_kd K X (.inl v) h) : ∃ x : UInt64, v = some (.double x) ∧ K x h := by
  unfold fs_kd at hq
  split at hq
  · next x e => cases e; exact ⟨x, rfl, hq⟩
  · next C e => cases e
  · exact hq.elim
def fs_kr (K : Nat → fs_Hp → Prop) (X : String → fs_Hp → Prop) : fs_Ps := fun o h => match o with
  | .inl (some (.ref x)) => K x h
  | .inr C => X C h
  | _ => False
theorem fs_kr_some {K : Nat → fs_Hp → Prop} {X : String → fs_Hp → Prop} {v : Option Value} {h : fs_Hp} (hq : fs_kr K X (.inl v) h) : ∃ x : Nat, v = some (.ref x) ∧ K x h := by
  unfold fs_kr at hq
  split at hq
  · next x e => cases e; exact ⟨x, rfl, hq⟩
  · next C e => cases e
  · exact hq.elim
def fs_kv (K : fs_Hp → Prop) (X : String → fs_Hp → Prop) : fs_Ps := fun o h => match o with
  | .inl none => K h
  | .inr C => X C h
  | _ => False
theorem fs_kv_some {K : fs_Hp → Prop} {X : String → fs_Hp → Prop} {v : Option Value} {h : fs_Hp} (hq : fs_kv K X (.inl v) h) : v = none ∧ K h := by
  cases v with
  | none => exact ⟨rfl, hq⟩
  | some x => exact False.elim hq
def fs_ko (N : fs_Hp → Prop) (K : Nat → fs_Hp → Prop) (X : String → fs_Hp → Prop) : fs_Ps := fun o h => match o with
  | .inl (some .null) => N h
  | .inl (some (.ref x)) => K x h
  | .inr C => X C h
  | _ => False
theorem fs_ko_some {N : fs_Hp → Prop} {K : Nat → fs_Hp → Prop} {X : String → fs_Hp → Prop} {v : Option Value} {h : fs_Hp} (hq : fs_ko N K X (.inl v) h) : (v = some .null ∧ N h) ∨ ∃ x : Nat, v = some (.ref x) ∧ K x h := by
  unfold fs_ko at hq
  split at hq
  · next e => cases e; exact Or.inl ⟨rfl, hq⟩
  · next x e => cases e; exact Or.inr ⟨x, rfl, hq⟩
  · next C e => cases e
  · exact hq.elim
theorem fs_wifp {c : Prop} {i : Decidable c} {x y : Prop} (hc : c) (h : @ite _ c i x y) : x := by
  rw [if_pos hc] at h; exact h
theorem fs_wifn {c : Prop} {i : Decidable c} {x y : Prop} (hc : ¬ c) (h : @ite _ c i x y) : y := by
  rw [if_neg hc] at h; exact h
theorem fs_ao {l : Launch} {s00 s : State} {G : fs_G} {C : String} (hSt : fs_St l s00 G) (hw : fs_W s00 s) (h1 : Cond.arrayOver (.object C) ∈ lw_tbl) (h2 : fs_okw (Cond.arrayOver (.object C)) = true) : va_AO C s := (hSt.T hw) _ h1 h2
/-- the contract of what the object at b has for the method x -/
def fs_CtV (l : Launch) (s00 : State) (G : fs_G) (x : MethodName) (rm : Room) (b : Nat) (As : List Value) (h : fs_Hp) (Post : fs_Ps) (ML : Nat) : Prop :=
  ∃ (y : MethodName) (bytes : ByteArray) (maxL : Nat) (ret : Option FieldType) (ci : Nat) (fs : List Value) (C : String) (T : u_T) (N : Nat), h b = some (.inr (ci, fs)) ∧ fs_cl[ci]? = some (C, T, N) ∧ Cond.selects C x y ∈ fs_tb ∧ Cond.instanceMethod y ∈ fs_tb ∧ Cond.initialized y.cls ∈ fs_tb ∧ Cond.code y bytes maxL ret ∈ fs_tb ∧ maxL ≤ ML ∧ fs_Ct l s00 G y (.code y bytes maxL ret) rm (.ref b :: As) h Post
theorem fs_Ct.ofR {l : Launch} {s00 : State} {G : fs_G} {y : MethodName} {cc : ByteArray} {maxL : Nat} {ret : Option FieldType} {F mc ms Lo : Nat} {As : List Value} {h : fs_Hp} {Post : fs_Ps} (hSt : fs_St l s00 G) (hy : plainName y.cls = true)
    (body : ∀ (p : Program) (e : Env) (R : Room) (s : State) (m : MethodId) (below : List Frame) (meth : Method) (c : Code), F ≤ R.frames → Lo ≤ R.locals → mc ≤ R.cells → ms ≤ R.slots → fs_B p l e s m As.toArray meth c s00 G y cc maxL ret → (∀ pc, ∀ x ∈ c.exceptionTable.toList, covers x pc = false) → fs_P G.1 fs_cl (fs_A s00) h s.heap →
      W p l e R s m As.toArray below meth c s.heap [] 0 0 (fx_MQ below (fs_Qc s00 G Post) As.toArray s mc ms (fs_A s00)) (entryFrame m As.toArray maxL)) : fs_Ct l s00 G y (.code y cc maxL ret) { frames := F, cells := mc, slots := ms, locals := Lo } As h Post :=
  fs_Ct.ofW hSt hy fun p e s m below meth c B ho hP => body p e _ s m below meth c (Nat.le_refl _) (Nat.le_refl _) (Nat.le_refl _) (Nat.le_refl _) B ho hP
section FSW
variable {p : Program} {l : Launch} {e : Env} {R : Room} {s : State} {m : MethodId} {args : Array Value} {below : List Frame} {meth : Method} {c : Code} {H : Heap} {locs : List Loc} {cells slots : Nat} {Q : State → Prop}
variable {cc : ByteArray} {pc : Nat} {ls : Array Slot} {rest : List Value} {G : fs_G} {h : fs_Hp} {s00 : State} {Post : fs_Ps} {a : Nat} {A : Nat → Prop} {H0 : Heap}
theorem fs_cs {k n : Nat} {g : JFrame} (h1 : cells = k) (h2 : slots = n) (kk : W p l e R s m args below meth c H locs k n Q g) : W p l e R s m args below meth c H locs cells slots Q g := by
  subst h1
  subst h2
  exact kk
theorem fs_lc {k n M : Nat} {rest : List Value} (hk : (rest.map fun v => v.category).sum = k) (h : k + n ≤ M) : (rest.map fun v => v.category).sum + n ≤ M := by
  rw [hk]
  exact h
theorem fs_rm {f c1 s1 lo maxL k : Nat} (h1 : f + 1 ≤ R.frames) (h2 : k + (maxL + 11) + lo ≤ R.locals) (h3 : cells + c1 ≤ R.cells) (h4 : slots + s1 ≤ R.slots) (hk : (rest.map fun v => v.category).sum = k) :
    ({ frames := f, cells := c1, slots := s1, locals := lo } : Room).frames + 1 ≤ R.frames ∧ (rest.map fun v => v.category).sum + (maxL + 11) + ({ frames := f, cells := c1, slots := s1, locals := lo } : Room).locals ≤ R.locals ∧ cells + ({ frames := f, cells := c1, slots := s1, locals := lo } : Room).cells ≤ R.cells ∧ slots + ({ frames := f, cells := c1, slots := s1, locals := lo } : Room).slots ≤ R.slots := by
  subst hk
  exact ⟨h1, h2, h3, h4⟩
theorem fs_getP {own : String} {index ci x : Nat} {fs : List Value} (hexec : p.tables.exec = Jvm.exec) (hb : c.code = cc) (hts : ∀ w ∈ fs_tb, w.before args s = true) (hown : s.vm.findClass own = some m.cls) (hK : va_K G.1 fs_cl (fs_tys G) s) (hP : fs_P G.1 fs_cl A h H) (he : h a = some (.inr (ci, fs))) (hc : 4 ≤ ci ∧ ci ≤ 9) (hv : fs[fs_pi ci]? = some (.ref x)) (hlink : (Cond.fieldLink own index "FormulaSheet$Part" "inner" "[LFormulaSheet$Part;").before args s = true) (hdg : decode cc pc = .ok (.getfield index, 3))
    (kk : W p l e R s m args below meth c H locs cells slots Q (F0 m (pc + 3) ls (.ref x :: rest))) : W p l e R s m args below meth c H locs cells slots Q (F0 m pc ls (.ref a :: rest)) := by
  have h6 : ci = 4 ∨ ci = 5 ∨ ci = 6 ∨ ci = 7 ∨ ci = 8 ∨ ci = 9 := by omega
  rcases h6 with rfl | rfl | rfl | rfl | rfl | rfl
  · exact fs_get hexec hb hts hown hK c_NU hP he 2 (by decide) hlink (fun _ h9 => h9) hv hdg kk
  · exact fs_get hexec hb hts hown hK c_RE hP he 5 (by decide) hlink (fun _ h9 => h9) hv hdg kk
  · exact fs_get hexec hb hts hown hK c_SI hP he 1 (by decide) hlink (fun _ h9 => h9) hv hdg kk
  · exact fs_get hexec hb hts hown hK c_PA hP he 1 (by decide) hlink (fun _ h9 => h9) hv hdg kk
  · exact fs_get hexec hb hts hown hK c_CA hP he 1 (by decide) hlink (fun _ h9 => h9) hv hdg kk
  · exact fs_get hexec hb hts hown hK c_OV hP he 3 (by decide) hlink (fun _ h9 => h9) hv hdg kk
theorem fs_putP {index ci x : Nat} {fs : List Value} (hexec : p.tables.exec = Jvm.exec) (hb : c.code = cc) (hts : ∀ w ∈ fs_tb, w.before args s = true) (hown : s.vm.findClass "FormulaSheet$Part" = some m.cls) (hK : va_K G.1 fs_cl (fs_tys G) s) (hP : fs_P G.1 fs_cl A h H) (hS : va_S A H0 H locs) (he : h a = some (.inr (ci, fs))) (hc : 4 ≤ ci ∧ ci ≤ 9) (hl : fs_pi ci < fs.length) (hlink : (Cond.fieldLink "FormulaSheet$Part" index "FormulaSheet$Part" "inner" "[LFormulaSheet$Part;").before args s = true) (hin2 : meth.name = "<init>") (hdg : decode cc pc = .ok (.putfield index, 3))
    (kk : ∀ (H1 : Heap) (locs1 : List Loc), fs_P G.1 fs_cl A (fs_up h a (.inr (ci, fs.set (fs_pi ci) (.ref x)))) H1 → va_S A H0 H1 locs1 → W p l e R s m args below meth c H1 locs1 cells slots Q (F0 m (pc + 3) ls rest)) : W p l e R s m args below meth c H locs cells slots Q (F0 m pc ls (.ref x :: .ref a :: rest)) := by
  have h6 : ci = 4 ∨ ci = 5 ∨ ci = 6 ∨ ci = 7 ∨ ci = 8 ∨ ci = 9 := by omega
  rcases h6 with rfl | rfl | rfl | rfl | rfl | rfl
  · exact fs_putF hexec hb hts hown hK c_NU hP hS he 2 (by decide) hlink (fun _ h9 => h9) rfl hin2 rfl rfl rfl hl hdg kk
  · exact fs_putF hexec hb hts hown hK c_RE hP hS he 5 (by decide) hlink (fun _ h9 => h9) rfl hin2 rfl rfl rfl hl hdg kk
  · exact fs_putF hexec hb hts hown hK c_SI hP hS he 1 (by decide) hlink (fun _ h9 => h9) rfl hin2 rfl rfl rfl hl hdg kk
  · exact fs_putF hexec hb hts hown hK c_PA hP hS he 1 (by decide) hlink (fun _ h9 => h9) rfl hin2 rfl rfl rfl hl hdg kk
  · exact fs_putF hexec hb hts hown hK c_CA hP hS he 1 (by decide) hlink (fun _ h9 => h9) rfl hin2 rfl rfl rfl hl hdg kk
  · exact fs_putF hexec hb hts hown hK c_OV hP hS he 3 (by decide) hlink (fun _ h9 => h9) rfl hin2 rfl rfl rfl hl hdg kk
theorem fs_aastP (hexec : p.tables.exec = Jvm.exec) (hb : c.code = cc) (hts : ∀ w ∈ fs_tb, w.before args s = true) (hK : va_K G.1 fs_cl (fs_tys G) s) (hP : fs_P G.1 fs_cl A h H) (hS : va_S A H0 H locs) {n v : Nat} {f : Nat → Option Nat} (ha : h a = some (.inl (G.2 6, n, .inr (.inr (.inr (.inr f)))))) (hv : fs_isP h v) {i : Int32} (hin : vp_in i n) (hdg : decode cc pc = .ok (.aastore, 1))
    (kk : ∀ (H1 : Heap) (locs1 : List Loc), fs_P G.1 fs_cl A (fs_up h a (.inl (G.2 6, n, .inr (.inr (.inr (.inr (va_up f i.toNatClampNeg (some v)))))))) H1 → va_S A H0 H1 locs1 → W p l e R s m args below meth c H1 locs1 cells slots Q (F0 m (pc + 1) ls rest)) : W p l e R s m args below meth c H locs cells slots Q (F0 m pc ls (.ref v :: .int i :: .ref a :: rest)) := by
  obtain ⟨ci, vs, he, hc⟩ := fs_isP_some hv
  have h6 : ci = 4 ∨ ci = 5 ∨ ci = 6 ∨ ci = 7 ∨ ci = 8 ∨ ci = 9 := by omega
  rcases h6 with rfl | rfl | rfl | rfl | rfl | rfl
  · exact fs_aastU hexec hb hK hP hS 6 4 ha rfl he rfl (hts _ (fs_tb_at 1877 tw_1877 rfl)) hin hdg kk
  · exact fs_aastU hexec hb hK hP hS 6 5 ha rfl he rfl (hts _ (fs_tb_at 1880 tw_1880 rfl)) hin hdg kk
  · exact fs_aastU hexec hb hK hP hS 6 6 ha rfl he rfl (hts _ (fs_tb_at 1881 tw_1881 rfl)) hin hdg kk
  · exact fs_aastU hexec hb hK hP hS 6 7 ha rfl he rfl (hts _ (fs_tb_at 1879 tw_1879 rfl)) hin hdg kk
  · exact fs_aastU hexec hb hK hP hS 6 8 ha rfl he rfl (hts _ (fs_tb_at 1876 tw_1876 rfl)) hin hdg kk
  · exact fs_aastU hexec hb hK hP hS 6 9 ha rfl he rfl (hts _ (fs_tb_at 1878 tw_1878 rfl)) hin hdg kk
theorem fs_acmp_eq (hexec : p.tables.exec = Jvm.exec) (hb : c.code = cc) {x y : Nat} {off : Int} {tgt : Nat} (hdg : decode cc pc = .ok (.if_acmp .eq off, 3)) (ht : (pc : Int) + off = (tgt : Int))
    (kt : x = y → W p l e R s m args below meth c H locs cells slots Q (F0 m tgt ls rest)) (kf : ¬ x = y → W p l e R s m args below meth c H locs cells slots Q (F0 m (pc + 3) ls rest)) : W p l e R s m args below meth c H locs cells slots Q (F0 m pc ls (.ref y :: .ref x :: rest)) :=
  lv_acmp_eq (rx := some x) (ry := some y) hexec hb hdg ht (fun h9 => kt (Option.some.inj h9)) (fun h9 => kf (fun q => h9 (by rw [q])))
theorem fs_acmp_ne (hexec : p.tables.exec = Jvm.exec) (hb : c.code = cc) {x y : Nat} {off : Int} {tgt : Nat} (hdg : decode cc pc = .ok (.if_acmp .ne off, 3)) (ht : (pc : Int) + off = (tgt : Int))
    (kt : ¬ x = y → W p l e R s m args below meth c H locs cells slots Q (F0 m tgt ls rest)) (kf : x = y → W p l e R s m args below meth c H locs cells slots Q (F0 m (pc + 3) ls rest)) : W p l e R s m args below meth c H locs cells slots Q (F0 m pc ls (.ref y :: .ref x :: rest)) :=
  lv_acmp_ne (rx := some x) (ry := some y) hexec hb hdg ht (fun h9 => kt (fun q => h9 (by rw [q]))) (fun h9 => kf (Option.some.inj h9))
end FSW
section FSV
variable {p : Program} {l : Launch} {e : Env} {R : Room} {s : State} {m : MethodId} {args : Array Value} {below : List Frame} {meth : Method} {c : Code} {H : Heap} {locs : List Loc} {cells slots : Nat} {Q : State → Prop}
variable {cc : ByteArray} {pc : Nat} {ls : Array Slot} {rest : List Value} {G : fs_G} {h : fs_Hp} {s00 : State} {Post' : fs_Ps} {y0 : MethodName} {nL : Nat} {ret0 : Option FieldType} {argsL : List Value} {rm : Room} {st : List Value} {index : Nat}
/-- a call of a method that Part has, of whatever part -/
theorem fs_cVV {b ML : Nat} {owner : String} {x : MethodName} (B : fs_B p l e s m args meth c s00 G y0 cc nL ret0) (hsz : ls.size = nL) (hP : fs_P G.1 fs_cl (fs_A s00) h H) (hS : va_S (fs_A s00) s00.heap H locs)
    (hM : fs_CtV l s00 G x rm b argsL h Post' ML) (w1 : Cond.methodLink y0.cls index x ∈ fs_tb) (w6 : Cond.sameMethod x.cls owner x.name x.desc ∈ fs_tb) (w7 : ∀ s9 : State, ∀ a9 : Array Value, (∀ w ∈ fs_tb, w.before a9 s9 = true) → va_Decl s9 ⟨owner, x.name, x.desc⟩)
    (hy : owner ≠ "java/lang/invoke/MethodHandle" ∧ owner ≠ "java/lang/invoke/VarHandle") (hlen : (parseMethodDescriptor x.desc).map (fun d => d.parameters.length) = some argsL.length) (hstack : st = argsL.reverse ++ .ref b :: rest) (hdg : decode cc pc = .ok (.invokevirtual index, 3))
    (hroom : rm.frames + 1 ≤ R.frames ∧ (rest.map fun v => v.category).sum + (ML + 11) + rm.locals ≤ R.locals ∧ cells + rm.cells ≤ R.cells ∧ slots + rm.slots ≤ R.slots)
    (kr : ∀ (v : Option Value) (h' : fs_Hp) (H1 : Heap) (locs1 : List Loc), Post' (.inl v) h' → fs_P G.1 fs_cl (fs_A s00) h' H1 → va_S (fs_A s00) s00.heap H1 locs1 → W p l e R s m args below meth c H1 locs1 (cells + rm.cells) (slots + rm.slots) Q (F0 m (pc + 3) ls (v.toList ++ rest)))
    (kt : ∀ (C : String) (a : Nat) (h' : fs_Hp) (H1 : Heap) (locs1 : List Loc), Post' (.inr C) h' → fs_P G.1 fs_cl (fs_A s00) h' H1 → va_S (fs_A s00) s00.heap H1 locs1 → fs_X (fs_A s00) C a s H1 → fx_T p l e R s m args below meth c H1 locs1 (cells + rm.cells) (slots + rm.slots) Q (F0 m pc ls rest) a) : W p l e R s m args below meth c H locs cells slots Q (F0 m pc ls st) := by
  obtain ⟨hx, hb, -, hml, hown, hts, -, -, hK, hw, -⟩ := B
  obtain ⟨y, bytes, maxL, ret, ci, fs, C, T, N, he, hc, w5, w2, w3, w4, hle, hM⟩ := hM
  exact fs_call hb (hsz.trans hml.symm) hw hP hS hdg (fun T hT X => by
    obtain ⟨cell, q1, q2, q3⟩ := fs_recv hK hP he hc
    exact fx_toVU (bytes := bytes) (maxL := maxL) (ret := ret) X hx hown (hts _ w1) (hts _ w6) (w7 s args hts) hy (hts _ w5) (hts _ w2) (by rw [hT]; exact q1) q2 q3 hlen hstack (by rw [hb]; exact hdg)) hM (hts _ w4) (by first | rfl | decide) (fun U mk => fs_cy) (hts _ w3) ⟨hroom.1, by have := hroom.2.1; omega, hroom.2.2⟩ kr kt
theorem fs_dclA {x : MethodName} (w : Cond.declares x ∈ fs_tb) : ∀ s9 : State, ∀ a9 : Array Value, (∀ w ∈ fs_tb, w.before a9 s9 = true) → va_Decl s9 x := fun s9 a9 h9 => va_Decl.abs (va_Nw.of rfl (h9 _ w))
theorem fs_dclC {x : MethodName} {b : ByteArray} {n : Nat} {r : Option FieldType} (w1 : Cond.instanceMethod x ∈ fs_tb) (w2 : Cond.code x b n r ∈ fs_tb) : ∀ s9 : State, ∀ a9 : Array Value, (∀ w ∈ fs_tb, w.before a9 s9 = true) → va_Decl s9 x := fun s9 a9 h9 => va_Decl.of (h9 _ w1) (h9 _ w2)
end FSV
