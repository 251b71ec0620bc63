/-! Pure: the class's whole state, and what lies beside it. -/
/-- what kind of thing -/
def knd (o : Option va_E) : Nat := match o with | none => 0 | some (.inr (c, _)) => 10 + c | some (.inl (_, _, .inl _)) => 1 | some (.inl (_, _, .inr (.inl _))) => 2 | some (.inl (_, _, .inr (.inr (.inl _)))) => 3 | some (.inl (_, _, .inr (.inr (.inr (.inl _))))) => 4 | some (.inl (_, _, .inr (.inr (.inr (.inr _))))) => 5
theorem knd_o (c : Nat) (fs : List Value) : knd (some (.inr (c, fs))) = 10 + c := rfl
theorem knd_i (c : ClassId) (n : Nat) (f : Nat → Int32) : knd (some (.inl (c, n, .inl f))) = 1 := rfl
theorem knd_d (c : ClassId) (n : Nat) (f : Nat → UInt64) : knd (some (.inl (c, n, .inr (.inr (.inr (.inl f)))))) = 4 := rfl
theorem knd_r (c : ClassId) (n : Nat) (f : Nat → Option Nat) : knd (some (.inl (c, n, .inr (.inr (.inr (.inr f)))))) = 5 := rfl
theorem knd_no {o : Option va_E} (h : knd o ≠ 0) : o ≠ none := fun z => h (by rw [z]; rfl)
theorem knd_n5 {o : Option va_E} (h : knd o ≠ 15) : ∀ fs, o ≠ some (.inr (5, fs)) := fun fs z => h (by rw [z]; rfl)
/-- the cells' places -/
def ccp (ce fil fo va re ga od : Nat) (rf : Nat → Option Nat) (A : Shh) (Fs : Nat → List Nat) (q : Nat) : Prop := q = ce ∨ q = fil ∨ q = fo ∨ q = va ∨ q = re ∨ q = ga ∨ q = od ∨ (∃ k, k < 80 ∧ rf k = some q) ∨ ∃ k, k < 80 ∧ (∃ L, A k = some (.inr L)) ∧ q ∈ Fs k
/-- the other places -/
def cfp (x ln ch sb v q : Nat) : Prop := q = x ∨ q = ln ∨ q = ch ∨ q = sb ∨ q = v
section
variable {E : fs_E} {U : Nat → Prop} {h h' : fs_Hp} {x ln ch ce fil fo va re ga od sb v cap n : Nat} {A : Shh} {f : Nat → Int32} {t : List Nat} {er x2 x3 st : Int32} {bf : Nat → Int32} {vf : Nat → UInt64} {ff rf : Nat → Option Nat} {oo : Nat → Int32} {Fs : Nat → List Nat}
theorem ccp_R {k q : Nat} (hk : k < 80) (e : rf k = some q) : ccp ce fil fo va re ga od rf A Fs q := Or.inr (Or.inr (Or.inr (Or.inr (Or.inr (Or.inr (Or.inr (Or.inl ⟨k, hk, e⟩)))))))
theorem ccp_F {k q : Nat} (hk : k < 80) (e : ∃ L, A k = some (.inr L)) (hq : q ∈ Fs k) : ccp ce fil fo va re ga od rf A Fs q := Or.inr (Or.inr (Or.inr (Or.inr (Or.inr (Or.inr (Or.inr (Or.inr ⟨k, hk, e, hq⟩)))))))
theorem ccp_kind (c : clL E h A ce fil fo va re ga od st bf vf ff rf oo Fs) {q : Nat} (hq : ccp ce fil fo va re ga od rf A Fs q) : (q = fil ∧ knd (h q) = 1) ∨ (q = od ∧ knd (h q) = 1) ∨ knd (h q) = 12 ∨ knd (h q) = 4 ∨ knd (h q) = 5 ∨ knd (h q) = 13 ∨ (14 ≤ knd (h q) ∧ knd (h q) ≤ 19) := by
  obtain ⟨⟨⟨c1, c2, c3, c4, c5⟩, ⟨gf, g⟩, a3, a4, a5, a6, a7⟩, ht, hj, ⟨P, hr⟩, hcel, hsep⟩ := c
  unfold gaF at g
  rcases hq with rfl | rfl | rfl | rfl | rfl | rfl | rfl | ⟨k, hk, e⟩ | ⟨k, hk, ⟨L, hL⟩, e⟩
  · rw [c1, knd_o]; omega
  · rw [c2, knd_i]; exact Or.inl ⟨rfl, rfl⟩
  · rw [a3, knd_r]; omega
  · rw [c3, knd_d]; omega
  · rw [a4, knd_r]; omega
  · rw [g, knd_d]; omega
  · rw [a5, knd_i]; exact Or.inr (Or.inl ⟨rfl, rfl⟩)
  · obtain ⟨s, s1, lo, hi, s2, _⟩ := hr k hk
    rw [e] at s1
    cases s1
    rw [s2, knd_o]; omega
  · obtain ⟨r, r1, r2⟩ := (ht k hk).1 L hL
    rcases rp_cls 41 r2 q e with ⟨c, fs, w1, w2, w3⟩ | ⟨m, g, w3⟩
    · rw [w3, knd_o]; omega
    · unfold tr_in at w3
      rw [w3, knd_r]; omega
/-- no place of the cells -/
theorem ccp_far (c : clL E h A ce fil fo va re ga od st bf vf ff rf oo Fs) {q : Nat} (hq : knd (h q) = 10 ∨ knd (h q) = 11 ∨ knd (h q) = 21 ∨ knd (h q) = 0 ∨ (knd (h q) = 1 ∧ q ≠ fil ∧ q ≠ od)) : ¬ ccp ce fil fo va re ga od rf A Fs q := by
  intro z
  have := ccp_kind c z
  omega
theorem clL.kp (c : clL E h A ce fil fo va re ga od st bf vf ff rf oo Fs) (e : ∀ q, ccp ce fil fo va re ga od rf A Fs q → h' q = h q) : clL E h' A ce fil fo va re ga od st bf vf ff rf oo Fs := by
  obtain ⟨⟨⟨c1, c2, c3, c4, c5⟩, ⟨gf, g⟩, a3, a4, a5, a6, a7⟩, ht, hj, ⟨P, hr⟩, hcel, hsep⟩ := c
  refine ⟨⟨⟨(e ce (Or.inl rfl)).trans c1, (e fil (Or.inr (Or.inl rfl))).trans c2, (e va (Or.inr (Or.inr (Or.inr (Or.inl rfl))))).trans c3, c4, c5⟩, ⟨gf, (e ga (Or.inr (Or.inr (Or.inr (Or.inr (Or.inr (Or.inl rfl))))))).trans g⟩, (e fo (Or.inr (Or.inr (Or.inl rfl)))).trans a3, (e re (Or.inr (Or.inr (Or.inr (Or.inr (Or.inl rfl)))))).trans a4, (e od (Or.inr (Or.inr (Or.inr (Or.inr (Or.inr (Or.inr (Or.inl rfl)))))))).trans a5, a6, a7⟩, fun k hk => ⟨fun L hL => ?_, (ht k hk).2⟩, hj, ⟨P, fun k hk => ?_⟩, hcel, hsep⟩
  · obtain ⟨r, r1, r2⟩ := (ht k hk).1 L hL
    exact ⟨r, r1, r2.kept 41 fun q hq => e q (ccp_F hk ⟨L, hL⟩ hq)⟩
  · obtain ⟨s, s1, s2⟩ := hr k hk
    exact ⟨s, s1, s2.kept (e s (ccp_R hk s1))⟩
theorem dsj.kp (d : dsj h A Fs) (e : ∀ q, ccp ce fil fo va re ga od rf A Fs q → h' q = h q) : dsj h' A Fs := ⟨d.1, fun k j hk hj hkj fk fj q q1 q2 fs => by
  rw [e q (ccp_F hk fk q1)]
  exact d.2 k j hk hj hkj fk fj q q1 q2 fs⟩
theorem stld.kp (s : stld A h rf vf) (e : ∀ q, ccp ce fil fo va re ga od rf A Fs q → h' q = h q) : stld A h' rf vf := ⟨fun k hk => by
  obtain ⟨s, s1, s2⟩ := s.1 k hk
  exact ⟨s, s1, s2.kept (e s (ccp_R hk s1))⟩, s.2⟩
theorem sbR.kp (s : sbR E h sb v cap t) (e : h' sb = h sb) (e' : h' v = h v) : sbR E h' sb v cap t := by
  obtain ⟨f, x2, s1, s2, s3⟩ := s
  exact ⟨f, x2, e.trans s1, e'.trans s2, s3⟩
/-- the class's state; U: places that are not its own -/
def CIx (E : fs_E) (U : Nat → Prop) (h : fs_Hp) (x : Nat) (A : Shh) (f : Nat → Int32) (n : Nat) (er : Int32) (ln ch ce fil fo va re ga od sb v cap : Nat) (t : List Nat) (x2 x3 st : Int32) (bf : Nat → Int32) (vf : Nat → UInt64) (ff rf : Nat → Option Nat) (oo : Nat → Int32) (Fs : Nat → List Nat) : Prop :=
  (h x = some (.inr (0, [.ref ln, .ref ce, .ref sb, .int er])) ∧ h ln = some (.inr (1, [.ref ch, .int (nI n), .int x2, .int x3])) ∧ h ch = some (.inl (E.1.2 4, 40, .inl f)) ∧ n ≤ 40 ∧ ∀ i, i < n → ∃ c, c < 128 ∧ f i = nI c) ∧
  clL E h A ce fil fo va re ga od st bf vf ff rf oo Fs ∧ dsj h A Fs ∧ (st = 0 ∨ (st = 1 ∧ stld A h rf vf)) ∧ (sbR E h sb v cap t ∧ 11 ≤ cap) ∧ (ch ≠ fil ∧ ch ≠ od ∧ ch ≠ v ∧ fil ≠ v ∧ od ≠ v) ∧
  ∀ q, U q → h q ≠ none ∧ (∀ fs, h q ≠ some (.inr (5, fs))) ∧ ¬ cfp x ln ch sb v q ∧ ¬ ccp ce fil fo va re ga od rf A Fs q
def CI (E : fs_E) (U : Nat → Prop) (h : fs_Hp) (x : Nat) (A : Shh) (f : Nat → Int32) (n : Nat) (er : Int32) : Prop := ∃ (ln ch ce fil fo va re ga od sb v cap : Nat) (t : List Nat) (x2 x3 st : Int32) (bf : Nat → Int32) (vf : Nat → UInt64) (ff rf : Nat → Option Nat) (oo : Nat → Int32) (Fs : Nat → List Nat), CIx E U h x A f n er ln ch ce fil fo va re ga od sb v cap t x2 x3 st bf vf ff rf oo Fs
theorem CIx.ci (c : CIx E U h x A f n er ln ch ce fil fo va re ga od sb v cap t x2 x3 st bf vf ff rf oo Fs) : CI E U h x A f n er := ⟨ln, ch, ce, fil, fo, va, re, ga, od, sb, v, cap, t, x2, x3, st, bf, vf, ff, rf, oo, Fs, c⟩
/-- what is not the class's stays -/
def fU (U : Nat → Prop) (h h' : fs_Hp) : Prop := ∀ q, U q → h' q = h q
theorem fU.sm : fU U h h := fun _ _ => rfl
theorem fU.trans {h2 : fs_Hp} (a : fU U h h') (b : fU U h' h2) : fU U h h2 := fun q hq => (b q hq).trans (a q hq)
theorem CIx.knds (c : CIx E U h x A f n er ln ch ce fil fo va re ga od sb v cap t x2 x3 st bf vf ff rf oo Fs) : knd (h x) = 10 ∧ knd (h ln) = 11 ∧ knd (h ch) = 1 ∧ knd (h sb) = 21 ∧ knd (h v) = 1 := by
  obtain ⟨⟨b1, b2, b3, _⟩, _, _, _, ⟨⟨g, y, s1, s2, _⟩, _⟩, _⟩ := c
  rw [b1, b2, b3, s1, s2]
  exact ⟨rfl, rfl, rfl, rfl, rfl⟩
theorem CIx.far (c : CIx E U h x A f n er ln ch ce fil fo va re ga od sb v cap t x2 x3 st bf vf ff rf oo Fs) {q : Nat} (hq : cfp x ln ch sb v q) : ¬ ccp ce fil fo va re ga od rf A Fs q := by
  obtain ⟨k1, k2, k3, k4, k5⟩ := c.knds
  obtain ⟨n1, n2, n3, n4, n5⟩ := c.2.2.2.2.2.1
  rcases hq with rfl | rfl | rfl | rfl | rfl
  · exact ccp_far c.2.1 (Or.inl k1)
  · exact ccp_far c.2.1 (Or.inr (Or.inl k2))
  · exact ccp_far c.2.1 (Or.inr (Or.inr (Or.inr (Or.inr ⟨k3, n1, n2⟩))))
  · exact ccp_far c.2.1 (Or.inr (Or.inr (Or.inl k4)))
  · exact ccp_far c.2.1 (Or.inr (Or.inr (Or.inr (Or.inr ⟨k5, Ne.symm n4, Ne.symm n5⟩))))
theorem ccp_some (c : clL E h A ce fil fo va re ga od st bf vf ff rf oo Fs) {q : Nat} (hq : ccp ce fil fo va re ga od rf A Fs q) : h q ≠ none := by
  have := ccp_kind c hq
  exact knd_no (by omega)
theorem CIx.nnn (c : CIx E U h x A f n er ln ch ce fil fo va re ga od sb v cap t x2 x3 st bf vf ff rf oo Fs) {q : Nat} (hq : cfp x ln ch sb v q) : h q ≠ none := by
  obtain ⟨k1, k2, k3, k4, k5⟩ := c.knds
  rcases hq with rfl | rfl | rfl | rfl | rfl <;> exact knd_no (by omega)
/-- all its places stay -/
theorem CIx.kp (c : CIx E U h x A f n er ln ch ce fil fo va re ga od sb v cap t x2 x3 st bf vf ff rf oo Fs) (e1 : ∀ q, cfp x ln ch sb v q → h' q = h q) (e2 : ∀ q, ccp ce fil fo va re ga od rf A Fs q → h' q = h q) (e3 : ∀ q, U q → h' q ≠ none ∧ ∀ fs, h' q ≠ some (.inr (5, fs))) : CIx E U h' x A f n er ln ch ce fil fo va re ga od sb v cap t x2 x3 st bf vf ff rf oo Fs := by
  obtain ⟨⟨b1, b2, b3, b4⟩, c1, c2, c3, ⟨c4, c5⟩, c6, c7⟩ := c
  refine ⟨⟨(e1 x (Or.inl rfl)).trans b1, (e1 ln (Or.inr (Or.inl rfl))).trans b2, (e1 ch (Or.inr (Or.inr (Or.inl rfl)))).trans b3, b4⟩, c1.kp e2, c2.kp e2, ?_, ⟨c4.kp (e1 sb (Or.inr (Or.inr (Or.inr (Or.inl rfl))))) (e1 v (Or.inr (Or.inr (Or.inr (Or.inr rfl))))), c5⟩, c6, fun q hq => ⟨(e3 q hq).1, (e3 q hq).2, (c7 q hq).2.2⟩⟩
  rcases c3 with z | ⟨z1, z2⟩
  · exact Or.inl z
  · exact Or.inr ⟨z1, z2.kp e2⟩
/-- something else has changed -/
theorem CI.kept (c : CI E U h x A f n er) (hx : ∀ q, ¬ U q → h' q = h q) (hs : ∀ q, U q → h' q ≠ none ∧ ∀ fs, h' q ≠ some (.inr (5, fs))) : CI E U h' x A f n er := by
  obtain ⟨ln, ch, ce, fil, fo, va, re, ga, od, sb, v, cap, t, x2, x3, st, bf, vf, ff, rf, oo, Fs, c⟩ := c
  exact (c.kp (fun q hq => hx q fun z => (c.2.2.2.2.2.2 q z).2.2.1 hq) (fun q hq => hx q fun z => (c.2.2.2.2.2.2 q z).2.2.2 hq) hs).ci
/-- something new lies there -/
theorem CIx.byX (c : CIx E U h x A f n er ln ch ce fil fo va re ga od sb v cap t x2 x3 st bf vf ff rf oo Fs) (e : ext h h') : CIx E U h' x A f n er ln ch ce fil fo va re ga od sb v cap t x2 x3 st bf vf ff rf oo Fs ∧ fU U h h' := by
  have k : fU U h h' := fun q hq => e q (c.2.2.2.2.2.2 q hq).1
  refine ⟨c.kp (fun q hq => e q (c.nnn hq)) (fun q hq => e q (ccp_some c.2.1 hq)) fun q hq => ?_, k⟩
  rw [k q hq]
  exact ⟨(c.2.2.2.2.2.2 q hq).1, (c.2.2.2.2.2.2 q hq).2.1⟩
/-- the cells have changed -/
theorem CIx.cells (c : CIx E U h x A f n er ln ch ce fil fo va re ga od sb v cap t x2 x3 st bf vf ff rf oo Fs) {A' : Shh} {st' : Int32} {bf' : Nat → Int32} {vf' : Nat → UInt64} {ff' : Nat → Option Nat} {oo' : Nat → Int32} {Fs' : Nat → List Nat} (c' : clL E h' A' ce fil fo va re ga od st' bf' vf' ff' rf oo' Fs') (d' : dsj h' A' Fs') (s' : st' = 0 ∨ (st' = 1 ∧ stld A' h' rf vf')) (fr : ∀ q, q ≠ ce → q ≠ fil → q ≠ va → q ≠ fo → q ≠ od → q ≠ ga → (∀ k, k < 80 → rf k ≠ some q) → h q ≠ none → h' q = h q ∨ ∃ fs, h q = some (.inr (5, fs))) (hF : ∀ k, k < 80 → (∃ L, A' k = some (.inr L)) → ∀ q ∈ Fs' k, ¬ U q) : CIx E U h' x A' f n er ln ch ce fil fo va re ga od sb v cap t x2 x3 st' bf' vf' ff' rf oo' Fs' ∧ fU U h h' := by
  have keep : ∀ q, ¬ ccp ce fil fo va re ga od rf A Fs q → h q ≠ none → (∀ fs, h q ≠ some (.inr (5, fs))) → h' q = h q := by
    intro q hq hn h5
    rcases fr q (fun z => hq (Or.inl z)) (fun z => hq (Or.inr (Or.inl z))) (fun z => hq (Or.inr (Or.inr (Or.inr (Or.inl z))))) (fun z => hq (Or.inr (Or.inr (Or.inl z)))) (fun z => hq (Or.inr (Or.inr (Or.inr (Or.inr (Or.inr (Or.inr (Or.inl z)))))))) (fun z => hq (Or.inr (Or.inr (Or.inr (Or.inr (Or.inr (Or.inl z))))))) (fun k hk z => hq (ccp_R hk z)) hn with e | ⟨fs, e⟩
    · exact e
    · exact absurd e (h5 fs)
  obtain ⟨k1, k2, k3, k4, k5⟩ := c.knds
  have e1 : ∀ q, cfp x ln ch sb v q → h' q = h q := fun q hq => keep q (c.far hq) (c.nnn hq) (by rcases hq with rfl | rfl | rfl | rfl | rfl <;> exact knd_n5 (by omega))
  have eU : fU U h h' := fun q hq => keep q (c.2.2.2.2.2.2 q hq).2.2.2 (c.2.2.2.2.2.2 q hq).1 (c.2.2.2.2.2.2 q hq).2.1
  obtain ⟨⟨b1, b2, b3, b4⟩, c1, c2, c3, ⟨c4, c5⟩, c6, c7⟩ := c
  refine ⟨⟨⟨(e1 x (Or.inl rfl)).trans b1, (e1 ln (Or.inr (Or.inl rfl))).trans b2, (e1 ch (Or.inr (Or.inr (Or.inl rfl)))).trans b3, b4⟩, c', d', s', ⟨c4.kp (e1 sb (Or.inr (Or.inr (Or.inr (Or.inl rfl))))) (e1 v (Or.inr (Or.inr (Or.inr (Or.inr rfl))))), c5⟩, c6, fun q hq => ?_⟩, eU⟩
  rw [eU q hq]
  obtain ⟨u1, u2, u3, u4⟩ := c7 q hq
  refine ⟨u1, u2, u3, ?_⟩
  rintro (z | z | z | z | z | z | z | ⟨k, hk, z⟩ | ⟨k, hk, z1, z2⟩)
  · exact u4 (Or.inl z)
  · exact u4 (Or.inr (Or.inl z))
  · exact u4 (Or.inr (Or.inr (Or.inl z)))
  · exact u4 (Or.inr (Or.inr (Or.inr (Or.inl z))))
  · exact u4 (Or.inr (Or.inr (Or.inr (Or.inr (Or.inl z)))))
  · exact u4 (Or.inr (Or.inr (Or.inr (Or.inr (Or.inr (Or.inl z))))))
  · exact u4 (Or.inr (Or.inr (Or.inr (Or.inr (Or.inr (Or.inr (Or.inl z)))))))
  · exact u4 (ccp_R hk z)
  · exact hF k hk z1 q z2 hq
/-- the line has changed, or the object itself -/
theorem CIx.line (c : CIx E U h x A f n er ln ch ce fil fo va re ga od sb v cap t x2 x3 st bf vf ff rf oo Fs) {f' : Nat → Int32} {n' : Nat} {er' y2 y3 : Int32} (e1 : h' x = some (.inr (0, [.ref ln, .ref ce, .ref sb, .int er']))) (e2 : h' ln = some (.inr (1, [.ref ch, .int (nI n'), .int y2, .int y3]))) (e3 : h' ch = some (.inl (E.1.2 4, 40, .inl f'))) (hn : n' ≤ 40) (hf : ∀ i, i < n' → ∃ c, c < 128 ∧ f' i = nI c) (fr : ∀ q, q ≠ x → q ≠ ln → q ≠ ch → h q ≠ none → h' q = h q) : CIx E U h' x A f' n' er' ln ch ce fil fo va re ga od sb v cap t y2 y3 st bf vf ff rf oo Fs ∧ fU U h h' := by
  obtain ⟨k1, k2, k3, k4, k5⟩ := c.knds
  have eC : ∀ q, ccp ce fil fo va re ga od rf A Fs q → h' q = h q := fun q hq => fr q (fun z => c.far (Or.inl z) hq) (fun z => c.far (Or.inr (Or.inl z)) hq) (fun z => c.far (Or.inr (Or.inr (Or.inl z))) hq) (ccp_some c.2.1 hq)
  have eU : fU U h h' := fun q hq => fr q (fun z => (c.2.2.2.2.2.2 q hq).2.2.1 (Or.inl z)) (fun z => (c.2.2.2.2.2.2 q hq).2.2.1 (Or.inr (Or.inl z))) (fun z => (c.2.2.2.2.2.2 q hq).2.2.1 (Or.inr (Or.inr (Or.inl z)))) (c.2.2.2.2.2.2 q hq).1
  have s1 : h' sb = h sb := fr sb (fun z => by rw [z] at k4; omega) (fun z => by rw [z] at k4; omega) (fun z => by rw [z] at k4; omega) (knd_no (by omega))
  have s2 : h' v = h v := fr v (fun z => by rw [z] at k5; omega) (fun z => by rw [z] at k5; omega) (Ne.symm c.2.2.2.2.2.1.2.2.1) (knd_no (by omega))
  obtain ⟨_, c1, c2, c3, ⟨c4, c5⟩, c6, c7⟩ := c
  refine ⟨⟨⟨e1, e2, e3, hn, hf⟩, c1.kp eC, c2.kp eC, ?_, ⟨c4.kp s1 s2, c5⟩, c6, fun q hq => ?_⟩, eU⟩
  · rcases c3 with z | ⟨z1, z2⟩
    · exact Or.inl z
    · exact Or.inr ⟨z1, z2.kp eC⟩
  · rw [eU q hq]
    exact c7 q hq
/-- the builder has changed -/
theorem CIx.text (c : CIx E U h x A f n er ln ch ce fil fo va re ga od sb v cap t x2 x3 st bf vf ff rf oo Fs) {v' cap' : Nat} {t' : List Nat} (s : sbR E h' sb v' cap' t') (hc : 11 ≤ cap') (hv : v' = v ∨ h v' = none) (fr : gS sb v h h') : CIx E U h' x A f n er ln ch ce fil fo va re ga od sb v' cap' t' x2 x3 st bf vf ff rf oo Fs ∧ fU U h h' := by
  obtain ⟨k1, k2, k3, k4, k5⟩ := c.knds
  have eC : ∀ q, ccp ce fil fo va re ga od rf A Fs q → h' q = h q := fun q hq => fr q (fun z => c.far (Or.inr (Or.inr (Or.inr (Or.inl z)))) hq) (fun z => c.far (Or.inr (Or.inr (Or.inr (Or.inr z)))) hq) (ccp_some c.2.1 hq)
  have eU : fU U h h' := fun q hq => fr q (fun z => (c.2.2.2.2.2.2 q hq).2.2.1 (Or.inr (Or.inr (Or.inr (Or.inl z))))) (fun z => (c.2.2.2.2.2.2 q hq).2.2.1 (Or.inr (Or.inr (Or.inr (Or.inr z))))) (c.2.2.2.2.2.2 q hq).1
  have q1 : h' x = h x := fr x (fun z => by rw [z] at k1; omega) (fun z => by rw [z] at k1; omega) (knd_no (by omega))
  have q2 : h' ln = h ln := fr ln (fun z => by rw [z] at k2; omega) (fun z => by rw [z] at k2; omega) (knd_no (by omega))
  have q3 : h' ch = h ch := fr ch (fun z => by rw [z] at k3; omega) c.2.2.2.2.2.1.2.2.1 (knd_no (by omega))
  have ne : ∀ q, h q ≠ none → q ≠ v → q ≠ v' := fun q hq qv z => by
    rcases hv with w | w
    · exact qv (z.trans w)
    · exact hq (by rw [z]; exact w)
  have nf : h fil ≠ none := ccp_some c.2.1 (Or.inr (Or.inl rfl))
  have no : h od ≠ none := ccp_some c.2.1 (Or.inr (Or.inr (Or.inr (Or.inr (Or.inr (Or.inr (Or.inl rfl)))))))
  have nc : h ch ≠ none := knd_no (by omega)
  obtain ⟨⟨b1, b2, b3, b4⟩, c1, c2, c3, _, ⟨m1, m2, m3, m4, m5⟩, c7⟩ := c
  refine ⟨⟨⟨q1.trans b1, q2.trans b2, q3.trans b3, b4⟩, c1.kp eC, c2.kp eC, ?_, ⟨s, hc⟩, ⟨m1, m2, ne ch nc m3, ne fil nf m4, ne od no m5⟩, fun q hq => ?_⟩, eU⟩
  · rcases c3 with z | ⟨z1, z2⟩
    · exact Or.inl z
    · exact Or.inr ⟨z1, z2.kp eC⟩
  · rw [eU q hq]
    obtain ⟨u1, u2, u3, u4⟩ := c7 q hq
    refine ⟨u1, u2, ?_, u4⟩
    rintro (z | z | z | z | z)
    · exact u3 (Or.inl z)
    · exact u3 (Or.inr (Or.inl z))
    · exact u3 (Or.inr (Or.inr (Or.inl z)))
    · exact u3 (Or.inr (Or.inr (Or.inr (Or.inl z))))
    · exact ne q u1 (fun w => u3 (Or.inr (Or.inr (Or.inr (Or.inr w))))) z
end
