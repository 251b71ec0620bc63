/-! Pure: the class puts the formulas in order and works them out. -/
theorem rcov_in {x : It} (hx : itok x) {c r : Nat} (h : rcov x c r = true) : c < 8 ∧ r < 10 := by
  have hxo : ∀ {a : Int32}, xok a → p_MO_lost a = 0 → rgcol a < 8 ∧ rgrow a < 10 := by
    intro a ha hl
    rcases ha with rfl | ⟨C, W, A, B, h1, h2, h3, h4, rfl⟩
    · rw [rf_512] at hl; exact absurd hl (by decide)
    · obtain ⟨d1, d2, d3⟩ := rf_dec C h1 W h2 A h3 B h4
      rw [d1, d2]
      exact ⟨h1, h2⟩
  rcases hx with ⟨b, d, h1, h2, rfl⟩ | ⟨a, h1, rfl⟩ | ⟨j, a, b, h0, h1, h2, rfl⟩ | ⟨w, hw, rfl⟩ | rfl | ⟨w, hw, rfl⟩
  · rw [rcov_tl (Or.inl rfl)] at h; cases h
  · unfold rcov at h
    rw [if_pos rfl, decide_eq_true_eq] at h
    have := hxo h1 h.1
    dsimp only at h
    omega
  · obtain ⟨g1, g2, g3, g4, g5⟩ := it_rg j h0
    unfold rcov at h
    rw [if_neg g2, decide_eq_true_eq] at h
    obtain ⟨z1, z2, z3, z4, z5, z6, z7, z8⟩ := h
    have a1 := hxo h1 z3
    have a2 := hxo h2 z4
    dsimp only at z5 z6 z7 z8
    omega
  · rw [rcov_tl (by rcases hw with rfl | rfl | rfl | rfl <;> exact Or.inr (by decide))] at h; cases h
  · rw [rcov_tl (Or.inr (show (7 : Int32) ≤ 9 by decide))] at h; cases h
  · rw [rcov_tl (by rcases hw with rfl | rfl | rfl | rfl | rfl | rfl | rfl | rfl | rfl | rfl <;> exact Or.inr (by decide))] at h; cases h
theorem rcs_in {L : List It} (hL : ∀ x ∈ L, itok x) {c r : Nat} (h : rcs L c r = true) : c < 8 ∧ r < 10 := by
  unfold rcs at h
  obtain ⟨x, h1, h2⟩ := List.any_eq_true.mp h
  exact rcov_in (hL x h1) h2
theorem rp_notI {n : Nat} {E : fs_E} {h : fs_Hp} {r a m : Nat} {L : List It} {F : List Nat} {c : ClassId} {f : Nat → Int32} (t : rp n E h r L F) (e : h a = some (.inl (c, m, .inl f))) : a ∉ F := by
  intro ha
  rcases rp_cls n t a ha with ⟨c', fs, c1, c2, c3⟩ | ⟨m', g, c3⟩
  · rw [e] at c3; cases c3
  · unfold tr_in at c3
    rw [e] at c3
    cases c3
theorem rp_notD {n : Nat} {E : fs_E} {h : fs_Hp} {r a m : Nat} {L : List It} {F : List Nat} {c : ClassId} {f : Nat → UInt64} (t : rp n E h r L F) (e : h a = some (.inl (c, m, .inr (.inr (.inr (.inl f)))))) : a ∉ F := by
  intro ha
  rcases rp_cls n t a ha with ⟨c', fs, c1, c2, c3⟩ | ⟨m', g, c3⟩
  · rw [e] at c3; cases c3
  · unfold tr_in at c3
    rw [e] at c3
    cases c3
theorem trs.atI {E : fs_E} {h h' : fs_Hp} {A : Shh} {ff : Nat → Option Nat} {Fs : Nat → List Nat} {a m : Nat} {c : ClassId} {f : Nat → Int32} (t : trs E h A ff Fs) (e : h a = some (.inl (c, m, .inl f))) (hx : gx a h h') : trs E h' A ff Fs := by
  intro k hk
  refine ⟨fun L hL => ?_, (t k hk).2⟩
  obtain ⟨r, r1, r2⟩ := (t k hk).1 L hL
  exact ⟨r, r1, r2.kept 41 fun q hq => hx q fun z => rp_notI r2 e (z ▸ hq)⟩
theorem trs.atD {E : fs_E} {h h' : fs_Hp} {A : Shh} {ff : Nat → Option Nat} {Fs : Nat → List Nat} {a m : Nat} {c : ClassId} {f : Nat → UInt64} (t : trs E h A ff Fs) (e : h a = some (.inl (c, m, .inr (.inr (.inr (.inl f)))))) (hx : gx a h h') : trs E h' A ff Fs := by
  intro k hk
  refine ⟨fun L hL => ?_, (t k hk).2⟩
  obtain ⟨r, r1, r2⟩ := (t k hk).1 L hL
  exact ⟨r, r1, r2.kept 41 fun q hq => hx q fun z => rp_notD r2 e (z ▸ hq)⟩
theorem rset.atA {h h' : fs_Hp} {rf : Nat → Option Nat} {P : Nat → Nat → Bool} {a : Nat} {x : ClassId × vp_A} (t : rset h rf P) (e : h a = some (.inl x)) (hx : gx a h h') : rset h' rf P := by
  intro k hk
  obtain ⟨s, e1, e2⟩ := t k hk
  exact ⟨s, e1, e2.kept (hx s (Ne.symm (e2.neA e)))⟩
theorem ne_of_O {h : fs_Hp} {a q : Nat} {x : ClassId × vp_A} {y : Nat × List Value} (e : h a = some (.inl x)) (e' : h q = some (.inr y)) : q ≠ a := fun z => by
  rw [z, e] at e'
  cases e'
/-- what kind of array -/
def akd (o : Option va_E) : Nat := match o with | some (.inl (_, _, .inl _)) => 1 | some (.inl (_, _, .inr (.inr (.inr (.inl _))))) => 2 | some (.inl (_, _, .inr (.inr (.inr (.inr _))))) => 3 | _ => 0
theorem ar_no {x y : Option va_E} (h : x = y) (hk : akd x ≠ akd y) : False := hk (congrArg akd h)
theorem csr.atOd {E : fs_E} {h h' : fs_Hp} {ce fil fo va re ga od : Nat} {st : Int32} {bf : Nat → Int32} {vf : Nat → UInt64} {ff rf : Nat → Option Nat} {oo oo' : Nat → Int32} (a : csr E h ce fil fo va re ga od st bf vf ff rf oo) (hx : gx od h h') (e : h' od = some (.inl (E.1.2 0, 80, .inl oo'))) : csr E h' ce fil fo va re ga od st bf vf ff rf oo' := by
  obtain ⟨⟨c1, c2, c3, c4⟩, ⟨gf, g⟩, a3, a4, a5, a6, a7⟩ := a
  have n1 : va ≠ od := fun z => by rw [z, a5] at c3; exact ar_no c3 (by simp [akd])
  have n2 : ga ≠ od := fun z => by unfold gaF at g; rw [z, a5] at g; exact ar_no g (by simp [akd])
  have n3 : fo ≠ od := fun z => by rw [z, a5] at a3; exact ar_no a3 (by simp [akd])
  have n4 : re ≠ od := fun z => by rw [z, a5] at a4; exact ar_no a4 (by simp [akd])
  exact ⟨⟨(hx ce (ne_of_O a5 c1)).trans c1, (hx fil a7).trans c2, (hx va n1).trans c3, c4⟩, ⟨gf, (hx ga n2).trans g⟩, (hx fo n3).trans a3, (hx re n4).trans a4, e, a6, a7⟩
theorem csr.atVa {E : fs_E} {h h' : fs_Hp} {ce fil fo va re ga od : Nat} {st : Int32} {bf : Nat → Int32} {vf vf' : Nat → UInt64} {ff rf : Nat → Option Nat} {oo : Nat → Int32} (a : csr E h ce fil fo va re ga od st bf vf ff rf oo) (hx : gx va h h') (e : h' va = some (.inl (E.1.2 2, 80, .inr (.inr (.inr (.inl vf')))))) (hn : ∀ k, k < 80 → nn (vf' k)) : csr E h' ce fil fo va re ga od st bf vf' ff rf oo := by
  obtain ⟨⟨c1, c2, c3, c4, c5⟩, ⟨gf, g⟩, a3, a4, a5, a6, a7⟩ := a
  have n1 : fil ≠ va := fun z => by rw [z, c3] at c2; exact ar_no c2 (by simp [akd])
  have n3 : fo ≠ va := fun z => by rw [z, c3] at a3; exact ar_no a3 (by simp [akd])
  have n4 : re ≠ va := fun z => by rw [z, c3] at a4; exact ar_no a4 (by simp [akd])
  have n5 : od ≠ va := fun z => by rw [z, c3] at a5; exact ar_no a5 (by simp [akd])
  exact ⟨⟨(hx ce (ne_of_O c3 c1)).trans c1, (hx fil n1).trans c2, e, c4, hn⟩, ⟨gf, (hx ga c4).trans g⟩, (hx fo n3).trans a3, (hx re n4).trans a4, (hx od n5).trans a5, a6, a7⟩
theorem csr.atGa {E : fs_E} {h h' : fs_Hp} {ce fil fo va re ga od : Nat} {st : Int32} {bf : Nat → Int32} {vf gf' : Nat → UInt64} {ff rf : Nat → Option Nat} {oo : Nat → Int32} (a : csr E h ce fil fo va re ga od st bf vf ff rf oo) (hx : gx ga h h') (e : gaF E h' ga gf') : csr E h' ce fil fo va re ga od st bf vf ff rf oo := by
  obtain ⟨hc, ⟨gf, g⟩, a3, a4, a5, a6, a7⟩ := a
  have n3 : fo ≠ ga := fun z => by unfold gaF at g; rw [← z, a3] at g; exact ar_no g (by simp [akd])
  have n4 : re ≠ ga := fun z => by unfold gaF at g; rw [← z, a4] at g; exact ar_no g (by simp [akd])
  have n5 : od ≠ ga := fun z => by unfold gaF at g; rw [← z, a5] at g; exact ar_no g (by simp [akd])
  exact ⟨hc.kept g hx, ⟨gf', e⟩, (hx fo n3).trans a3, (hx re n4).trans a4, (hx od n5).trans a5, a6, a7⟩
/-- the order's array has O -/
def ord (oo : Nat → Int32) (O : List Nat) : Prop := ∀ i k, O[i]? = some k → oo i = nI k
def keyA (A : Shh) (k : Nat) : Nat := cnt (rea A k)
theorem upd_at (f : Nat → Int32) (k j : Nat) (x : Int32) : upd f k x j = if j = k then x else f j := rfl
theorem vf_upd_at (f : Nat → UInt64) (k j : Nat) (x : UInt64) : vf_upd f k x j = if j = k then x else f j := rfl
theorem pl_L13 {E : fs_E} {A : Shh} {ce fil fo va re ga od cell : Nat} {st : Int32} {bf : Nat → Int32} {vf : Nat → UInt64} {ff rf : Nat → Option Nat} {Fs : Nat → List Nat} {K : Int32 → fs_Hp → Prop} {Post : fs_Ps} {size : Nat} (hsz : size ≤ 80) : ∀ (n : Nat) (O1 O2 : List Nat) (h : fs_Hp) (oo : Nat → Int32), O1.length = n → csr E h ce fil fo va re ga od st bf vf ff rf oo → trs E h A ff Fs → rset h rf (rea A) → O1.length + O2.length < 80 → (∀ k ∈ O1, k < 80) → (O1 ++ O2).Pairwise (fun a b => keyA A a ≤ keyA A b) → ord oo O1 → (∀ i k, O2[i]? = some k → oo (O1.length + 1 + i) = nI k) → (∀ k ∈ O2, size < keyA A k) → (∀ h' oo' P1 P2, gx od h h' → O1 ++ O2 = P1 ++ P2 → csr E h' ce fil fo va re ga od st bf vf ff rf oo' → trs E h' A ff Fs → rset h' rf (rea A) → ord oo' P1 → (∀ i k, P2[i]? = some k → oo' (P1.length + 1 + i) = nI k) → (∀ k ∈ P1, keyA A k ≤ size) → (∀ k ∈ P2, size < keyA A k) → K (nI P1.length) h') → w_CE_placeInOrder_L13 E K Post (n + 1) ce (nI cell) (nI size) (nI n) h := by
  intro n
  induction n with
  | zero =>
    intro O1 O2 h oo hl hc ht hr h80 hm hs ho ho2 hk2 hK
    have e : O1 = [] := List.length_eq_zero_iff.mp hl
    subst e
    rw [w_CE_placeInOrder_L13]
    try dsimp only
    rw [if_pos (show nI 0 ≤ 0 by decide)]
    exact hK h oo [] O2 gx.rf rfl hc ht hr ho ho2 (fun k hk => by cases hk) hk2
  | succ n ih =>
    intro O1 O2 h oo hl hc ht hr h80 hm hs ho ho2 hk2 hK
    obtain ⟨Q, k, rfl⟩ : ∃ Q k, O1 = Q ++ [k] := by
      rcases List.eq_nil_or_concat O1 with z | ⟨Q, k, z⟩
      · rw [z] at hl; cases hl
      · exact ⟨Q, k, by rw [z, List.concat_eq_append]⟩
    have hQ : Q.length = n := by
      rw [List.length_append] at hl
      simpa using hl
    have hk8 : k < 80 := hm k (by simp)
    rw [List.length_append] at h80
    have h80' : n + 1 + O2.length < 80 := by simpa [hQ] using h80
    have hon : oo n = nI k := ho n k (by rw [← hQ]; exact List.getElem?_concat_length)
    obtain ⟨s, s1, s2⟩ := hr k hk8
    rw [w_CE_placeInOrder_L13]
    try dsimp only
    rw [if_neg (show ¬ nI (n + 1) ≤ 0 from nI_ge (a := 0) (by omega) (by omega))]
    refine fs_gr_of hc.1.1 rfl (fs_gr_of hc.1.1 rfl ?_)
    rw [nI_s1]
    refine fs_ai_of hc.2.2.2.2.1 (nI_in (by omega) (by omega)) ?_
    rw [nI_clamp (by omega), hon]
    refine fs_aq_of hc.2.2.2.1 (nI_in hk8 (by omega)) ?_
    rw [nI_clamp (by omega), s1]
    try dsimp only
    refine ⟨s2.isc, ks_size s2 (fs_ki_of ?_)⟩
    have hkle := cnt_le (rea A k)
    by_cases hle : keyA A k ≤ size
    · rw [if_pos (show nI (cnt (rea A k)) ≤ nI size from nI_le hle (by omega))]
      have := hK h oo (Q ++ [k]) O2 gx.rf rfl hc ht hr ho ho2 (fun j hj => ?_) hk2
      · rw [List.length_append, hQ] at this
        exact this
      · rcases List.mem_append.mp hj with z | z
        · rw [List.append_assoc] at hs
          have := (List.pairwise_append.mp hs).2.2 j z k (by simp)
          exact Nat.le_trans this hle
        · rw [List.mem_singleton.mp z]; exact hle
    · rw [if_neg (show ¬ nI (cnt (rea A k)) ≤ nI size from nI_ge (by unfold keyA at hle; omega) (by omega))]
      refine fs_gr_of hc.1.1 rfl (fs_gr_of hc.1.1 rfl (fs_ai_of hc.2.2.2.2.1 (nI_in (by omega) (by omega)) ?_))
      rw [nI_clamp (by omega), hon]
      refine fs_si_of hc.2.2.2.2.1 (nI_in (by omega) (by omega)) ?_
      rw [nI_clamp (by omega)]
      have gx1 : gx od h (fs_up h od (.inl (E.1.2 0, 80, .inl (upd oo (n + 1) (nI k))))) := fun q hq => fs_up_ne hq
      refine ih Q (k :: O2) _ (upd oo (n + 1) (nI k)) hQ (hc.atOd gx1 fs_up_self) (ht.atI hc.2.2.2.2.1 gx1) (hr.atA hc.2.2.2.2.1 gx1) (by rw [List.length_cons]; omega) (fun j hj => hm j (List.mem_append_left _ hj)) (by rw [List.append_assoc] at hs; exact hs) (fun i j hi => ?_) (fun i j hi => ?_) (fun j hj => ?_) (fun h' oo' P1 P2 x1 x2 x3 x4 x5 x6 x7 x8 x9 => hK h' oo' P1 P2 (gx1.trans x1) (by rw [← x2, List.append_assoc]; rfl) x3 x4 x5 x6 x7 x8 x9)
      · have hlt := (List.getElem?_eq_some_iff.mp hi).1
        rw [upd_at, if_neg (by omega)]
        exact ho i j (by rw [List.getElem?_append_left hlt]; exact hi)
      · cases i with
        | zero =>
          cases hi
          rw [upd_at, if_pos (by omega)]
        | succ i =>
          rw [upd_at, if_neg (by omega)]
          have := ho2 i j hi
          rw [List.length_append, hQ] at this
          rw [hQ, show n + 1 + (i + 1) = n + [k].length + 1 + i by rw [List.length_singleton]; omega]
          exact this
      · rcases List.mem_cons.mp hj with z | z
        · rw [z]; omega
        · exact hk2 j z
theorem cls_place {E : fs_E} {A : Shh} {ce fil fo va re ga od cell : Nat} {st : Int32} {bf : Nat → Int32} {vf : Nat → UInt64} {ff rf : Nat → Option Nat} {oo : Nat → Int32} {Fs : Nat → List Nat} {h : fs_Hp} {O : List Nat} {Post : fs_Ps} (hcell : cell < 80) (hc : csr E h ce fil fo va re ga od st bf vf ff rf oo) (ht : trs E h A ff Fs) (hr : rset h rf (rea A)) (h80 : O.length < 80) (hm : ∀ k ∈ O, k < 80) (hs : O.Pairwise (fun a b => keyA A a ≤ keyA A b)) (ho : ord oo O) (hK : ∀ h' oo' P1 P2, gx od h h' → O = P1 ++ P2 → csr E h' ce fil fo va re ga od st bf vf ff rf oo' → trs E h' A ff Fs → rset h' rf (rea A) → ord oo' (P1 ++ cell :: P2) → (P1 ++ cell :: P2).Pairwise (fun a b => keyA A a ≤ keyA A b) → Post (.inl none) h') : w_CE_placeInOrder E h ce (nI cell) (nI O.length) Post := by
  obtain ⟨s, s1, s2⟩ := hr cell hcell
  unfold w_CE_placeInOrder
  refine fs_gr_of hc.1.1 rfl (fs_aq_of hc.2.2.2.1 (nI_in hcell (by omega)) ?_)
  rw [nI_clamp (by omega), s1]
  try dsimp only
  refine ⟨s2.isc, ks_size s2 (fs_ki_of ⟨O.length + 1, ?_⟩)⟩
  refine pl_L13 (A := A) (Fs := Fs) (cnt_le _) O.length O [] h oo rfl hc ht hr (by rw [List.length_nil]; omega) hm (by rw [List.append_nil]; exact hs) ho (fun i k hi => by cases hi) (fun k hk => by cases hk) ?_
  intro h' oo' P1 P2 x1 x2 x3 x4 x5 x6 x7 x8 x9
  rw [List.append_nil] at x2
  have hlen : P1.length + P2.length < 80 := by rw [← List.length_append, ← x2]; exact h80
  refine fs_gr_of x3.1.1 rfl (fs_si_of x3.2.2.2.2.1 (nI_in (by omega) (by omega)) ?_)
  rw [nI_clamp (by omega)]
  have gx1 : gx od h' (fs_up h' od (.inl (E.1.2 0, 80, .inl (upd oo' P1.length (nI cell))))) := fun q hq => fs_up_ne hq
  refine hK _ (upd oo' P1.length (nI cell)) P1 P2 (x1.trans gx1) x2 (x3.atOd gx1 fs_up_self) (x4.atI x3.2.2.2.2.1 gx1) (x5.atA x3.2.2.2.2.1 gx1) (fun i j hi => ?_) ?_
  · rw [upd_at]
    by_cases hlt : i < P1.length
    · rw [if_neg (by omega)]
      rw [List.getElem?_append_left hlt] at hi
      exact x6 i j hi
    · rw [List.getElem?_append_right (by omega)] at hi
      cases hd : i - P1.length with
      | zero =>
        rw [hd] at hi
        cases hi
        rw [if_pos (by omega)]
      | succ m =>
        rw [hd] at hi
        rw [if_neg (by omega)]
        have := x7 m j hi
        rw [show P1.length + 1 + m = i by omega] at this
        exact this
  · rw [x2] at hs
    obtain ⟨p1, p2, p3⟩ := List.pairwise_append.mp hs
    rw [List.pairwise_append]
    refine ⟨p1, List.pairwise_cons.mpr ⟨fun j hj => Nat.le_of_lt (x9 j hj), p2⟩, fun a ha b hb => ?_⟩
    rcases List.mem_cons.mp hb with z | z
    · rw [z]; exact x8 a ha
    · exact p3 a ha b z
