/-! Pure: the class finds what is reached. -/
/-- the cells' object with its arrays -/
def csr (E : fs_E) (h : fs_Hp) (ce fil fo va re ga od : Nat) (st : Int32) (bf : Nat → Int32) (vf : Nat → UInt64) (ff rf : Nat → Option Nat) (oo : Nat → Int32) : Prop := ceF E h ce fil fo va re ga od st bf vf ∧ (∃ gf, gaF E h ga gf) ∧ h fo = some (.inl (E.1.2 6, 80, .inr (.inr (.inr (.inr ff))))) ∧ h re = some (.inl (E.1.2 7, 80, .inr (.inr (.inr (.inr rf))))) ∧ h od = some (.inl (E.1.2 0, 80, .inl oo)) ∧ fo ≠ re ∧ fil ≠ od
/-- the sets of the cells that are reached -/
def rset (h : fs_Hp) (rf : Nat → Option Nat) (P : Nat → Nat → Bool) : Prop := ∀ k, k < 80 → ∃ s, rf k = some s ∧ cset h s (P k)
def rinj (rf : Nat → Option Nat) : Prop := ∀ k j s, k < 80 → j < 80 → rf k = some s → rf j = some s → k = j
/-- the formulas -/
def trs (E : fs_E) (h : fs_Hp) (A : Shh) (ff : Nat → Option Nat) (Fs : Nat → List Nat) : Prop := ∀ k, k < 80 → (∀ L, A k = some (.inr L) → ∃ r, ff k = some r ∧ rp 41 E h r L (Fs k)) ∧ ((∀ L, A k ≠ some (.inr L)) → ff k = none)
def gR (rf : Nat → Option Nat) (h h' : fs_Hp) : Prop := ∀ q, (∀ k, k < 80 → rf k ≠ some q) → h' q = h q
theorem gR.rf {rf : Nat → Option Nat} {h : fs_Hp} : gR rf h h := fun _ _ => rfl
theorem gR.trans {rf : Nat → Option Nat} {h h1 h2 : fs_Hp} (a : gR rf h h1) (b : gR rf h1 h2) : gR rf h h2 := fun q hq => (b q hq).trans (a q hq)
theorem gR.of {rf : Nat → Option Nat} {h h' : fs_Hp} {k s : Nat} (hk : k < 80) (e : rf k = some s) (a : gx s h h') : gR rf h h' := fun q hq => a q fun z => hq k hk (by rw [z]; exact e)
theorem cset.neO {h : fs_Hp} {s q c : Nat} {p : Nat → Bool} {fs : List Value} (a : cset h s p) (e : h q = some (.inr (c, fs))) (hc : c ≠ 3) : q ≠ s := by
  obtain ⟨lo, hi, s1, s2, s3⟩ := a
  intro z
  rw [z, s1] at e
  cases e
  exact hc rfl
theorem cset.neA {h : fs_Hp} {s q : Nat} {p : Nat → Bool} {x : ClassId × vp_A} (a : cset h s p) (e : h q = some (.inl x)) : q ≠ s := by
  obtain ⟨lo, hi, s1, s2, s3⟩ := a
  intro z
  rw [z, s1] at e
  cases e
theorem csr.at {E : fs_E} {h h' : fs_Hp} {ce fil fo va re ga od s : Nat} {st : Int32} {bf : Nat → Int32} {vf : Nat → UInt64} {ff rf : Nat → Option Nat} {oo : Nat → Int32} {p : Nat → Bool} (a : csr E h ce fil fo va re ga od st bf vf ff rf oo) (b : cset h s p) (hx : gx s h h') : csr E h' ce fil fo va re ga od st bf vf ff rf oo := by
  obtain ⟨⟨c1, c2, c3, c4⟩, ⟨gf, g⟩, a3, a4, a5, a6⟩ := a
  exact ⟨⟨(hx ce (b.neO c1 (by decide))).trans c1, (hx fil (b.neA c2)).trans c2, (hx va (b.neA c3)).trans c3, c4⟩, ⟨gf, (hx ga (b.neA g)).trans g⟩, (hx fo (b.neA a3)).trans a3, (hx re (b.neA a4)).trans a4, (hx od (b.neA a5)).trans a5, a6⟩
theorem trs.at {E : fs_E} {h h' : fs_Hp} {A : Shh} {ff : Nat → Option Nat} {Fs : Nat → List Nat} {s : Nat} {p : Nat → Bool} (a : trs E h A ff Fs) (b : cset h s p) (hx : gx s h h') : trs E h' A ff Fs := by
  intro k hk
  refine ⟨fun L hL => ?_, (a k hk).2⟩
  obtain ⟨r, r1, r2⟩ := (a k hk).1 L hL
  exact ⟨r, r1, r2.kept 41 fun q hq => hx q fun z => rp_not3 r2 b (z ▸ hq)⟩
theorem rset.at {h h' : fs_Hp} {rf : Nat → Option Nat} {P : Nat → Nat → Bool} {k s : Nat} {p' : Nat → Bool} (a : rset h rf P) (hi : rinj rf) (hk : k < 80) (e : rf k = some s) (hx : gx s h h') (b : cset h' s p') : rset h' rf (fun i j => if i = k then p' j else P i j) := by
  intro i hi'
  obtain ⟨s', e1, e2⟩ := a i hi'
  by_cases hik : i = k
  · subst hik
    rw [e] at e1
    cases e1
    exact ⟨s, e, b.same fun j _ => by dsimp only; rw [if_pos rfl]⟩
  · refine ⟨s', e1, (e2.kept (hx s' fun z => hik (hi i k s' hi' hk e1 (by rw [z]; exact e)))).same fun j _ => by dsimp only; rw [if_neg hik]⟩
theorem rset.same {h : fs_Hp} {rf : Nat → Option Nat} {P P' : Nat → Nat → Bool} (a : rset h rf P) (e : ∀ i j, i < 80 → j < 80 → P' i j = P i j) : rset h rf P' := by
  intro i hi
  obtain ⟨s, e1, e2⟩ := a i hi
  exact ⟨s, e1, e2.same fun j hj => e i j hi hj⟩
theorem csr.isc {E : fs_E} {h : fs_Hp} {ce fil fo va re ga od : Nat} {st : Int32} {bf : Nat → Int32} {vf : Nat → UInt64} {ff rf : Nat → Option Nat} {oo : Nat → Int32} (a : csr E h ce fil fo va re ga od st bf vf ff rf oo) : fs_isc h ce 2 := fs_isc_of a.1.1
theorem fr_cL2 {E : fs_E} {A : Shh} {ce fil fo va re ga od : Nat} {st : Int32} {bf : Nat → Int32} {vf : Nat → UInt64} {ff rf : Nat → Option Nat} {oo : Nat → Int32} {Fs : Nat → List Nat} {K : fs_Hp → Prop} {Post : fs_Ps} (hj : rinj rf) : ∀ (m k : Nat) (h : fs_Hp) (P : Nat → Nat → Bool), k + m = 80 → csr E h ce fil fo va re ga od st bf vf ff rf oo → trs E h A ff Fs → rset h rf P → (∀ i j, i < k → j < 80 → P i j = refA A i j) → (∀ h', gR rf h h' → csr E h' ce fil fo va re ga od st bf vf ff rf oo → trs E h' A ff Fs → rset h' rf (refA A) → K h') → w_CE_findReached_L2 E K Post (m + 1) ce (nI k) h := by
  intro m
  induction m with
  | zero =>
    intro k h P hk hc ht hr hP hK
    rw [w_CE_findReached_L2]
    try dsimp only
    rw [if_pos (show (80 : Int32) ≤ nI k from nI_le (a := 80) (by omega) (by omega))]
    exact hK h gR.rf hc ht (hr.same fun i j hi hj' => (hP i j (by omega) hj').symm)
  | succ m ih =>
    intro k h P hk hc ht hr hP hK
    have hk8 : k < 80 := by omega
    have kin : vp_in (nI k) 80 := nI_in hk8 (by omega)
    obtain ⟨s, e1, e2⟩ := hr k hk8
    rw [w_CE_findReached_L2]
    try dsimp only
    rw [if_neg (show ¬ (80 : Int32) ≤ nI k from nI_ge (b := 80) hk8 (by decide))]
    refine fs_gr_of hc.1.1 rfl (fs_aq_of hc.2.2.2.1 kin ?_)
    rw [nI_clamp (by omega), e1]
    try dsimp only
    refine ⟨e2.isc, ks_clear e2 fun h1 b1 b2 => fs_kv_of ?_⟩
    have hc1 := hc.at e2 b2
    have ht1 := ht.at e2 b2
    have hr1 := hr.at hj hk8 e1 b2 b1
    refine fs_gr_of hc1.1.1 rfl (fs_aq_of hc1.2.2.1 kin ?_)
    rw [nI_clamp (by omega), nI_1]
    by_cases hf : ∃ L, A k = some (.inr L)
    · obtain ⟨L, hL⟩ := hf
      obtain ⟨r, r1, r2⟩ := (ht1 k hk8).1 L hL
      rw [r1]
      try dsimp only
      refine fs_gr_of hc1.1.1 rfl (fs_aq_of hc1.2.2.1 kin ?_)
      rw [nI_clamp (by omega), r1]
      try dsimp only
      refine fs_gr_of hc1.1.1 rfl (fs_aq_of hc1.2.2.2.1 kin ?_)
      rw [nI_clamp (by omega), e1]
      try dsimp only
      refine cls_addCells 42 (r2.more 41 (by decide)) b1 fun h2 d1 d2 => fs_kv_of ?_
      refine ih (k + 1) h2 _ (by omega) (hc1.at b1 d2) (ht1.at b1 d2) (hr1.at hj hk8 e1 d2 d1) (fun i j hi hj' => ?_) fun h' x1 x2 x3 x4 => hK h' (((gR.of hk8 e1 b2).trans (gR.of hk8 e1 d2)).trans x1) x2 x3 x4
      try dsimp only
      by_cases hik : i = k
      · rw [if_pos hik, hik, refA_L hL hk8 hj', Bool.false_or]
      · rw [if_neg hik, if_neg hik]
        exact hP i j (by omega) hj'
    · rw [(ht1 k hk8).2 fun L hL => hf ⟨L, hL⟩]
      try dsimp only
      refine ih (k + 1) h1 _ (by omega) hc1 ht1 hr1 (fun i j hi hj' => ?_) fun h' x1 x2 x3 x4 => hK h' ((gR.of hk8 e1 b2).trans x1) x2 x3 x4
      try dsimp only
      by_cases hik : i = k
      · rw [if_pos hik, hik]
        exact (refA_no fun L hL => hf ⟨L, hL⟩).symm
      · rw [if_neg hik]
        exact hP i j (by omega) hj'
theorem go_L2 {E : fs_E} {A : Shh} {ce fil fo va re ga od t : Nat} {st : Int32} {bf : Nat → Int32} {vf : Nat → UInt64} {ff rf : Nat → Option Nat} {oo : Nat → Int32} {Fs : Nat → List Nat} {K : fs_Hp → Prop} {Post : fs_Ps} {R : Nat → Nat → Bool} {S : List Nat} (hj : rinj rf) (ht8 : t < 80) : ∀ (m k : Nat) (h : fs_Hp), k + m = 80 → csr E h ce fil fo va re ga od st bf vf ff rf oo → trs E h A ff Fs → rset h rf (fun i j => if i < k then wsh R (t :: S) i j else wsh R S i j) → (∀ h', gR rf h h' → csr E h' ce fil fo va re ga od st bf vf ff rf oo → trs E h' A ff Fs → rset h' rf (wsh R (t :: S)) → K h') → w_CE_goOnFrom_L2 E K Post (m + 1) ce (nI t) (nI k) h := by
  intro m
  induction m with
  | zero =>
    intro k h hk hc ht hr hK
    rw [w_CE_goOnFrom_L2]
    try dsimp only
    rw [if_pos (show (80 : Int32) ≤ nI k from nI_le (a := 80) (by omega) (by omega))]
    exact hK h gR.rf hc ht (hr.same fun i j hi hj' => by rw [if_pos (by omega)])
  | succ m ih =>
    intro k h hk hc ht hr hK
    have hk8 : k < 80 := by omega
    have kin : vp_in (nI k) 80 := nI_in hk8 (by omega)
    have tin : vp_in (nI t) 80 := nI_in ht8 (by omega)
    obtain ⟨s, e1, e2⟩ := hr k hk8
    obtain ⟨s', f1, f2⟩ := hr t ht8
    rw [w_CE_goOnFrom_L2]
    try dsimp only
    rw [if_neg (show ¬ (80 : Int32) ≤ nI k from nI_ge (b := 80) hk8 (by decide))]
    refine fs_gr_of hc.1.1 rfl (fs_aq_of hc.2.2.2.1 kin ?_)
    rw [nI_clamp (by omega), e1]
    try dsimp only
    refine ⟨e2.isc, ks_hasb (b := wsh R S k t) e2 ht8 (if_neg (Nat.lt_irrefl k)) (fs_ki_of ?_)⟩
    rw [nI_1]
    by_cases hh : wsh R S k t = true
    · rw [bi_1 hh, if_neg (show ¬ (1 : Int32) = 0 by decide)]
      refine fs_gr_of hc.1.1 rfl (fs_aq_of hc.2.2.2.1 kin ?_)
      rw [nI_clamp (by omega), e1]
      try dsimp only
      refine fs_gr_of hc.1.1 rfl (fs_aq_of hc.2.2.2.1 tin ?_)
      rw [nI_clamp (by omega), f1]
      try dsimp only
      refine ⟨e2.isc, ks_addAll e2 f2 fun h1 b1 b2 => fs_kv_of ?_⟩
      refine ih (k + 1) h1 (by omega) (hc.at e2 b2) (ht.at e2 b2) ((hr.at hj hk8 e1 b2 b1).same fun i j hi hj' => ?_) fun h' x1 x2 x3 x4 => hK h' ((gR.of hk8 e1 b2).trans x1) x2 x3 x4
      dsimp only
      by_cases hik : i = k
      · rw [if_pos hik, if_pos (show i < k + 1 by omega), hik, if_neg (Nat.lt_irrefl k), wsh, hh, Bool.true_and]
        congr 1
        split
        · rw [wsh]
          cases wsh R S t j <;> cases wsh R S t t <;> rfl
        · rfl
      · rw [if_neg hik]
        by_cases hlt : i < k
        · rw [if_pos hlt, if_pos (by omega)]
        · rw [if_neg hlt, if_neg (by omega)]
    · have hh' : wsh R S k t = false := by simpa using hh
      rw [bi_0 hh', if_pos rfl]
      refine ih (k + 1) h (by omega) hc ht (hr.same fun i j hi hj' => ?_) hK
      by_cases hik : i = k
      · rw [if_pos (show i < k + 1 by omega), hik, if_neg (Nat.lt_irrefl k), wsh, hh', Bool.false_and, Bool.or_false]
      · by_cases hlt : i < k
        · rw [if_pos hlt, if_pos (by omega)]
        · rw [if_neg hlt, if_neg (by omega)]
theorem fr_L49 {E : fs_E} {A : Shh} {ce fil fo va re ga od : Nat} {st : Int32} {bf : Nat → Int32} {vf : Nat → UInt64} {ff rf : Nat → Option Nat} {oo : Nat → Int32} {Fs : Nat → List Nat} {K : fs_Hp → Prop} {Post : fs_Ps} (hj : rinj rf) : ∀ (m t : Nat) (h : fs_Hp), t + m = 80 → csr E h ce fil fo va re ga od st bf vf ff rf oo → trs E h A ff Fs → rset h rf (wsh (refA A) (thr t)) → (∀ h', gR rf h h' → csr E h' ce fil fo va re ga od st bf vf ff rf oo → trs E h' A ff Fs → rset h' rf (rea A) → K h') → w_CE_findReached_L49 E K Post (m + 1) ce (nI t) h := by
  intro m
  induction m with
  | zero =>
    intro t h hk hc ht hr hK
    rw [w_CE_findReached_L49]
    try dsimp only
    rw [if_pos (show (80 : Int32) ≤ nI t from nI_le (a := 80) (by omega) (by omega))]
    rw [show t = 80 by omega] at hr
    exact hK h gR.rf hc ht hr
  | succ m ih =>
    intro t h hk hc ht hr hK
    have ht8 : t < 80 := by omega
    have tin : vp_in (nI t) 80 := nI_in ht8 (by omega)
    rw [w_CE_findReached_L49]
    try dsimp only
    rw [if_neg (show ¬ (80 : Int32) ≤ nI t from nI_ge (b := 80) ht8 (by decide))]
    refine fs_gr_of hc.1.1 rfl (fs_aq_of hc.2.2.1 tin ?_)
    rw [nI_clamp (by omega), nI_1]
    by_cases hf : ∃ L, A t = some (.inr L)
    · obtain ⟨L, hL⟩ := hf
      obtain ⟨r, r1, r2⟩ := (ht t ht8).1 L hL
      rw [r1]
      try dsimp only
      refine ⟨hc.isc, 80 + 1, ?_⟩
      refine go_L2 (A := A) (Fs := Fs) (R := refA A) (S := thr t) hj ht8 80 0 h (by omega) hc ht (hr.same fun i j _ _ => by rw [if_neg (Nat.not_lt_zero i)]) fun h1 x1 x2 x3 x4 => fs_kv_of ?_
      rw [← thr_s] at x4
      exact ih (t + 1) h1 (by omega) x2 x3 x4 fun h' y1 y2 y3 y4 => hK h' (x1.trans y1) y2 y3 y4
    · rw [(ht t ht8).2 fun L hL => hf ⟨L, hL⟩]
      try dsimp only
      refine ih (t + 1) h (by omega) hc ht (hr.same fun i j _ _ => ?_) hK
      rw [thr_s, wsh]
      have z : wsh (refA A) (thr t) t j = false := by
        cases e : wsh (refA A) (thr t) t j with
        | false => rfl
        | true =>
          obtain ⟨j', h'⟩ := wsh_first _ _ _ e
          obtain ⟨L, h1, _⟩ := refA_f h'
          exact absurd ⟨L, h1⟩ hf
      rw [z, Bool.and_false, Bool.or_false]
theorem cls_findReached {E : fs_E} {A : Shh} {ce fil fo va re ga od : Nat} {st : Int32} {bf : Nat → Int32} {vf : Nat → UInt64} {ff rf : Nat → Option Nat} {oo : Nat → Int32} {Fs : Nat → List Nat} {h : fs_Hp} {P : Nat → Nat → Bool} {Post : fs_Ps} (hj : rinj rf) (hc : csr E h ce fil fo va re ga od st bf vf ff rf oo) (ht : trs E h A ff Fs) (hr : rset h rf P) (hK : ∀ h', gR rf h h' → csr E h' ce fil fo va re ga od st bf vf ff rf oo → trs E h' A ff Fs → rset h' rf (rea A) → Post (.inl none) h') : w_CE_findReached E h ce Post := by
  unfold w_CE_findReached
  refine ⟨80 + 1, ?_⟩
  refine fr_cL2 (A := A) (Fs := Fs) hj 80 0 h P (by omega) hc ht hr (fun i j hi => absurd hi (Nat.not_lt_zero i)) fun h1 x1 x2 x3 x4 => ?_
  refine ⟨80 + 1, ?_⟩
  exact fr_L49 (A := A) (Fs := Fs) hj 80 0 h1 (by omega) x2 x3 x4 fun h' y1 y2 y3 y4 => hK h' (x1.trans y1) y2 y3 y4
