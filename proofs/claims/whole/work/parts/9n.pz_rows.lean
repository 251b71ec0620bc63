/-! Pure: rows come into the class's sheet and go out. -/
theorem clL.has {E : fs_E} {h : fs_Hp} {A : Shh} {ce fil fo va re ga od : Nat} {st : Int32} {bf : Nat → Int32} {vf : Nat → UInt64} {ff rf : Nat → Option Nat} {oo : Nat → Int32} {Fs : Nat → List Nat} (c : clL E h A ce fil fo va re ga od st bf vf ff rf oo Fs) {j : Nat} (hj : j < 80) : fil1 E h (A j) (Fs j) (bf j) (vf j) (ff j) := by
  obtain ⟨hc, ht, hi, hr, hcel, hsep⟩ := c
  obtain ⟨e1, e2, e3⟩ := hcel j hj
  match e : A j with
  | none => exact Or.inl ⟨rfl, (e1 e).1, (e1 e).2, (ht j hj).2 fun L z => (by rw [e] at z; cases z)⟩
  | some (.inl d) => exact Or.inr (Or.inl ⟨d, rfl, (e2 d e).1, (e2 d e).2, hc.1.2.2.2.2 j hj, (ht j hj).2 fun L z => (by rw [e] at z; cases z)⟩)
  | some (.inr L) =>
    obtain ⟨r, r1, r2⟩ := (ht j hj).1 L e
    exact Or.inr (Or.inr ⟨L, r, rfl, e3 L e, hc.1.2.2.2.2 j hj, r1, r2⟩)
theorem clL.isc {E : fs_E} {h : fs_Hp} {A : Shh} {ce fil fo va re ga od : Nat} {st : Int32} {bf : Nat → Int32} {vf : Nat → UInt64} {ff rf : Nat → Option Nat} {oo : Nat → Int32} {Fs : Nat → List Nat} (c : clL E h A ce fil fo va re ga od st bf vf ff rf oo Fs) : fs_isc h ce 2 := c.1.isc
/-- what a change of the cells leaves -/
def fcF (ce fil va fo : Nat) (h h' : fs_Hp) : Prop := ∀ q, q ≠ ce → q ≠ fil → q ≠ va → q ≠ fo → h' q = h q
theorem fcF.rf {ce fil va fo : Nat} {h : fs_Hp} : fcF ce fil va fo h h := fun _ _ _ _ _ => rfl
theorem fcF.trans {ce fil va fo : Nat} {h h1 h2 : fs_Hp} (a : fcF ce fil va fo h h1) (b : fcF ce fil va fo h1 h2) : fcF ce fil va fo h h2 := fun q q1 q2 q3 q4 => (b q q1 q2 q3 q4).trans (a q q1 q2 q3 q4)
theorem cls_take {E : fs_E} {h : fs_Hp} {A : Shh} {ce fil fo va re ga od k j : Nat} {st : Int32} {bf : Nat → Int32} {vf : Nat → UInt64} {ff rf : Nat → Option Nat} {oo : Nat → Int32} {Fs : Nat → List Nat} {Post : fs_Ps} (hk : k < 80) (hj : j < 80) (c : clL E h A ce fil fo va re ga od st bf vf ff rf oo Fs) (K : ∀ h' bf' vf' ff', clL E h' (fun q => if q = k then A j else A q) ce fil fo va re ga od 0 bf' vf' ff' rf oo (fun q => if q = k then Fs j else Fs q) → fcF ce fil va fo h h' → Post (.inl none) h') : w_CE_take E h ce (nI k) (nI j) Post := by
  have hf := c.has hj
  have jin : vp_in (nI j) 80 := nI_in hj (by omega)
  have hfo : (∃ L, A j = some (.inr L)) → fo ∉ Fs j := fun ⟨L, hL⟩ => c.2.2.2.2.2 j hj L hL
  have key : ∀ o, o = ff j → w_CE_fill E h ce (nI k) (bf j) (vf j) o (fs_kv (fun h' => Post (.inl none) h') (fun C_ h_ => Post (.inr C_) h_)) := by
    intro o ho
    rw [ho]
    exact cls_fill hk c hf hfo fun h' bf' vf' ff' a b => fs_kv_of (K h' bf' vf' ff' a b)
  unfold w_CE_take
  refine fs_gr_of c.1.1.1 rfl (fs_ai_of c.1.1.2.1 jin (fs_gr_of c.1.1.1 rfl (fs_ad_of c.1.1.2.2.1 jin (fs_gr_of c.1.1.1 rfl (fs_aq_of c.1.2.2.1 jin ?_)))))
  rw [nI_clamp (by omega)]
  cases e : ff j with
  | none => exact ⟨c.isc, key none e.symm⟩
  | some a => exact ⟨c.isc, key (some a) e.symm⟩
theorem cls_empty {E : fs_E} {h : fs_Hp} {A : Shh} {ce fil fo va re ga od k : Nat} {st : Int32} {bf : Nat → Int32} {vf : Nat → UInt64} {ff rf : Nat → Option Nat} {oo : Nat → Int32} {Fs : Nat → List Nat} {Post : fs_Ps} (hk : k < 80) (c : clL E h A ce fil fo va re ga od st bf vf ff rf oo Fs) (K : ∀ h' bf' vf' ff', clL E h' (fun q => if q = k then none else A q) ce fil fo va re ga od 0 bf' vf' ff' rf oo (fun q => if q = k then [] else Fs q) → fcF ce fil va fo h h' → Post (.inl none) h') : w_CE_empty E h ce (nI k) Post := ⟨c.isc, cls_fill hk c (Or.inl ⟨rfl, rfl, rfl, rfl⟩) (fun ⟨_, z⟩ => by cases z) fun h' bf' vf' ff' a b => fs_kv_of (K h' bf' vf' ff' a b)⟩
/-- the same cells -/
theorem clL.cong {E : fs_E} {h : fs_Hp} {A A' : Shh} {ce fil fo va re ga od : Nat} {st : Int32} {bf : Nat → Int32} {vf : Nat → UInt64} {ff rf : Nat → Option Nat} {oo : Nat → Int32} {Fs Fs' : Nat → List Nat} (c : clL E h A ce fil fo va re ga od st bf vf ff rf oo Fs) (e : ∀ k, k < 80 → A' k = A k) (e' : ∀ k, k < 80 → Fs' k = Fs k) : clL E h A' ce fil fo va re ga od st bf vf ff rf oo Fs' := by
  obtain ⟨hc, ht, hi, hr, hcel, hsep⟩ := c
  refine ⟨hc, fun k hk => ?_, hi, hr, fun k hk => ?_, fun k hk => ?_⟩
  · rw [e k hk, e' k hk]; exact ht k hk
  · rw [e k hk]; exact hcel k hk
  · rw [e k hk, e' k hk]; exact hsep k hk
def shU {α : Type} (z : Nat) (f : Nat → α) (q : Nat) : α := if z < q then f (q - 8) else f q
theorem ri_L12 {E : fs_E} {A : Shh} {ce fil fo va re ga od r : Nat} {rf : Nat → Option Nat} {oo : Nat → Int32} {Fs : Nat → List Nat} {z2 : Int32} {K : fs_Hp → Prop} {Post : fs_Ps} (hr : r < 10) : ∀ (m z : Nat) (h : fs_Hp) (st : Int32) (bf : Nat → Int32) (vf : Nat → UInt64) (ff : Nat → Option Nat), z + 1 = (r + 1) * 8 + m → z < 80 → clL E h (shU z A) ce fil fo va re ga od st bf vf ff rf oo (shU z Fs) → (∀ h' st' bf' vf' ff', clL E h' (shU ((r + 1) * 8 - 1) A) ce fil fo va re ga od st' bf' vf' ff' rf oo (shU ((r + 1) * 8 - 1) Fs) → fcF ce fil va fo h h' → K h') → w_CE_rowIn_L12 E K Post (m + 1) ce (nI r) z2 (nI z) h := by
  intro m
  induction m with
  | zero =>
    intro z h st bf vf ff hz h80 hc hK
    rw [w_CE_rowIn_L12]
    try dsimp only
    rw [nI_1, show (8 : Int32) = nI 8 from rfl, nI_mul, if_pos (nI_lt (by omega) (by omega))]
    rw [show z = (r + 1) * 8 - 1 by omega] at hc
    exact hK h st bf vf ff hc fcF.rf
  | succ m ih =>
    intro z h st bf vf ff hz h80 hc hK
    rw [w_CE_rowIn_L12]
    try dsimp only
    rw [nI_1, show (8 : Int32) = nI 8 from rfl, nI_mul, if_neg (nI_nlt (by omega) (by omega)), nI_sub (by omega), show (nI z - 1 : Int32) = nI (z - 1) from nI_sub (b := 1) (by omega)]
    refine ⟨hc.isc, cls_take h80 (by omega) hc fun h' bf' vf' ff' a b => fs_kv_of ?_⟩
    refine ih (z - 1) h' 0 bf' vf' ff' (by omega) (by omega) (a.cong (fun q hq => ?_) (fun q hq => ?_)) fun h2 st2 bf2 vf2 ff2 a2 b2 => hK h2 st2 bf2 vf2 ff2 a2 (b.trans b2)
    · try dsimp only
      unfold shU
      by_cases hqz : q = z
      · rw [if_pos (show z - 1 < q by omega), if_pos hqz, if_neg (by omega), hqz]
      · rw [if_neg hqz]
        by_cases hlt : z < q
        · rw [if_pos hlt, if_pos (by omega)]
        · rw [if_neg hlt, if_neg (by omega)]
    · try dsimp only
      unfold shU
      by_cases hqz : q = z
      · rw [if_pos (show z - 1 < q by omega), if_pos hqz, if_neg (by omega), hqz]
      · rw [if_neg hqz]
        by_cases hlt : z < q
        · rw [if_pos hlt, if_pos (by omega)]
        · rw [if_neg hlt, if_neg (by omega)]
def emR {α : Type} (x : α) (a b : Nat) (f : Nat → α) (q : Nat) : α := if a ≤ q ∧ q < b then x else f q
theorem er_L2 {E : fs_E} {A : Shh} {ce fil fo va re ga od r : Nat} {rf : Nat → Option Nat} {oo : Nat → Int32} {Fs : Nat → List Nat} {K : fs_Hp → Prop} {Post : fs_Ps} (hr : r < 10) : ∀ (m c : Nat) (h : fs_Hp) (st : Int32) (bf : Nat → Int32) (vf : Nat → UInt64) (ff : Nat → Option Nat), c + m = 8 → clL E h (emR none (r * 8) (r * 8 + c) A) ce fil fo va re ga od st bf vf ff rf oo (emR [] (r * 8) (r * 8 + c) Fs) → (∀ h' st' bf' vf' ff', clL E h' (emR none (r * 8) (r * 8 + 8) A) ce fil fo va re ga od st' bf' vf' ff' rf oo (emR [] (r * 8) (r * 8 + 8) Fs) → fcF ce fil va fo h h' → K h') → w_CE_emptyRow_L2 E K Post (m + 1) ce (nI r) (nI c) h := by
  intro m
  induction m with
  | zero =>
    intro c h st bf vf ff hc hcl hK
    rw [w_CE_emptyRow_L2]
    try dsimp only
    rw [if_pos (show (8 : Int32) ≤ nI c from nI_le (a := 8) (by omega) (by omega))]
    rw [show c = 8 by omega] at hcl
    exact hK h st bf vf ff hcl fcF.rf
  | succ m ih =>
    intro c h st bf vf ff hc hcl hK
    obtain ⟨c1, c2, c3⟩ := cell80 (show c < 8 by omega) hr
    rw [w_CE_emptyRow_L2]
    try dsimp only
    rw [if_neg (show ¬ (8 : Int32) ≤ nI c from nI_ge (b := 8) (by omega) (by decide)), c1, nI_1]
    refine ⟨hcl.isc, cls_empty (by omega) hcl fun h' bf' vf' ff' a b => fs_kv_of ?_⟩
    refine ih (c + 1) h' 0 bf' vf' ff' (by omega) (a.cong (fun q hq => ?_) (fun q hq => ?_)) fun h2 st2 bf2 vf2 ff2 a2 b2 => hK h2 st2 bf2 vf2 ff2 a2 (b.trans b2)
    · try dsimp only
      unfold emR
      by_cases hqz : q = r * 8 + c
      · rw [if_pos (by omega), if_pos hqz]
      · rw [if_neg hqz]
        by_cases hlt : r * 8 ≤ q ∧ q < r * 8 + c
        · rw [if_pos hlt, if_pos (by omega)]
        · rw [if_neg hlt, if_neg (by omega)]
    · try dsimp only
      unfold emR
      by_cases hqz : q = r * 8 + c
      · rw [if_pos (by omega), if_pos hqz]
      · rw [if_neg hqz]
        by_cases hlt : r * 8 ≤ q ∧ q < r * 8 + c
        · rw [if_pos hlt, if_pos (by omega)]
        · rw [if_neg hlt, if_neg (by omega)]
/-- no reference is shared -/
def dsj (h : fs_Hp) (A : Shh) (Fs : Nat → List Nat) : Prop := (∀ k, k < 80 → ∀ L, A k = some (.inr L) → (Fs k).Nodup) ∧ ∀ k j, k < 80 → j < 80 → k ≠ j → (∃ L, A k = some (.inr L)) → (∃ L, A j = some (.inr L)) → ∀ q ∈ Fs k, q ∈ Fs j → ∀ fs, h q ≠ some (.inr (5, fs))
theorem ch5.is5 {F : List Nat} {h h' : fs_Hp} (a : ch5 F h h') {q : Nat} {fs : List Value} (e : h' q = some (.inr (5, fs))) : ∃ fs', h q = some (.inr (5, fs')) := by
  rcases a q with e' | ⟨_, e1, _⟩
  · exact ⟨fs, by rw [← e']; exact e⟩
  · exact e1
theorem dsj.on5 {h h' : fs_Hp} {A : Shh} {Fs : Nat → List Nat} {F : List Nat} (d : dsj h A Fs) (a : ch5 F h h') : dsj h' A Fs := ⟨d.1, fun k j hk hj hkj fk fj q q1 q2 fs e => by
  obtain ⟨fs', e'⟩ := a.is5 e
  exact d.2 k j hk hj hkj fk fj q q1 q2 fs' e'⟩
def frF (h h' : fs_Hp) : Prop := ∀ q, h' q = h q ∨ ((∃ fs, h q = some (.inr (5, fs))) ∧ ∃ fs, h' q = some (.inr (5, fs)))
theorem clL.follow5 {E : fs_E} {h h' : fs_Hp} {A : Shh} {ce fil fo va re ga od k r0 : Nat} {st : Int32} {bf : Nat → Int32} {vf : Nat → UInt64} {ff rf : Nat → Option Nat} {oo : Nat → Int32} {Fs : Nat → List Nat} {L L' : List It} (c : clL E h A ce fil fo va re ga od st bf vf ff rf oo Fs) (d : dsj h A Fs) (hk : k < 80) (hA : A k = some (.inr L)) (hr0 : ff k = some r0) (t : rp 41 E h' r0 L' (Fs k)) (a : ch5 (Fs k) h h') : clL E h' (fun q => if q = k then some (.inr L') else A q) ce fil fo va re ga od st bf vf ff rf oo Fs := by
  obtain ⟨⟨⟨c1, c2, c3, c4⟩, ⟨gf, g⟩, a3, a4, a5, a6⟩, ht, hi, ⟨P, hr⟩, hcel, hsep⟩ := c
  refine ⟨⟨⟨(a.obj c1 (by decide)).trans c1, (a.arr c2).trans c2, (a.arr c3).trans c3, c4⟩, ⟨gf, (a.arr g).trans g⟩, (a.arr a3).trans a3, (a.arr a4).trans a4, (a.arr a5).trans a5, a6⟩, fun j hj => ?_, hi, ⟨P, fun j hj => ?_⟩, fun j hj => ?_, fun j hj L1 hL1 => ?_⟩
  · try dsimp only
    by_cases hjk : j = k
    · rw [if_pos hjk, hjk]
      exact ⟨fun L1 z => (by cases z; exact ⟨r0, hr0, t⟩), fun z => absurd rfl (z L')⟩
    · rw [if_neg hjk]
      refine ⟨fun L1 hL1 => ?_, (ht j hj).2⟩
      obtain ⟨r, r1, r2⟩ := (ht j hj).1 L1 hL1
      refine ⟨r, r1, r2.kept 41 fun q hq => ?_⟩
      rcases a q with e | ⟨m, ⟨fs, e1⟩, _⟩
      · exact e
      · exact absurd e1 (d.2 k j hk hj (Ne.symm hjk) ⟨L, hA⟩ ⟨L1, hL1⟩ q m hq fs)
  · obtain ⟨s, s1, s2⟩ := hr j hj
    refine ⟨s, s1, s2.kept ?_⟩
    obtain ⟨lo, hi', e1, _⟩ := s2
    exact a.obj e1 (by decide)
  · try dsimp only
    by_cases hjk : j = k
    · rw [if_pos hjk, hjk]
      exact ⟨fun z => (by cases z), fun d z => (by cases z), fun _ _ => (hcel k hk).2.2 L hA⟩
    · rw [if_neg hjk]; exact hcel j hj
  · dsimp only at hL1
    by_cases hjk : j = k
    · rw [hjk]; exact hsep k hk L hA
    · rw [if_neg hjk] at hL1; exact hsep j hj L1 hL1
def mpU (g : It → It) (z : Nat) (A : Shh) : Shh := fun q => if q < z then mpC g (A q) else A q
theorem mpU_f {g : It → It} {z : Nat} {A : Shh} {q : Nat} : (∃ L, mpU g z A q = some (.inr L)) ↔ ∃ L, A q = some (.inr L) := by
  unfold mpU
  split
  · constructor
    · rintro ⟨L, e⟩
      match h : A q with
      | none => rw [h] at e; cases e
      | some (.inl d) => rw [h] at e; cases e
      | some (.inr L') => exact ⟨L', rfl⟩
    · rintro ⟨L, e⟩
      rw [e]
      exact ⟨_, rfl⟩
  · exact Iff.rfl
theorem dsj.up {h : fs_Hp} {g : It → It} {z z' : Nat} {A : Shh} {Fs : Nat → List Nat} (d : dsj h (mpU g z A) Fs) : dsj h (mpU g z' A) Fs := ⟨fun k hk L hL => by
    obtain ⟨L', hL'⟩ := mpU_f.mpr (mpU_f.mp ⟨L, hL⟩ : ∃ L, A k = some (.inr L))
    exact d.1 k hk L' hL', fun k j hk hj hkj fk fj => d.2 k j hk hj hkj (mpU_f.mpr (mpU_f.mp fk)) (mpU_f.mpr (mpU_f.mp fj))⟩
theorem ri_L44 {E : fs_E} {A : Shh} {ce fil fo va re ga od r : Nat} {st : Int32} {bf : Nat → Int32} {vf : Nat → UInt64} {ff rf : Nat → Option Nat} {oo : Nat → Int32} {Fs : Nat → List Nat} {z2 : Int32} {K : fs_Hp → Prop} {Post : fs_Ps} (hr : r < 10) : ∀ (m z : Nat) (h : fs_Hp), z + m = 80 → clL E h (mpU (itI r) z A) ce fil fo va re ga od st bf vf ff rf oo Fs → dsj h (mpU (itI r) z A) Fs → (∀ h', clL E h' (mpU (itI r) 80 A) ce fil fo va re ga od st bf vf ff rf oo Fs → dsj h' (mpU (itI r) 80 A) Fs → frF h h' → K h') → w_CE_rowIn_L44 E K Post (m + 1) ce (nI r) z2 (nI z) h := by
  intro m
  induction m with
  | zero =>
    intro z h hz hc hd hK
    rw [w_CE_rowIn_L44]
    try dsimp only
    rw [if_pos (show (80 : Int32) ≤ nI z from nI_le (a := 80) (by omega) (by omega))]
    rw [show z = 80 by omega] at hc hd
    exact hK h hc hd fun q => Or.inl rfl
  | succ m ih =>
    intro z h hz hc hd hK
    have hz8 : z < 80 := by omega
    have zin : vp_in (nI z) 80 := nI_in hz8 (by omega)
    have hAz : mpU (itI r) z A z = A z := by unfold mpU; rw [if_neg (Nat.lt_irrefl z)]
    rw [w_CE_rowIn_L44]
    try dsimp only
    rw [if_neg (show ¬ (80 : Int32) ≤ nI z from nI_ge (b := 80) hz8 (by decide))]
    refine fs_gr_of hc.1.1.1 rfl (fs_aq_of hc.1.2.2.1 zin ?_)
    rw [nI_clamp (by omega), nI_1]
    by_cases hf : ∃ L, A z = some (.inr L)
    · obtain ⟨L, hL⟩ := hf
      obtain ⟨r0, r1, r2⟩ := (hc.2.1 z hz8).1 L (by rw [hAz]; exact hL)
      rw [r1]
      try dsimp only
      refine fs_gr_of hc.1.1.1 rfl (fs_aq_of hc.1.2.2.1 zin ?_)
      rw [nI_clamp (by omega), r1]
      try dsimp only
      refine (show ∀ {Post : fs_Ps}, (∀ h', rp 41 E h' r0 (L.map (itI r)) (Fs z) → ch5 (Fs z) h h' → Post (.inl none) h') → w_N_followRowIn 42 E h r0 (nI r) Post from fun K' => cls_in hr 41 42 (by decide) r2 (hd.1 z hz8 L (by rw [hAz]; exact hL)) K') fun h' a b => fs_kv_of ?_
      have hc' := hc.follow5 hd hz8 (by rw [hAz]; exact hL) r1 a b
      have hd' := (hd.on5 b).up (z' := z + 1)
      refine ih (z + 1) h' (by omega) (hc'.cong (fun q hq => ?_) (fun q hq => rfl)) hd' fun h2 x1 x2 x3 => hK h2 x1 x2 fun q => ?_
      · try dsimp only
        unfold mpU
        by_cases hqz : q = z
        · rw [if_pos (by omega), if_pos hqz, hqz, hL, mpC_f]
        · rw [if_neg hqz]
          by_cases hlt : q < z
          · rw [if_pos hlt, if_pos (by omega)]
          · rw [if_neg hlt, if_neg (by omega)]
      · rcases x3 q with e | ⟨⟨fs, e1⟩, e2⟩
        · rcases b q with e' | ⟨_, e3, ⟨fs', e4⟩⟩
          · exact Or.inl (e.trans e')
          · exact Or.inr ⟨e3, ⟨fs', e.trans e4⟩⟩
        · obtain ⟨fs', e'⟩ := b.is5 e1
          exact Or.inr ⟨⟨fs', e'⟩, e2⟩
    · have hno : ∀ L, A z ≠ some (.inr L) := fun L hL => hf ⟨L, hL⟩
      rw [(hc.2.1 z hz8).2 (fun L => by rw [hAz]; exact hno L)]
      try dsimp only
      refine ih (z + 1) h (by omega) (hc.cong (fun q hq => ?_) (fun q hq => rfl)) hd.up hK
      unfold mpU
      by_cases hqz : q = z
      · rw [if_pos (by omega), if_neg (by omega), hqz, mpC_no hno]
      · by_cases hlt : q < z
        · rw [if_pos hlt, if_pos (by omega)]
        · rw [if_neg hlt, if_neg (by omega)]
theorem ro_L49 {E : fs_E} {A : Shh} {ce fil fo va re ga od r : Nat} {st : Int32} {bf : Nat → Int32} {vf : Nat → UInt64} {ff rf : Nat → Option Nat} {oo : Nat → Int32} {Fs : Nat → List Nat} {z2 : Int32} {K : fs_Hp → Prop} {Post : fs_Ps} (hr : r < 10) : ∀ (m z : Nat) (h : fs_Hp), z + m = 80 → clL E h (mpU (itO r) z A) ce fil fo va re ga od st bf vf ff rf oo Fs → dsj h (mpU (itO r) z A) Fs → (∀ h', clL E h' (mpU (itO r) 80 A) ce fil fo va re ga od st bf vf ff rf oo Fs → dsj h' (mpU (itO r) 80 A) Fs → frF h h' → K h') → w_CE_rowOut_L49 E K Post (m + 1) ce (nI r) z2 (nI z) h := by
  intro m
  induction m with
  | zero =>
    intro z h hz hc hd hK
    rw [w_CE_rowOut_L49]
    try dsimp only
    rw [if_pos (show (80 : Int32) ≤ nI z from nI_le (a := 80) (by omega) (by omega))]
    rw [show z = 80 by omega] at hc hd
    exact hK h hc hd fun q => Or.inl rfl
  | succ m ih =>
    intro z h hz hc hd hK
    have hz8 : z < 80 := by omega
    have zin : vp_in (nI z) 80 := nI_in hz8 (by omega)
    have hAz : mpU (itO r) z A z = A z := by unfold mpU; rw [if_neg (Nat.lt_irrefl z)]
    rw [w_CE_rowOut_L49]
    try dsimp only
    rw [if_neg (show ¬ (80 : Int32) ≤ nI z from nI_ge (b := 80) hz8 (by decide))]
    refine fs_gr_of hc.1.1.1 rfl (fs_aq_of hc.1.2.2.1 zin ?_)
    rw [nI_clamp (by omega), nI_1]
    by_cases hf : ∃ L, A z = some (.inr L)
    · obtain ⟨L, hL⟩ := hf
      obtain ⟨r0, r1, r2⟩ := (hc.2.1 z hz8).1 L (by rw [hAz]; exact hL)
      rw [r1]
      try dsimp only
      refine fs_gr_of hc.1.1.1 rfl (fs_aq_of hc.1.2.2.1 zin ?_)
      rw [nI_clamp (by omega), r1]
      try dsimp only
      refine (show ∀ {Post : fs_Ps}, (∀ h', rp 41 E h' r0 (L.map (itO r)) (Fs z) → ch5 (Fs z) h h' → Post (.inl none) h') → w_N_followRowOut 42 E h r0 (nI r) Post from fun K' => cls_out hr 41 42 (by decide) r2 (hd.1 z hz8 L (by rw [hAz]; exact hL)) K') fun h' a b => fs_kv_of ?_
      have hc' := hc.follow5 hd hz8 (by rw [hAz]; exact hL) r1 a b
      have hd' := (hd.on5 b).up (z' := z + 1)
      refine ih (z + 1) h' (by omega) (hc'.cong (fun q hq => ?_) (fun q hq => rfl)) hd' fun h2 x1 x2 x3 => hK h2 x1 x2 fun q => ?_
      · try dsimp only
        unfold mpU
        by_cases hqz : q = z
        · rw [if_pos (by omega), if_pos hqz, hqz, hL, mpC_f]
        · rw [if_neg hqz]
          by_cases hlt : q < z
          · rw [if_pos hlt, if_pos (by omega)]
          · rw [if_neg hlt, if_neg (by omega)]
      · rcases x3 q with e | ⟨⟨fs, e1⟩, e2⟩
        · rcases b q with e' | ⟨_, e3, ⟨fs', e4⟩⟩
          · exact Or.inl (e.trans e')
          · exact Or.inr ⟨e3, ⟨fs', e.trans e4⟩⟩
        · obtain ⟨fs', e'⟩ := b.is5 e1
          exact Or.inr ⟨⟨fs', e'⟩, e2⟩
    · have hno : ∀ L, A z ≠ some (.inr L) := fun L hL => hf ⟨L, hL⟩
      rw [(hc.2.1 z hz8).2 (fun L => by rw [hAz]; exact hno L)]
      try dsimp only
      refine ih (z + 1) h (by omega) (hc.cong (fun q hq => ?_) (fun q hq => rfl)) hd.up hK
      unfold mpU
      by_cases hqz : q = z
      · rw [if_pos (by omega), if_neg (by omega), hqz, mpC_no hno]
      · by_cases hlt : q < z
        · rw [if_pos hlt, if_pos (by omega)]
        · rw [if_neg hlt, if_neg (by omega)]
